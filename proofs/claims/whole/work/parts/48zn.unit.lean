/-! units: runs of one record each, alike on each tape -/
def unM (w T : Nat) (s : Sk) (U : List Nat) : Nat := sumF (fun t => if gvf w (T / 2) s t = true then U.getD t 0 else 0) T
def unSt (w T : Nat) (s : Sk) (U : List Nat) : List Nat := tab (fun t => if t = kto s then unM w T s U else U.getD t 0) T
def unRun (w T : Nat) : Nat → Sk → List Nat → Nat → Option Nat
  | 0, s, _, m => if lef T s == 1 then some m else none
  | f + 1, s, U, m => if lef T s == 1 then some m else if unM w T s U == 0 then none else if kc s (kto s) == 0 || U.getD (kto s) 0 == unM w T s U then unRun w T f (skn w T (T / 2) s).1 (unSt w T s U) (m + unM w T s U) else none
theorem szl_cat {gl : Nat → Nat} {g : Nat → Bool} {tp : Nat → List Rn} : ∀ n, szl gl (catF g tp n) = sumF (fun t => if g t = true then szl gl (hdr (tp t)).1 else 0) n
  | 0 => rfl
  | n + 1 => by
    show szl gl (catF g tp n ++ (if g n then (hdr (tp n)).1 else [])) = _ + _
    rw [szl_app, szl_cat n]
    congr 1
    dsimp only
    by_cases h : g n = true
    · rw [if_pos h, if_pos h]
    · rw [if_neg h, if_neg h]; rfl
section UC
variable {w T nr : Nat} {bk fr tu : Bool} {gl : Nat → Nat}
theorem mit_s {A : Mi} : ∀ n, mit w T bk gl (stp w T bk gl A) n = mit w T bk gl A (n + 1)
  | 0 => rfl
  | n + 1 => by show stp w T bk gl _ = stp w T bk gl _; rw [mit_s n]
def Ufm (T : Nat) (gl : Nat → Nat) (A : Mi) (U : List Nat) : Prop := ∀ t, t < T → ∀ r, r ∈ mT A t → szl gl r.1 = U.getD t 0
theorem ufm_cat {A : Mi} {U : List Nat} (ha : AI T nr A) (hu : Ufm T gl A U) : szl gl (ctA w T A) = unM w T (mK A) U := by
  rw [szl_cat]
  unfold unM
  exact sumF_congr (fun t ht => by
    by_cases h : gvf w (T / 2) (mK A) t = true
    · rw [if_pos h, if_pos h]; exact hu t ht _ (gv_hd ha ht h)
    · rw [if_neg h, if_neg h])
theorem ufm_stp {A : Mi} {U : List Nat} (ha : AI T nr A) (hok : oks w T (T / 2) (mK A) = true) (hu : Ufm T gl A U) (hc : kc (mK A) (kto (mK A)) = 0 ∨ U.getD (kto (mK A)) 0 = unM w T (mK A) U) : Ufm T gl (stp w T bk gl A) (unSt w T (mK A) U) := by
  obtain ⟨o1, o2, o3, o4, o5⟩ := oks_un hok
  intro t ht r hr
  have hr0 : ∃ r0, r0 ∈ mT (stp0 w T bk gl A) t ∧ r0.1 = r.1 := by
    unfold stp tul at hr
    split at hr
    · have hr : r ∈ upr (mT (stp0 w T bk gl A) t) := hr
      unfold upr at hr
      obtain ⟨r0, h1, rfl⟩ := List.mem_map.mp hr
      exact ⟨r0, h1, rfl⟩
    · exact ⟨r, hr, rfl⟩
  obtain ⟨r0, hr0, he0⟩ := hr0
  rw [← he0]
  have hr0' : r0 ∈ tpn T (kto (mK A)) bk (gvf w (T / 2) (mK A)) (ctA w T A, bk && (ldD (gvf w (T / 2) (mK A)) (mT A) T == some false)) (mT A) t := hr0
  unfold tpn at hr0'
  unfold unSt
  rw [tab_at ht]
  by_cases hto : t = kto (mK A)
  · rw [if_pos hto] at hr0'
    rw [if_pos hto]
    rcases psh_mem hr0' with rfl | hm1
    · exact ufm_cat ha hu
    · rcases hc with hc | hc
      · rw [hto] at hm1
        rw [ha.2.1 _ o2] at hc
        have := List.length_pos_of_mem hm1
        omega
      · rw [hu t ht r0 hm1, hto]; exact hc
  · rw [if_neg hto] at hr0'
    rw [if_neg hto]
    by_cases hgt : t < T ∧ gvf w (T / 2) (mK A) t = true
    · rw [if_pos hgt] at hr0'; exact hu t ht r0 (List.mem_of_mem_tail hr0')
    · rw [if_neg hgt] at hr0'; exact hu t ht r0 hr0'
theorem unRun_ok {m : Nat} : ∀ (f : Nat) (A : Mi) (U : List Nat), AI T nr A → Ufm T gl A U → unRun w T f (mK A) U (mMo A) = some m → ∀ K, lef T (ski w T (mK A) K) = 1 → (∀ j, j < K → lef T (ski w T (mK A) j) ≠ 1 ∧ oks w T (T / 2) (ski w T (mK A) j) = true) → mMo (mit w T bk gl A K) = m
  | 0, A, U, ha, hu, hr, K, h1, h2 => by
    unfold unRun at hr
    by_cases hq : lef T (mK A) = 1
    · rw [if_pos (by simpa using hq)] at hr
      cases K with
      | zero => exact Option.some.inj hr
      | succ K => exact absurd hq (h2 0 (by omega)).1
    · rw [if_neg (by simpa using hq)] at hr; cases hr
  | f + 1, A, U, ha, hu, hr, K, h1, h2 => by
    unfold unRun at hr
    by_cases hq : lef T (mK A) = 1
    · rw [if_pos (by simpa using hq)] at hr
      cases K with
      | zero => exact Option.some.inj hr
      | succ K => exact absurd hq (h2 0 (by omega)).1
    · rw [if_neg (by simpa using hq)] at hr
      cases K with
      | zero => exact absurd h1 hq
      | succ K =>
        have hok : oks w T (T / 2) (mK A) = true := (h2 0 (by omega)).2
        by_cases hz : unM w T (mK A) U = 0
        · rw [if_pos (by simpa using hz)] at hr; cases hr
        · rw [if_neg (by simpa using hz)] at hr
          by_cases hc : kc (mK A) (kto (mK A)) = 0 ∨ U.getD (kto (mK A)) 0 = unM w T (mK A) U
          · rw [if_pos (by simpa using hc)] at hr
            have hmo : mMo (stp w T bk gl A) = mMo A + unM w T (mK A) U := by
              unfold stp
              rw [tul_n.2.2]
              show mMo A + szl gl (ctA w T A) = _
              rw [ufm_cat ha hu]
            rw [← mit_s]
            refine unRun_ok f (stp w T bk gl A) (unSt w T (mK A) U) (ai_stp ha hok) (ufm_stp ha hok hu hc) ?_ K ?_ (fun j hj => ?_)
            · rw [stp_K, hmo]; exact hr
            · rw [stp_K, ski_s]; exact h1
            · rw [stp_K, ski_s]; exact h2 (j + 1) (by omega)
          · rw [if_neg (by simpa using hc)] at hr; cases hr
end UC
/-! the reference counts whole phases -/
def ugv (w : Nat) (s : Sk) (t : Nat) : Bool := !(t == kto s) && !(kc s t == 0) && (w == 0 || ko s t)
def ugs (w : Nat) (s : Sk) (sz : List Nat) : Nat → Nat × Nat × Option Nat
  | 0 => (2147483647, 0, none)
  | t + 1 => if ugv w s t = true then (min (ugs w s sz t).1 (kc s t), (ugs w s sz t).2.1 + sz.getD t 0, if kc s t < (ugs w s sz t).1 then some t else (ugs w s sz t).2.2) else ugs w s sz t
def ucs (w T : Nat) (s : Sk) (p : Nat) : List Nat := tab (fun t => if t = kto s then p else if ugv w s t = true then kc s t - p else kc s t) T
def usz (T : Nat) (s : Sk) (sz : List Nat) (q : Nat) : List Nat := tab (fun t => if t = kto s then q else sz.getD t 0) T
def uop (T : Nat) (s : Sk) (e : Nat) : List Bool := tab (fun t => ko s t && !(t == e)) T
def uSt (w T : Nat) (s : Sk) (sz : List Nat) (e : Nat) : Sk :=
  if cntF (ugv w (ucs w T s (ugs w s sz T).1, e, uop T s e, true)) T < 2 then (ucs w T s (ugs w s sz T).1, e, opn T e (ucs w T s (ugs w s sz T).1), true) else (ucs w T s (ugs w s sz T).1, e, uop T s e, true)
def uRun (w T : Nat) : Nat → Sk → List Nat → Nat → Option Nat
  | 0, s, _, m => if sumF (kc s) T ≤ 1 then some m else none
  | f + 1, s, sz, m => if sumF (kc s) T ≤ 1 then some m else match (ugs w s sz T).2.2 with
    | none => none
    | some e => uRun w T f (uSt w T s sz e) (usz T s sz (ugs w s sz T).2.1) (m + (ugs w s sz T).1 * (ugs w s sz T).2.1)
def uck (w T l : Nat) : Bool := match uRun w T 60 (sk0 w T l) (tab (fun _ => 1) T) 0, unRun w T 699 (sk0 w T l) (tab (fun _ => 1) T) 0 with
  | some a, some b => a == b && (lvA w T (smp w (T - 1) l) == l)
  | _, _ => false
theorem uc_03 : cntF (uck 0 3) 6 = 6 := by decide +kernel
theorem uc_04 : cntF (uck 0 4) 6 = 6 := by decide +kernel
theorem uc_05 : cntF (uck 0 5) 6 = 6 := by decide +kernel
theorem uc_06 : cntF (uck 0 6) 6 = 6 := by decide +kernel
theorem uc_23 : cntF (uck 2 3) 6 = 6 := by decide +kernel
theorem uc_24 : cntF (uck 2 4) 6 = 6 := by decide +kernel
theorem uc_25 : cntF (uck 2 5) 6 = 6 := by decide +kernel
theorem uc_26 : cntF (uck 2 6) 6 = 6 := by decide +kernel
