/-! stands -/
def encN (f : Nat → Nat) : Nat → Nat
  | 0 => 0
  | n + 1 => encN f n * 1024 + f n
theorem encN_lt {f : Nat → Nat} : ∀ {n : Nat}, (∀ t, t < n → f t < 1024) → encN f n < 1024 ^ n
  | 0, _ => by simp [encN]
  | n + 1, h => by
    have h1 := encN_lt (n := n) (fun t ht => h t (by omega))
    have h2 := h n (by omega)
    unfold encN
    rw [Nat.pow_succ]
    omega
theorem encN_inj {f g : Nat → Nat} : ∀ {n : Nat}, (∀ t, t < n → f t < 1024) → (∀ t, t < n → g t < 1024) → encN f n = encN g n → ∀ t, t < n → f t = g t
  | 0, _, _, _, t, ht => absurd ht (Nat.not_lt_zero t)
  | n + 1, h1, h2, e, t, ht => by
    have a1 := h1 n (by omega)
    have a2 := h2 n (by omega)
    unfold encN at e
    by_cases hq : t = n
    · subst hq; omega
    · exact encN_inj (n := n) (fun t ht => h1 t (by omega)) (fun t ht => h2 t (by omega)) (by omega) t (by omega)
theorem encN_congr {f g : Nat → Nat} : ∀ {n : Nat}, (∀ t, t < n → f t = g t) → encN f n = encN g n
  | 0, _ => rfl
  | n + 1, h => by unfold encN; rw [encN_congr (n := n) (fun t ht => h t (by omega)), h n (by omega)]
theorem l64_inj {a b : Nat} (ha : a < 2 ^ 62) (hb : b < 2 ^ 62) (h : Int64.ofNat a = Int64.ofNat b) : a = b := by
  have h1 : (Int64.ofNat a).toInt = (a : Int) := lg_ofNat_toInt (by omega)
  have h2 : (Int64.ofNat b).toInt = (b : Int) := lg_ofNat_toInt (by omega)
  rw [h] at h1
  omega
/-- what a row of numbers of tapes is -/
def Pd (T : Nat) (d : List Nat) : Prop := d.length = 6 ∧ (∀ t, t < 6 → d.getD t 0 ≤ 256) ∧ ∀ t, T ≤ t → t < 6 → d.getD t 0 = 0
def encL (T : Nat) (d : List Nat) : Int64 := Int64.ofNat (encN (fun t => d.getD t 0) T)
def sumL (d : List Nat) : Nat := sumF (fun t => d.getD t 0) 6
theorem pow_6 {T : Nat} (hT : T ≤ 6) : 1024 ^ T ≤ 2 ^ 60 := by
  have := Nat.pow_le_pow_right (n := 1024) (by omega) hT
  have e : (1024 : Nat) ^ 6 = 2 ^ 60 := by decide
  omega
theorem encL_inj {T : Nat} {d e : List Nat} (hT : T ≤ 6) (hd : Pd T d) (he : Pd T e) (h : encL T d = encL T e) : d = e := by
  unfold encL at h
  have b1 : ∀ t, t < T → d.getD t 0 < 1024 := fun t ht => by have := hd.2.1 t (by omega); omega
  have b2 : ∀ t, t < T → e.getD t 0 < 1024 := fun t ht => by have := he.2.1 t (by omega); omega
  have c1 := encN_lt b1
  have c2 := encN_lt b2
  have c3 := pow_6 hT
  have h2 := l64_inj (by omega) (by omega) h
  refine l6_ext hd.1 he.1 (fun t ht => ?_)
  by_cases hq : t < T
  · exact encN_inj b1 b2 h2 t hq
  · rw [hd.2.2 t (by omega) ht, he.2.2 t (by omega) ht]
theorem sumF_z {f : Nat → Nat} {m : Nat} : ∀ {n : Nat}, m ≤ n → (∀ t, m ≤ t → t < n → f t = 0) → sumF f n = sumF f m
  | 0, h, _ => by rw [show m = 0 by omega]
  | n + 1, h, hz => by
    by_cases hq : m = n + 1
    · rw [hq]
    · show sumF f n + f n = sumF f m
      rw [sumF_z (n := n) (by omega) (fun t h1 h2 => hz t h1 (by omega)), hz n (by omega) (by omega)]
      rfl
theorem sumL_sd {T : Nat} {s : Sk} (hT : T ≤ 6) : sumL (sdS T s) = lef T s := by
  unfold sumL lef
  rw [sumF_z (m := T) hT (fun t h1 h2 => by rw [sd_at h2, if_neg (by omega)])]
  exact sumF_congr (fun t ht => by rw [sd_at (by omega), if_pos ht])
theorem encL_sd {T : Nat} {s : Sk} (hT : T ≤ 6) : encL T (sdS T s) = Int64.ofNat (encN (kc s) T) := by
  unfold encL
  rw [encN_congr (fun t ht => by rw [sd_at (by omega), if_pos ht])]
section SD
variable {E : En} {σ : Sg} {m N w T nr : Nat} {bk fr tu : Bool} {gl' : Nat → Nat}
theorem rml_pd {A : Mi} (h : RMl σ m w T bk gl' nr A) : Pd T (sdS T (mK A)) := by
  obtain ⟨L, H, hms, _⟩ := h
  refine ⟨sd_len, fun t ht => ?_, fun t h1 h2 => by rw [sd_at h2, if_neg (by omega)]⟩
  rw [sd_at ht]
  split
  · next hq =>
    obtain ⟨p1, p2, p3, p4, p5, p6⟩ := hms.2.2.1 t ht
    rw [hms.2.2.2 t hq]; omega
  · omega
theorem c_stand (hL : LMill E m N) (hT : T ≤ 6) {A : Mi} (h : RMl σ m w T bk gl' nr A) : fX1_stand E m σ = some (encL T (sdS T (mK A)), σ) := by
  rw [encL_sd hT]
  obtain ⟨L, H, hms, _⟩ := h
  obtain ⟨l0, l4, l10, l12, l13, l17, l18, l5, l6, a1, a2, a3, a4, a5, a7, a8, a9, ltp⟩ := id hL
  unfold fX1_stand
  rw [tk_ok l0]
  refine bd_tr ((Int64.ofNat (encN (kc (mK A)) T), nI T), σ) T (fun i => ((Int64.ofNat (encN (kc (mK A)) i), nI i), σ)) (by show T < 1000000; omega) ?_ ?_ rfl
  · intro i rec hi
    obtain ⟨lt1, lt2⟩ := ltp i (by omega)
    obtain ⟨p1, p2, p3, p4, p5, p6⟩ := hms.2.2.1 i (by omega)
    have hk := hms.2.2.2 i hi
    unfold bX1_stand_4
    dsimp only
    rw [hms.1.2.1, if_neg (nI_ge hi (by omega)), dr_ok l4 a1.1, a1.2, ck_n (by omega) (by omega), nI_clamp (by omega), dr_ok lt1 lt2.1, tape_size lt2 p1 p2 p3, bd_ok, lt_ok, lt_ok, ad1, nI_l (by omega)]
    have e : Int64.ofNat (encN (kc (mK A)) i) * (1024 : Int64) + lN (H i - L i) = Int64.ofNat (encN (kc (mK A)) (i + 1)) := by
      show lN (encN (kc (mK A)) i) * lN 1024 + lN (H i - L i) = lN (encN (kc (mK A)) i * 1024 + kc (mK A) i)
      rw [lN_mul, lN_add, hk, p5]
    rw [e]
  · intro rec
    unfold bX1_stand_4
    dsimp only
    rw [hms.1.2.1, if_pos (nI_le (Nat.le_refl _) (by omega))]
theorem c_among (hR : LRun E) (hT : T ≤ 6) {Ls : List (List Nat)} {d : List Nat} (hl : Ls.length ≤ 700) (hc : ∀ k, k < Ls.length → gl σ 64 k = encL T (Ls.getD k [])) (hp : ∀ k, k < Ls.length → Pd T (Ls.getD k [])) (hd : Pd T d) : fX6_isAmongLikeStands E 0 (encL T d) (nI Ls.length) σ = some (bI (Ls.contains d), σ) := by
  obtain ⟨r0, r1, r3, r4, r5, r8, r9, r10, r11, r12, r13, l1, l2, l35, l36, l37, l38, l39, l61, l63, l64, lp, ls⟩ := id hR
  unfold fX6_isAmongLikeStands
  rw [tk_ok r0]
  have e2 := for_fst (F := fun (rec : Int32 × Sg → Option ((Int32 ⊕ Int32) × Sg)) (a : Int32 × Sg) => bX6_isAmongLikeStands_3 E (nI Ls.length) 0 (encL T d) (fun u0 t => rec (u0, t)) a.1 a.2) Ls.length (fun i => (nI i, σ)) (fun k => Ls.getD k [] == d) (fun _ => ((.inr (1 : Int32) : Int32 ⊕ Int32), σ)) ((.inl (nI Ls.length) : Int32 ⊕ Int32), σ) (N := FU) (by show Ls.length < 1000000; omega)
    (by
      intro i rec hi
      unfold bX6_isAmongLikeStands_3
      dsimp only
      rw [if_neg (nI_ge hi (by omega)), dr_ok r13 l64.1, l64.2, ck_n (by omega) (by omega), nI_clamp (by omega), hc i hi]
      by_cases hq : Ls.getD i [] = d
      · rw [if_neg (by rw [hq]; simp [lg_cmp_eq]), if_pos (by simpa using hq)]
      · rw [if_pos (fun z => hq (encL_inj hT (hp i hi) hd ((lg_cmp_eq _ _).mp z))), if_neg (by simpa using hq), lt_ok, ad1])
    (by
      intro rec
      unfold bX6_isAmongLikeStands_3
      dsimp only
      rw [if_pos (nI_le (Nat.le_refl _) (by omega))])
    (a := ((0 : Int32), σ)) rfl
  rw [e2, ← fst_con]
  cases fstF (fun k => Ls.getD k [] == d) Ls.length <;> rfl
end SD
theorem ski_lef {w T nr : Nat} (h : Gok w T nr) {i : Nat} (hi : i < kst w T nr) : lef T (ski w T (skA w T nr) (i + 1)) ≤ lef T (ski w T (skA w T nr) i) := by
  have hok := (h.2.2.2.2.2.2.2.2 i hi).2
  obtain ⟨o1, o2, o3, o4, o5⟩ := oks_un hok
  have := lef_skn o2 o3
  show lef T (skn w T (T / 2) (ski w T (skA w T nr) i)).1 ≤ _
  omega
/-- those with this sum -/
def lk (U : List (List Nat)) (n : Nat) : List (List Nat) := U.filter (fun d => sumL d == n)
theorem lk_con {U : List (List Nat)} {d : List Nat} {n : Nat} (h : sumL d = n) : (lk U n).contains d = U.contains d := by
  rw [Bool.eq_iff_iff, List.contains_iff_mem, List.contains_iff_mem]
  unfold lk
  rw [List.mem_filter]
  exact ⟨fun q => q.1, fun q => ⟨q, by simpa using h⟩⟩
theorem lk_add {U : List (List Nat)} {d : List Nat} {n : Nat} (h : sumL d = n) : lk (addU U d) n = addU (lk U n) d := by
  unfold addU
  rw [lk_con h]
  split
  · rfl
  · unfold lk
    rw [List.filter_append]
    congr 1
    simp [h]
theorem lk_none {U : List (List Nat)} {m n : Nat} (h : ∀ d, d ∈ U → m ≤ sumL d) (hn : n < m) : lk U n = [] := by
  unfold lk
  rw [List.filter_eq_nil_iff]
  intro d hd
  have := h d hd
  simp
  omega
theorem addU_mem {U : List (List Nat)} {d e : List Nat} (h : e ∈ addU U d) : e ∈ U ∨ e = d := by
  unfold addU at h
  split at h
  · exact Or.inl h
  · rw [List.mem_append, List.mem_singleton] at h; exact h
theorem getL_mem {U : List (List Nat)} {k : Nat} (h : k < U.length) : U.getD k [] ∈ U := by
  rw [List.getD_eq_getElem?_getD, List.getElem?_eq_getElem h]; exact List.getElem_mem h
theorem addU_len {U : List (List Nat)} {d : List Nat} : (addU U d).length = if U.contains d = true then U.length else U.length + 1 := by
  unfold addU
  split
  · rfl
  · rw [List.length_append]; rfl
section SE
variable {E : En}
theorem ok_stands (hR : LRun E) (hM : LMod E) (hM2 : LMo2 E) : Ok (JJ CG' CM' MG' MM') (fX6_stands E 0) (fX7_stands E 395) := by
  refine ok_of (fun a hw => ?_)
  obtain ⟨r0, r1, r3, r4, r5, r8, r9, r10, r11, r12, r13, l1, l2, l35, l36, l37, l38, l39, l61, l63, l64, lp, ls⟩ := id hR
  have m0 := hM.1
  have hwc := hw.2.2.1
  have hn := hwc.1
  have ht3 := hwc.2.2.2.1
  have hdec : Decidable (canS (aC a)) := Classical.propDecidable _
  by_cases hcs : canS (aC a)
  · have h0 := hwc.2.2.2.2.1 hcs.1
    have hgo := gok_c hwc h0 hcs.2
    have hK : KC (aC a) ≤ 699 := hgo.2.2.2.2.2.2.1
    have hnr := (nr_c hwc h0).2
    obtain ⟨hw2, hT3, hT, hn1, _, hcap, hgd⟩ := id hgo
    refine ⟨nI (unl (sdI (cS (aC a) 2) (cS (aC a) 1) (nrC (aC a))) (KC (aC a) + 1)).length, a, hw, spc_q (fun σ hc => ?_), spm_t (fun σ hc => ?_)⟩
    · obtain ⟨k1, k2, k3⟩ := cs_rr hc.2.2.2.1
      obtain ⟨s1, e1, q1, q2, q3, q4⟩ := c_begPlan hR hwc hcs hc.2.2.2.1
      generalize hMi : mil (cS (aC a) 2) (cS (aC a) 1) (bkC (aC a)) (frC (aC a)) (tuC (aC a)) (glC (aC a)) (nrC (aC a)) = mi at q1
      have hmK : ∀ i, mK (mi i) = ski (cS (aC a) 2) (cS (aC a) 1) (skA (cS (aC a) 2) (cS (aC a) 1) (nrC (aC a))) i := fun i => by rw [← hMi]; exact mil_K hgo i
      generalize hsk : ski (cS (aC a) 2) (cS (aC a) 1) (skA (cS (aC a) 2) (cS (aC a) 1) (nrC (aC a))) = sk at hmK
      have hsd : ∀ i, sdS (cS (aC a) 1) (mK (mi i)) = sdI (cS (aC a) 2) (cS (aC a) 1) (nrC (aC a)) i := fun i => by unfold sdI; rw [hmK, hsk]
      generalize hsdd : sdI (cS (aC a) 2) (cS (aC a) 1) (nrC (aC a)) = sd at hsd
      have hsum : ∀ i, sumL (sd i) = lef (cS (aC a) 1) (mK (mi i)) := fun i => by rw [← hsd, sumL_sd hT]
      have hmono : ∀ i, i < KC (aC a) → lef (cS (aC a) 1) (mK (mi (i + 1))) ≤ lef (cS (aC a) 1) (mK (mi i)) := fun i hi => by rw [hmK, hmK, ← hsk]; exact ski_lef hgo hi
      unfold fX6_stands
      rw [tk_ok r0, c_canPlan hR hwc k2 k3, bd_ok, decide_eq_true hcs, if_pos (by decide), e1, bv_ok, dr_ok r13 l64.1, dr_ok r10 l39.1, c_stand l39 hT q1, bd_ok, l64.2, i0, ck_n (by omega) (by omega), nI_clamp (by omega), ss_ok, hsd]
      generalize hs2 : sl s1 64 0 (encL (cS (aC a) 1) (sd 0)) = s2
      have g2 : ∀ x k, gi s2 x k = gi s1 x k := fun x k => by rw [← hs2]; rfl
      have q1' : RMl s2 39 (cS (aC a) 2) (cS (aC a) 1) (bkC (aC a)) (glC (aC a)) (nrC (aC a)) (mi 0) := rml_tr hT q1 (fun x k _ => g2 _ _)
      have hpd : ∀ i s, RMl s 39 (cS (aC a) 2) (cS (aC a) 1) (bkC (aC a)) (glC (aC a)) (nrC (aC a)) (mi i) → Pd (cS (aC a) 1) (sd i) := fun i s q => by rw [← hsd]; exact rml_pd q
      have c0 : gl s2 64 0 = encL (cS (aC a) 1) (sd 0) := by rw [← hs2, gl_sl, if_pos ⟨rfl, rfl⟩]
      have u1 : unl sd 1 = [sd 0] := rfl
      have l1' : lk (unl sd 1) (lef (cS (aC a) 1) (mK (mi 0))) = [sd 0] := by rw [u1]; unfold lk; simp [hsum]
      rw [lt_ok, rml_8 q1', i1]
      obtain ⟨⟨v, s3⟩, e3, p1, p2⟩ := for_in (F := fun (rec : (Int32 × Int32 × Int32 × Int32) × Sg → Option ((Int32 × Int32 × Int32 × Int32) × Sg)) (a : (Int32 × Int32 × Int32 × Int32) × Sg) => bX6_stands_41 E 39 0 64 (fun u0 u1 u2 u3 t => rec ((u0, u1, u2, u3), t)) a.1.1 a.1.2.1 a.1.2.2.1 a.1.2.2.2 a.2) (KC (aC a))
        (fun i b => b.1 = (nI (lk (unl sd (i + 1)) (lef (cS (aC a) 1) (mK (mi i)))).length, nI (unl sd (i + 1)).length, nI (lef (cS (aC a) 1) (mK (mi i))), nI i) ∧ RMl b.2 39 (cS (aC a) 2) (cS (aC a) 1) (bkC (aC a)) (glC (aC a)) (nrC (aC a)) (mi i) ∧ (∀ k, k < (lk (unl sd (i + 1)) (lef (cS (aC a) 1) (mK (mi i)))).length → gl b.2 64 k = encL (cS (aC a) 1) ((lk (unl sd (i + 1)) (lef (cS (aC a) 1) (mK (mi i)))).getD k [])) ∧ (∀ d, d ∈ unl sd (i + 1) → Pd (cS (aC a) 1) d ∧ lef (cS (aC a) 1) (mK (mi i)) ≤ sumL d) ∧ ∀ x k, (x < 39 ∨ 61 ≤ x) → gi b.2 x k = gi s1 x k)
        (fun b => b.1.2.1 = nI (unl sd (KC (aC a) + 1)).length ∧ ∀ x k, (x < 39 ∨ 61 ≤ x) → gi b.2 x k = gi s1 x k) (N := FU) (by show KC (aC a) < 1000000; omega)
        (by
          rintro i ⟨v, s⟩ rec hi ⟨f0, f1, f2, f3, f4⟩
          dsimp only at f0 f1 f2 f3 f4 ⊢
          subst f0
          dsimp only
          have h8 := rml_8 f1
          have hle := rml_lef hT f1
          have hlf := mil_lef (bk := bkC (aC a)) (fr := frC (aC a)) (tu := tuC (aC a)) (gl := glC (aC a)) hgo hi
          obtain ⟨o1, o2⟩ := mil_ok (bk := bkC (aC a)) (fr := frC (aC a)) (tu := tuC (aC a)) (gl := glC (aC a)) hgo hi
          have ha := mil_ai (bk := bkC (aC a)) (fr := frC (aC a)) (tu := tuC (aC a)) (gl := glC (aC a)) hgo (n := i) (Nat.le_of_lt hi)
          rw [hMi] at hlf o1 o2 ha
          obtain ⟨s', b1, b2, b3, b4, b5⟩ := c_adv l39 f1 hT hT3 hw2 (by omega) (by omega) (oc_dj ha.1) o1
          have hst : stp (cS (aC a) 2) (cS (aC a) 1) (bkC (aC a)) (glC (aC a)) (mi i) = mi (i + 1) := by rw [← hMi]; rfl
          rw [hst] at b2
          have hgl : s'.2 = s.2 := k_fX1_advance (E := E) (a0 := 39) rfl s' b1
          have hgl' : ∀ k, gl s' 64 k = gl s 64 k := fun k => by unfold gl; rw [hgl]
          have hle' := rml_lef hT b2
          have hm := hmono i hi
          generalize hln : lef (cS (aC a) 1) (mK (mi i)) = ln at *
          generalize hln' : lef (cS (aC a) 1) (mK (mi (i + 1))) = ln' at *
          have hsn : sumL (sd (i + 1)) = ln' := by rw [hsum, hln']
          have hul := unl_len (sd := sd) (i + 1)
          have hpd' := hpd (i + 1) s' b2
          have hlkl : ∀ n, (lk (unl sd (i + 1)) n).length ≤ i + 1 := fun n => Nat.le_trans (List.length_filter_le _ _) hul
          have hcl : ∀ k, k < (lk (unl sd (i + 1)) ln').length → gl s' 64 k = encL (cS (aC a) 1) ((lk (unl sd (i + 1)) ln').getD k []) := by
            by_cases hq : ln' = ln
            · rw [hq]; intro k hk; rw [hgl']; exact f2 k hk
            · rw [lk_none (fun d hd => (f3 d hd).2) (by omega)]; intro k hk; exact absurd hk (Nat.not_lt_zero k)
          have hsel : (if gi s' 39 8 = nI ln then (some ((nI (lk (unl sd (i + 1)) ln).length, nI ln), s')) else (lt (gi s' 39 8) (fun v27 => some ((nI 0, v27), s')))) = some ((nI (lk (unl sd (i + 1)) ln').length, nI ln'), s') := by
            rw [rml_8 b2, hln']
            by_cases hq : ln' = ln
            · rw [if_pos (by rw [hq]), hq]
            · rw [if_neg (fun z => hq ((nI_eq (by omega) (by omega)).mp z)), lt_ok, lk_none (fun d hd => (f3 d hd).2) (by omega)]; rfl
          have hpe : ∀ k, k < (lk (unl sd (i + 1)) ln').length → Pd (cS (aC a) 1) ((lk (unl sd (i + 1)) ln').getD k []) := fun k hk => (f3 _ (List.mem_filter.mp (getL_mem hk)).1).1
          have hU : unl sd (i + 1 + 1) = addU (unl sd (i + 1)) (sd (i + 1)) := rfl
          have hLk : lk (unl sd (i + 1 + 1)) ln' = addU (lk (unl sd (i + 1)) ln') (sd (i + 1)) := by rw [hU, lk_add hsn]
          have hcn : (lk (unl sd (i + 1)) ln').contains (sd (i + 1)) = (unl sd (i + 1)).contains (sd (i + 1)) := lk_con hsn
          have hf3 : ∀ d, d ∈ unl sd (i + 1 + 1) → Pd (cS (aC a) 1) d ∧ ln' ≤ sumL d := fun d hd => by
            rw [hU] at hd
            rcases addU_mem hd with h | h
            · exact ⟨(f3 d h).1, by have := (f3 d h).2; omega⟩
            · rw [h]; exact ⟨hpd', by omega⟩
          unfold bX6_stands_41
          rw [show (100000 : Int32) = nI 100000 from rfl, if_neg (nI_ge (by omega) (by omega)), h8, i1, if_neg (nI_ge (by omega) (by omega)), b1, bv_ok, i0, hsel, bd_ok, c_stand l39 hT b2, bd_ok, hsd]
          dsimp only
          rw [c_among hR hT (by have := hlkl ln'; omega) hcl hpe hpd', bd_ok]
          have hlk1 := addU_len (U := lk (unl sd (i + 1)) ln') (d := sd (i + 1))
          have hlk2 := addU_len (U := unl sd (i + 1)) (d := sd (i + 1))
          rw [← hLk] at hlk1
          rw [← hU] at hlk2
          rw [hcn] at hlk1 ⊢
          cases hq : (unl sd (i + 1)).contains (sd (i + 1)) with
          | true =>
            rw [hq, if_pos rfl] at hlk1 hlk2
            have hLs : lk (unl sd (i + 1 + 1)) ln' = lk (unl sd (i + 1)) ln' := by rw [hLk]; unfold addU; rw [hcn, if_pos hq]
            rw [if_pos (show ¬ bI true = nI 0 by decide), bd_ok, lt_ok, nI_add]
            refine ⟨_, rfl, ?_, b2, ?_, hf3, fun x k hx => by dsimp only; rw [b5 _ _ (by unfold esA; omega)]; exact f4 x k hx⟩
            · dsimp only; rw [hlk1, hlk2]
            · dsimp only; rw [hLs]; exact hcl
          | false =>
            rw [hq, if_neg (by simp)] at hlk1 hlk2
            have hLs : lk (unl sd (i + 1 + 1)) ln' = lk (unl sd (i + 1)) ln' ++ [sd (i + 1)] := by rw [hLk]; unfold addU; rw [hcn, if_neg (by rw [hq]; simp)]
            have hb := hlkl ln'
            have hi' : i < KC (aC a) := hi
            rw [if_neg (show ¬ ¬ bI false = nI 0 by decide), l64.2, if_neg (nI_ge (by omega) (by omega)), ck_n (by omega) (by omega), nI_clamp (by omega), ss_ok, lt_ok, lt_ok, bd_ok, lt_ok, nI_add, nI_add, nI_add]
            refine ⟨_, rfl, ?_, rml_tr hT b2 (fun x k _ => rfl), ?_, hf3, fun x k hx => by dsimp only; show gi s' x k = _; rw [b5 _ _ (by unfold esA; omega)]; exact f4 x k hx⟩
            · dsimp only; rw [hlk1, hlk2]
            · dsimp only
              rw [hLs]
              intro k hk
              rw [List.length_append, List.length_singleton] at hk
              rw [gl_sl]
              by_cases hkl : k = (lk (unl sd (i + 1)) ln').length
              · rw [if_pos ⟨rfl, hkl⟩, hkl, List.getD_eq_getElem?_getD, List.getElem?_append_right (Nat.le_refl _)]; simp
              · rw [if_neg (by omega), hcl k (by omega), List.getD_eq_getElem?_getD, List.getD_eq_getElem?_getD, List.getElem?_append_left (by omega)])
        (by
          rintro ⟨v, s⟩ rec ⟨f0, f1, f2, f3, f4⟩
          dsimp only at f0 f1 f2 f3 f4 ⊢
          subst f0
          dsimp only
          have h8 := rml_8 f1
          have hend := mil_end (bk := bkC (aC a)) (fr := frC (aC a)) (tu := tuC (aC a)) (gl := glC (aC a)) hgo
          rw [hMi] at hend
          unfold KC at h8
          rw [hend] at h8
          unfold bX6_stands_41
          rw [show (100000 : Int32) = nI 100000 from rfl, if_neg (nI_ge (by omega) (by omega)), h8, i1, if_pos (nI_le (Nat.le_refl _) (by omega))]
          exact ⟨_, rfl, rfl, f4⟩)
        (a := ((nI 1, nI 1, nI (lef (cS (aC a) 1) (mK (mi 0))), nI 0), s2)) ⟨by dsimp only; rw [l1']; rfl, q1', by
          dsimp only
          rw [l1']
          intro k hk
          rw [show k = 0 by simpa using hk]; exact c0, by
          rw [u1]
          intro d hd
          rw [List.mem_singleton.mp hd]
          exact ⟨hpd 0 _ q1', by rw [hsum]; exact Nat.le_refl _⟩, fun x k _ => g2 x k⟩
      dsimp only at p1 p2
      rw [e3, bd_ok]
      refine ⟨s3, ?_, fun x k he => ?_, fun x k hx => ?_⟩
      · rw [p1]
      · unfold esC at he
        rw [p2 _ _ (by omega), q4 _ _ (by omega)]
      · rw [p2 _ _ (by omega), q4 _ _ (by omega)]
    · obtain ⟨k1, k2, k3, k4, k5⟩ := mr_g hn hc.2.2.1
      obtain ⟨s, e1, q1, q2, q3⟩ := m_through hM hM2 hwc hcs.1 hgo (st_1 hwc (j := 4) (by omega)) hc.2.2.1 (j := 0) (by omega)
      have e1 : fX7_goesThrough E 395 (nI (cS (aC a) 2)) (nI (cS (aC a) 1)) (nI (cS (aC a) 4)) (0 : Int32) σ = some (plA (cS (aC a) 2) (cS (aC a) 1) (cS (aC a) 4 == 1) (aC a) 0, s) := e1
      unfold fX7_stands
      rw [tk_ok m0, m_canSp hM hM2 hwc k3 k4, bd_ok, decide_eq_true hcs, if_pos (by decide), m_way hM hM2, bd_ok, m_tapes hM hM2, bd_ok, dr_ok hM.2.1 hM2.1.1, hM2.1.2, i5, ck_n (by omega) (by omega), nI_clamp (by omega), show gi σ 396 3 = nI (cS (aC a) 2) from k3 2 (by omega), show gi σ 396 2 = nI (cS (aC a) 1) from k3 1 (by omega), show gi σ 396 5 = nI (cS (aC a) 4) from k3 4 (by omega), e1, bd_ok, q1]
      exact ⟨s, rfl, q2, fun x k he hx => q3 x k (by unfold esM at he; unfold esTh; omega), fun x k hx => q3 x k (by unfold esTh; omega)⟩
  · refine ⟨-1, a, hw, spc_q (fun σ hc => ⟨σ, ?_, fun _ _ _ => rfl, fun _ _ _ => rfl⟩), spm_q (fun σ hc => ⟨σ, ?_, fun _ _ _ => rfl, fun _ _ _ => rfl⟩)⟩
    · obtain ⟨k1, k2, k3⟩ := cs_rr hc.2.2.2.1
      unfold fX6_stands
      rw [tk_ok r0, c_canPlan hR hwc k2 k3, bd_ok, decide_eq_false hcs, if_neg (by decide)]
    · obtain ⟨k1, k2, k3, k4, k5⟩ := mr_g hn hc.2.2.1
      unfold fX7_stands
      rw [tk_ok m0, m_canSp hM hM2 hwc k3 k4, bd_ok, decide_eq_false hcs, if_neg (by decide)]
end SE
