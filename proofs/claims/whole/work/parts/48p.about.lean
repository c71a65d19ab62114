/-! about: inversions, natural runs, the midst -/
/-- how many in a .. n-1 lie below v -/
def low (F : Nat → Nat) (v a : Nat) : Nat → Nat
  | 0 => 0
  | n + 1 => low F v a n + (if a ≤ n ∧ F n < v then 1 else 0)
def tot (F : Nat → Nat) (n : Nat) : Nat → Nat
  | 0 => 0
  | m + 1 => tot F n m + low F (F m) (m + 1) n
theorem low_le (F : Nat → Nat) (v a : Nat) : ∀ n, low F v a n ≤ n
  | 0 => Nat.le_refl _
  | n + 1 => by have := low_le F v a n; unfold low; split <;> omega
theorem low_0 (F : Nat → Nat) (v a : Nat) : ∀ n, n ≤ a → low F v a n = 0
  | 0, _ => rfl
  | n + 1, h => by unfold low; rw [low_0 F v a n (by omega), if_neg (by omega)]
theorem tot_le (F : Nat → Nat) {n : Nat} (hn : n ≤ 300) : ∀ m, tot F n m ≤ m * 300
  | 0 => Nat.le_refl _
  | m + 1 => by have := tot_le F hn m; have := low_le F (F m) (m + 1) n; unfold tot; omega
theorem tot_s (F : Nat → Nat) (n : Nat) : ∀ m, m ≤ n → tot F (n + 1) m = tot F n m + gtC F (F n) m
  | 0, _ => rfl
  | m + 1, h => by
    have ih := tot_s F n m (by omega)
    unfold tot gtC
    rw [ih]
    have : low F (F m) (m + 1) (n + 1) = low F (F m) (m + 1) n + (if F n < F m then 1 else 0) := by
      show low F (F m) (m + 1) n + (if m + 1 ≤ n ∧ F n < F m then 1 else 0) = _
      by_cases q : F n < F m
      · rw [if_pos ⟨by omega, q⟩, if_pos q]
      · rw [if_neg (fun z => q z.2), if_neg q]
    rw [this]
    omega
theorem tot_inv (F : Nat → Nat) : ∀ n, tot F n n = inv F n
  | 0 => rfl
  | n + 1 => by
    show tot F (n + 1) n + low F (F n) (n + 1) (n + 1) = inv F n + gtC F (F n) n
    rw [low_0 _ _ _ _ (Nat.le_refl _), tot_s F n n (Nat.le_refl _), tot_inv F n]
    rfl
def natR (F : Nat → Nat) : Nat → Nat
  | 0 => 0
  | n + 1 => natR F n + (if n = 0 ∨ F n < F (n - 1) then 1 else 0)
theorem natR_le (F : Nat → Nat) : ∀ n, natR F n ≤ n
  | 0 => Nat.le_refl _
  | n + 1 => by have := natR_le F n; unfold natR; split <;> omega
/-- how many come before v -/
def befN (F : Nat → Nat) (v : Nat) : Nat → Nat
  | 0 => 0
  | n + 1 => befN F v n + (if lsB F n v = true then 1 else 0)
theorem befN_le (F : Nat → Nat) (v : Nat) : ∀ n, befN F v n ≤ n
  | 0 => Nat.le_refl _
  | n + 1 => by have := befN_le F v n; unfold befN; split <;> omega
theorem befN_rs (F : Nat → Nat) (v : Nat) : ∀ n, (rs F n).countP (fun i => lsB F i v) = befN F v n
  | 0 => rfl
  | n + 1 => by unfold rs befN; rw [insR_cnt, befN_rs F v n]
theorem srt_cnt {F : Nat → Nat} {v : Nat} : ∀ {l : List Nat} {k : Nat}, l.Pairwise (lsR F) → l[k]? = some v → l.countP (fun i => lsB F i v) = k
  | [], k, _, h => by simp at h
  | x :: l, 0, hp, h => by
    have hx : x = v := by simpa using h
    subst hx
    obtain ⟨h1, h2⟩ := List.pairwise_cons.mp hp
    rw [List.countP_eq_zero]
    intro y hy
    rw [lsB_t]
    rcases List.mem_cons.mp hy with rfl | hy
    · unfold lsR; omega
    · have := h1 y hy; unfold lsR at this ⊢; omega
  | x :: l, k + 1, hp, h => by
    obtain ⟨h1, h2⟩ := List.pairwise_cons.mp hp
    have h : l[k]? = some v := by simpa using h
    have := srt_cnt h2 h
    have hv : v ∈ l := List.mem_of_getElem? h
    rw [List.countP_cons, this, if_pos (lsB_t.mpr (h1 v hv))]
theorem bef_at {F : Nat → Nat} {n k : Nat} (hk : k < n) : befN F ((rs F n).getD k 0) n = k := by
  rw [← befN_rs]
  refine srt_cnt (rs_lt F n) ?_
  rw [List.getD_eq_getElem?_getD, List.getElem?_eq_getElem (by rw [rs_len]; exact hk)]
  rfl
theorem mid_at {F : Nat → Nat} {n k : Nat} (hk : k < n) : fstF (fun v => befN F v n == k) n = some ((rs F n).getD k 0) := by
  have hm : (rs F n).getD k 0 < n := by
    apply rs_mem.mp
    rw [List.getD_eq_getElem?_getD, List.getElem?_eq_getElem (by rw [rs_len]; exact hk)]
    exact List.getElem_mem _
  refine fstF_is hm (by simpa using bef_at hk) (fun j hj => ?_)
  obtain ⟨i, hi, e⟩ := List.getElem_of_mem (rs_mem (f := F).mpr (show j < n by omega))
  rw [rs_len] at hi
  have e2 : (rs F n).getD i 0 = j := by
    rw [List.getD_eq_getElem?_getD, List.getElem?_eq_getElem (by rw [rs_len]; exact hi), e]; rfl
  have := bef_at (F := F) hi
  rw [e2] at this
  have hik : i ≠ k := fun z => by subst z; omega
  simp only [this, beq_eq_false_iff_ne]
  exact hik
section AB
variable {E : En} {σ : Sg} {n : Nat} {F : Nat → Nat}
theorem m_inversions (hM : LMod E) (hM2 : LMo2 E) (h1 : gi σ 396 0 = nI n) (hn : n ≤ 300) (h2 : ∀ i, i < n → gi σ 396 (26 + i) = nI (F i)) (hF : ∀ i, i < n → F i < 256) : fX7_inversions E 395 σ = some (nI (inv F n), σ) := by
  unfold fX7_inversions
  rw [tk_ok hM.1, ← tot_inv]
  refine bd_tr ((nI (tot F n n), nI n), σ) n (fun i => ((nI (tot F n i), nI i), σ)) (by show n < 1000000; omega) ?_ ?_ rfl
  · intro i rec hi
    have t1 := tot_le F hn i
    unfold bX7_inversions_4
    dsimp only
    rw [m_many hM hM2, bd_ok, h1, if_neg (nI_ge hi (by omega)), lt_ok, i1, nI_add]
    rw [for_tr (r := ((nI (tot F n (i + 1)), nI n), σ)) (n - (i + 1)) (fun j => ((nI (tot F n i + low F (F i) (i + 1) (i + 1 + j)), nI (i + 1 + j)), σ)) (by show n - (i + 1) < 1000000; omega) ?_ ?_ ?_]
    · rw [bd_ok, lt_ok]
    · intro j rec hj
      have q1 := h2 i hi
      have q2 := hF i hi
      have q3 := h2 (i + 1 + j) (by omega)
      have q4 := hF (i + 1 + j) (by omega)
      have t2 := low_le F (F i) (i + 1) (i + 1 + j)
      unfold bX7_inversions_16
      dsimp only
      rw [m_many hM hM2, bd_ok, h1, if_neg (nI_ge (by omega) (by omega)), dr_ok hM.2.1 hM2.1.1, hM2.1.2, show (26 : Int32) = nI 26 from rfl, nI_add, nI_add, ck_n (by omega) (by omega), ck_n (by omega) (by omega), nI_clamp (by omega), nI_clamp (by omega), q1, q3]
      have e : low F (F i) (i + 1) (i + 1 + (j + 1)) = low F (F i) (i + 1) (i + 1 + j) + (if i + 1 ≤ i + 1 + j ∧ F (i + 1 + j) < F i then 1 else 0) := rfl
      by_cases hc : F i ≤ F (i + 1 + j)
      · rw [if_pos (nI_le hc (by omega)), bd_ok, m_truth, bd_ok, if_pos rfl, lt_ok, lt_ok, i0, i1, nI_add, nI_add, e, if_neg (by omega)]; rfl
      · rw [if_neg (nI_ge (by omega) (by omega)), bd_ok, m_truth, bd_ok, if_neg (by decide), lt_ok, lt_ok, i1, nI_add, nI_add, e, if_pos (by omega)]; rfl
    · intro rec
      unfold bX7_inversions_16
      dsimp only
      rw [m_many hM hM2, bd_ok, h1, if_pos (nI_le (by omega) (by omega)), show i + 1 + (n - (i + 1)) = n by omega]
      rfl
    · show _ = ((nI (tot F n i + low F (F i) (i + 1) (i + 1)), nI (i + 1)), σ)
      rw [low_0 _ _ _ _ (Nat.le_refl _)]; rfl
  · intro rec
    unfold bX7_inversions_4
    rw [m_many hM hM2, bd_ok, h1, if_pos (nI_le (Nat.le_refl _) (by omega))]
theorem c_natR {a : Nat} (hL : LRec E a) (h1 : gi σ a 2 = nI n) (hn : n ≤ 300) (h2 : ∀ i, i < n → gi σ (a + 1) i = nI (F i)) (hF : ∀ i, i < n → F i < 256) : fX3_naturalRuns E a σ = some (nI (natR F n), σ) := by
  obtain ⟨l0, l1, l2, l3, l4⟩ := hL
  unfold fX3_naturalRuns
  rw [tk_ok l0]
  refine bd_tr ((nI (natR F n), nI n), σ) n (fun i => ((nI (natR F i), nI i), σ)) (by show n < 1000000; omega) ?_ ?_ rfl
  · intro i rec hi
    unfold bX3_naturalRuns_4
    dsimp only
    rw [h1, if_neg (nI_ge hi (by omega))]
    by_cases h0 : i = 0
    · subst h0
      rw [if_pos (show nI 0 = (0 : Int32) from rfl), lt_ok, bd_ok, lt_ok, i1, nI_add, nI_add]; rfl
    · have q1 := h2 i hi
      have q2 := hF i hi
      have q3 := h2 (i - 1) (by omega)
      have q4 := hF (i - 1) (by omega)
      rw [if_neg (nI_ne0 (by omega) (by omega)), l1, dr_s, l3.1, l3.2, tk_s, ck_m (by omega), i1, sub_n (by omega), ck_m (by omega), nI_clamp (by omega), nI_clamp (by omega), q1, q3]
      have e : natR F (i + 1) = natR F i + (if i = 0 ∨ F i < F (i - 1) then 1 else 0) := rfl
      by_cases hc : F (i - 1) ≤ F i
      · rw [if_pos (nI_le hc (by omega)), bd_ok, lt_ok, nI_add, e, if_neg (by omega)]; rfl
      · rw [if_neg (nI_ge (by omega) (by omega)), lt_ok, bd_ok, lt_ok, nI_add, nI_add, e, if_pos (by omega)]
  · intro rec
    unfold bX3_naturalRuns_4
    rw [h1, if_pos (nI_le (Nat.le_refl _) (by omega))]
theorem m_natR (hM : LMod E) (hM2 : LMo2 E) (h1 : gi σ 396 0 = nI n) (hn : n ≤ 300) (h2 : ∀ i, i < n → gi σ 396 (26 + i) = nI (F i)) (hF : ∀ i, i < n → F i < 256) : fX7_naturalRuns E 395 σ = some (nI (natR F n), σ) := by
  unfold fX7_naturalRuns
  rw [tk_ok hM.1, m_many hM hM2, bd_ok, h1]
  by_cases h0 : n = 0
  · subst h0
    rw [if_pos (by decide), bd_ok, m_truth, bd_ok, if_pos rfl]
    refine bd_tr (((0 : Int32), (1 : Int32)), σ) 0 (fun _ => (((0 : Int32), (1 : Int32)), σ)) (by decide) (fun i rec hi => by omega) ?_ rfl
    intro rec
    unfold bX7_naturalRuns_18
    dsimp only
    rw [m_many hM hM2, bd_ok, h1, if_pos (by decide)]
  · rw [if_neg (show ¬ nI n ≤ (0 : Int32) from nI_nle (by omega) (by omega)), bd_ok, m_truth, bd_ok, if_neg (by decide)]
    refine bd_tr ((nI (natR F n), nI n), σ) (n - 1) (fun i => ((nI (natR F (i + 1)), nI (i + 1)), σ)) (by show n - 1 < 1000000; omega) ?_ ?_ rfl
    · intro i rec hi
      have q1 := h2 (i + 1) (by omega)
      have q2 := hF (i + 1) (by omega)
      have q3 := h2 i (by omega)
      have q4 := hF i (by omega)
      unfold bX7_naturalRuns_18
      dsimp only
      rw [m_many hM hM2, bd_ok, h1, if_neg (nI_ge (by omega) (by omega)), dr_ok hM.2.1 hM2.1.1, hM2.1.2, show (26 : Int32) = nI 26 from rfl, nI_add, ck_n (by omega) (by omega), i1, sub_n (by omega), ck_n (by omega) (by omega), nI_clamp (by omega), nI_clamp (by omega), show 26 + (i + 1) - 1 = 26 + i by omega, q1, q3]
      have e : natR F (i + 1 + 1) = natR F (i + 1) + (if i + 1 = 0 ∨ F (i + 1) < F i then 1 else 0) := rfl
      by_cases hc : F i ≤ F (i + 1)
      · rw [if_pos (nI_le hc (by omega)), bd_ok, m_truth, bd_ok, if_pos rfl, lt_ok, lt_ok, i0, nI_add, nI_add, e, if_neg (by omega)]
      · rw [if_neg (nI_ge (by omega) (by omega)), bd_ok, m_truth, bd_ok, if_neg (by decide), lt_ok, lt_ok, i1, nI_add, nI_add, e, if_pos (by omega)]
    · intro rec
      unfold bX7_naturalRuns_18
      dsimp only
      rw [m_many hM hM2, bd_ok, h1, if_pos (nI_le (by omega) (by omega)), show n - 1 + 1 = n by omega]
theorem m_midst (hM : LMod E) (hM2 : LMo2 E) (h1 : gi σ 396 0 = nI n) (hn : n ≤ 300) (h2 : ∀ i, i < n → gi σ 396 (26 + i) = nI (F i)) (hF : ∀ i, i < n → F i < 256) : fX7_midst E 395 σ = some ((match fstF (fun v => befN F v n == n / 2) n with | some v => nI v | none => -1), σ) := by
  unfold fX7_midst
  rw [tk_ok hM.1, for_fst n (fun i => (nI i, σ)) (fun v => befN F v n == n / 2) (fun i => (.inr (nI i), σ)) (.inl (nI n), σ) (by show n < 1000000; omega) ?_ ?_ (a := ((0 : Int32), σ)) rfl]
  · cases fstF (fun v => befN F v n == n / 2) n <;> rfl
  · intro i rec hi
    have t1 := befN_le F i n
    unfold bX7_midst_2
    dsimp only
    rw [m_many hM hM2, bd_ok, h1, if_neg (nI_ge hi (by omega))]
    rw [for_tr (r := ((nI (befN F i n), nI n), σ)) n (fun j => ((nI (befN F i j), nI j), σ)) (by show n < 1000000; omega) ?_ ?_ (a := (((0 : Int32), (0 : Int32)), σ)) rfl]
    · rw [bd_ok, m_many hM hM2, bd_ok, h1, i2, pk_div (by omega) (by omega) (by omega)]
      dsimp only
      by_cases hc : befN F i n = n / 2
      · rw [if_neg (by rw [hc]; simp), if_pos (by simpa using hc)]
      · rw [if_pos (fun q => hc ((nI_eq (by omega) (by omega)).mp q)), if_neg (by simpa using hc), lt_ok, i1, nI_add]
    · intro j rec hj
      unfold bX7_midst_14
      dsimp only
      rw [m_many hM hM2, bd_ok, h1, if_neg (nI_ge hj (by omega)), m_isLess hM hM2 hj hi hn h2 hF, bd_ok, m_truth, bd_ok, lt_ok, lt_ok]
      have e : befN F i (j + 1) = befN F i j + (if lsB F j i = true then 1 else 0) := rfl
      cases hb : lsB F j i with
      | false => rw [if_pos (show bI false = 0 from rfl), i0, i1, nI_add, nI_add, e, hb, if_neg (by simp)]
      | true => rw [if_neg (by decide), i1, nI_add, nI_add, e, hb, if_pos rfl]
    · intro rec
      unfold bX7_midst_14
      rw [m_many hM hM2, bd_ok, h1, if_pos (nI_le (Nat.le_refl _) (by omega))]
  · intro rec
    unfold bX7_midst_2
    rw [m_many hM hM2, bd_ok, h1, if_pos (nI_le (Nat.le_refl _) (by omega))]
end AB
section AB2
variable {E : En}
theorem ok_about (hR : LRun E) (hM : LMod E) (hM2 : LMo2 E) (p0 : Int32) : Ok (JJ CG' CM' MG' MM') (fX6_about E 0 p0) (fX7_about E 395 p0) := by
  refine ok_of (fun a hw => ?_)
  obtain ⟨r0, r1, r3, r4, r5, r8, r9, r10, r11, r12, r13, l1, l2, lx⟩ := id hR
  obtain ⟨b0, rb0, rb1, rb3, rb4, rb5, rb6, lr, la4, lg, lm, la31, la32⟩ := id l2
  have m0 := hM.1
  have hwc := hw.2.2.1
  have hn := hwc.1
  have hF := hwc.2.1
  by_cases h0 : p0 = 0
  · refine ⟨nI (inv (cF (aC a)) (cN (aC a))), a, hw, spc_q (fun σ hc => ⟨σ, ?_, fun _ _ _ => rfl, fun _ _ _ => rfl⟩), spm_q (fun σ hc => ⟨σ, ?_, fun _ _ _ => rfl, fun _ _ _ => rfl⟩)⟩
    · obtain ⟨k1, k2, k3⟩ := cs_rr hc.2.2.2.1
      unfold fX6_about
      rw [tk_ok r0, dr_ok r3 l2.1, dr_ok rb0 lr.1, if_pos h0, k1.2.2.2]
    · obtain ⟨k1, k2, k3, k4, k5⟩ := mr_g hn hc.2.2.1
      unfold fX7_about
      rw [tk_ok m0, if_pos h0, m_inversions hM hM2 k1 hn k2 hF, bd_ok]
  · by_cases h1 : p0 = 1
    · refine ⟨nI (natR (cF (aC a)) (cN (aC a))), a, hw, spc_q (fun σ hc => ⟨σ, ?_, fun _ _ _ => rfl, fun _ _ _ => rfl⟩), spm_q (fun σ hc => ⟨σ, ?_, fun _ _ _ => rfl, fun _ _ _ => rfl⟩)⟩
      · obtain ⟨k1, k2, k3⟩ := cs_rr hc.2.2.2.1
        unfold fX6_about
        rw [tk_ok r0, dr_ok r3 l2.1, dr_ok rb0 lr.1, if_neg h0, if_pos h1, c_natR lr k1.1 hn k1.2.1 hF, bd_ok]
      · obtain ⟨k1, k2, k3, k4, k5⟩ := mr_g hn hc.2.2.1
        unfold fX7_about
        rw [tk_ok m0, if_neg h0, if_pos h1, m_natR hM hM2 k1 hn k2 hF, bd_ok]
    · by_cases h2 : p0 = 2
      · refine ⟨(match fstF (fun v => befN (cF (aC a)) v (cN (aC a)) == cN (aC a) / 2) (cN (aC a)) with | some v => nI v | none => -1), a, hw, spc_q (fun σ hc => ⟨σ, ?_, fun _ _ _ => rfl, fun _ _ _ => rfl⟩), spm_q (fun σ hc => ⟨σ, ?_, fun _ _ _ => rfl, fun _ _ _ => rfl⟩)⟩
        · obtain ⟨k1, k2, k3⟩ := cs_rr hc.2.2.2.1
          unfold fX6_about
          rw [tk_ok r0, dr_ok r3 l2.1, dr_ok rb0 lr.1, if_neg h0, if_neg h1, if_pos h2, k1.1]
          by_cases hz : cN (aC a) = 0
          · rw [hz, if_neg (by simp; rfl), bd_ok]; rfl
          · rw [if_pos (nI_ne0 (by omega) (by omega)), dr_ok lr.2.2.1 lr.2.2.2.2.1, lr.2.2.2.2.2, i2, pk_div (by omega) (by omega) (by omega), ck_n (by omega) (by omega), nI_clamp (by omega), bd_ok, mid_at (by omega)]
            show some (gi σ 5 (cN (aC a) / 2), σ) = _
            rw [k1.2.2.1 _ (by omega)]
        · obtain ⟨k1, k2, k3, k4, k5⟩ := mr_g hn hc.2.2.1
          unfold fX7_about
          rw [tk_ok m0, if_neg h0, if_neg h1, if_pos h2, m_midst hM hM2 k1 hn k2 hF, bd_ok]
      · refine ⟨-1, a, hw, spc_q (fun σ hc => ⟨σ, ?_, fun _ _ _ => rfl, fun _ _ _ => rfl⟩), spm_q (fun σ hc => ⟨σ, ?_, fun _ _ _ => rfl, fun _ _ _ => rfl⟩)⟩
        · unfold fX6_about
          rw [tk_ok r0, dr_ok r3 l2.1, dr_ok rb0 lr.1, if_neg h0, if_neg h1, if_neg h2]
        · unfold fX7_about
          rw [tk_ok m0, if_neg h0, if_neg h1, if_neg h2]
end AB2
