/-! tape, on -/
theorem sumF_1 {f : Nat → Nat} {t : Nat} : ∀ {T : Nat}, t < T → f t ≤ sumF f T
  | 0, h => by omega
  | T + 1, h => by
    unfold sumF
    rcases Nat.lt_or_ge t T with z | z
    · have := sumF_1 (f := f) z; omega
    · rw [show t = T by omega]; omega
theorem sumF_2 {f : Nat → Nat} {t t' : Nat} (hne : t ≠ t') : ∀ {T : Nat}, t < T → t' < T → f t + f t' ≤ sumF f T
  | 0, h, _ => by omega
  | T + 1, h, h' => by
    unfold sumF
    rcases Nat.lt_or_ge t T with z | z
    · rcases Nat.lt_or_ge t' T with z' | z'
      · have := sumF_2 (f := f) hne z z'; omega
      · have := sumF_1 (f := f) z; rw [show t' = T by omega]; omega
    · have := sumF_1 (f := f) (show t' < T by omega); rw [show t = T by omega]; omega
theorem occ_pos {j : Nat} {r : Rn} : ∀ {l : List Rn}, r ∈ l → j ∈ r.1 → 0 < occL j l
  | [], h, _ => by cases h
  | a :: l, h, hj => by
    unfold occL
    rcases List.mem_cons.mp h with rfl | h
    · have := List.count_pos_iff.mpr hj; omega
    · have := occ_pos h hj; omega
theorem occ_uq {j : Nat} {r r' : Rn} : ∀ {l : List Rn}, occL j l ≤ 1 → r ∈ l → r' ∈ l → j ∈ r.1 → j ∈ r'.1 → r = r'
  | [], _, h, _, _, _ => by cases h
  | a :: l, ho, h, h', hj, hj' => by
    unfold occL at ho
    rcases List.mem_cons.mp h with e | z
    · rcases List.mem_cons.mp h' with e' | z'
      · rw [e, e']
      · subst e
        have := List.count_pos_iff.mpr hj
        have := occ_pos z' hj'
        omega
    · rcases List.mem_cons.mp h' with e' | z'
      · subst e'
        have := List.count_pos_iff.mpr hj'
        have := occ_pos z hj
        omega
      · exact occ_uq (by omega) z z' hj hj'
theorem dj_uq {T : Nat} {tp : Nat → List Rn} (h : Dj T tp) {t t' j : Nat} {r r' : Rn} (ht : t < T) (ht' : t' < T) (hr : r ∈ tp t) (hr' : r' ∈ tp t') (hj : j ∈ r.1) (hj' : j ∈ r'.1) : r = r' := by
  have hs := h j
  by_cases he : t = t'
  · subst he
    have := sumF_1 (f := fun t => occL j (tp t)) ht
    exact occ_uq (by omega) hr hr' hj hj'
  · have q : occL j (tp t) + occL j (tp t') ≤ sumF (fun t => occL j (tp t)) T := sumF_2 (f := fun t => occL j (tp t)) he ht ht'
    have q1 : 0 < occL j (tp t) := occ_pos hr hj
    have q2 : 0 < occL j (tp t') := occ_pos hr' hj'
    omega
/-- who holds a run's records -/
theorem hol_iff {T nr : Nat} {A : Mi} {h : Nat → Int32} (ha : AI T nr A) (hnr : nr ≤ 700) (hh : HOl T h A) {t j : Nat} {q : Rn} (ht : t < T) (hq : q ∈ mT A t) (hne : q.1 ≠ []) (hj : j < nr) : h j = idI q.1 ↔ q.1.contains j = true := by
  rw [List.contains_iff_mem]
  constructor
  · intro e
    obtain ⟨t', r', h1, h2, h3⟩ := oc_ex ha.1 hj
    rw [hh t' r' j h1 h2 h3] at e
    cases hq1 : q.1 with
    | nil => exact absurd hq1 hne
    | cons i l =>
      cases hr1 : r'.1 with
      | nil => rw [hr1] at h3; cases h3
      | cons i' l' =>
        rw [hq1, hr1] at e
        have hi := oc_lt ha.1 ht hq (j := i) (by rw [hq1]; simp)
        have hi' := oc_lt ha.1 h1 h2 (j := i') (by rw [hr1]; simp)
        have e2 : i' = i := (nI_eq (by omega) (by omega)).mp e
        subst e2
        have := dj_uq (oc_dj ha.1) ht h1 hq h2 (j := i') (by rw [hq1]; simp) (by rw [hr1]; simp)
        rw [← hq1, this]; exact h3
  · intro hm
    exact hh t q j ht hq hm
theorem cnP_g {α : Type} (p : α → Bool) (d : α) (l : List α) : ∀ k, k ≤ l.length → cnP (fun i => p (l.getD i d)) k = (l.take k).countP p
  | 0, _ => by simp [cnP]
  | k + 1, h => by
    unfold cnP
    rw [cnP_g p d l k (by omega), List.take_succ, List.getElem?_eq_getElem (by omega), List.countP_append, List.getD_eq_getElem?_getD, List.getElem?_eq_getElem (by omega)]
    simp [List.countP_cons]
theorem cnP_gl {α : Type} (p : α → Bool) (d : α) (l : List α) : cnP (fun i => p (l.getD i d)) l.length = l.countP p := by
  rw [cnP_g p d l _ (Nat.le_refl _), List.take_length]
theorem rev_at {α : Type} {l : List α} {d : α} {i : Nat} (hi : i < l.length) : l.reverse.getD i d = l.getD (l.length - 1 - i) d := by
  rw [List.getD_eq_getElem?_getD, List.getD_eq_getElem?_getD, List.getElem?_reverse hi]
theorem cnP_congr {p q : Nat → Bool} : ∀ {n : Nat}, (∀ i, i < n → p i = q i) → cnP p n = cnP q n
  | 0, _ => rfl
  | n + 1, h => by unfold cnP; rw [cnP_congr (fun i hi => h i (by omega)), h n (by omega)]
theorem cnP_rev (p : Rn → Bool) (l : List Rn) (bk : Bool) : cnP (fun i => p (l.getD (if bk then l.length - 1 - i else i) dum)) l.length = l.countP p := by
  cases bk with
  | false => exact cnP_gl p dum l
  | true =>
    have h := cnP_gl p dum l.reverse
    rw [List.length_reverse, List.countP_reverse] at h
    rw [← h]
    exact cnP_congr (fun i hi => by rw [rev_at hi]; rfl)
section TP
variable {E : En} {σ : Sg} {n : Nat} {F : Nat → Nat}
/-- a dummy's number is -1, and no other's -/
def IDs (l : List Rn) : Prop := ∀ r, r ∈ l → ∀ i l', r.1 = i :: l' → i < 700
theorem c_dum {a L H : Nat} {bk : Bool} {l : List Rn} (hL : LTape E a) (h : TP σ a bk l L H) (hid : IDs l) : fX5_dummies E a σ = some (nI (l.countP (fun r => r.1.isEmpty)), σ) := by
  obtain ⟨l0, l1, l2⟩ := hL
  obtain ⟨t1, t2, t3, t4, t5, t6⟩ := h
  unfold fX5_dummies
  rw [tk_ok l0, lt_ok, t1, ← cnP_rev (fun r => r.1.isEmpty) l bk]
  refine bd_tr ((nI (cnP (fun i => (l.getD (if bk then l.length - 1 - i else i) dum).1.isEmpty) l.length), nI (L + l.length)), σ) l.length (fun i => ((nI (cnP (fun i => (l.getD (if bk then l.length - 1 - i else i) dum).1.isEmpty) i), nI (L + i)), σ)) (by show l.length < 1000000; omega) ?_ ?_ rfl
  · intro i rec hi
    unfold bX5_dummies_7
    dsimp only
    have hcell : gi σ (a + 1) (L + i) = idI (l.getD (if bk then l.length - 1 - i else i) dum).1 := by
      have h6 := t6 (if bk then l.length - 1 - i else i) (by split <;> omega)
      refine Eq.trans ?_ h6
      congr 1
      cases bk
      · rfl
      · show L + i = H - 1 - (l.length - 1 - i)
        omega
    rw [t2, if_neg (nI_ge (by omega) (by omega)), l1, dr_s, l2.1, l2.2, tk_s, ck_m (by omega), nI_clamp (by omega), hcell]
    have hmem : l.getD (if bk then l.length - 1 - i else i) dum ∈ l := by
      rw [List.getD_eq_getElem?_getD, List.getElem?_eq_getElem (by split <;> omega)]
      exact List.getElem_mem _
    have e : cnP (fun i => (l.getD (if bk then l.length - 1 - i else i) dum).1.isEmpty) (i + 1) = cnP (fun i => (l.getD (if bk then l.length - 1 - i else i) dum).1.isEmpty) i + (if (l.getD (if bk then l.length - 1 - i else i) dum).1.isEmpty = true then 1 else 0) := rfl
    generalize l.getD (if bk then l.length - 1 - i else i) dum = q at *
    cases hq : q.1 with
    | nil => rw [if_neg (by simp [idI]), lt_ok, bd_ok, lt_ok, i1, nI_add, nI_add, e, hq, if_pos (show ([] : List Nat).isEmpty = true from rfl)]; rfl
    | cons j l' =>
      have := hid q hmem j l' hq
      rw [if_pos (show ¬ idI (j :: l') = -1 from nI_m1 (j := j) (by omega)), bd_ok, lt_ok, i1, nI_add, e, hq, if_neg (by simp)]; rfl
  · intro rec
    unfold bX5_dummies_7
    dsimp only
    rw [t2, if_pos (nI_le (by omega) (by omega))]
theorem c_recOn {m N nr t L H : Nat} {bk : Bool} {l : List Rn} {gl : Nat → Nat} (hL : LMill E m N) (ht : t < 6) (h3 : gi σ m 3 = bI bk) (h7 : gi σ m 7 = nI nr) (hn : nr ≤ N) (hN : N ≤ 700) (h : TP σ (m + 10 + 2 * t) bk l L H) (hrd : ∀ r, r ∈ l → RD σ m gl nr r) : fX1_recordsOn E m (nI t) σ = some (nI (sumF (fun k => szl gl (l.getD k dum).1) l.length), σ) := by
  obtain ⟨l0, l4, l10, l12, l13, l17, l18, l5, l6, a1, a2, a3, a4, a5, a7, a8, a9, ltp⟩ := id hL
  obtain ⟨lt1, lt2⟩ := ltp t ht
  obtain ⟨t1, t2, t3, t4, t5, t6⟩ := id h
  unfold fX1_recordsOn
  rw [tk_ok l0]
  refine bd_tr ((nI (sumF (fun k => szl gl (l.getD k dum).1) l.length), nI l.length), σ) l.length (fun i => ((nI (sumF (fun k => szl gl (l.getD k dum).1) i), nI i), σ)) (by show l.length < 1000000; omega) ?_ ?_ rfl
  · intro i rec hi
    unfold bX1_recordsOn_4
    dsimp only
    have hmem : l.getD i dum ∈ l := by
      rw [List.getD_eq_getElem?_getD, List.getElem?_eq_getElem hi]
      exact List.getElem_mem _
    rw [l4, dr_s, a1.1, a1.2, tk_s, ck_m (by omega), nI_clamp (by omega), lt1, dr_s, lt2.1, tk_s, tape_size lt2 t1 t2 t3, bd_ok, if_neg (nI_ge (by omega) (by omega)), ck_m (by omega), dr_s, lt2.1, tk_s, h3, tape_at lt2 bk t1 t2 t3 t4 (by omega), bd_ok, if_pos (by omega), t6 i hi]
    rw [show (l.getD i ([], false)) = l.getD i dum from rfl, c_sizeOf hL h7 hn hN (hrd _ hmem), bd_ok, lt_ok, lt_ok, i1, nI_add, nI_add]
    rfl
  · intro rec
    unfold bX1_recordsOn_4
    dsimp only
    rw [l4, dr_s, a1.1, a1.2, tk_s, ck_m (by omega), nI_clamp (by omega), lt1, dr_s, lt2.1, tk_s, tape_size lt2 t1 t2 t3, bd_ok, if_pos (nI_le (by omega) (by omega))]
/-- what the class knows of the tapes -/
theorem c_tapes (hR : LRun E) {a : Ab} (hw : Wfa a) (ht : 2 ≤ cT (aC a)) (hc : RC CG' CM' σ a) : AI (cS (aC a) 1) (nrC (aC a)) (miC (aC a)) ∧ (gi σ 11 1 = nI (cS (aC a) 1) ∧ gi σ 11 3 = bI (bkC (aC a)) ∧ gi σ 11 7 = nI (nrC (aC a)) ∧ gi σ 11 9 = nI (kto (mK (miC (aC a))))) ∧ (∀ t, t < cS (aC a) 1 → ∃ L H, TP σ (21 + 2 * t) (bkC (aC a)) (mT (miC (aC a)) t) L H) ∧ (∀ t, t < cS (aC a) 1 → ∀ r, r ∈ mT (miC (aC a)) t → RD σ 11 (glC (aC a)) (nrC (aC a)) r) ∧ HOl (cS (aC a) 1) (gi σ 33) (miC (aC a)) ∧ (∀ p : Int32, (p < 0 ∨ (¬ p < 0 ∧ ¬ p < nI (cS (aC a) 1))) → fX6_isTape E 0 p σ = some (0, σ)) ∧ ∀ t, t < cS (aC a) 1 → fX6_isTape E 0 (nI t) σ = some (1, σ) := by
  obtain ⟨r0, r1, r3, r4, r5, r8, r9, r10, r11, r12, r13, l1, l2, lx⟩ := id hR
  obtain ⟨b0, rb0, rb1, rb3, rb4, rb5, rb6, lr, la4, lg, lm, la31, la32⟩ := id l2
  have hwc := hw.2.2.1
  have ht3 := hwc.2.2.2.1
  have h0 := hwc.2.2.2.2.1 (by omega)
  have hT2 := (hwc.2.2.1 1 (by omega)).2
  have hT2 : cS (aC a) 1 ≤ 6 := hT2
  obtain ⟨q1, q2, q3, q4⟩ := cs_m hwc hc.2.2.2.1 ht
  obtain ⟨k1, k2, k3⟩ := cs_rr hc.2.2.2.1
  obtain ⟨L, H, ⟨⟨x1, x2, x3, x4, x5⟩, ⟨y1, y2, y3⟩, z1, z2⟩, u1, u2, u3⟩ := q3
  refine ⟨mil_ai (gok_c hwc h0 (hwc.2.2.2.2.2 ht)) q1, ⟨x2, x4, x5, y1⟩, fun t h => ⟨L t, H t, z1 t (by omega)⟩, u2, q4, fun p hp => ?_, fun t h => ?_⟩
  · unfold fX6_isTape
    rw [tk_ok r0, dr_ok r3 l2.1, k3, i2, if_neg (nI_nlt ht (by omega))]
    rcases hp with h | ⟨h1, h2⟩
    · rw [if_pos h, bd_ok, kb_0]
    · rw [if_neg h1, dr_ok rb4 lm.1]
      show bd (if gi σ 11 1 ≤ p then _ else _) _ = _
      rw [x2, if_pos (Int32.not_lt.mp h2), bd_ok, kb_0]
  · unfold fX6_isTape
    rw [tk_ok r0, dr_ok r3 l2.1, k3, i2, if_neg (nI_nlt ht (by omega)), if_neg (nI_pos (by omega)), dr_ok rb4 lm.1]
    show bd (if gi σ 11 1 ≤ nI t then _ else _) _ = _
    rw [x2, if_neg (nI_ge h (by omega)), bd_ok, kb_1]
theorem szl_0 {F : Nat → Nat} {ro gl : Nat → Nat} {nr : Nat} (hg : Gln F n ro gl nr) {l : List Nat} (hl : ∀ j, j ∈ l → j < nr) : szl gl l = 0 ↔ l.isEmpty = true := by
  cases l with
  | nil => simp [szl]
  | cons i l =>
    have := (hg.1 i (hl i (by simp))).2
    constructor
    · intro h; unfold szl at h; omega
    · intro h; simp at h
/-- what the reference knows of the tapes -/
theorem m_tapesF (hM : LMod E) (hM2 : LMo2 E) {a : Ab} (hw : Wfa a) (ht : 2 ≤ cT (aC a)) (hc : RM MG' MM' σ a) : AI (cS (aC a) 1) (nrC (aC a)) (miC (aC a)) ∧ (gi σ 396 2 = nI (cS (aC a) 1) ∧ gi σ 396 13 = nI (kto (mK (miC (aC a))))) ∧ fX7_isSpread E 395 σ = some (1, σ) ∧ ∃ X : Nat → List Dn, (∀ t, (X t).length = (mT (miC (aC a)) t).length ∧ ∀ k, k < (X t).length → ((X t).getD k d0).2.2 = (mT (miC (aC a)) t).getD k dum) ∧ XT σ X ∧ ∀ t, t < 6 → ∀ k, k < (X t).length → DD σ (cF (aC a)) (cN (aC a)) (roC (aC a)) (glC (aC a)) ((X t).getD k d0) := by
  have hwc := hw.2.2.1
  have ht3 := hwc.2.2.2.1
  have h0 := hwc.2.2.2.2.1 (by omega)
  obtain ⟨q1, q2, q3, ⟨X, q4, q5, q6, q7⟩, q8, q9⟩ := mr_mm hwc hc.2.2.1 ht
  obtain ⟨k1, k2, k3, k4, k5⟩ := mr_g hwc.1 hc.2.2.1
  refine ⟨mil_ai (gok_c hwc h0 (hwc.2.2.2.2.2 ht)) q1, ⟨q8.1, q8.2.2.1⟩, ?_, X, fun t => ⟨xm_len q4 t, fun k hk => ?_⟩, q5, fun t h6 k hk => ?_⟩
  · unfold fX7_isSpread
    rw [tk_ok hM.1, dr_ok hM.2.1 hM2.1.1, hM2.1.2, i7, ck_n (by omega) (by omega), nI_clamp (by omega), k4, if_neg (show ¬ nI (cT (aC a)) ≤ 1 from (nI_ge (by omega) (by omega) : ¬ nI (cT (aC a)) ≤ nI 1)), bd_ok, kb_1]
  · rw [← q4 t, List.getD_eq_getElem?_getD, List.getD_eq_getElem?_getD, List.getElem?_map, List.getElem?_eq_getElem hk]; rfl
  · refine q6 _ (catX_mem.mpr ⟨t, h6, ?_⟩)
    rw [List.getD_eq_getElem?_getD, List.getElem?_eq_getElem hk]
    exact List.getElem_mem _
end TP
