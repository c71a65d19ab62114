/-! rows of numbers are copied: the reference's keepsIn, laysFrom, remembers; its small readers -/
theorem mkeep {E : En} (hM : LMod E) (hM2 : LMo2 E) {a N off : Nat} {σ : Sg} (ha : LArr E a 100 N) (hN : N < 2 ^ 30) (hoff : off + 7827 ≤ N) (hne : a ≠ 396) : ∃ σ', fX7_keepsIn E 395 a (nI off) σ = some σ' ∧ ∀ x j, gi σ' x j = if x = a ∧ off ≤ j ∧ j < off + 7827 then gi σ 396 (j - off) else gi σ x j := by
  unfold fX7_keepsIn
  rw [tk_ok hM.1, tk_ok ha.1]
  have key := fx_ok (F := fun (rec : Int32 × Sg → Option (Int32 × Sg)) (b : Int32 × Sg) => bX7_keepsIn_2 E 395 (nI off) a (fun u0 t => rec (u0, t)) b.1 b.2) (fun k b => ∃ i, b.1 = nI i ∧ i ≤ 7827 ∧ k = 7827 - i ∧ ∀ x j, gi b.2 x j = if x = a ∧ off ≤ j ∧ j < off + i then gi σ 396 (j - off) else gi σ x j) (fun b => ∀ x j, gi b.2 x j = if x = a ∧ off ≤ j ∧ j < off + 7827 then gi σ 396 (j - off) else gi σ x j) ?_ FU 7827 ((0 : Int32), σ) (by show 7827 < 1000000; omega) ⟨0, rfl, by omega, by omega, fun x j => by rw [if_neg (by omega)]⟩
  · obtain ⟨⟨v, s⟩, e, h⟩ := key
    rw [e, bd_ok]
    exact ⟨s, rfl, h⟩
  · rintro k ⟨v, s⟩ rec ⟨i, hi, hi2, rfl, h⟩ IH
    dsimp only at hi h ⊢
    subst hi
    unfold bX7_keepsIn_2
    by_cases hc : i = 7827
    · subst hc
      rw [show (7827 : Int32) = nI 7827 from rfl, if_pos (nI_le (Nat.le_refl _) (by omega))]
      exact ⟨_, rfl, h⟩
    · rw [show (7827 : Int32) = nI 7827 from rfl, if_neg (nI_ge (by omega) (by omega)), dr_ok hM.2.1 hM2.1.1, hM2.1.2, ck_n (by omega) (by omega), nI_add, ha.2, ck_n (by omega) (by omega), ss_ok, lt_ok, nI_clamp (by omega), nI_clamp (by omega), ad1]
      refine IH (7827 - (i + 1)) _ (by omega) ⟨i + 1, rfl, by omega, rfl, fun x j => ?_⟩
      rw [gi_si, h, h, if_neg (show ¬ (396 = a ∧ off ≤ i ∧ i < off + i) by omega)]
      by_cases hx : x = a
      · by_cases hj : j = off + i
        · rw [if_pos ⟨hx, hj⟩, if_pos (by omega), show j - off = i by omega]
        · rw [if_neg (by omega)]
          by_cases hj2 : off ≤ j ∧ j < off + i
          · rw [if_pos (by omega), if_pos (by omega)]
          · rw [if_neg (by omega), if_neg (by omega)]
      · rw [if_neg (by omega), if_neg (by omega), if_neg (by omega)]
theorem mlays {E : En} (hM : LMod E) (hM2 : LMo2 E) {a N off : Nat} {σ : Sg} (ha : LArr E a 100 N) (hN : N < 2 ^ 30) (hoff : off + 7827 ≤ N) (hne : a ≠ 396) : ∃ σ', fX7_laysFrom E 395 a (nI off) σ = some σ' ∧ ∀ x j, gi σ' x j = if x = 396 ∧ j < 7827 then gi σ a (off + j) else gi σ x j := by
  unfold fX7_laysFrom
  rw [tk_ok hM.1, tk_ok ha.1]
  have key := fx_ok (F := fun (rec : Int32 × Sg → Option (Int32 × Sg)) (b : Int32 × Sg) => bX7_laysFrom_2 E 395 (nI off) a (fun u0 t => rec (u0, t)) b.1 b.2) (fun k b => ∃ i, b.1 = nI i ∧ i ≤ 7827 ∧ k = 7827 - i ∧ ∀ x j, gi b.2 x j = if x = 396 ∧ j < i then gi σ a (off + j) else gi σ x j) (fun b => ∀ x j, gi b.2 x j = if x = 396 ∧ j < 7827 then gi σ a (off + j) else gi σ x j) ?_ FU 7827 ((0 : Int32), σ) (by show 7827 < 1000000; omega) ⟨0, rfl, by omega, by omega, fun x j => by rw [if_neg (by omega)]⟩
  · obtain ⟨⟨v, s⟩, e, h⟩ := key
    rw [e, bd_ok]
    exact ⟨s, rfl, h⟩
  · rintro k ⟨v, s⟩ rec ⟨i, hi, hi2, rfl, h⟩ IH
    dsimp only at hi h ⊢
    subst hi
    unfold bX7_laysFrom_2
    by_cases hc : i = 7827
    · subst hc
      rw [show (7827 : Int32) = nI 7827 from rfl, if_pos (nI_le (Nat.le_refl _) (by omega))]
      exact ⟨_, rfl, h⟩
    · rw [show (7827 : Int32) = nI 7827 from rfl, if_neg (nI_ge (by omega) (by omega)), dr_ok hM.2.1 hM2.1.1, nI_add, ha.2, ck_n (by omega) (by omega), hM2.1.2, ck_n (by omega) (by omega), ss_ok, lt_ok, nI_clamp (by omega), nI_clamp (by omega), ad1]
      refine IH (7827 - (i + 1)) _ (by omega) ⟨i + 1, rfl, by omega, rfl, fun x j => ?_⟩
      rw [gi_si, h, h, if_neg (show ¬ (a = 396 ∧ off + i < i) by omega)]
      by_cases hx : x = 396
      · by_cases hj : j = i
        · rw [if_pos ⟨hx, hj⟩, if_pos (by omega), hj]
        · rw [if_neg (by omega)]
          by_cases hj2 : j < i
          · rw [if_pos (by omega), if_pos (by omega)]
          · rw [if_neg (by omega), if_neg (by omega)]
      · rw [if_neg (by omega), if_neg (by omega), if_neg (by omega)]
/-- a row more to undo -/
theorem mrem {E : En} (hM : LMod E) (hM2 : LMo2 E) {p : Nat} {σ : Sg} (hp : p ≤ 8) (h4 : gi σ 395 4 = nI p) : ∃ σ', fX7_remembers E 395 σ = some σ' ∧ gi σ' 395 4 = nI (if p = 8 then 8 else p + 1) ∧ (∀ x k, ¬ (x = 395 ∧ k = 4) → x ≠ 398 → gi σ' x k = gi σ x k) ∧
    (∀ j, j < 7827 → gi σ' 398 (7827 * (if p = 8 then 7 else p) + j) = gi σ 396 j) ∧ ∀ j, j < 7827 * (if p = 8 then 7 else p) → gi σ' 398 j = gi σ 398 (if p = 8 then j + 7827 else j) := by
  unfold fX7_remembers
  rw [tk_ok hM.1, h4]
  by_cases hc : p = 8
  · subst hc
    rw [if_neg (fun q => q rfl)]
    have key := fx_ok (F := fun (rec : Int32 × Sg → Option (Int32 × Sg)) (b : Int32 × Sg) => bX7_remembers_13 E 395 (fun u0 t => rec (u0, t)) b.1 b.2) (fun k b => ∃ i, b.1 = nI (7827 + i) ∧ i ≤ 54789 ∧ k = 54789 - i ∧ ∀ x j, gi b.2 x j = if x = 398 ∧ j < i then gi σ 398 (j + 7827) else gi σ x j) (fun b => ∀ x j, gi b.2 x j = if x = 398 ∧ j < 54789 then gi σ 398 (j + 7827) else gi σ x j) ?_ FU 54789 ((7827 : Int32), σ) (by show 54789 < 1000000; omega) ⟨0, rfl, by omega, by omega, fun x j => by rw [if_neg (by omega)]⟩
    · obtain ⟨⟨v, s⟩, e, h⟩ := key
      dsimp only at h
      have h40 : gi s 395 4 = nI 8 := by rw [h, if_neg (by omega), h4]
      rw [e, bd_ok, ss_ok, bd_ok, dr_ok hM.2.2.2.1 hM2.2.2.1.1, gs_eq, h40, show (1 : Int32) = nI 1 from rfl, sub_n (by omega), show (7827 : Int32) = nI 7827 from rfl, pk_mul]
      obtain ⟨s3, e3, g3⟩ := mkeep hM hM2 (σ := si s 395 4 (nI (8 - 1))) (a := 398) (off := 7827 * (8 - 1)) hM2.2.2.1 (by omega) (by omega) (by omega)
      rw [e3, bv_ok, ss_ok, g3, if_neg (by omega), gs_eq]
      refine ⟨_, rfl, ?_, fun x k q1 q2 => ?_, fun j hj => ?_, fun j hj => ?_⟩
      · rw [gs_eq]; rfl
      · rw [gs_ne (by omega), g3, if_neg (by omega), gs_ne (by omega), h, if_neg (by omega)]
      · rw [if_pos rfl, gs_ne (by omega), g3, if_pos (by omega), gs_ne (by omega), h, if_neg (by omega), show 7827 * 7 + j - 7827 * (8 - 1) = j by omega]
      · rw [if_pos rfl] at hj ⊢
        rw [gs_ne (by omega), g3, if_neg (by omega), gs_ne (by omega), h, if_pos (by omega)]
    · rintro k ⟨v, s⟩ rec ⟨i, hi, hi2, rfl, h⟩ IH
      dsimp only at hi h ⊢
      subst hi
      unfold bX7_remembers_13
      by_cases hc : i = 54789
      · subst hc
        rw [show (62616 : Int32) = nI 62616 from rfl, if_pos (nI_le (by omega) (by omega))]
        exact ⟨_, rfl, h⟩
      · rw [show (62616 : Int32) = nI 62616 from rfl, if_neg (nI_ge (by omega) (by omega)), dr_ok hM.2.2.2.1 hM2.2.2.1.1, hM2.2.2.1.2, ck_n (by omega) (by omega), show (7827 : Int32) = nI 7827 from rfl, sub_n (by omega), ck_n (by omega) (by omega), ss_ok, lt_ok, nI_clamp (by omega), nI_clamp (by omega), ad1]
        refine IH (54789 - (i + 1)) _ (by omega) ⟨i + 1, rfl, by omega, rfl, fun x j => ?_⟩
        rw [gi_si, h, h, if_neg (show ¬ (398 = 398 ∧ 7827 + i < i) by omega)]
        by_cases hx : x = 398
        · by_cases hj : j = i
          · rw [if_pos (by omega), if_pos (by omega), hj, Nat.add_comm]
          · rw [if_neg (by omega)]
            by_cases hj2 : j < i
            · rw [if_pos (by omega), if_pos (by omega)]
            · rw [if_neg (by omega), if_neg (by omega)]
        · rw [if_neg (by omega), if_neg (by omega), if_neg (by omega)]
  · rw [if_pos (show ¬ nI p = 8 from fun q => hc ((nI_eq (by omega) (by omega)).mp q)), bd_ok, dr_ok hM.2.2.2.1 hM2.2.2.1.1, h4, show (7827 : Int32) = nI 7827 from rfl, pk_mul]
    obtain ⟨s3, e3, g3⟩ := mkeep hM hM2 (σ := σ) (a := 398) (off := 7827 * p) hM2.2.2.1 (by omega) (by omega) (by omega)
    rw [e3, bv_ok, ss_ok, g3, if_neg (by omega), h4, ad1]
    refine ⟨_, rfl, ?_, fun x k q1 q2 => ?_, fun j hj => ?_, fun j hj => ?_⟩
    · rw [gs_eq, if_neg hc]
    · rw [gs_ne (by omega), g3, if_neg (by omega)]
    · rw [if_neg hc, gs_ne (by omega), g3, if_pos (by omega), show 7827 * p + j - 7827 * p = j by omega]
    · rw [if_neg hc] at hj ⊢
      rw [gs_ne (by omega), g3, if_neg (by omega)]
theorem m_many {E : En} (hM : LMod E) (hM2 : LMo2 E) {σ : Sg} : fX7_many E 395 σ = some (gi σ 396 0, σ) := by
  unfold fX7_many
  rw [tk_ok hM.1, dr_ok hM.2.1 hM2.1.1, hM2.1.2, show (0 : Int32) = nI 0 from rfl, ck_n (by omega) (by omega), nI_clamp (by omega)]
theorem m_room {E : En} (hM : LMod E) (hM2 : LMo2 E) {σ : Sg} : fX7_room E 395 σ = some (gi σ 396 1, σ) := by
  unfold fX7_room
  rw [tk_ok hM.1, dr_ok hM.2.1 hM2.1.1, hM2.1.2, show (1 : Int32) = nI 1 from rfl, ck_n (by omega) (by omega), nI_clamp (by omega)]
theorem m_tapes {E : En} (hM : LMod E) (hM2 : LMo2 E) {σ : Sg} : fX7_tapes E 395 σ = some (gi σ 396 2, σ) := by
  unfold fX7_tapes
  rw [tk_ok hM.1, dr_ok hM.2.1 hM2.1.1, hM2.1.2, show (2 : Int32) = nI 2 from rfl, ck_n (by omega) (by omega), nI_clamp (by omega)]
theorem m_way {E : En} (hM : LMod E) (hM2 : LMo2 E) {σ : Sg} : fX7_way E 395 σ = some (gi σ 396 3, σ) := by
  unfold fX7_way
  rw [tk_ok hM.1, dr_ok hM.2.1 hM2.1.1, hM2.1.2, show (3 : Int32) = nI 3 from rfl, ck_n (by omega) (by omega), nI_clamp (by omega)]
theorem m_in {E : En} {v l h : Int32} {σ : Sg} : fX7_in E v l h σ = some (if l ≤ v ∧ v ≤ h then 1 else 0, σ) := by
  unfold fX7_in
  by_cases h1 : v < l
  · rw [if_pos h1, bd_ok, kb_0, if_neg (fun q => absurd q.1 (Int32.not_le.mpr h1))]
  · rw [if_neg h1]
    by_cases h2 : h < v
    · rw [if_pos h2, bd_ok, kb_0, if_neg (fun q => absurd q.2 (Int32.not_le.mpr h2))]
    · rw [if_neg h2, bd_ok, kb_1, if_pos ⟨Int32.not_lt.mp h1, Int32.not_lt.mp h2⟩]
theorem m_truth {E : En} {v : Int32} {σ : Sg} : fX7_truth E v σ = some (if v = 0 then 0 else 1, σ) := by
  unfold fX7_truth
  by_cases h : v = 0
  · rw [if_pos h, bd_ok, if_pos h]
  · rw [if_neg h, bd_ok, if_neg h]
