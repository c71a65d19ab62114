/-! the reference goes through a plan: what it notes of stands -/
def sdS (T : Nat) (s : Sk) : List Nat := tab (fun t => if t < T then kc s t else 0) 6
def addU (U : List (List Nat)) (d : List Nat) : List (List Nat) := if U.contains d = true then U else U ++ [d]
def eqU (f g : Nat → Nat) : Nat → Bool
  | 0 => true
  | n + 1 => eqU f g n && (f n == g n)
theorem eqU_iff {f g : Nat → Nat} : ∀ {n : Nat}, eqU f g n = true ↔ ∀ t, t < n → f t = g t
  | 0 => ⟨fun _ t ht => absurd ht (Nat.not_lt_zero t), fun _ => rfl⟩
  | n + 1 => by
    unfold eqU
    rw [Bool.and_eq_true, eqU_iff, beq_iff_eq]
    constructor
    · rintro ⟨h1, h2⟩ t ht
      by_cases hq : t = n
      · subst hq; exact h2
      · exact h1 t (by omega)
    · intro h
      exact ⟨fun t ht => h t (by omega), h n (by omega)⟩
theorem l6_ext {a b : List Nat} {n : Nat} (ha : a.length = n) (hb : b.length = n) (h : ∀ t, t < n → a.getD t 0 = b.getD t 0) : a = b := by
  apply List.ext_getElem (by rw [ha, hb])
  intro i h1 h2
  have := h i (by omega)
  rw [List.getD_eq_getElem?_getD, List.getD_eq_getElem?_getD, List.getElem?_eq_getElem h1, List.getElem?_eq_getElem h2] at this
  exact this
theorem fst_con {U : List (List Nat)} {d : List Nat} : (fstF (fun k => U.getD k [] == d) U.length).isSome = U.contains d := by
  cases h : fstF (fun k => U.getD k [] == d) U.length with
  | some k =>
    obtain ⟨h1, h2, h3⟩ := fstF_some h
    have h2 : U.getD k [] = d := by simpa using h2
    rw [List.getD_eq_getElem?_getD, List.getElem?_eq_getElem h1] at h2
    have h4 : d ∈ U := by rw [← h2]; exact List.getElem_mem h1
    rw [List.contains_iff_mem.mpr h4]; rfl
  | none =>
    have h1 := fstF_none h
    cases hq : U.contains d with
    | false => rfl
    | true =>
      obtain ⟨k, hk, e⟩ := List.getElem_of_mem (List.contains_iff_mem.mp hq)
      have := h1 k hk
      rw [List.getD_eq_getElem?_getD, List.getElem?_eq_getElem hk] at this
      simp only [Option.getD_some, e, beq_self_eq_true] at this
      cases this
theorem sd_len {T : Nat} {s : Sk} : (sdS T s).length = 6 := by unfold sdS tab; simp
theorem sd_at {T t : Nat} {s : Sk} (ht : t < 6) : (sdS T s).getD t 0 = if t < T then kc s t else 0 := by unfold sdS; rw [tab_at ht]
/-- the stands that are noted -/
def UM (σ : Sg) (U : List (List Nat)) : Prop := gi σ 395 20 = nI U.length ∧ ∀ k, k < U.length → (U.getD k []).length = 6 ∧ ∀ t, t < 6 → gi σ 410 (6 * k + t) = nI ((U.getD k []).getD t 0) ∧ (U.getD k []).getD t 0 ≤ 256
theorem um_fr {σ σ' : Sg} {U : List (List Nat)} (h : UM σ U) (h1 : gi σ' 395 20 = gi σ 395 20) (h2 : ∀ k, gi σ' 410 k = gi σ 410 k) : UM σ' U := ⟨h1.trans h.1, fun k hk => ⟨(h.2 k hk).1, fun t ht => ⟨(h2 _).trans ((h.2 k hk).2 t ht).1, ((h.2 k hk).2 t ht).2⟩⟩⟩
section NS
variable {E : En} {σ : Sg} {T : Nat} {s : Sk} {U : List (List Nat)}
theorem m_notes (hM : LMod E) (hM2 : LMo2 E) (hT : T ≤ 6) (h2 : gi σ 396 2 = nI T) (hc : CTm σ T s) (hu : UM σ U) (hl : U.length ≤ 799) : ∃ σ', fX7_notesStand E 395 σ = some σ' ∧ UM σ' (addU U (sdS T s)) ∧ ∀ x k, x ≠ 410 → ¬ (x = 395 ∧ k = 20) → gi σ' x k = gi σ x k := by
  obtain ⟨m0, m1, m2, m3, m4, m5, m6, m7, m8, m9, m10, m11, m12, m13, m14, m15, mz⟩ := id hM
  obtain ⟨n1, n2, n3, n4, n5, n6, n7, n8, n9, n10, n11, n12, n13, n14, n15, nz'⟩ := id hM2
  obtain ⟨u1, u2⟩ := hu
  unfold fX7_notesStand
  rw [tk_ok m0]
  obtain ⟨⟨v, s1⟩, e1, p1, p2⟩ := for_in (F := fun (rec : Int32 × Sg → Option (Int32 × Sg)) (a : Int32 × Sg) => bX7_notesStand_2 E 395 (fun u0 t => rec (u0, t)) a.1 a.2) 6
    (fun i b => b.1 = nI i ∧ (∀ t, t < i → gi b.2 410 (6 * U.length + t) = nI ((sdS T s).getD t 0)) ∧ ∀ x k, ¬ (x = 410 ∧ 6 * U.length ≤ k) → gi b.2 x k = gi σ x k) (fun b => (∀ t, t < 6 → gi b.2 410 (6 * U.length + t) = nI ((sdS T s).getD t 0)) ∧ ∀ x k, ¬ (x = 410 ∧ 6 * U.length ≤ k) → gi b.2 x k = gi σ x k) (N := FU) (by show 6 < 1000000; omega)
    (by
      rintro i ⟨v, s'⟩ rec hi ⟨rfl, q1, q2⟩
      dsimp only at q1 q2 ⊢
      unfold bX7_notesStand_2
      rw [i6, if_neg (nI_ge hi (by omega)), dr_ok m15 n15.1, m_tapes hM hM2, bd_ok, q2 396 2 (by omega), h2, q2 395 20 (by omega), u1, n15.2, pk_mul, nI_add]
      have key : ∀ v, v = nI ((sdS T s).getD i 0) → ∃ a', (ck (nI (6 * U.length + i)) 4800 (ss (si s' 410 (nI (6 * U.length + i)).toNatClampNeg v) (fun s16 => lt (nI i + (1 : Int32)) (fun v17 => rec (v17, s16))))) = rec a' ∧ (a'.1 = nI (i + 1) ∧ (∀ t, t < i + 1 → gi a'.2 410 (6 * U.length + t) = nI ((sdS T s).getD t 0)) ∧ ∀ x k, ¬ (x = 410 ∧ 6 * U.length ≤ k) → gi a'.2 x k = gi σ x k) := by
        intro v hv
        rw [ck_n (by omega) (by omega), nI_clamp (by omega), ss_ok, lt_ok, ad1]
        refine ⟨_, rfl, rfl, fun t ht => ?_, fun x k q => by dsimp only; rw [gs_ne (by omega)]; exact q2 x k q⟩
        dsimp only
        by_cases hti : t = i
        · subst hti; rw [gs_eq, hv]
        · rw [gs_ne (by omega)]; exact q1 t (by omega)
      by_cases hiT : T ≤ i
      · rw [if_pos (nI_le hiT (by omega)), bd_ok]
        exact key _ (by rw [sd_at hi, if_neg (by omega)]; rfl)
      · rw [if_neg (nI_ge (by omega) (by omega)), dr_ok m1 n1.1, n1.2, show (20 : Int32) = nI 20 from rfl, nI_add, ck_n (by omega) (by omega), nI_clamp (by omega), bd_ok]
        have := (hc i (by omega)).1
        exact key _ (by rw [sd_at hi, if_pos (by omega), q2 396 _ (by omega)]; exact this))
    (by
      rintro ⟨v, s'⟩ rec ⟨rfl, q⟩
      unfold bX7_notesStand_2
      rw [i6, if_pos (nI_le (Nat.le_refl _) (by omega))]
      exact ⟨_, rfl, q⟩)
    (a := ((0 : Int32), σ)) ⟨rfl, fun j hj => absurd hj (Nat.not_lt_zero j), fun _ _ _ => rfl⟩
  dsimp only at p1 p2
  have sdb : ∀ t, t < 6 → (sdS T s).getD t 0 ≤ 256 := fun t ht => by
    rw [sd_at ht]
    split
    · next hq => exact (hc t hq).2
    · omega
  have g20 : gi s1 395 20 = nI U.length := by rw [p2 _ _ (by omega)]; exact u1
  have hin : ∀ k, k < U.length → fx (fun rec a => bX7_notesStand_63 E 395 (nI k) (fun u0 u1 t => rec ((u0, u1), t)) a.1.1 a.1.2 a.2) FU (((1 : Int32), (0 : Int32)), s1) = some ((bI (U.getD k [] == sdS T s), nI 6), s1) := by
    intro k hk
    have hb : (U.getD k [] == sdS T s) = eqU (fun t => (U.getD k []).getD t 0) (fun t => (sdS T s).getD t 0) 6 := by
      rw [Bool.eq_iff_iff, beq_iff_eq, eqU_iff]
      exact ⟨fun e t _ => by rw [e], fun e => l6_ext (u2 k hk).1 sd_len e⟩
    rw [hb]
    refine for_tr 6 (fun i => ((bI (eqU (fun t => (U.getD k []).getD t 0) (fun t => (sdS T s).getD t 0) i), nI i), s1)) (by show 6 < 1000000; omega) ?_ ?_ rfl
    · intro i rec hi
      have b1 := ((u2 k hk).2 i hi).2
      have b2 := sdb i hi
      have c1 : gi s1 410 (6 * k + i) = nI ((U.getD k []).getD i 0) := by rw [p2 _ _ (by omega)]; exact ((u2 k hk).2 i hi).1
      have c2 := p1 i hi
      unfold bX7_notesStand_63
      dsimp only
      rw [i6, if_neg (nI_ge hi (by omega))]
      have hs : eqU (fun t => (U.getD k []).getD t 0) (fun t => (sdS T s).getD t 0) (i + 1) = (eqU (fun t => (U.getD k []).getD t 0) (fun t => (sdS T s).getD t 0) i && ((U.getD k []).getD i 0 == (sdS T s).getD i 0)) := rfl
      cases hq : eqU (fun t => (U.getD k []).getD t 0) (fun t => (sdS T s).getD t 0) i with
      | false =>
        rw [if_pos (show bI false = 0 from rfl), bd_ok, lt_ok, ad1, hs, hq]; rfl
      | true =>
        rw [if_neg (by decide), dr_ok m15 n15.1, n15.2, g20, pk_mul, pk_mul, nI_add, nI_add, ck_n (by omega) (by omega), ck_n (by omega) (by omega), nI_clamp (by omega), nI_clamp (by omega), c1, c2, hs, hq]
        by_cases hz : (U.getD k []).getD i 0 = (sdS T s).getD i 0
        · rw [if_neg (by rw [hz]; simp), bd_ok, lt_ok, ad1, hz]; simp; rfl
        · rw [if_pos (fun q => hz ((nI_eq (by omega) (by omega)).mp q)), bd_ok, lt_ok, ad1, show ((U.getD k []).getD i 0 == (sdS T s).getD i 0) = false by simpa using hz]; rfl
    · intro rec
      unfold bX7_notesStand_63
      dsimp only
      rw [i6, if_pos (nI_le (Nat.le_refl _) (by omega))]
  have e2 := for_fst (F := fun (rec : Int32 × Sg → Option ((Int32 ⊕ Unit) × Sg)) (a : Int32 × Sg) => bX7_notesStand_51 E 395 (fun u0 t => rec (u0, t)) a.1 a.2) U.length (fun i => (nI i, s1)) (fun k => U.getD k [] == sdS T s) (fun _ => ((.inr () : Int32 ⊕ Unit), s1)) ((.inl (nI U.length) : Int32 ⊕ Unit), s1) (N := FU) (by show U.length < 1000000; omega)
    (by
      intro i rec hi
      unfold bX7_notesStand_51
      dsimp only
      rw [g20, if_neg (nI_ge hi (by omega)), hin i hi, bd_ok]
      dsimp only
      cases hq : (U.getD i [] == sdS T s) with
      | false => rw [if_pos (show bI false = 0 from rfl), lt_ok, ad1]; rfl
      | true => rw [if_neg (by decide)]; rfl)
    (by
      intro rec
      unfold bX7_notesStand_51
      dsimp only
      rw [g20, if_pos (nI_le (Nat.le_refl _) (by omega))])
    (a := ((0 : Int32), s1)) rfl
  rw [e1, bd_ok, e2]
  have hcn := fst_con (U := U) (d := sdS T s)
  unfold addU
  cases hq : fstF (fun k => U.getD k [] == sdS T s) U.length with
  | some k =>
    rw [hq] at hcn
    rw [← hcn, bd_ok]
    refine ⟨s1, rfl, ?_, fun x k h1 h2 => p2 x k (by omega)⟩
    rw [if_pos (show (some k).isSome = true from rfl)]
    exact ⟨g20, fun k hk => ⟨(u2 k hk).1, fun t ht => ⟨by rw [p2 _ _ (by omega)]; exact ((u2 k hk).2 t ht).1, ((u2 k hk).2 t ht).2⟩⟩⟩
  | none =>
    rw [hq] at hcn
    rw [← hcn, bd_ok]
    dsimp only [sm]
    rw [ss_ok, g20, ad1, if_neg (by simp)]
    refine ⟨_, rfl, ⟨by rw [gs_eq, List.length_append]; rfl, fun k hk => ?_⟩, fun x k h1 h2 => by rw [gs_ne (by omega)]; exact p2 x k (by omega)⟩
    rw [List.length_append, List.length_singleton] at hk
    by_cases hkl : k < U.length
    · have hg : (U ++ [sdS T s]).getD k [] = U.getD k [] := by rw [List.getD_eq_getElem?_getD, List.getD_eq_getElem?_getD, List.getElem?_append_left hkl]
      rw [hg]
      exact ⟨(u2 k hkl).1, fun t ht => ⟨by rw [gs_ne (by omega), p2 _ _ (by omega)]; exact ((u2 k hkl).2 t ht).1, ((u2 k hkl).2 t ht).2⟩⟩
    · have hk2 : k = U.length := by omega
      subst hk2
      have hg : (U ++ [sdS T s]).getD U.length [] = sdS T s := by rw [List.getD_eq_getElem?_getD, List.getElem?_append_right (Nat.le_refl _)]; simp
      rw [hg]
      exact ⟨sd_len, fun t ht => ⟨by rw [gs_ne (by omega)]; exact p1 t ht, sdb t ht⟩⟩
end NS
