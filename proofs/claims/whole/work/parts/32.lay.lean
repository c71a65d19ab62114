/-! the class lays runs out: empty tapes, lengths -/
def LD (σ : Sg) (m w T : Nat) (bk : Bool) (nr : Nat) (gl : Nat → Nat) (tu : Bool) : Prop := MB σ m w T bk nr ∧ (∀ t, t < 6 → gi σ (m + 10 + 2 * t) 1 = nI 0 ∧ gi σ (m + 10 + 2 * t) 2 = nI 0) ∧ (∀ t, t < 6 → gi σ (m + 7) t = nI 0) ∧ (∀ k, k < 6 → gi σ (m + 3) k = nI 0) ∧ ∀ j, j < nr → gi σ (m + 8) j = nI (gl j) ∧ gi σ (m + 9) j = bI (tu && (j % 2 == 1))
section LY
variable {E : En} {m N w T nr : Nat} {σ : Sg} {bk fr tu : Bool} {gl : Nat → Nat}
theorem c_begin (hL : LMill E m N) (hT3 : 3 ≤ T) (hT : T ≤ 6) : ∃ s, fX1_begin E m (nI w) (nI T) (bI bk) σ = some s ∧ LD s m w T bk 0 gl tu ∧ ∀ x k, (x < m ∨ m + 22 ≤ x) → gi s x k = gi σ x k := by
  obtain ⟨l0, l4, l10, l12, l13, l17, l18, l5, l6, a1, a2, a3, a4, a5, a7, a8, a9, ltp⟩ := id hL
  unfold fX1_begin
  rw [tk_ok l0, ss_ok, ss_ok, ss_ok, kb_b, ss_ok, ss_ok, ss_ok, i3, i6, i2, imin_n (by omega) (by omega), imax_n (by omega) (by omega), show max 3 (min T 6) = T by omega, gs_eq, pk_div (by omega) (by omega) (by omega)]
  generalize hs : si (si (si (si (si (si σ m 0 (nI w)) m 1 (nI T)) m 2 (nI (T / 2))) m 3 (bI bk)) m 7 0) m 8 0 = s1
  have b1 : MB s1 m w T bk 0 := by
    rw [← hs]
    refine ⟨?_, ?_, ?_, ?_, ?_⟩
    · simp (disch := omega) only [i0, i1, i2, i3, i4, i5, i6, i7, i8, mle, mlt, meq, if_pos, if_neg, dr_s, tk_s, ck_m, nI_clamp, lt_ok, ss_ok, nI_add, pk_mul, sub_n, bd_ok, bv_ok, gs_ne, gs_eq]
    · simp (disch := omega) only [i0, i1, i2, i3, i4, i5, i6, i7, i8, mle, mlt, meq, if_pos, if_neg, dr_s, tk_s, ck_m, nI_clamp, lt_ok, ss_ok, nI_add, pk_mul, sub_n, bd_ok, bv_ok, gs_ne, gs_eq]
    · simp (disch := omega) only [i0, i1, i2, i3, i4, i5, i6, i7, i8, mle, mlt, meq, if_pos, if_neg, dr_s, tk_s, ck_m, nI_clamp, lt_ok, ss_ok, nI_add, pk_mul, sub_n, bd_ok, bv_ok, gs_ne, gs_eq]
    · simp (disch := omega) only [i0, i1, i2, i3, i4, i5, i6, i7, i8, mle, mlt, meq, if_pos, if_neg, dr_s, tk_s, ck_m, nI_clamp, lt_ok, ss_ok, nI_add, pk_mul, sub_n, bd_ok, bv_ok, gs_ne, gs_eq]
    · simp (disch := omega) only [i0, i1, i2, i3, i4, i5, i6, i7, i8, mle, mlt, meq, if_pos, if_neg, dr_s, tk_s, ck_m, nI_clamp, lt_ok, ss_ok, nI_add, pk_mul, sub_n, bd_ok, bv_ok, gs_ne, gs_eq]
  have f1 : ∀ x k, x ≠ m → gi s1 x k = gi σ x k := fun x k h => by rw [← hs]; simp (disch := omega) only [i0, i1, i2, i3, i4, i5, i6, i7, i8, mle, mlt, meq, if_pos, if_neg, dr_s, tk_s, ck_m, nI_clamp, lt_ok, ss_ok, nI_add, pk_mul, sub_n, bd_ok, bv_ok, gs_ne, gs_eq]
  refine bd_in 6 (fun i b => b.1 = nI i ∧ (∀ t, t < i → gi b.2 (m + 10 + 2 * t) 1 = nI 0 ∧ gi b.2 (m + 10 + 2 * t) 2 = nI 0) ∧ (∀ t, t < i → gi b.2 (m + 7) t = nI 0) ∧ ∀ x k, ¬ (m + 10 ≤ x ∧ x < m + 22) → x ≠ m + 7 → gi b.2 x k = gi s1 x k)
    (fun b => (∀ t, t < 6 → gi b.2 (m + 10 + 2 * t) 1 = nI 0 ∧ gi b.2 (m + 10 + 2 * t) 2 = nI 0) ∧ (∀ t, t < 6 → gi b.2 (m + 7) t = nI 0) ∧ ∀ x k, ¬ (m + 10 ≤ x ∧ x < m + 22) → x ≠ m + 7 → gi b.2 x k = gi s1 x k) (by show 6 < 1000000; omega) ⟨rfl, fun t ht => absurd ht (Nat.not_lt_zero t), fun t ht => absurd ht (Nat.not_lt_zero t), fun _ _ _ _ => rfl⟩ ?_ ?_ ?_
  · rintro i ⟨v, s⟩ rec hi ⟨rfl, q1, q2, q3⟩
    dsimp only at q1 q2 q3 ⊢
    obtain ⟨lt1, lt2⟩ := ltp i (by omega)
    unfold bX1_begin_47
    rw [i6, if_neg (nI_ge hi (by omega)), dr_ok l4 a1.1, a1.2, ck_n (by omega) (by omega), nI_clamp (by omega), dr_ok lt1 lt2.1, tape_wipe lt2, bv_ok, dr_ok l18 a7.1, a7.2, ck_n (by omega) (by omega), ss_ok, lt_ok, ad1]
    refine ⟨_, rfl, rfl, fun t ht => ?_, fun t ht => ?_, fun x k h1 h2 => ?_⟩
    · dsimp only
      by_cases hti : t = i
      · subst hti; simp (disch := omega) only [i0, i1, i2, i3, i4, i5, i6, i7, i8, mle, mlt, meq, if_pos, if_neg, dr_s, tk_s, ck_m, nI_clamp, lt_ok, ss_ok, nI_add, pk_mul, sub_n, bd_ok, bv_ok, gs_ne, gs_eq]; exact ⟨trivial, trivial⟩
      · simp (disch := omega) only [i0, i1, i2, i3, i4, i5, i6, i7, i8, mle, mlt, meq, if_pos, if_neg, dr_s, tk_s, ck_m, nI_clamp, lt_ok, ss_ok, nI_add, pk_mul, sub_n, bd_ok, bv_ok, gs_ne, gs_eq]; exact q1 t (by omega)
    · dsimp only
      by_cases hti : t = i
      · subst hti; simp (disch := omega) only [i0, i1, i2, i3, i4, i5, i6, i7, i8, mle, mlt, meq, if_pos, if_neg, dr_s, tk_s, ck_m, nI_clamp, lt_ok, ss_ok, nI_add, pk_mul, sub_n, bd_ok, bv_ok, gs_ne, gs_eq]
      · simp (disch := omega) only [i0, i1, i2, i3, i4, i5, i6, i7, i8, mle, mlt, meq, if_pos, if_neg, dr_s, tk_s, ck_m, nI_clamp, lt_ok, ss_ok, nI_add, pk_mul, sub_n, bd_ok, bv_ok, gs_ne, gs_eq]; exact q2 t (by omega)
    · dsimp only; simp (disch := omega) only [i0, i1, i2, i3, i4, i5, i6, i7, i8, mle, mlt, meq, if_pos, if_neg, dr_s, tk_s, ck_m, nI_clamp, lt_ok, ss_ok, nI_add, pk_mul, sub_n, bd_ok, bv_ok, gs_ne, gs_eq]; exact q3 x k h1 h2
  · rintro ⟨v, s⟩ rec ⟨rfl, q⟩
    unfold bX1_begin_47
    rw [i6, if_pos (nI_le (Nat.le_refl _) (by omega))]
    exact ⟨_, rfl, q⟩
  · rintro v s ⟨q1, q2, q3⟩
    dsimp only at q1 q2 q3
    refine bd_in 6 (fun i b => b.1 = nI i ∧ (∀ k, k < i → gi b.2 (m + 3) k = nI 0) ∧ ∀ x k, x ≠ m + 3 → gi b.2 x k = gi s x k) (fun b => (∀ k, k < 6 → gi b.2 (m + 3) k = nI 0) ∧ ∀ x k, x ≠ m + 3 → gi b.2 x k = gi s x k) (by show 6 < 1000000; omega) ⟨rfl, fun t ht => absurd ht (Nat.not_lt_zero t), fun _ _ _ => rfl⟩ ?_ ?_ ?_
    · rintro i ⟨v, s⟩ rec hi ⟨rfl, g1, g2⟩
      dsimp only at g1 g2 ⊢
      unfold bX1_begin_81
      rw [i6, if_neg (nI_ge hi (by omega)), dr_ok l12 a3.1, a3.2, ck_n (by omega) (by omega), nI_clamp (by omega), ss_ok, lt_ok, ad1]
      refine ⟨_, rfl, rfl, fun t ht => ?_, fun x k h1 => ?_⟩
      · dsimp only
        by_cases hti : t = i
        · subst hti; simp (disch := omega) only [i0, i1, i2, i3, i4, i5, i6, i7, i8, mle, mlt, meq, if_pos, if_neg, dr_s, tk_s, ck_m, nI_clamp, lt_ok, ss_ok, nI_add, pk_mul, sub_n, bd_ok, bv_ok, gs_ne, gs_eq]
        · simp (disch := omega) only [i0, i1, i2, i3, i4, i5, i6, i7, i8, mle, mlt, meq, if_pos, if_neg, dr_s, tk_s, ck_m, nI_clamp, lt_ok, ss_ok, nI_add, pk_mul, sub_n, bd_ok, bv_ok, gs_ne, gs_eq]; exact g1 t (by omega)
      · dsimp only; simp (disch := omega) only [i0, i1, i2, i3, i4, i5, i6, i7, i8, mle, mlt, meq, if_pos, if_neg, dr_s, tk_s, ck_m, nI_clamp, lt_ok, ss_ok, nI_add, pk_mul, sub_n, bd_ok, bv_ok, gs_ne, gs_eq]; exact g2 x k h1
    · rintro ⟨v, s⟩ rec ⟨rfl, q⟩
      unfold bX1_begin_81
      rw [i6, if_pos (nI_le (Nat.le_refl _) (by omega))]
      exact ⟨_, rfl, q⟩
    · rintro v s' ⟨g1, g2⟩
      dsimp only at g1 g2
      have fz : ∀ k, gi s' m k = gi s1 m k := fun k => by rw [g2 _ _ (by omega), q3 _ _ (by omega) (by omega)]
      refine ⟨s', rfl, ⟨⟨?_, ?_, ?_, ?_, ?_⟩, fun t ht => ?_, fun t ht => ?_, g1, fun j hj => absurd hj (Nat.not_lt_zero j)⟩, fun x k h => ?_⟩
      · rw [fz]; exact b1.1
      · rw [fz]; exact b1.2.1
      · rw [fz]; exact b1.2.2.1
      · rw [fz]; exact b1.2.2.2.1
      · rw [fz]; exact b1.2.2.2.2
      · rw [g2 _ _ (by omega), g2 _ _ (by omega)]; exact q1 t ht
      · rw [g2 _ _ (by omega)]; exact q2 t ht
      · rw [g2 _ _ (by omega), q3 _ _ (by omega) (by omega), f1 _ _ (by omega)]
theorem c_load (hL : LMill E m N) (h : LD σ m w T bk nr gl tu) (hn : nr < N) (hN : N ≤ 700) : ∃ s, fX1_load E m (nI (gl nr)) (bI (tu && (nr % 2 == 1))) σ = some s ∧ LD s m w T bk (nr + 1) gl tu ∧ ∀ x k, (x < m ∨ m + 22 ≤ x) → gi s x k = gi σ x k := by
  obtain ⟨l0, l4, l10, l12, l13, l17, l18, l5, l6, a1, a2, a3, a4, a5, a7, a8, a9, ltp⟩ := id hL
  obtain ⟨⟨b0, b1, b2, b3, b7⟩, h2, h3, h4, h5⟩ := h
  unfold fX1_load
  rw [tk_ok l0, dr_ok l5 a8.1, a8.2, b7, if_neg (nI_ge hn (by omega)), ck_n hn (by omega), nI_clamp (by omega), ss_ok, dr_ok l6 a9.1, a9.2]
  simp (disch := omega) only [i0, i1, i2, i3, i4, i5, i6, i7, i8, mle, mlt, meq, if_pos, if_neg, dr_s, tk_s, ck_m, nI_clamp, lt_ok, ss_ok, nI_add, pk_mul, sub_n, bd_ok, bv_ok, gs_ne, gs_eq, b7, nar_b]
  refine ⟨_, rfl, ⟨⟨?_, ?_, ?_, ?_, ?_⟩, fun t ht => ?_, fun t ht => ?_, fun t ht => ?_, fun j hj => ?_⟩, fun x k h => ?_⟩
  · simp (disch := omega) only [i0, i1, i2, i3, i4, i5, i6, i7, i8, mle, mlt, meq, if_pos, if_neg, dr_s, tk_s, ck_m, nI_clamp, lt_ok, ss_ok, nI_add, pk_mul, sub_n, bd_ok, bv_ok, gs_ne, gs_eq]; exact b0
  · simp (disch := omega) only [i0, i1, i2, i3, i4, i5, i6, i7, i8, mle, mlt, meq, if_pos, if_neg, dr_s, tk_s, ck_m, nI_clamp, lt_ok, ss_ok, nI_add, pk_mul, sub_n, bd_ok, bv_ok, gs_ne, gs_eq]; exact b1
  · simp (disch := omega) only [i0, i1, i2, i3, i4, i5, i6, i7, i8, mle, mlt, meq, if_pos, if_neg, dr_s, tk_s, ck_m, nI_clamp, lt_ok, ss_ok, nI_add, pk_mul, sub_n, bd_ok, bv_ok, gs_ne, gs_eq]; exact b2
  · simp (disch := omega) only [i0, i1, i2, i3, i4, i5, i6, i7, i8, mle, mlt, meq, if_pos, if_neg, dr_s, tk_s, ck_m, nI_clamp, lt_ok, ss_ok, nI_add, pk_mul, sub_n, bd_ok, bv_ok, gs_ne, gs_eq]; exact b3
  · simp (disch := omega) only [i0, i1, i2, i3, i4, i5, i6, i7, i8, mle, mlt, meq, if_pos, if_neg, dr_s, tk_s, ck_m, nI_clamp, lt_ok, ss_ok, nI_add, pk_mul, sub_n, bd_ok, bv_ok, gs_ne, gs_eq]
  · simp (disch := omega) only [i0, i1, i2, i3, i4, i5, i6, i7, i8, mle, mlt, meq, if_pos, if_neg, dr_s, tk_s, ck_m, nI_clamp, lt_ok, ss_ok, nI_add, pk_mul, sub_n, bd_ok, bv_ok, gs_ne, gs_eq]; exact h2 t ht
  · simp (disch := omega) only [i0, i1, i2, i3, i4, i5, i6, i7, i8, mle, mlt, meq, if_pos, if_neg, dr_s, tk_s, ck_m, nI_clamp, lt_ok, ss_ok, nI_add, pk_mul, sub_n, bd_ok, bv_ok, gs_ne, gs_eq]; exact h3 t ht
  · simp (disch := omega) only [i0, i1, i2, i3, i4, i5, i6, i7, i8, mle, mlt, meq, if_pos, if_neg, dr_s, tk_s, ck_m, nI_clamp, lt_ok, ss_ok, nI_add, pk_mul, sub_n, bd_ok, bv_ok, gs_ne, gs_eq]; exact h4 t ht
  · by_cases hj2 : j = nr
    · subst hj2; simp (disch := omega) only [i0, i1, i2, i3, i4, i5, i6, i7, i8, mle, mlt, meq, if_pos, if_neg, dr_s, tk_s, ck_m, nI_clamp, lt_ok, ss_ok, nI_add, pk_mul, sub_n, bd_ok, bv_ok, gs_ne, gs_eq]; exact ⟨trivial, trivial⟩
    · simp (disch := omega) only [i0, i1, i2, i3, i4, i5, i6, i7, i8, mle, mlt, meq, if_pos, if_neg, dr_s, tk_s, ck_m, nI_clamp, lt_ok, ss_ok, nI_add, pk_mul, sub_n, bd_ok, bv_ok, gs_ne, gs_eq]; exact h5 j (by omega)
  · simp (disch := omega) only [i0, i1, i2, i3, i4, i5, i6, i7, i8, mle, mlt, meq, if_pos, if_neg, dr_s, tk_s, ck_m, nI_clamp, lt_ok, ss_ok, nI_add, pk_mul, sub_n, bd_ok, bv_ok, gs_ne, gs_eq]
end LY
