/-! a state is copied -/
theorem acp_n {β : Type} {E : En} {σ : Sg} {a b sp dp n : Nat} {k : Sg → Option β} (h1 : sp + n ≤ ln E a) (h2 : dp + n ≤ ln E b) (h3 : sp < 2 ^ 31 ∧ dp < 2 ^ 31 ∧ n < 2 ^ 31) : acp E σ a (nI sp) b (nI dp) (nI n) k = k (sc σ a b sp dp n) := by
  unfold acp
  rw [nI_clamp h3.1, nI_clamp h3.2.1, nI_clamp h3.2.2, if_pos ⟨⟨nI_pos' h3.1, nI_pos' h3.2.1, nI_pos' h3.2.2⟩, h1, h2⟩]
theorem gc_in {σ : Sg} {a b sp dp n j : Nat} (h : dp ≤ j ∧ j < dp + n) : gi (sc σ a b sp dp n) b j = gi σ a (sp + (j - dp)) := by rw [gi_sc, if_pos ⟨rfl, h⟩]
theorem gc_out {σ : Sg} {a b sp dp n x j : Nat} (h : x ≠ b ∨ j < dp ∨ dp + n ≤ j) : gi (sc σ a b sp dp n) x j = gi σ x j := by rw [gi_sc, if_neg (by omega)]
section CP
variable {E : En} {σ : Sg} {w T nr : Nat} {bk : Bool} {gl : Nat → Nat} {A : Mi}
theorem c_cpTape {a b L H : Nat} {l : List Rn} (h0 : LTape E a) (h1 : LTape E b) (hab : a + 2 ≤ b ∨ b + 2 ≤ a) (h : TP σ b bk l L H) : ∃ s, fX5_copyFrom E a b σ = some s ∧ TP s a bk l L H ∧ ∀ x k, x ≠ a → x ≠ a + 1 → gi s x k = gi σ x k := by
  obtain ⟨p1, p2, p3, p4, p5, p6⟩ := h
  unfold fX5_copyFrom
  have e2 : gi (si σ a 1 (nI L)) b 2 = nI H := by rw [gs_ne (by omega)]; exact p2
  rw [tk_ok h0.1, tk_ok h1.1, ss_ok, ss_ok, dr_ok h1.2.1 h1.2.2.1, dr_ok h0.2.1 h0.2.2.1, p1, e2]
  have e3 : gi (si (si σ a 1 (nI L)) a 2 (nI H)) a 1 = nI L := by rw [gs_ne (by omega), gs_eq]
  rw [e3, gs_eq, sub_n p3, acp_n (by rw [h1.2.2.2]; omega) (by rw [h0.2.2.2]; omega) (by omega)]
  refine ⟨_, rfl, ⟨?_, ?_, p3, p4, p5, fun k hk => ?_⟩, fun x k q1 q2 => ?_⟩
  · rw [gc_out (by omega)]; exact e3
  · rw [gc_out (by omega), gs_eq]
  · have := p6 k hk
    have hr : L ≤ (if bk then H - 1 - k else L + k) ∧ (if bk then H - 1 - k else L + k) < H := by cases bk <;> simp <;> omega
    rw [gc_in (by omega), gs_ne (by omega), gs_ne (by omega)]
    rw [show L + ((if bk then H - 1 - k else L + k) - L) = if bk then H - 1 - k else L + k by omega]
    exact this
  · rw [gc_out (by omega), gs_ne (by omega), gs_ne (by omega)]
set_option maxHeartbeats 1000000 in
theorem c_cpMill {m0 m1 N0 N1 : Nat} (h0 : LMill E m0 N0) (h1 : LMill E m1 N1) (hab : m0 + 22 ≤ m1 ∨ m1 + 22 ≤ m0) (hT : T ≤ 6) (hn0 : nr ≤ N0) (hN0 : N0 ≤ 700) (hn1 : nr ≤ N1) (hN1 : N1 ≤ 700) (h : RMl σ m1 w T bk gl nr A) : ∃ s, fX1_copyFrom E m0 m1 σ = some s ∧ RMl s m0 w T bk gl nr A ∧ ∀ x k, (x < m0 ∨ m0 + 22 ≤ x) → gi s x k = gi σ x k := by
  obtain ⟨L, H, ⟨⟨b0, b1, b2, b3, b7⟩, ⟨k9, k11, kop⟩, htp, hkc⟩, hl0, hD, h8, t0, t1, t2, t3⟩ := h
  obtain ⟨l0, l4, l10, l12, l13, l17, l18, l5, l6, a1, a2, a3, a4, a5, a7, a8, a9, ltp⟩ := id h0
  obtain ⟨r0, r4, r10, r12, r13, r17, r18, r5, r6, c1, c2, c3, c4, c5, c7, c8, c9, rtp⟩ := id h1
  unfold fX1_copyFrom
  rw [tk_ok l0, tk_ok r0, ss_ok, ss_ok, ss_ok]
  have v1 : gi (si σ m0 0 (gi σ m1 0)) m1 1 = nI T := by rw [gs_ne (by omega)]; exact b1
  rw [v1, b0]
  have v2 : gi (si (si σ m0 0 (nI w)) m0 1 (nI T)) m1 2 = nI (T / 2) := by rw [gs_ne (by omega), gs_ne (by omega)]; exact b2
  rw [v2]
  generalize hs3 : si (si (si σ m0 0 (nI w)) m0 1 (nI T)) m0 2 (nI (T / 2)) = s3
  have f3 : ∀ x k, x ≠ m0 → gi s3 x k = gi σ x k := fun x k q => by rw [← hs3, gs_ne (by omega), gs_ne (by omega), gs_ne (by omega)]
  have g30 : gi s3 m0 0 = nI w := by rw [← hs3, gs_ne (by omega), gs_ne (by omega), gs_eq]
  have g31 : gi s3 m0 1 = nI T := by rw [← hs3, gs_ne (by omega), gs_eq]
  have g32 : gi s3 m0 2 = nI (T / 2) := by rw [← hs3, gs_eq]
  rw [f3 m1 3 (by omega), b3, kb_b, ss_ok, dr_ok l5 a8.1, ss_ok, ss_ok, ss_ok]
  have v7 : gi (si s3 m0 3 (bI bk)) m1 7 = nI nr := by rw [gs_ne (by omega), f3 _ _ (by omega)]; exact b7
  rw [v7, a8.2, imin_n (by omega) (by omega), Nat.min_eq_left hn0]
  have v8 : gi (si (si s3 m0 3 (bI bk)) m0 7 (nI nr)) m1 8 = nI (lef T (mK A)) := by rw [gs_ne (by omega), gs_ne (by omega), f3 _ _ (by omega)]; exact h8
  rw [v8]
  have v9 : gi (si (si (si s3 m0 3 (bI bk)) m0 7 (nI nr)) m0 8 (nI (lef T (mK A)))) m1 9 = nI (kto (mK A)) := by rw [gs_ne (by omega), gs_ne (by omega), gs_ne (by omega), f3 _ _ (by omega)]; exact k9
  rw [v9]
  generalize hs9 : si (si (si (si s3 m0 3 (bI bk)) m0 7 (nI nr)) m0 8 (nI (lef T (mK A)))) m0 9 (nI (kto (mK A))) = s9
  have f9 : ∀ x k, x ≠ m0 → gi s9 x k = gi σ x k := fun x k q => by rw [← hs9, gs_ne (by omega), gs_ne (by omega), gs_ne (by omega), gs_ne (by omega), f3 _ _ q]
  have g9 : gi s9 m0 0 = nI w ∧ gi s9 m0 1 = nI T ∧ gi s9 m0 2 = nI (T / 2) ∧ gi s9 m0 3 = bI bk ∧ gi s9 m0 7 = nI nr ∧ gi s9 m0 8 = nI (lef T (mK A)) ∧ gi s9 m0 9 = nI (kto (mK A)) := by
    rw [← hs9]
    refine ⟨?_, ?_, ?_, ?_, ?_, ?_, gs_eq⟩
    · rw [gs_ne (by omega), gs_ne (by omega), gs_ne (by omega), gs_ne (by omega)]; exact g30
    · rw [gs_ne (by omega), gs_ne (by omega), gs_ne (by omega), gs_ne (by omega)]; exact g31
    · rw [gs_ne (by omega), gs_ne (by omega), gs_ne (by omega), gs_ne (by omega)]; exact g32
    · rw [gs_ne (by omega), gs_ne (by omega), gs_ne (by omega), gs_eq]
    · rw [gs_ne (by omega), gs_ne (by omega), gs_eq]
    · rw [gs_ne (by omega), gs_eq]
  rw [f9 m1 11 (by omega), k11, kb_b, ss_ok, dr_ok r5 c8.1]
  have v11 : gi (si s9 m0 11 (bI (klo (mK A)))) m0 7 = nI nr := by rw [gs_ne (by omega)]; exact g9.2.2.2.2.1
  rw [v11, i0, acp_n (by rw [c8.2]; omega) (by rw [a8.2]; omega) (by omega), dr_ok r12 c3.1, dr_ok l12 a3.1, i6, acp_n (by rw [c3.2]; omega) (by rw [a3.2]; omega) (by omega)]
  generalize hs16 : sc (sc (si s9 m0 11 (bI (klo (mK A)))) (m1 + 8) (m0 + 8) 0 0 nr) (m1 + 3) (m0 + 3) 0 0 6 = s16
  have f16 : ∀ x k, x ≠ m0 → x ≠ m0 + 3 → x ≠ m0 + 8 → gi s16 x k = gi σ x k := fun x k q1 q2 q3 => by rw [← hs16, gc_out (by omega), gc_out (by omega), gs_ne (by omega), f9 _ _ q1]
  have g16m : ∀ k, gi s16 m0 k = gi (si s9 m0 11 (bI (klo (mK A)))) m0 k := fun k => by rw [← hs16, gc_out (by omega), gc_out (by omega)]
  have g168 : ∀ j, j < nr → gi s16 (m0 + 8) j = gi σ (m1 + 8) j := fun j hj => by rw [← hs16, gc_out (by omega), gc_in (by omega), gs_ne (by omega), f9 _ _ (by omega), show 0 + (j - 0) = j by omega]
  have g163 : ∀ j, j < 6 → gi s16 (m0 + 3) j = gi σ (m1 + 3) j := fun j hj => by rw [← hs16, gc_in (by omega), gc_out (by omega), gs_ne (by omega), f9 _ _ (by omega), show 0 + (j - 0) = j by omega]
  refine bd_in nr (fun i b => b.1 = nI i ∧ (∀ j, j < i → gi b.2 (m0 + 9) j = vp_nar .boolean (gi σ (m1 + 9) j)) ∧ ∀ x k, x ≠ m0 + 9 → gi b.2 x k = gi s16 x k)
    (fun b => (∀ j, j < nr → gi b.2 (m0 + 9) j = vp_nar .boolean (gi σ (m1 + 9) j)) ∧ ∀ x k, x ≠ m0 + 9 → gi b.2 x k = gi s16 x k) (by show nr < 1000000; omega) ⟨rfl, fun j hj => absurd hj (Nat.not_lt_zero j), fun _ _ _ => rfl⟩ ?_ ?_ ?_
  · rintro i ⟨v, s⟩ rec hi ⟨rfl, q1, q2⟩
    dsimp only at q1 q2 ⊢
    unfold bX1_copyFrom_106
    rw [q2 _ _ (by omega), g16m, gs_ne (by omega), g9.2.2.2.2.1, if_neg (nI_ge hi (by omega)), dr_ok l6 a9.1, dr_ok r6 c9.1, c9.2, a9.2, ck_n (by omega) (by omega), ck_n (by omega) (by omega), nI_clamp (by omega), q2 _ _ (by omega), f16 _ _ (by omega) (by omega) (by omega), ss_ok, lt_ok, ad1]
    refine ⟨_, rfl, rfl, fun j hj => ?_, fun x k hx => by dsimp only; rw [gs_ne (by omega)]; exact q2 x k hx⟩
    dsimp only
    by_cases hji : j = i
    · subst hji; rw [gs_eq]
    · rw [gs_ne (by omega)]; exact q1 j (by omega)
  · rintro ⟨v, s⟩ rec ⟨rfl, q1, q2⟩
    dsimp only at q1 q2 ⊢
    unfold bX1_copyFrom_106
    rw [q2 _ _ (by omega), g16m, gs_ne (by omega), g9.2.2.2.2.1, if_pos (nI_le (Nat.le_refl _) (by omega))]
    exact ⟨_, rfl, q1, q2⟩
  · rintro v s17 ⟨q1, q2⟩
    dsimp only at q1 q2
    have f17 : ∀ x k, (x < m0 ∨ m0 + 22 ≤ x) → gi s17 x k = gi σ x k := fun x k q => by rw [q2 _ _ (by omega), f16 _ _ (by omega) (by omega) (by omega)]
    refine bd_in 6 (fun i b => b.1 = nI i ∧ (∀ t, t < i → TP b.2 (m0 + 10 + 2 * t) bk (mT A t) (L t) (H t)) ∧ (∀ t, t < i → gi b.2 (m0 + 2) t = vp_nar .boolean (gi σ (m1 + 2) t)) ∧ ∀ x k, ¬ (m0 + 10 ≤ x ∧ x < m0 + 22) → x ≠ m0 + 2 → gi b.2 x k = gi s17 x k)
      (fun b => (∀ t, t < 6 → TP b.2 (m0 + 10 + 2 * t) bk (mT A t) (L t) (H t)) ∧ (∀ t, t < 6 → gi b.2 (m0 + 2) t = vp_nar .boolean (gi σ (m1 + 2) t)) ∧ ∀ x k, ¬ (m0 + 10 ≤ x ∧ x < m0 + 22) → x ≠ m0 + 2 → gi b.2 x k = gi s17 x k) (by show 6 < 1000000; omega) ⟨rfl, fun j hj => absurd hj (Nat.not_lt_zero j), fun j hj => absurd hj (Nat.not_lt_zero j), fun _ _ _ _ => rfl⟩ ?_ ?_ ?_
    · rintro i ⟨v, s⟩ rec hi ⟨rfl, w1, w2, w3⟩
      dsimp only at w1 w2 w3 ⊢
      obtain ⟨lt1, lt2⟩ := ltp i hi
      obtain ⟨rt1, rt2⟩ := rtp i hi
      obtain ⟨s2, e2, x2, f2⟩ := c_cpTape (σ := s) lt2 rt2 (by omega) (tp_fr (htp i hi) (fun k => by rw [w3 _ _ (by omega) (by omega), f17 _ _ (by omega)]) (fun k => by rw [w3 _ _ (by omega) (by omega), f17 _ _ (by omega)]))
      unfold bX1_copyFrom_134
      rw [i6, if_neg (nI_ge hi (by omega)), dr_ok l4 a1.1, a1.2, ck_n (by omega) (by omega), nI_clamp (by omega), dr_ok lt1 lt2.1, dr_ok r4 c1.1, c1.2, ck_n (by omega) (by omega), dr_ok rt1 rt2.1, e2, bv_ok, dr_ok l10 a2.1, dr_ok r10 c2.1, c2.2, a2.2, ck_n (by omega) (by omega), ck_n (by omega) (by omega), f2 _ _ (by omega) (by omega), w3 _ _ (by omega) (by omega), f17 _ _ (by omega), ss_ok, lt_ok, ad1]
      refine ⟨_, rfl, rfl, fun t ht => ?_, fun t ht => ?_, fun x k z1 z2 => ?_⟩
      · dsimp only
        by_cases hti : t = i
        · subst hti; exact tp_fr x2 (fun k => gs_ne (by omega)) (fun k => gs_ne (by omega))
        · exact tp_fr (w1 t (by omega)) (fun k => by rw [gs_ne (by omega), f2 _ _ (by omega) (by omega)]) (fun k => by rw [gs_ne (by omega), f2 _ _ (by omega) (by omega)])
      · dsimp only
        by_cases hti : t = i
        · subst hti; rw [gs_eq]
        · rw [gs_ne (by omega), f2 _ _ (by omega) (by omega)]; exact w2 t (by omega)
      · dsimp only; rw [gs_ne (by omega), f2 _ _ (by omega) (by omega)]; exact w3 x k z1 z2
    · rintro ⟨v, s⟩ rec ⟨rfl, w⟩
      unfold bX1_copyFrom_134
      rw [i6, if_pos (nI_le (Nat.le_refl _) (by omega))]
      exact ⟨_, rfl, w⟩
    · rintro v s18 ⟨w1, w2, w3⟩
      dsimp only at w1 w2 w3
      have gm : ∀ k, gi s18 m0 k = gi (si s9 m0 11 (bI (klo (mK A)))) m0 k := fun k => by rw [w3 _ _ (by omega) (by omega), q2 _ _ (by omega), g16m]
      have g3 : ∀ j, j < 6 → gi s18 (m0 + 3) j = gi σ (m1 + 3) j := fun j hj => by rw [w3 _ _ (by omega) (by omega), q2 _ _ (by omega)]; exact g163 j hj
      obtain ⟨y0, y1, y2, y3, y7, y8, y9⟩ := g9
      refine ⟨s18, rfl, ⟨L, H, ⟨⟨?_, ?_, ?_, ?_, ?_⟩, ⟨?_, ?_, fun t ht => ?_⟩, w1, hkc⟩, hl0, fun t ht r hr => ?_, ?_, ?_, ?_, ?_, ?_⟩, fun x k q => ?_⟩
      · rw [gm, gs_ne (by omega)]; exact y0
      · rw [gm, gs_ne (by omega)]; exact y1
      · rw [gm, gs_ne (by omega)]; exact y2
      · rw [gm, gs_ne (by omega)]; exact y3
      · rw [gm, gs_ne (by omega)]; exact y7
      · rw [gm, gs_ne (by omega)]; exact y9
      · rw [gm, gs_eq]
      · rw [w2 t (by omega), kop t ht, nar_b]
      · obtain ⟨d1, d2⟩ := hD t ht r hr
        refine ⟨d1, fun i l hz => ?_⟩
        obtain ⟨z1, z2, z3⟩ := d2 i l hz
        refine ⟨z1, ?_, ?_⟩
        · rw [w3 _ _ (by omega) (by omega), q2 _ _ (by omega), g168 i z1]; exact z2
        · rw [w3 _ _ (by omega) (by omega), q1 i z1, z3, nar_b]
      · rw [gm, gs_ne (by omega)]; exact y8
      · rw [g3 _ (by omega)]; exact t0
      · rw [g3 _ (by omega)]; exact t1
      · rw [g3 _ (by omega)]; exact t2
      · rw [g3 _ (by omega)]; exact t3
      · rw [w3 _ _ (by omega) (by omega)]; exact f17 x k q
end CP
