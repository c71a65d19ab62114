/-! the class deals by perfect numbers; a mill is laid out -/
section DN
variable {E : En} {m N w T nr l : Nat} {σ : Sg} {bk fr tu : Bool} {gl : Nat → Nat} {tp : Nat → List Rn}
theorem sumF_sub {f g : Nat → Nat} : ∀ {n : Nat}, (∀ t, t < n → g t ≤ f t) → sumF (fun t => f t - g t) n + sumF g n = sumF f n
  | 0, _ => rfl
  | n + 1, h => by
    have ih := sumF_sub (f := f) (g := g) (n := n) (fun t ht => h t (by omega))
    have := h n (by omega)
    unfold sumF
    omega
theorem pfA_sum : sumF (pfA w T l) (T - 1) = smp w (T - 1) l := by
  unfold smp
  refine sumF_congr (fun t ht => ?_)
  unfold pfA
  rw [if_pos ht]
theorem c_numbers (hL : LMill E m N) (h : LD σ m w T bk nr gl tu) (hN5 : NU σ (m + 5) (T - 1) (pfn w (T - 1) l) l) (hT : T ≤ 6) (hT3 : 3 ≤ T) (hn : nr ≤ N) (hN : N ≤ 700) (hnr : nr ≤ smp w (T - 1) l) (hcap : ∀ t, t < T - 1 → pfA w T l t ≤ 256) :
    ∃ s, fX1_dealByNumbers E m (bI fr) σ = some s ∧ TQ s m bk (tpi bk tu (dms (pfA w T l) fr (T - 1) (smp w (T - 1) l - nr)) (dlt (fun t => pfA w T l t - dms (pfA w T l) fr (T - 1) (smp w (T - 1) l - nr) t) (T - 1) nr)) ∧ gi s m 8 = nI (smp w (T - 1) l) ∧ gi s m 9 = nI (T - 1) ∧ gi s (m + 3) 4 = nI (smp w (T - 1) l - nr) ∧ gi s (m + 3) 5 = nI l ∧ ∀ x k, ¬ (m + 5 ≤ x ∧ x ≤ m + 7) → ¬ (m + 10 ≤ x ∧ x < m + 22) → ¬ (x = m ∧ (k = 8 ∨ k = 9)) → ¬ (x = m + 3 ∧ (k = 4 ∨ k = 5)) → gi s x k = gi σ x k := by
  obtain ⟨l0, l4, l10, l12, l13, l17, l18, l5, l6, a1, a2, a3, a4, a5, a7, a8, a9, ltp⟩ := id hL
  obtain ⟨⟨b0, b1, b2, b3, b7⟩, h2, h3, h4, h5⟩ := h
  have hsum := pfA_sum (w := w) (T := T) (l := l)
  have hsm : smp w (T - 1) l ≤ 1280 := by
    rw [← hsum]
    have : ∀ n, n ≤ T - 1 → sumF (pfA w T l) n ≤ 256 * n := by
      intro n
      induction n with
      | zero => intro _; exact Nat.zero_le _
      | succ n ih => intro hn'; have h1 := ih (by omega); have h2 := hcap n (by omega); show sumF _ n + _ ≤ _; rw [Nat.mul_succ]; omega
    have := this (T - 1) (Nat.le_refl _)
    omega
  generalize hpf : pfA w T l = pf at *
  have hat : ∀ t, t < T - 1 → gi σ (m + 6) t = nI (pf t) := fun t ht => by
    rw [hN5.2.2 t ht, ← hpf]; unfold pfA; rw [if_pos ht]
  generalize hSm : smp w (T - 1) l = sm at *
  unfold fX1_dealByNumbers
  rw [tk_ok l0, dr_ok l17 a5.1, n_tog a5 (by omega) hN5, bd_ok]
  rw [show sumF (fun t => (pfn w (T - 1) l).getD t 0) (T - 1) = sm from hSm, ss_ok, dr_ok l12 a3.1, a3.2, i5, ck_n (by omega) (by omega), nI_clamp (by omega), ss_ok, i4, ck_n (by omega) (by omega), nI_clamp (by omega), ss_ok]
  rw [gs_ne (by omega), hN5.2.1, gs_ne (by omega), gs_eq, gs_ne (by omega), gs_ne (by omega), b7, sub_n hnr]
  generalize hs1 : si (si (si σ m 8 (nI sm)) (m + 3) 5 (nI l)) (m + 3) 4 (nI (sm - nr)) = s1
  have f1 : ∀ x k, ¬ (x = m ∧ k = 8) → ¬ (x = m + 3 ∧ (k = 4 ∨ k = 5)) → gi s1 x k = gi σ x k := fun x k q1 q2 => by rw [← hs1]; simp (disch := omega) only [i0, i1, i2, i3, i4, i5, i6, i7, i8, mle, mlt, meq, if_pos, if_neg, dr_s, tk_s, ck_m, nI_clamp, lt_ok, ss_ok, nI_add, pk_mul, sub_n, bd_ok, bv_ok, gs_ne, gs_eq]
  have f18 : gi s1 m 8 = nI sm := by rw [← hs1]; simp (disch := omega) only [i0, i1, i2, i3, i4, i5, i6, i7, i8, mle, mlt, meq, if_pos, if_neg, dr_s, tk_s, ck_m, nI_clamp, lt_ok, ss_ok, nI_add, pk_mul, sub_n, bd_ok, bv_ok, gs_ne, gs_eq]
  have f14 : gi s1 (m + 3) 4 = nI (sm - nr) := by rw [← hs1]; simp (disch := omega) only [i0, i1, i2, i3, i4, i5, i6, i7, i8, mle, mlt, meq, if_pos, if_neg, dr_s, tk_s, ck_m, nI_clamp, lt_ok, ss_ok, nI_add, pk_mul, sub_n, bd_ok, bv_ok, gs_ne, gs_eq]
  have f15 : gi s1 (m + 3) 5 = nI l := by rw [← hs1]; simp (disch := omega) only [i0, i1, i2, i3, i4, i5, i6, i7, i8, mle, mlt, meq, if_pos, if_neg, dr_s, tk_s, ck_m, nI_clamp, lt_ok, ss_ok, nI_add, pk_mul, sub_n, bd_ok, bv_ok, gs_ne, gs_eq]
  generalize hD : sm - nr = D at *
  have hDle : D ≤ sumF pf (T - 1) := by omega
  refine bd_in D (fun i b => b.1 = nI i ∧ (∀ t, t < T - 1 → gi b.2 (m + 6) t = nI (pf t - dms pf fr (T - 1) i t)) ∧ (∀ t, t < T - 1 → gi b.2 (m + 7) t = nI (dms pf fr (T - 1) i t)) ∧ ∀ x k, x ≠ m + 6 → x ≠ m + 7 → gi b.2 x k = gi s1 x k)
    (fun b => (∀ t, t < T - 1 → gi b.2 (m + 6) t = nI (pf t - dms pf fr (T - 1) D t)) ∧ (∀ t, t < T - 1 → gi b.2 (m + 7) t = nI (dms pf fr (T - 1) D t)) ∧ ∀ x k, x ≠ m + 6 → x ≠ m + 7 → gi b.2 x k = gi s1 x k) (by show D < 1000000; omega) ⟨rfl, fun t ht => ?_, fun t ht => ?_, fun _ _ _ _ => rfl⟩ ?_ ?_ ?_
  · rw [f1 _ _ (by omega) (by omega), hat t ht]; rfl
  · rw [f1 _ _ (by omega) (by omega), h3 t (by omega)]; rfl
  · rintro i ⟨v, s⟩ rec hi ⟨rfl, g1, g2, g3⟩
    dsimp only at g1 g2 g3 ⊢
    obtain ⟨d1, d2, d3, d4⟩ := dms_ok (pf := pf) (fr := fr) (k := T - 1) (n := i) (by omega)
    obtain ⟨b, hb⟩ := d4 (by omega)
    obtain ⟨hb1, hb2⟩ := bst_some hb
    have hm1 : gi s m 1 = nI T := by rw [g3 _ _ (by omega) (by omega), f1 _ _ (by omega) (by omega)]; exact b1
    have hq6 : ∀ t, t < T - 1 → gi s (m + 6) t = nI (pf t - dms pf fr (T - 1) i t) ∧ pf t - dms pf fr (T - 1) i t < 2 ^ 31 := fun t ht => ⟨g1 t ht, by have := hcap t ht; omega⟩
    have hq7 : ∀ t, t < T - 1 → gi s (m + 7) t = nI (dms pf fr (T - 1) i t) ∧ dms pf fr (T - 1) i t < 2 ^ 31 := fun t ht => ⟨g2 t ht, by have := hcap t ht; have := d2 t ht; omega⟩
    have hsel : (if bI fr = 0 then (bd (fX1_fewestBlanks E m s) (fun r22 s20 => some (r22, s20))) else (bd (fX1_firstPlace E m s) (fun r25 s23 => some (r25, s23)))) = some (nI b, s) := by
      cases hfr : fr with
      | false => rw [hfr] at hq6 hq7 hb; rw [if_pos (by rfl), c_fewest hL hT hm1 hq6 hq7 hT3 hb, bd_ok]
      | true => rw [hfr] at hq6 hq7 hb; rw [if_neg (by decide), c_fplace hL hT hm1 hq6 hT3, bd_ok, ← bst_tr, hb]; rfl
    have hcb := hcap b hb1
    unfold bX1_dealByNumbers_41
    rw [a3.2, i4, ck_n (by omega) (by omega), nI_clamp (by omega), g3 _ _ (by omega) (by omega), f14, if_neg (nI_ge hi (by omega)), hsel, bd_ok, dr_ok l18 a7.1, a7.2, ck_n (by omega) (by omega), ck_n (by omega) (by omega), nI_clamp (by omega), ss_ok, dr_ok a5.2.1 a5.2.2.1, a5.2.2.2, ck_n (by omega) (by omega), ck_n (by omega) (by omega), ss_ok, lt_ok, ad1, gs_ne (by omega), g1 b hb1, g2 b hb1, ad1, i1, sub_n (by omega)]
    have hnx : dms pf fr (T - 1) (i + 1) = inc (dms pf fr (T - 1) i) b := by show inc _ _ = _; rw [hb]; rfl
    refine ⟨_, rfl, rfl, fun t ht => ?_, fun t ht => ?_, fun x k q1 q2 => ?_⟩
    · dsimp only
      rw [hnx]; unfold inc
      by_cases htb : t = b
      · subst htb; rw [if_pos rfl, gs_eq]; congr 1
      · rw [if_neg htb]; simp (disch := omega) only [i0, i1, i2, i3, i4, i5, i6, i7, i8, mle, mlt, meq, if_pos, if_neg, dr_s, tk_s, ck_m, nI_clamp, lt_ok, ss_ok, nI_add, pk_mul, sub_n, bd_ok, bv_ok, gs_ne, gs_eq]; exact g1 t ht
    · dsimp only
      rw [hnx]; unfold inc
      by_cases htb : t = b
      · subst htb; rw [if_pos rfl, gs_ne (by omega), gs_eq]
      · rw [if_neg htb]; simp (disch := omega) only [i0, i1, i2, i3, i4, i5, i6, i7, i8, mle, mlt, meq, if_pos, if_neg, dr_s, tk_s, ck_m, nI_clamp, lt_ok, ss_ok, nI_add, pk_mul, sub_n, bd_ok, bv_ok, gs_ne, gs_eq]; exact g2 t ht
    · dsimp only; simp (disch := omega) only [i0, i1, i2, i3, i4, i5, i6, i7, i8, mle, mlt, meq, if_pos, if_neg, dr_s, tk_s, ck_m, nI_clamp, lt_ok, ss_ok, nI_add, pk_mul, sub_n, bd_ok, bv_ok, gs_ne, gs_eq]; exact g3 x k q1 q2
  · rintro ⟨v, s⟩ rec ⟨rfl, g1, g2, g3⟩
    dsimp only at g1 g2 g3 ⊢
    unfold bX1_dealByNumbers_41
    rw [a3.2, i4, ck_n (by omega) (by omega), nI_clamp (by omega), g3 _ _ (by omega) (by omega), f14, if_pos (nI_le (Nat.le_refl _) (by omega))]
    exact ⟨_, rfl, g1, g2, g3⟩
  · rintro v s2 ⟨g1, g2, g3⟩
    dsimp only at g1 g2 g3
    obtain ⟨d1, d2, d3, d4⟩ := dms_ok (pf := pf) (fr := fr) (k := T - 1) (n := D) hDle
    generalize hd : dms pf fr (T - 1) D = d at *
    have hps : sumF (fun t => pf t - d t) (T - 1) = nr := by have := sumF_sub (f := pf) (g := d) (n := T - 1) d2; omega
    have f2 : ∀ x k, x ≠ m + 6 → x ≠ m + 7 → ¬ (x = m ∧ k = 8) → ¬ (x = m + 3 ∧ (k = 4 ∨ k = 5)) → gi s2 x k = gi σ x k := fun x k q1 q2 q3 q4 => by rw [g3 _ _ q1 q2, f1 _ _ q3 q4]
    have hTQ0 : TQ s2 m bk (fun _ => []) := fun t ht => by
      obtain ⟨q1, q2⟩ := h2 t ht
      exact ⟨by rw [f2 _ _ (by omega) (by omega) (by omega) (by omega)]; exact q1, by rw [f2 _ _ (by omega) (by omega) (by omega) (by omega)]; exact q2, Nat.le_refl _, by simp, rfl, fun k hk => absurd hk (Nat.not_lt_zero k)⟩
    have hm1 : gi s2 m 1 = nI T := by rw [f2 _ _ (by omega) (by omega) (by omega) (by omega)]; exact b1
    have hm3 : gi s2 m 3 = bI bk := by rw [f2 _ _ (by omega) (by omega) (by omega) (by omega)]; exact b3
    obtain ⟨s3, e3, t3, f3⟩ : ∃ s3, (if ¬ (gi s2 m 3) = 0 then (some ((), s2)) else (bv (fX1_writeBlanks E m s2) (fun s39 => some ((), s39)))) = some ((), s3) ∧ TQ s3 m bk (fun t => tq bk tu (d t) []) ∧ ∀ x k, ¬ (m + 10 ≤ x ∧ x < m + 22) → gi s3 x k = gi s2 x k := by
      rw [hm3]
      cases hbk : bk with
      | true =>
        rw [if_pos (by decide)]
        exact ⟨s2, rfl, by rw [hbk] at hTQ0; exact hTQ0, fun _ _ _ => rfl⟩
      | false =>
        rw [hbk] at hTQ0
        obtain ⟨s3, e3, t3, f3⟩ := c_blanks hL hT hT3 hm1 hTQ0 (d := d) g2 (fun t ht => by have := hcap t ht; have := d2 t ht; simp; omega)
        rw [if_neg (by decide), e3, bv_ok]
        refine ⟨s3, rfl, tq_congr t3 (fun t ht => ?_), f3⟩
        by_cases htk : t < T - 1
        · rw [if_pos htk]; unfold pshn tq; simp
        · rw [if_neg htk, d3 t (by omega)]; rfl
    rw [e3, bd_ok]
    have g1' : ∀ t, t < T - 1 → gi s3 (m + 6) t = nI (pf t - d t) := fun t ht => by rw [f3 _ _ (by omega)]; exact g1 t ht
    have h37 : gi s3 m 7 = nI nr := by rw [f3 _ _ (by omega), f2 _ _ (by omega) (by omega) (by omega) (by omega)]; exact b7
    have h31 : gi s3 m 1 = nI T := by rw [f3 _ _ (by omega)]; exact hm1
    generalize hp : (fun t => pf t - d t) = p at *
    have hpt : ∀ t, pf t - d t = p t := fun t => by rw [← hp]
    refine bd_in nr (fun r b => b.1 = nI r ∧ TQ b.2 m bk (fun t => tq bk tu (d t) (dlt p (T - 1) r t)) ∧ (∀ t, t < T - 1 → gi b.2 (m + 6) t = nI (p t - (dlt p (T - 1) r t).length)) ∧ ∀ x k, ¬ (m + 10 ≤ x ∧ x < m + 22) → x ≠ m + 6 → gi b.2 x k = gi s3 x k)
      (fun b => TQ b.2 m bk (fun t => tq bk tu (d t) (dlt p (T - 1) nr t)) ∧ ∀ x k, ¬ (m + 10 ≤ x ∧ x < m + 22) → x ≠ m + 6 → gi b.2 x k = gi s3 x k) (by show nr < 1000000; omega) ⟨rfl, t3, fun t ht => by rw [g1' t ht, hpt]; rfl, fun _ _ _ _ => rfl⟩ ?_ ?_ ?_
    · rintro r ⟨v, s⟩ rec hr ⟨rfl, q1, q2, q3⟩
      dsimp only at q1 q2 q3 ⊢
      obtain ⟨r1, r2, r3, r4⟩ := dlt_ok (p := p) (k := T - 1) (by omega) (r := r) (by omega)
      have r4 := r4 (by omega)
      have hmost := c_most (σ := s) hL hT (by rw [q3 _ _ (by omega) (by omega)]; exact h31) (q := fun u => p u - (dlt p (T - 1) r u).length) (fun t ht => ⟨q2 t ht, by have := hcap t ht; rw [← hpt]; omega⟩) hT3
      rw [show T - 1 - 1 = T - 2 by omega] at r4
      generalize hb : amx (fun u => p u - (dlt p (T - 1) r u).length) (T - 2) = b at *
      have hbk' : b < T - 1 := by have := amx_le (fun u => p u - (dlt p (T - 1) r u).length) (T - 2); omega
      have hcb := hcap b hbk'
      have hdb := d2 b hbk'
      have hpb := hpt b
      obtain ⟨lt1, lt2⟩ := ltp b (by omega)
      obtain ⟨s4, e4, w1, w2⟩ := tq_write hL q1 (t := b) (by omega) (rnj tu r) (by rw [tq_len]; split <;> omega)
      rw [show idI (rnj tu r).1 = nI r from rfl] at e4
      unfold bX1_dealByNumbers_109
      rw [q3 _ _ (by omega) (by omega), h37, if_neg (nI_ge hr (by omega)), hmost, bd_ok, dr_ok l4 a1.1, a1.2, ck_n (by omega) (by omega), nI_clamp (by omega), dr_ok lt1 lt2.1, e4, bv_ok, dr_ok a5.2.1 a5.2.2.1, a5.2.2.2, ck_n (by omega) (by omega), ck_n (by omega) (by omega), w2 _ _ (by omega), q2 b hbk', i1, sub_n (by omega), ss_ok, lt_ok, nI_add]
      have hnx : ∀ t, dlt p (T - 1) (r + 1) t = if t = b then dlt p (T - 1) r t ++ [r] else dlt p (T - 1) r t := fun t => by
        show (if t = amx (fun u => p u - (dlt p (T - 1) r u).length) (T - 1 - 1) then _ else _) = _
        rw [show T - 1 - 1 = T - 2 by omega, hb]
      refine ⟨_, rfl, rfl, tq_congr (tq_fr w1 (fun x k z1 z2 => gs_ne (by omega))) (fun t ht => ?_), fun t ht => ?_, fun x k z1 z2 => ?_⟩
      · rw [hnx]
        by_cases htb : t = b
        · rw [if_pos htb, if_pos htb, tq_psh]
        · rw [if_neg htb, if_neg htb]
      · dsimp only
        rw [hnx]
        by_cases htb : t = b
        · subst htb; rw [gs_eq, if_pos rfl, List.length_append, List.length_singleton]; congr 1
        · rw [if_neg htb, gs_ne (by omega), w2 _ _ (by omega)]; exact q2 t ht
      · dsimp only; rw [gs_ne (by omega), w2 _ _ z1]; exact q3 x k z1 z2
    · rintro ⟨v, s⟩ rec ⟨rfl, q1, q2, q3⟩
      dsimp only at q1 q2 q3 ⊢
      unfold bX1_dealByNumbers_109
      rw [q3 _ _ (by omega) (by omega), h37, if_pos (nI_le (Nat.le_refl _) (by omega))]
      exact ⟨_, rfl, q1, q3⟩
    · rintro v s4 ⟨q1, q3⟩
      dsimp only at q1 q3
      obtain ⟨r1, r2, r3, r4⟩ := dlt_ok (p := p) (k := T - 1) (by omega) (r := nr) (by omega)
      have h43 : gi s4 m 3 = bI bk := by rw [q3 _ _ (by omega) (by omega), f3 _ _ (by omega)]; exact hm3
      obtain ⟨s5, e5, t5, f5⟩ : ∃ s5, (if (gi s4 m 3) = 0 then (some ((), s4)) else (bv (fX1_writeBlanks E m s4) (fun s64 => some ((), s64)))) = some ((), s5) ∧ TQ s5 m bk (tpi bk tu d (dlt p (T - 1) nr)) ∧ ∀ x k, ¬ (m + 10 ≤ x ∧ x < m + 22) → gi s5 x k = gi s4 x k := by
        rw [h43]
        cases hbk : bk with
        | false =>
          rw [if_pos (by rfl)]
          refine ⟨s4, rfl, tq_congr (by rw [hbk] at q1; exact q1) (fun t ht => ?_), fun _ _ _ => rfl⟩
          unfold tq tpi; simp
        | true =>
          rw [hbk] at q1
          obtain ⟨s5, e5, t5, f5⟩ := c_blanks hL hT hT3 (by rw [q3 _ _ (by omega) (by omega)]; exact h31) q1 (d := d) (fun t ht => by rw [q3 _ _ (by omega) (by omega), f3 _ _ (by omega)]; exact g2 t ht) (fun t ht => by have := hcap t ht; have := d2 t ht; have := r2 t ht; have := hpt t; rw [tq_len]; simp; omega)
          rw [if_neg (by decide), e5, bv_ok]
          refine ⟨s5, rfl, tq_congr t5 (fun t ht => ?_), f5⟩
          by_cases htk : t < T - 1
          · rw [if_pos htk]; unfold pshn tq tpi; simp
          · rw [if_neg htk]; unfold tq tpi; rw [d3 t (by omega)]; simp
      rw [e5, bd_ok, ss_ok, f5 _ _ (by omega), q3 _ _ (by omega) (by omega), h31, i1, sub_n (by omega)]
      have f53 : ∀ x k, ¬ (m + 10 ≤ x ∧ x < m + 22) → x ≠ m + 6 → gi s5 x k = gi s2 x k := fun x k z1 z2 => by rw [f5 _ _ z1, q3 _ _ z1 z2, f3 _ _ z1]
      refine ⟨_, rfl, tq_fr t5 (fun x k z1 z2 => gs_ne (by omega)), ?_, gs_eq, ?_, ?_, fun x k z1 z2 z3 z4 => ?_⟩
      · rw [gs_ne (by omega), f53 _ _ (by omega) (by omega), g3 _ _ (by omega) (by omega)]; exact f18
      · rw [gs_ne (by omega), f53 _ _ (by omega) (by omega), g3 _ _ (by omega) (by omega)]; exact f14
      · rw [gs_ne (by omega), f53 _ _ (by omega) (by omega), g3 _ _ (by omega) (by omega)]; exact f15
      · rw [gs_ne (by omega), f53 _ _ z2 (by omega), f2 _ _ (by omega) (by omega) (by omega) z4]
theorem c_open2 (hL : LMill E m N) {to : Nat} (hT : T ≤ 6) (hto : to < 6) (h1 : gi σ m 1 = nI T) (h9 : gi σ m 9 = nI to) (h : TQ σ m bk tp) : ∃ s', fX1_openPass E m σ = some s' ∧ (∀ t, t < T → gi s' (m + 2) t = bI (!((tp t).length == 0) && !(t == to))) ∧ ∀ x k, x ≠ m + 2 → gi s' x k = gi σ x k := by
  obtain ⟨l0, l4, l10, l12, l13, l17, l18, l5, l6, a1, a2, a3, a4, a5, a7, a8, a9, ltp⟩ := id hL
  unfold fX1_openPass
  rw [tk_ok l0]
  refine bd_in T (fun i a => a.1 = nI i ∧ (∀ t, t < i → gi a.2 (m + 2) t = bI (!((tp t).length == 0) && !(t == to))) ∧ ∀ x k, x ≠ m + 2 → gi a.2 x k = gi σ x k)
    (fun a => (∀ t, t < T → gi a.2 (m + 2) t = bI (!((tp t).length == 0) && !(t == to))) ∧ ∀ x k, x ≠ m + 2 → gi a.2 x k = gi σ x k) (by show T < 1000000; omega) ⟨rfl, fun t ht => absurd ht (Nat.not_lt_zero t), fun _ _ _ => rfl⟩ ?_ ?_ (fun v s2 q => ⟨s2, rfl, q⟩)
  · rintro i ⟨v, s2⟩ rec hi ⟨rfl, f1, f2⟩
    dsimp only at f1 f2 ⊢
    obtain ⟨lt1, lt2⟩ := ltp i (by omega)
    obtain ⟨p1, p2, p3, p4, p5, p6⟩ := h i (by omega)
    unfold bX1_openPass_2
    rw [f2 _ _ (by omega), h1, if_neg (nI_ge hi (by omega)), dr_ok l10 a2.1, dr_ok l4 a1.1, a1.2, ck_n (by omega) (by omega), nI_clamp (by omega), dr_ok lt1 lt2.1, tape_size (σ := s2) lt2 (by rw [f2 _ _ (by omega)]; exact p1) (by rw [f2 _ _ (by omega)]; exact p2) p3, bd_ok, a2.2]
    have key : ∀ b, b = (!((tp i).length == 0) && !(i == to)) → ∃ a', ck (nI i) 6 (ss (si s2 (m + 2) i (vp_nar .boolean (bI b))) (fun s17 => lt (nI i + (1 : Int32)) (fun v18 => rec (v18, s17)))) = rec a' ∧ (a'.1 = nI (i + 1) ∧ (∀ t, t < i + 1 → gi a'.2 (m + 2) t = bI (!((tp t).length == 0) && !(t == to))) ∧ ∀ x k, x ≠ m + 2 → gi a'.2 x k = gi σ x k) := by
      intro b hb
      rw [ck_n (by omega) (by omega), ss_ok, lt_ok, ad1, nar_b]
      refine ⟨_, rfl, rfl, fun t ht => ?_, fun x k hx => ?_⟩
      · dsimp only
        by_cases hti : t = i
        · subst hti; rw [gs_eq, hb]
        · rw [gs_ne (by omega)]; exact f1 t (by omega)
      · dsimp only; rw [gs_ne (by omega)]; exact f2 x k hx
    by_cases hz : (tp i).length = 0
    · rw [show (tp i).length - 0 = 0 by omega, if_pos (by decide), bd_ok]
      exact key false (by rw [hz]; rfl)
    · have hz' : ((tp i).length == 0) = false := by simpa using hz
      rw [if_neg (nI_nle (by omega) (by omega)), f2 _ _ (by omega), h9]
      by_cases hq : i = to
      · rw [if_pos (by rw [← hq]), bd_ok]
        exact key false (by rw [hz', ← hq]; simp)
      · have hq' : (i == to) = false := by simpa using hq
        rw [if_neg (fun q => hq ((nI_eq (by omega) (by omega)).mp q)), bd_ok]
        exact key true (by rw [hz', hq']; rfl)
  · rintro ⟨v, s2⟩ rec ⟨rfl, f1, f2⟩
    dsimp only at f1 f2 ⊢
    unfold bX1_openPass_2
    rw [f2 _ _ (by omega), h1, if_pos (nI_le (Nat.le_refl _) (by omega))]
    exact ⟨_, rfl, f1, f2⟩
theorem c_layEnd (hL : LMill E m N) (hT : T ≤ 6) (hT3 : 3 ≤ T) (hn : nr ≤ N) (hN : N ≤ 700) (hb : MB σ m w T bk nr) (hq : TQ σ m bk tp) (h9 : gi σ m 9 = nI (to0 w T)) (h8 : gi σ m 8 = nI (sumF (fun t => (tp t).length) T)) (hD : ∀ t, t < T → ∀ r ∈ tp t, RD σ m gl nr r) (h3 : ∀ k, k < 4 → gi σ (m + 3) k = nI 0) :
    ∃ s, ss (si σ m 11 (1 : Int32)) (fun s10 => bv (fX1_openPass E m s10) (fun s11 => bv (fX1_turnLast E m s11) (fun s13 => some s13))) = some s ∧ RMl s m w T bk gl nr (tul gl T (tp, skI w T tp, 0, 0, 0, 0)) ∧ (∀ k, k = 4 ∨ k = 5 → gi s (m + 3) k = gi σ (m + 3) k) ∧ ∀ x k, (x < m ∨ m + 22 ≤ x) → gi s x k = gi σ x k := by
  obtain ⟨b0, b1, b2, b3, b7⟩ := hb
  have hto : to0 w T < 6 := by unfold to0; split <;> omega
  rw [ss_ok]
  obtain ⟨s1, e1, o1, f1⟩ := c_open2 (σ := si σ m 11 (1 : Int32)) hL hT hto (by rw [gs_ne (by omega)]; exact b1) (by rw [gs_ne (by omega)]; exact h9) (tq_fr hq (fun x k z1 z2 => gs_ne (by omega)))
  rw [e1, bv_ok]
  have f : ∀ x k, x ≠ m + 2 → ¬ (x = m ∧ k = 11) → gi s1 x k = gi σ x k := fun x k z1 z2 => by rw [f1 _ _ z1, gs_ne (by omega)]
  have hR : RMl s1 m w T bk gl nr (tp, skI w T tp, 0, 0, 0, 0) := by
    have hkc : ∀ t, t < T → kc (skI w T tp) t = (tp t).length := fun t ht => by show (tab (fun t => (tp t).length) T).getD t 0 = _; rw [tab_at ht]
    refine ⟨fun _ => 0, fun t => (tp t).length, ⟨⟨?_, ?_, ?_, ?_, ?_⟩, ⟨?_, ?_, fun t ht => ?_⟩, fun t ht => ?_, hkc⟩, fun t ht => Or.inl rfl, fun t ht r hr => ?_, ?_, ?_, ?_, ?_, ?_⟩
    · rw [f _ _ (by omega) (by omega)]; exact b0
    · rw [f _ _ (by omega) (by omega)]; exact b1
    · rw [f _ _ (by omega) (by omega)]; exact b2
    · rw [f _ _ (by omega) (by omega)]; exact b3
    · rw [f _ _ (by omega) (by omega)]; exact b7
    · rw [f _ _ (by omega) (by omega)]; exact h9
    · rw [f1 _ _ (by omega), gs_eq]; rfl
    · rw [o1 t ht]
      show _ = bI ((opn T (to0 w T) (tab (fun t => (tp t).length) T)).getD t false)
      unfold opn
      rw [tab_at ht, tab_at ht]
    · exact tp_fr (hq t ht) (fun k => f _ _ (by omega) (by omega)) (fun k => f _ _ (by omega) (by omega))
    · have := hD t ht r hr
      exact ⟨this.1, fun i l hz => by rw [f _ _ (by omega) (by omega), f _ _ (by omega) (by omega)]; exact this.2 i l hz⟩
    · rw [f _ _ (by omega) (by omega), h8]
      congr 1
      exact (sumF_congr (fun t ht => hkc t ht)).symm
    · rw [f _ _ (by omega) (by omega)]; exact h3 0 (by omega)
    · rw [f _ _ (by omega) (by omega)]; exact h3 1 (by omega)
    · rw [f _ _ (by omega) (by omega)]; exact h3 2 (by omega)
    · rw [f _ _ (by omega) (by omega)]; exact h3 3 (by omega)
  obtain ⟨s2, e2, r2, f2⟩ := c_turn hL hR hT hn hN
  rw [e2, bv_ok]
  exact ⟨s2, rfl, r2, fun k hk => by rw [f2 _ _ (by omega) (by omega), f _ _ (by omega) (by omega)], fun x k z => by rw [f2 _ _ (by omega) (by omega), f _ _ (by omega) (by omega)]⟩
end DN
