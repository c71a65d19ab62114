/-! perfect -/
theorem lt_m1 {p : Int32} (h : p < 0) (h1 : ¬ p = -1) : p < -1 := by
  rw [Int32.lt_iff_toInt_lt] at h ⊢
  have h0 : (0 : Int32).toInt = 0 := by decide
  have hm : (-1 : Int32).toInt = -1 := by decide
  have : p.toInt ≠ -1 := fun q => h1 (Int32.toInt_inj.mp (q.trans hm.symm))
  omega
theorem le_m1 {j : Nat} (hj : j < 2 ^ 31) : (-1 : Int32) ≤ nI j := Int32.le_trans (by decide : (-1 : Int32) ≤ 0) (nI_pos' hj)
section PF
variable {E : En}
theorem ok_perfect (hR : LRun E) (hM : LMod E) (hM2 : LMo2 E) (p0 p1 : Int32) : Ok (JJ CG' CM' MG' MM') (fX6_perfect E 0 p0 p1) (fX7_perfect E 395 p0 p1) := by
  refine ok_of (fun a hw => ?_)
  obtain ⟨r0, r1, r3, r4, r5, r8, r9, r10, r11, r12, r13, l1, l2, l35, l36, l37, l38, l39, l61, l63, l64, lp, ls⟩ := id hR
  obtain ⟨b0, rb0, rb1, rb3, rb4, rb5, rb6, lr, la4, lg, lm, la31, la32⟩ := id l2
  have m0 := hM.1
  have hwc := hw.2.2.1
  have hn := hwc.1
  obtain ⟨t1, t2⟩ := hwc.2.2.1 1 (by omega)
  obtain ⟨w1, w2⟩ := hwc.2.2.1 2 (by omega)
  have t1 : 3 ≤ cS (aC a) 1 := t1
  have t2 : cS (aC a) 1 ≤ 6 := t2
  have w2 : cS (aC a) 2 ≤ 2 := w2
  generalize hTd : cS (aC a) 1 = T at *
  generalize hWd : cS (aC a) 2 = w at *
  have hT1 : nI T - (1 : Int32) = nI (T - 1) := by rw [i1, sub_n (by omega)]
  have hcT : ∀ σ, RC CG' CM' σ a → gi σ 6 1 = nI T ∧ gi σ 6 2 = nI w := fun σ hc => by
    obtain ⟨k1, k2, k3⟩ := cs_rr hc.2.2.2.1
    exact ⟨by rw [k2 1 (by omega), hTd], by rw [k2 2 (by omega), hWd]⟩
  have hmT : ∀ σ, RM MG' MM' σ a → gi σ 396 2 = nI T ∧ gi σ 396 3 = nI w := fun σ hc => by
    obtain ⟨k1, k2, k3, k4, k5⟩ := mr_g hn hc.2.2.1
    exact ⟨by have := k3 1 (by omega); rw [hTd] at this; exact this, by have := k3 2 (by omega); rw [hWd] at this; exact this⟩
  have la : cd E 6 = 100 ∧ ln E 6 = 6 := la4
  rcases below p0 (n := 9) (by omega) with ⟨l, hl, rfl⟩ | ⟨hq, hq2⟩
  · have hin : ∀ σ, fX7_in E (nI l) (0 : Int32) (8 : Int32) σ = some (1, σ) := fun σ => m_inN (l := 0) (h := 8) (by omega)
    have h8 : ¬ (8 : Int32) < nI l := fun q => by
      have := (nI_ltI (by omega) (by omega)).mp (show nI 8 < nI l from q)
      omega
    have hbad : (p1 < -1 ∨ (¬ p1 < -1 ∧ nI (T - 1) ≤ p1)) → ∃ r a', Wfa a' ∧ SpC CG' CM' (fX6_perfect E 0 (nI l) p1) r a a' ∧ SpM MG' MM' (fX7_perfect E 395 (nI l) p1) r a a' := by
      intro hb
      refine ⟨-1, a, hw, spc_q (fun σ hc => ⟨σ, ?_, fun _ _ _ => rfl, fun _ _ _ => rfl⟩), spm_q (fun σ hc => ⟨σ, ?_, fun _ _ _ => rfl, fun _ _ _ => rfl⟩)⟩
      · unfold fX6_perfect
        rw [tk_ok r0, dr_ok r3 l2.1, dr_ok rb1 la.1]
        show ck 1 (ln E 6) _ = _
        rw [la.2, i1, ck_n (by omega) (by omega), nI_clamp (by omega), lt_ok]
        show (if _ then _ else _) = _
        have := (hcT σ hc).1
        simp only [show (2 + 4) = 6 from rfl]
        rw [this, if_neg (nI_pos (by omega)), if_neg h8]
        rcases hb with h | ⟨h1, h2⟩
        · rw [if_pos (show p1 < -nI 1 from h)]
        · rw [if_neg (show ¬ p1 < -nI 1 from h1), sub_n (by omega), if_pos h2]
      · unfold fX7_perfect
        rw [tk_ok m0, m_tapes hM hM2, bd_ok, (hmT σ hc).1, hT1, lt_ok, hin, bd_ok, if_neg (by decide), m_inF ?_, bd_ok, if_pos rfl]
        rintro ⟨q1, q2⟩
        rcases hb with h | ⟨h1, h2⟩
        · exact absurd q1 (Int32.not_le.mpr h)
        · rw [i1, sub_n (by omega)] at q2
          have := (nI_leI (by omega) (by omega)).mp (Int32.le_trans h2 q2)
          omega
    have hgood : ∀ (r : Int32), (w ≠ 1 → (p1 = -1 ∧ r = nI (sumF (fun t => (pfn w (T - 1) l).getD t 0) (T - 1))) ∨ ∃ j, j < T - 1 ∧ p1 = nI j ∧ r = nI ((pfn w (T - 1) l).getD j 0)) → (w = 1 → r = -1) → (¬ p1 < -1 ∧ ¬ nI (T - 1) ≤ p1 ∧ (-1 : Int32) ≤ p1 ∧ p1 ≤ nI (T - 1) - 1) → ∃ r a', Wfa a' ∧ SpC CG' CM' (fX6_perfect E 0 (nI l) p1) r a a' ∧ SpM MG' MM' (fX7_perfect E 395 (nI l) p1) r a a' := by
      rintro r hr1 hr2 ⟨g1, g2, g3, g4⟩
      refine ⟨r, a, hw, spc_q (fun σ hc => ?_), spm_q (fun σ hc => ?_)⟩
      · obtain ⟨c1, c2⟩ := hcT σ hc
        unfold fX6_perfect
        rw [tk_ok r0, dr_ok r3 l2.1, dr_ok rb1 la.1]
        show ∃ s, ck 1 (ln E 6) _ = _ ∧ _
        rw [la.2, i1, ck_n (by omega) (by omega), nI_clamp (by omega), lt_ok]
        simp only [show (2 + 4) = 6 from rfl]
        rw [c1, if_neg (nI_pos (by omega)), if_neg h8, if_neg (show ¬ p1 < -nI 1 from g1), sub_n (by omega), if_neg g2, i2, ck_n (by omega) (by omega), nI_clamp (by omega), c2]
        by_cases hw1 : w = 1
        · rw [if_neg (by rw [hw1]; simp), hr2 hw1]
          exact ⟨σ, rfl, fun _ _ _ => rfl, fun _ _ _ => rfl⟩
        · obtain ⟨s, e1, e2, e3⟩ := n_climbTo (σ := σ) l61 (k := T - 1) (w := w) (l := l) (by omega) (by omega) (by omega) (by omega)
          rw [if_pos (fun q => hw1 ((nI_eq (by omega) (by omega)).mp q)), dr_ok r11 l61.1, ck_n (by omega) (by omega), e1, bv_ok]
          refine ⟨s, ?_, fun x k hx => e3 _ _ (by unfold esC at hx; omega) (by unfold esC at hx; omega), fun x k hx => e3 _ _ (by omega) (by omega)⟩
          rcases hr1 hw1 with ⟨h1, rfl⟩ | ⟨j, hj, h1, rfl⟩
          · rw [h1, if_neg (by simp; rfl), n_tog l61 (by omega) e2, bd_ok, bd_ok]
          · have hne : ¬ nI j = (-1 : Int32) := fun z => by
              have := nI_pos (n := j) (by omega)
              rw [z] at this
              exact this (by decide)
            rw [h1, if_pos (show ¬ nI j = -nI 1 from hne)]
            obtain ⟨q1, q2, q3, q4⟩ := l61
            rw [q2, dr_s, q3, q4, tk_s, ck_m (by omega), nI_clamp (by omega), e2.2.2 j hj, bd_ok]
      · obtain ⟨c1, c2⟩ := hmT σ hc
        unfold fX7_perfect
        rw [tk_ok m0, m_tapes hM hM2, bd_ok, c1, hT1, lt_ok, hin, bd_ok, if_neg (by decide), m_inT ⟨g3, g4⟩, bd_ok, if_neg (by decide), m_way hM hM2, bd_ok, c2]
        by_cases hw1 : w = 1
        · rw [if_neg (by rw [hw1]; simp; rfl), hr2 hw1]
          exact ⟨σ, rfl, fun _ _ _ => rfl, fun _ _ _ => rfl⟩
        · obtain ⟨s, e1, e2, e3⟩ := m_layP (σ := σ) hM hM2 (k := T - 1) (w := w) (l := l) (by omega) (by omega) (by omega) (by omega)
          rw [if_pos (show ¬ nI w = 1 from fun q => hw1 ((nI_eq (by omega) (by omega)).mp (show nI w = nI 1 from q))), m_way hM hM2, bd_ok, c2, e1, bv_ok]
          refine ⟨s, ?_, fun x k hx => e3 _ _ (by unfold esM at hx; omega) (by unfold esM at hx; omega), fun x k hx => e3 _ _ (by omega) (by omega)⟩
          rcases hr1 hw1 with ⟨h1, rfl⟩ | ⟨j, hj, h1, rfl⟩
          · rw [h1, if_neg (by simp), m_allP hM hM2 (by omega) e2, bd_ok, bd_ok]
          · have hne : ¬ nI j = (-1 : Int32) := fun z => by
              have := nI_pos (n := j) (by omega)
              rw [z] at this
              exact this (by decide)
            have la403 : rf E 395 11 = some 403 := hM.2.2.2.2.2.2.2.2.1
            have lb403 : LArr E 403 100 6 := hM2.2.2.2.2.2.2.2.1
            rw [h1, if_pos hne, la403, dr_s, lb403.1, lb403.2, tk_s, ck_m (by omega), nI_clamp (by omega), e2 j hj, bd_ok]
    by_cases hm1 : p1 = -1
    · subst hm1
      refine hgood (if w = 1 then -1 else nI (sumF (fun t => (pfn w (T - 1) l).getD t 0) (T - 1))) (fun h => Or.inl ⟨rfl, by rw [if_neg h]⟩) (fun h => by rw [if_pos h]) ⟨by decide, fun q => ?_, by decide, ?_⟩
      · have := Int32.lt_of_le_of_lt q (by decide : (-1 : Int32) < 0)
        exact nI_pos (by omega) this
      · rw [i1, sub_n (by omega)]
        exact le_m1 (by omega)
    · rcases below p1 (n := T - 1) (by omega) with ⟨j, hj, rfl⟩ | ⟨hq, hq2⟩
      · refine hgood (if w = 1 then -1 else nI ((pfn w (T - 1) l).getD j 0)) (fun h => Or.inr ⟨j, hj, rfl, by rw [if_neg h]⟩) (fun h => by rw [if_pos h]) ⟨fun q => nI_pos (by omega) (Int32.lt_trans q (by decide)), nI_ge hj (by omega), le_m1 (by omega), ?_⟩
        rw [i1, sub_n (by omega)]
        exact nI_le (by omega) (by omega)
      · refine hbad ?_
        rcases hq with h | ⟨h1, h2⟩
        · exact Or.inl (lt_m1 h hm1)
        · exact Or.inr ⟨fun q => h1 (Int32.lt_trans q (by decide)), Int32.not_lt.mp h2⟩
  · refine ⟨-1, a, hw, spc_q (fun σ hc => ⟨σ, ?_, fun _ _ _ => rfl, fun _ _ _ => rfl⟩), spm_q (fun σ hc => ⟨σ, ?_, fun _ _ _ => rfl, fun _ _ _ => rfl⟩)⟩
    · unfold fX6_perfect
      rw [tk_ok r0, dr_ok r3 l2.1, dr_ok rb1 la.1]
      show ck 1 (ln E 6) _ = _
      rw [la.2, i1, ck_n (by omega) (by omega), lt_ok]
      rcases hq with h | ⟨h1, h2⟩
      · rw [if_pos h]
      · rw [if_neg h1, if_pos (by
          have h2 : nI 9 ≤ p0 := Int32.not_lt.mp h2
          exact Int32.lt_of_lt_of_le (by decide : (8 : Int32) < nI 9) h2)]
    · unfold fX7_perfect
      rw [tk_ok m0, m_tapes hM hM2, bd_ok, lt_ok, show fX7_in E p0 (0 : Int32) (8 : Int32) σ = some (0, σ) from m_inF hq2, bd_ok, if_pos rfl]
end PF
