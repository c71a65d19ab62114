/-! plan, planned -/
section PL
variable {E : En} {σ : Sg} {c : Cu}
theorem c_begPlan (hR : LRun E) (hw : Wf c) (hcs : canS c) (h : CS CG' CM' (lc σ 2) c) : ∃ s, fX6_beginPlan E 0 σ = some s ∧ RMl s 39 (cS c 2) (cS c 1) (bkC c) (glC c) (nrC c) (mil (cS c 2) (cS c 1) (bkC c) (frC c) (tuC c) (glC c) (nrC c) 0) ∧ gi s 42 4 = nI (dmN (cS c 2) (cS c 1) (nrC c)) ∧ gi s 42 5 = lvI (cS c 2) (cS c 1) (nrC c) ∧ ∀ x k, (x < 39 ∨ 61 ≤ x) → gi s x k = gi σ x k := by
  obtain ⟨r0, r1, r3, r4, r5, r8, r9, r10, r11, r12, r13, l1, l2, l35, l36, l37, l38, l39, l61, l63, l64, lp, ls⟩ := id hR
  obtain ⟨b0, rb0, rb1, rb3, rb4, rb5, rb6, lr, la4, lg, lm, la31, la32⟩ := id l2
  obtain ⟨k1, k2, k3⟩ := cs_rr h
  have h0 := hw.2.2.2.2.1 hcs.1
  obtain ⟨s1, e1, s, e2, q1, q2, q3, q4, q5⟩ := c_paper (bk := bkC c) hR hw hcs.1 (gok_c hw h0 hcs.2) h
  unfold fX6_beginPlan
  rw [tk_ok r0, dr_ok r10 l39.1, dr_ok r3 l2.1, dr_ok rb1 la4.1, la4.2, i2, ck_n (by omega) (by omega), i1, ck_n (by omega) (by omega), i4, ck_n (by omega) (by omega), nI_clamp (by omega), nI_clamp (by omega), nI_clamp (by omega), k2 4 (by omega), k2 2 (by omega), k2 1 (by omega), show nI 1 = (1 : Int32) from rfl, sel_b (st_1 hw (by omega)), bd_ok, e1, bv_ok, e2, bv_ok]
  exact ⟨s, rfl, q1, q2, q3, q5⟩
theorem c_tal {s : Sg} {w T : Nat} {bk : Bool} (h : RMl s 39 w T bk (glC c) (nrC c) (mil w T bk (frC c) (tuC c) (glC c) (nrC c) (kst w T (nrC c)))) (h4 : gi s 42 4 = nI (dmN w T (nrC c))) (h5 : gi s 42 5 = lvI w T (nrC c)) {j : Nat} (hj : j ≤ 5) : gi s 42 j = plA w T bk c j := by
  obtain ⟨L, H, _, _, _, _, t0, t1, t2, t3⟩ := h
  rcases (show j = 0 ∨ j = 1 ∨ j = 2 ∨ j = 3 ∨ j = 4 ∨ j = 5 by omega) with rfl | rfl | rfl | rfl | rfl | rfl
  · exact t0
  · exact t1
  · exact t2
  · exact t3
  · exact h4
  · exact h5
theorem ok_plan (hR : LRun E) (hM : LMod E) (hM2 : LMo2 E) (p0 : Int32) : Ok (JJ CG' CM' MG' MM') (fX6_plan E 0 p0) (fX7_plan E 395 p0) := by
  refine ok_of (fun a hw => ?_)
  obtain ⟨r0, r1, r3, r4, r5, r8, r9, r10, r11, r12, r13, l1, l2, l35, l36, l37, l38, l39, l61, l63, l64, lp, ls⟩ := id hR
  have m0 := hM.1
  have hwc := hw.2.2.1
  have hn := hwc.1
  have ht3 := hwc.2.2.2.1
  have hdec : Decidable (canS (aC a)) := Classical.propDecidable _
  rcases below p0 (n := 6) (by omega) with ⟨j, hj, rfl⟩ | ⟨hq, hq2⟩
  · by_cases hcs : canS (aC a)
    · have h0 := hwc.2.2.2.2.1 hcs.1
      have hgo := gok_c hwc h0 hcs.2
      have hK : KC (aC a) ≤ 699 := hgo.2.2.2.2.2.2.1
      have hnr := (nr_c hwc h0).2
      refine ⟨plA (cS (aC a) 2) (cS (aC a) 1) (bkC (aC a)) (aC a) j, a, hw, spc_q (fun σ hc => ?_), spm_t (fun σ hc => ?_)⟩
      · obtain ⟨k1, k2, k3⟩ := cs_rr hc.2.2.2.1
        obtain ⟨s1, e1, q1, q2, q3, q4⟩ := c_begPlan hR hwc hcs hc.2.2.2.1
        obtain ⟨s2, e2, p1, p2⟩ := c_mergeAll l39 hgo (by omega) (by omega) (show KC (aC a) ≤ 700 by omega) q1
        unfold fX6_plan
        rw [tk_ok r0, if_neg (nI_pos (by omega)), i6, if_neg (nI_ge hj (by omega)), c_canPlan hR hwc k2 k3, bd_ok, decide_eq_true hcs, if_pos (by decide), e1, bv_ok, dr_ok r10 l39.1, e2, bv_ok, dr_ok l39.2.2.2.1 l39.2.2.2.2.2.2.2.2.2.2.2.1.1, l39.2.2.2.2.2.2.2.2.2.2.2.1.2, ck_n (by omega) (by omega), nI_clamp (by omega)]
        refine ⟨s2, ?_, fun x k he => ?_, fun x k hx => ?_⟩
        · show some (gi s2 42 j, s2) = _
          rw [c_tal p1 (by rw [p2 42 4 (by unfold esA; omega)]; exact q2) (by rw [p2 42 5 (by unfold esA; omega)]; exact q3) (by omega)]
        · unfold esC at he
          rw [p2 _ _ (by unfold esA; omega), q4 _ _ (by omega)]
        · rw [p2 _ _ (by unfold esA; omega), q4 _ _ (by omega)]
      · obtain ⟨k1, k2, k3, k4, k5⟩ := mr_g hn hc.2.2.1
        obtain ⟨s, e1, _, q2, q3⟩ := m_through hM hM2 hwc hcs.1 hgo (st_1 hwc (j := 4) (by omega)) hc.2.2.1 (j := j) (by omega)
        unfold fX7_plan
        rw [tk_ok m0, m_canSp hM hM2 hwc k3 k4, bd_ok, decide_eq_true hcs, if_neg (by decide), show fX7_in E (nI j) (0 : Int32) (5 : Int32) σ = some (1, σ) from m_inN (l := 0) (h := 5) (by omega), bd_ok, if_pos (by decide), m_way hM hM2, bd_ok, m_tapes hM hM2, bd_ok, dr_ok hM.2.1 hM2.1.1, hM2.1.2, i5, ck_n (by omega) (by omega), nI_clamp (by omega), show gi σ 396 3 = nI (cS (aC a) 2) from k3 2 (by omega), show gi σ 396 2 = nI (cS (aC a) 1) from k3 1 (by omega), show gi σ 396 5 = nI (cS (aC a) 4) from k3 4 (by omega), e1, bd_ok]
        exact ⟨s, rfl, q2, fun x k he hx => q3 x k (by unfold esM at he; unfold esTh; omega), fun x k hx => q3 x k (by unfold esTh; omega)⟩
    · refine ⟨-1, a, hw, spc_q (fun σ hc => ⟨σ, ?_, fun _ _ _ => rfl, fun _ _ _ => rfl⟩), spm_q (fun σ hc => ⟨σ, ?_, fun _ _ _ => rfl, fun _ _ _ => rfl⟩)⟩
      · obtain ⟨k1, k2, k3⟩ := cs_rr hc.2.2.2.1
        unfold fX6_plan
        rw [tk_ok r0, if_neg (nI_pos (by omega)), i6, if_neg (nI_ge hj (by omega)), c_canPlan hR hwc k2 k3, bd_ok, decide_eq_false hcs, if_neg (by decide)]
      · obtain ⟨k1, k2, k3, k4, k5⟩ := mr_g hn hc.2.2.1
        unfold fX7_plan
        rw [tk_ok m0, m_canSp hM hM2 hwc k3 k4, bd_ok, decide_eq_false hcs, if_pos (by decide)]
  · refine ⟨-1, a, hw, spc_q (fun σ hc => ⟨σ, ?_, fun _ _ _ => rfl, fun _ _ _ => rfl⟩), spm_q (fun σ hc => ⟨σ, ?_, fun _ _ _ => rfl, fun _ _ _ => rfl⟩)⟩
    · unfold fX6_plan
      rw [tk_ok r0]
      rcases hq with h | ⟨h1, h2⟩
      · rw [if_pos h]
      · rw [if_neg h1, i6, if_pos (Int32.not_lt.mp h2)]
    · obtain ⟨k1, k2, k3, k4, k5⟩ := mr_g hn hc.2.2.1
      unfold fX7_plan
      rw [tk_ok m0, m_canSp hM hM2 hwc k3 k4, bd_ok]
      by_cases hcs : canS (aC a)
      · rw [decide_eq_true hcs, if_neg (by decide), show fX7_in E p0 (0 : Int32) (5 : Int32) σ = some (0, σ) from m_inF hq2, bd_ok, if_neg (by decide)]
      · rw [decide_eq_false hcs, if_pos (by decide)]
theorem ok_planned (hR : LRun E) (hM : LMod E) (hM2 : LMo2 E) (p0 p1 p2 : Int32) : Ok (JJ CG' CM' MG' MM') (fX6_planned E 0 p0 p1 p2) (fX7_planned E 395 p0 p1 p2) := by
  refine ok_of (fun a hw => ?_)
  obtain ⟨r0, r1, r3, r4, r5, r8, r9, r10, r11, r12, r13, l1, l2, l35, l36, l37, l38, l39, l61, l63, l64, lp, ls⟩ := id hR
  have m0 := hM.1
  have hwc := hw.2.2.1
  have hn := hwc.1
  have ht3 := hwc.2.2.2.1
  have cf2 : ∀ σ, fX6_fits E (2 : Int32) p0 σ = some (if nI 0 ≤ p0 ∧ p0 ≤ nI 2 then 1 else 0, σ) := fun σ => c_fits (j := 2) (by omega)
  have cf1 : ∀ σ, fX6_fits E (1 : Int32) p1 σ = some (if nI 3 ≤ p1 ∧ p1 ≤ nI 6 then 1 else 0, σ) := fun σ => c_fits (j := 1) (by omega)
  have cf4 : ∀ σ, fX6_fits E (4 : Int32) p2 σ = some (if nI 0 ≤ p2 ∧ p2 ≤ nI 1 then 1 else 0, σ) := fun σ => c_fits (j := 4) (by omega)
  have mf2 : ∀ σ, fX7_canSet E (2 : Int32) p0 σ = some (if nI 0 ≤ p0 ∧ p0 ≤ nI 2 then 1 else 0, σ) := fun σ => m_can (j := 2) (by omega)
  have mf1 : ∀ σ, fX7_canSet E (1 : Int32) p1 σ = some (if nI 3 ≤ p1 ∧ p1 ≤ nI 6 then 1 else 0, σ) := fun σ => m_can (j := 1) (by omega)
  have mf4 : ∀ σ, fX7_canSet E (4 : Int32) p2 σ = some (if nI 0 ≤ p2 ∧ p2 ≤ nI 1 then 1 else 0, σ) := fun σ => m_can (j := 4) (by omega)
  by_cases h1 : cT (aC a) < 1
  · refine ⟨-1, a, hw, spc_q (fun σ hc => ⟨σ, ?_, fun _ _ _ => rfl, fun _ _ _ => rfl⟩), spm_q (fun σ hc => ⟨σ, ?_, fun _ _ _ => rfl, fun _ _ _ => rfl⟩)⟩
    · obtain ⟨k1, k2, k3⟩ := cs_rr hc.2.2.2.1
      have hlast : (dr (rf E 0 3) E 4 (fun x12 => if (gi σ x12 2) < (1 : Int32) then (some ((-1 : Int32), σ)) else (bd (fX6_canSpread E p0 p1 σ) (fun r15 s13 => if ¬ r15 = 0 then (dr (rf E 0 10) E 1 (fun x16 => bd (if ¬ p2 = (1 : Int32) then (some ((0 : Int32), s13)) else (some ((1 : Int32), s13))) (fun w17 s18 => bv (fX1_begin E x16 p0 p1 w17 s18) (fun s19 => bv (fX4_layRuns E x12 x16 s19) (fun s21 => bv (fX1_mergeAll E x16 s21) (fun s23 => dr (rf E x16 12) E 100 (fun x25 => ck (0 : Int32) (ln E x25) (some ((gi s23 x25 (0 : Int32).toNatClampNeg), s23))))))))) else (some ((-1 : Int32), s13)))))) = some (-1, σ) := by
        rw [dr_ok r3 l2.1, k3, i1, if_pos (nI_lt h1 (by omega))]
      unfold fX6_planned
      rw [tk_ok r0, cf2, bd_ok]
      by_cases z2 : nI 0 ≤ p0 ∧ p0 ≤ nI 2
      · rw [if_pos z2, if_neg (by decide), cf1, bd_ok]
        by_cases z1 : nI 3 ≤ p1 ∧ p1 ≤ nI 6
        · rw [if_pos z1, if_neg (by decide), cf4, bd_ok]
          by_cases z4 : nI 0 ≤ p2 ∧ p2 ≤ nI 1
          · rw [if_pos z4, if_neg (by decide), bd_ok, if_neg (by decide)]; exact hlast
          · rw [if_neg z4, if_pos rfl, bd_ok, if_pos rfl]
        · rw [if_neg z1, if_pos rfl, bd_ok, if_pos rfl]
      · rw [if_neg z2, if_pos rfl, bd_ok, if_pos rfl]
    · obtain ⟨k1, k2, k3, k4, k5⟩ := mr_g hn hc.2.2.1
      unfold fX7_planned
      rw [tk_ok m0, dr_ok hM.2.1 hM2.1.1, hM2.1.2, i7, ck_n (by omega) (by omega), nI_clamp (by omega), k4, show cT (aC a) = 0 by omega, if_pos (show nI 0 = 0 from rfl)]
  have hm7 : ∀ σ, RM MG' MM' σ a → ¬ gi σ 396 7 = 0 := fun σ hc => by
    obtain ⟨k1, k2, k3, k4, k5⟩ := mr_g hn hc.2.2.1
    rw [k4]; exact nI_ne0 (by omega) (by omega)
  by_cases z2 : nI 0 ≤ p0 ∧ p0 ≤ nI 2
  · by_cases z1 : nI 3 ≤ p1 ∧ p1 ≤ nI 6
    · by_cases z4 : nI 0 ≤ p2 ∧ p2 ≤ nI 1
      · rcases pin p0 (lo := 0) (hi := 2) (by omega) (by omega) with ⟨w, w0, w2, rfl⟩ | ⟨hz, _⟩
        · rcases pin p1 (lo := 3) (hi := 6) (by omega) (by omega) with ⟨T, t3, t6, rfl⟩ | ⟨hz, _⟩
          · rcases pin p2 (lo := 0) (hi := 1) (by omega) (by omega) with ⟨b, b0, b1, rfl⟩ | ⟨hz, _⟩
            · have h0 := hwc.2.2.2.2.1 (by omega)
              have hnr := nr_c hwc h0
              by_cases hcs : w ≠ 1 ∨ 3 < T
              · have hgo := gok (w := w) (T := T) (nr := nrC (aC a)) (by omega) t3 t6 hnr.1 hnr.2 hcs
                have hK : kst w T (nrC (aC a)) ≤ 699 := hgo.2.2.2.2.2.2.1
                refine ⟨plA w T (b == 1) (aC a) 0, a, hw, spc_q (fun σ hc => ?_), spm_t (fun σ hc => ?_)⟩
                · obtain ⟨k1, k2, k3⟩ := cs_rr hc.2.2.2.1
                  obtain ⟨s1, e1, s, e2, q1, q2, q3, q4, q5⟩ := c_paper (bk := b == 1) hR hwc (by omega) hgo hc.2.2.2.1
                  obtain ⟨s2, e3, v1, v2⟩ := c_mergeAll l39 hgo (by omega) (by omega) (by omega) q1
                  have hsp : fX6_canSpread E (nI w) (nI T) σ = some (1, σ) := by
                    unfold fX6_canSpread
                    by_cases hq : w = 1
                    · rw [hq, if_neg (by simp; rfl), i3, if_neg (nI_ge (by omega) (by omega)), bd_ok, kb_1]
                    · rw [i1, if_pos (fun q => hq ((nI_eq (by omega) (by omega)).mp q)), bd_ok, kb_n1]
                  unfold fX6_planned
                  rw [tk_ok r0, cf2, bd_ok, if_pos z2, if_neg (by decide), cf1, bd_ok, if_pos z1, if_neg (by decide), cf4, bd_ok, if_pos z4, if_neg (by decide), bd_ok, if_neg (by decide), dr_ok r3 l2.1, k3, if_neg (show ¬ nI (cT (aC a)) < (1 : Int32) from nI_nlt (b := 1) (by omega) (by omega)), hsp, bd_ok, if_pos (by decide), dr_ok r10 l39.1, sel_b b1, bd_ok, e1, bv_ok, e2, bv_ok, e3, bv_ok, dr_ok l39.2.2.2.1 l39.2.2.2.2.2.2.2.2.2.2.2.1.1, l39.2.2.2.2.2.2.2.2.2.2.2.1.2, i0, ck_n (by omega) (by omega), nI_clamp (by omega)]
                  refine ⟨s2, ?_, fun x k he => ?_, fun x k hx => ?_⟩
                  · show some (gi s2 42 0, s2) = _
                    rw [c_tal v1 (by rw [v2 42 4 (by unfold esA; omega)]; exact q2) (by rw [v2 42 5 (by unfold esA; omega)]; exact q3) (by omega)]
                  · unfold esC at he
                    rw [v2 _ _ (by unfold esA; omega), q5 _ _ (by omega)]
                  · rw [v2 _ _ (by unfold esA; omega), q5 _ _ (by omega)]
                · obtain ⟨s, e1, _, q2, q3⟩ := m_through hM hM2 hwc (by omega) hgo b1 hc.2.2.1 (j := 0) (by omega)
                  have e1 : fX7_goesThrough E 395 (nI w) (nI T) (nI b) (0 : Int32) σ = some (plA w T (b == 1) (aC a) 0, s) := e1
                  unfold fX7_planned
                  rw [tk_ok m0, dr_ok hM.2.1 hM2.1.1, hM2.1.2, i7, ck_n (by omega) (by omega), nI_clamp (by omega), if_neg (hm7 σ hc), mf2, bd_ok, if_pos z2, if_neg (by decide), mf1, bd_ok, if_pos z1, if_neg (by decide), mf4, bd_ok, if_pos z4, if_neg (by decide)]
                  refine ⟨s, ?_, q2, fun x k he hx => q3 x k (by unfold esM at he; unfold esTh; omega), fun x k hx => q3 x k (by unfold esTh; omega)⟩
                  by_cases hq : w = 1
                  · rw [if_neg (show ¬ ¬ nI w = 1 by rw [hq]; simp; rfl), if_pos (show ¬ nI T = 3 from fun q => by have := (nI_eq (b := 3) (by omega) (by omega)).mp q; omega), e1, bd_ok]
                  · rw [if_pos (show ¬ nI w = 1 from fun q => hq ((nI_eq (by omega) (by omega)).mp q)), e1, bd_ok]
              · have hw1 : w = 1 := by omega
                have hT3 : T = 3 := by omega
                subst hw1 hT3
                refine ⟨-1, a, hw, spc_q (fun σ hc => ⟨σ, ?_, fun _ _ _ => rfl, fun _ _ _ => rfl⟩), spm_q (fun σ hc => ⟨σ, ?_, fun _ _ _ => rfl, fun _ _ _ => rfl⟩)⟩
                · obtain ⟨k1, k2, k3⟩ := cs_rr hc.2.2.2.1
                  have hsp : fX6_canSpread E (nI 1) (nI 3) σ = some (0, σ) := rfl
                  unfold fX6_planned
                  rw [tk_ok r0, cf2, bd_ok, if_pos z2, if_neg (by decide), cf1, bd_ok, if_pos z1, if_neg (by decide), cf4, bd_ok, if_pos z4, if_neg (by decide), bd_ok, if_neg (by decide), dr_ok r3 l2.1, k3, if_neg (show ¬ nI (cT (aC a)) < (1 : Int32) from nI_nlt (b := 1) (by omega) (by omega)), hsp, bd_ok, if_neg (by decide)]
                · unfold fX7_planned
                  rw [tk_ok m0, dr_ok hM.2.1 hM2.1.1, hM2.1.2, i7, ck_n (by omega) (by omega), nI_clamp (by omega), if_neg (hm7 σ hc), mf2, bd_ok, if_pos z2, if_neg (by decide), mf1, bd_ok, if_pos z1, if_neg (by decide), mf4, bd_ok, if_pos z4, if_neg (by decide), if_neg (by decide), if_neg (by decide)]
            · exact absurd z4 hz
          · exact absurd z1 hz
        · exact absurd z2 hz
      · refine ⟨-1, a, hw, spc_q (fun σ hc => ⟨σ, ?_, fun _ _ _ => rfl, fun _ _ _ => rfl⟩), spm_q (fun σ hc => ⟨σ, ?_, fun _ _ _ => rfl, fun _ _ _ => rfl⟩)⟩
        · unfold fX6_planned
          rw [tk_ok r0, cf2, bd_ok, if_pos z2, if_neg (by decide), cf1, bd_ok, if_pos z1, if_neg (by decide), cf4, bd_ok, if_neg z4, if_pos rfl, bd_ok, if_pos rfl]
        · unfold fX7_planned
          rw [tk_ok m0, dr_ok hM.2.1 hM2.1.1, hM2.1.2, i7, ck_n (by omega) (by omega), nI_clamp (by omega), if_neg (hm7 σ hc), mf2, bd_ok, if_pos z2, if_neg (by decide), mf1, bd_ok, if_pos z1, if_neg (by decide), mf4, bd_ok, if_neg z4, if_pos rfl]
    · refine ⟨-1, a, hw, spc_q (fun σ hc => ⟨σ, ?_, fun _ _ _ => rfl, fun _ _ _ => rfl⟩), spm_q (fun σ hc => ⟨σ, ?_, fun _ _ _ => rfl, fun _ _ _ => rfl⟩)⟩
      · unfold fX6_planned
        rw [tk_ok r0, cf2, bd_ok, if_pos z2, if_neg (by decide), cf1, bd_ok, if_neg z1, if_pos rfl, bd_ok, if_pos rfl]
      · unfold fX7_planned
        rw [tk_ok m0, dr_ok hM.2.1 hM2.1.1, hM2.1.2, i7, ck_n (by omega) (by omega), nI_clamp (by omega), if_neg (hm7 σ hc), mf2, bd_ok, if_pos z2, if_neg (by decide), mf1, bd_ok, if_neg z1, if_pos rfl]
  · refine ⟨-1, a, hw, spc_q (fun σ hc => ⟨σ, ?_, fun _ _ _ => rfl, fun _ _ _ => rfl⟩), spm_q (fun σ hc => ⟨σ, ?_, fun _ _ _ => rfl, fun _ _ _ => rfl⟩)⟩
    · unfold fX6_planned
      rw [tk_ok r0, cf2, bd_ok, if_neg z2, if_pos rfl, bd_ok, if_pos rfl]
    · unfold fX7_planned
      rw [tk_ok m0, dr_ok hM.2.1 hM2.1.1, hM2.1.2, i7, ck_n (by omega) (by omega), nI_clamp (by omega), if_neg (hm7 σ hc), mf2, bd_ok, if_neg z2, if_pos rfl]
end PL
