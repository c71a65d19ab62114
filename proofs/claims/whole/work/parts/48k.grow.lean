/-! grow -/
theorem sm_lv {w T nr l L : Nat} (hl : l < L) (hL : L ≤ 40) (h1 : nr ≤ smp w (T - 1) l) (h2 : cntF (fun i => decide (smp w (T - 1) i ≤ 700)) L = L) : smp w (T - 1) (lvA w T nr) ≤ 700 := by
  obtain ⟨e, q1, q2⟩ := fstF_ex (p := fun l => decide (nr ≤ smp w (T - 1) l)) (n := 40) (j := l) (by omega) (by simpa using h1)
  have hlv : lvA w T nr = e := by unfold lvA lvl; rw [q1]; rfl
  rw [hlv]
  have := cntF_all h2 e (by omega)
  simpa using this
theorem sm_03 : cntF (fun i => decide (smp 0 2 i ≤ 700)) 12 = 12 := by decide +kernel
theorem sm_04 : cntF (fun i => decide (smp 0 3 i ≤ 700)) 9 = 9 := by decide +kernel
theorem sm_05 : cntF (fun i => decide (smp 0 4 i ≤ 700)) 8 = 8 := by decide +kernel
theorem sm_06 : cntF (fun i => decide (smp 0 5 i ≤ 700)) 8 = 8 := by decide +kernel
theorem sm_23 : cntF (fun i => decide (smp 2 2 i ≤ 700)) 12 = 12 := by decide +kernel
theorem sm_24 : cntF (fun i => decide (smp 2 3 i ≤ 700)) 7 = 7 := by decide +kernel
theorem sm_25 : cntF (fun i => decide (smp 2 4 i ≤ 700)) 6 = 6 := by decide +kernel
theorem sm_26 : cntF (fun i => decide (smp 2 5 i ≤ 700)) 6 = 6 := by decide +kernel
theorem sm_ok {w T nr : Nat} (hw : w ≤ 2) (hT3 : 3 ≤ T) (hT : T ≤ 6) (hn : nr ≤ 150) (h1 : w ≠ 1) : smp w (T - 1) (lvA w T nr) ≤ 700 := by
  rcases (show w = 0 ∨ w = 2 by omega) with rfl | rfl
  · rcases (show T = 3 ∨ T = 4 ∨ T = 5 ∨ T = 6 by omega) with rfl | rfl | rfl | rfl
    · exact sm_lv (l := 11) (by omega) (by omega) (Nat.le_trans hn lv_03.1) sm_03
    · exact sm_lv (l := 8) (by omega) (by omega) (Nat.le_trans hn lv_04.1) sm_04
    · exact sm_lv (l := 7) (by omega) (by omega) (Nat.le_trans hn lv_05.1) sm_05
    · exact sm_lv (l := 7) (by omega) (by omega) (Nat.le_trans hn lv_06.1) sm_06
  · rcases (show T = 3 ∨ T = 4 ∨ T = 5 ∨ T = 6 by omega) with rfl | rfl | rfl | rfl
    · exact sm_lv (l := 11) (by omega) (by omega) (Nat.le_trans hn lv_23.1) sm_23
    · exact sm_lv (l := 6) (by omega) (by omega) (Nat.le_trans hn lv_24.1) sm_24
    · exact sm_lv (l := 5) (by omega) (by omega) (Nat.le_trans hn lv_25.1) sm_25
    · exact sm_lv (l := 5) (by omega) (by omega) (Nat.le_trans hn lv_26.1) sm_26
section EX
variable {σ : Sg} {c : Cu} {x : Nat}
theorem cs_g (h : CS CG' CM' (lc σ 2) c) (h1 : 1 ≤ cT c) : gi σ 7 2 = nI (nrC c) ∧ gi σ 7 3 = bI (tuC c) ∧ (∀ x, x < cN c → gi σ 8 x = nI (roC c x)) ∧ ∀ r, r < nrC c → gi σ 9 r = nI (glC c r) := by
  obtain ⟨k1, k2, k3, k4⟩ := h.2.2.2.2.2.2.1 h1
  refine ⟨?_, ?_, fun x hx => ?_, fun r hr => ?_⟩
  · rw [lc_at (by omega)] at k1; exact k1
  · rw [lc_at (by omega)] at k2; exact k2
  · have := k3 x hx; rw [lc_at (by omega)] at this; exact this
  · have := k4 r hr; rw [lc_at (by omega)] at this; exact this
theorem cs_m (hw : Wf c) (h : CS CG' CM' (lc σ 2) c) (h2 : 2 ≤ cT c) : cI c ≤ KC c ∧ (cT c = 3 ↔ cI c = KC c) ∧ RMl σ 11 (cS c 2) (cS c 1) (bkC c) (glC c) (nrC c) (miC c) ∧ HOl (cS c 1) (gi σ 33) (miC c) := by
  obtain ⟨k1, k2, k3, k4⟩ := h.2.2.2.2.2.2.2 h2
  have hT := (hw.2.2.1 1 (by omega)).2
  refine ⟨k1, k2, (rml_lc hT).mp k3, fun t r j ht hr hj => ?_⟩
  have := k4 t r j ht hr hj
  rw [lc_at (by omega)] at this; exact this
theorem mk_cs (h1 : RR σ (cF c) (cN c)) (h2 : ∀ j, j < 6 → gi σ 6 j = nI (cS c j)) (h3 : gi σ 2 2 = nI (cT c)) (h4 : 1 ≤ cT c → gi σ 7 2 = nI (nrC c) ∧ gi σ 7 3 = bI (tuC c) ∧ (∀ x, x < cN c → gi σ 8 x = nI (roC c x)) ∧ ∀ r, r < nrC c → gi σ 9 r = nI (glC c r)) (hT : cS c 1 ≤ 6) (h5 : 2 ≤ cT c → cI c ≤ KC c ∧ (cT c = 3 ↔ cI c = KC c) ∧ RMl σ 11 (cS c 2) (cS c 1) (bkC c) (glC c) (nrC c) (miC c) ∧ HOl (cS c 1) (gi σ 33) (miC c)) : CS CG' CM' (lc σ 2) c := by
  obtain ⟨g1, g2, g3, g4⟩ := h1
  refine ⟨?_, fun i hi => ?_, fun i hi => ?_, ?_, fun j hj => ?_, ?_, fun h => ?_, fun h => ?_⟩
  · rw [lc_at (by omega)]; exact g1
  · rw [lc_at (by omega)]; exact g2 i hi
  · rw [lc_at (by omega)]; exact g3 i hi
  · rw [lc_at (by omega)]; exact g4
  · rw [lc_at (by omega)]; exact h2 j hj
  · rw [lc_at (by omega)]; exact h3
  · obtain ⟨k1, k2, k3, k4⟩ := h4 h
    exact ⟨by rw [lc_at (by omega)]; exact k1, by rw [lc_at (by omega)]; exact k2, fun x hx => by rw [lc_at (by omega)]; exact k3 x hx, fun r hr => by rw [lc_at (by omega)]; exact k4 r hr⟩
  · obtain ⟨k1, k2, k3, k4⟩ := h5 h
    exact ⟨k1, k2, (rml_lc hT).mpr k3, fun t r j ht hr hj => by rw [lc_at (by omega)]; exact k4 t r j ht hr hj⟩
theorem mr_mg (hw : Wf c) (h : MR MG' MM' (rw7 σ 396 0) c x) (h1 : 1 ≤ cT c) : gi σ 396 14 = nI (nrC c) ∧ (∀ j, j ≤ nrC c → gi σ 396 (926 + j) = nI (bgC c j)) ∧ (∀ p, p < cN c → gi σ 396 (626 + p) = nI (olC c p)) ∧ ∀ x, x < cN c → gi σ 396 (326 + x) = nI (roC c x) := by
  obtain ⟨k1, k2, k3, k4⟩ := h.2.2.2.2.2.1 h1
  have hn := hw.1
  have hr := (nr_c hw (hw.2.2.2.2.1 h1)).2
  refine ⟨?_, fun j hj => ?_, fun p hp => ?_, fun x hx => ?_⟩
  · rw [rw_at (by omega), Nat.zero_add] at k1; exact k1
  · have := k2 j hj; rw [rw_at (by omega), Nat.zero_add] at this; exact this
  · have := k3 p hp; rw [rw_at (by omega), Nat.zero_add] at this; exact this
  · have := k4 x hx; rw [rw_at (by omega), Nat.zero_add] at this; exact this
theorem mr_mm (hw : Wf c) (h : MR MG' MM' (rw7 σ 396 0) c x) (h2 : 2 ≤ cT c) : cI c ≤ KC c ∧ (cT c = 3 ↔ cI c = KC c) ∧ RMm σ (cF c) (cN c) (roC c) (glC c) (cS c 2) (cS c 1) (bkC c) (miC c) := by
  obtain ⟨k0, k1, k2, k3⟩ := h.2.2.2.2.2.2 h2
  exact ⟨k1, k2, (rmm_rw k0.1 k0.2).mp k3⟩
theorem mk_mr (hw : Wf c) (h0 : gi σ 396 0 = nI (cN c)) (h1 : ∀ i, i < cN c → gi σ 396 (26 + i) = nI (cF c i)) (h2 : ∀ j, j < 6 → gi σ 396 (1 + j) = nI (cS c j)) (h3 : gi σ 396 7 = nI (cT c)) (h8 : gi σ 396 8 = nI x) (h4 : 1 ≤ cT c → gi σ 396 14 = nI (nrC c) ∧ (∀ j, j ≤ nrC c → gi σ 396 (926 + j) = nI (bgC c j)) ∧ (∀ p, p < cN c → gi σ 396 (626 + p) = nI (olC c p)) ∧ ∀ x, x < cN c → gi σ 396 (326 + x) = nI (roC c x)) (h5 : 2 ≤ cT c → cI c ≤ KC c ∧ (cT c = 3 ↔ cI c = KC c) ∧ RMm σ (cF c) (cN c) (roC c) (glC c) (cS c 2) (cS c 1) (bkC c) (miC c)) : MR MG' MM' (rw7 σ 396 0) c x := by
  have hn := hw.1
  have hT := (hw.2.2.1 1 (by omega)).2
  refine ⟨?_, fun i hi => ?_, fun j hj => ?_, ?_, ?_, fun h => ?_, fun h => ?_⟩
  · rw [rw_at (by omega)]; exact h0
  · rw [rw_at (by omega), Nat.zero_add]; exact h1 i hi
  · rw [rw_at (by omega), Nat.zero_add]; exact h2 j hj
  · rw [rw_at (by omega)]; exact h3
  · rw [rw_at (by omega)]; exact h8
  · obtain ⟨k1, k2, k3, k4⟩ := h4 h
    have hr := (nr_c hw (hw.2.2.2.2.1 h)).2
    exact ⟨by rw [rw_at (by omega), Nat.zero_add]; exact k1, fun j hj => by rw [rw_at (by omega), Nat.zero_add]; exact k2 j hj, fun p hp => by rw [rw_at (by omega), Nat.zero_add]; exact k3 p hp, fun x hx => by rw [rw_at (by omega), Nat.zero_add]; exact k4 x hx⟩
  · obtain ⟨k1, k2, k3⟩ := h5 h
    exact ⟨⟨hn, hT⟩, k1, k2, (rmm_rw hn hT).mpr k3⟩
end EX
theorem gv_c {c : Cu} (hw : Wf c) (h0 : 0 < cN c) : GV (cF c) (cN c) (roC c) (glC c) (nrC c) := by
  have hg := gi_c hw
  refine ⟨hw.1, hw.2.1, fun j hj => ⟨?_, ?_⟩, fun x hx => gf_ro hg hx⟩
  · rw [← lst_cnt (f := fal (tuC c) j), List.countP_eq_length_filter]
    exact gf_len h0 hg hj
  · obtain ⟨b1, b2⟩ := gf_bg h0 hg hj
    show 0 < glG (cN c) (gF c) j
    unfold glG; omega
theorem bg_c {c : Cu} (hw : Wf c) (h0 : 0 < cN c) : bgC c 0 = 0 ∧ (∀ r, r < nrC c → bgC c r + glC c r = bgC c (r + 1) ∧ bgC c (r + 1) ≤ cN c) ∧ ∀ r, r < nrC c → ∀ i, i < glC c r → olC c (bgC c r + i) = (cnt (cF c) (cN c) (roC c) (rnj (tuC c) r)).getD i 0 := by
  have hg := gi_c hw
  refine ⟨?_, fun r hr => ?_, fun r hr i hi => ?_⟩
  · show bgG (cN c) (gF c) 0 = 0
    unfold bgG; rw [if_pos (Nat.zero_le _)]; exact hg.2.2.2.2.2.2.2.2.1
  · obtain ⟨b1, b2⟩ := gf_bg h0 hg hr
    exact ⟨by show bgG (cN c) (gF c) r + glG (cN c) (gF c) r = _; unfold glG; show _ = bgG (cN c) (gF c) (r + 1); omega, b2⟩
  · have := gf_at h0 hg hr hi
    show (gO (gF c)).getD _ 0 = _
    rw [show bgC c r = bgG (cN c) (gF c) r from rfl, this]
    congr 1
    unfold sgG cnt
    show _ = (lst (cF c) (cN c) (fal (tuC c) r)).filter (fun x => [r].contains (roC c x))
    congr 1
    funext x
    show (gR (gF c) x == r) = [r].contains (gR (gF c) x)
    simp
    rfl
section OG
variable {E : En}
theorem ok_grow (hR : LRun E) (hM : LMod E) (hM2 : LMo2 E) : Ok (JJ CG' CM' MG' MM') (fX6_grow E 0) (fX7_grow E 395) := by
  refine ok_of (fun a hw => ?_)
  have hwc := hw.2.2.1
  have hn := hwc.1
  obtain ⟨r0, r1, r3, r4, r5, r8, r9, r10, r11, r12, r13, l1, l2, lx⟩ := id hR
  obtain ⟨b0, rb0, rb1, rb3, rb4, rb5, rb6, lr, la4, lg, lm, la31, la32⟩ := id l2
  have m0 := hM.1
  have ht3 := hwc.2.2.2.1
  have hst : ∀ σ, RC CG' CM' σ a → gi σ 2 2 = nI (cT (aC a)) := fun σ hc => (cs_rr hc.2.2.2.1).2.2
  have hsz : ∀ σ, RC CG' CM' σ a → gi σ 3 2 = nI (cN (aC a)) := fun σ hc => (cs_rr hc.2.2.2.1).1.1
  by_cases h1 : 1 ≤ cT (aC a)
  · have h0 := hwc.2.2.2.2.1 h1
    refine ⟨-2, a, hw, spc_q (fun σ hc => ⟨σ, ?_, fun _ _ _ => rfl, fun _ _ _ => rfl⟩), spm_q (fun σ hc => ⟨σ, ?_, fun _ _ _ => rfl, fun _ _ _ => rfl⟩)⟩
    · unfold fX6_grow
      rw [tk_ok r0, dr_ok r3 l2.1, hst σ hc, i1, if_neg (nI_nlt h1 (by omega))]
    · obtain ⟨k1, k2, k3, k4, k5⟩ := mr_g hn hc.2.2.1
      unfold fX7_grow
      rw [tk_ok m0, m_many hM hM2, bd_ok, k1, if_pos (nI_ne0 h0 (by omega)), dr_ok hM.2.1 hM2.1.1, hM2.1.2, i7, ck_n (by omega) (by omega), nI_clamp (by omega), k4, if_neg (nI_nle (by omega) (by omega))]
  by_cases h0 : cN (aC a) = 0
  · refine ⟨-1, a, hw, spc_q (fun σ hc => ⟨σ, ?_, fun _ _ _ => rfl, fun _ _ _ => rfl⟩), spm_q (fun σ hc => ⟨σ, ?_, fun _ _ _ => rfl, fun _ _ _ => rfl⟩)⟩
    · unfold fX6_grow
      rw [tk_ok r0, dr_ok r3 l2.1, hst σ hc, i1, if_pos (nI_lt (by omega) (by omega)), dr_ok rb0 lr.1, hsz σ hc, h0, if_neg (by simp; rfl)]
    · obtain ⟨k1, k2, k3, k4, k5⟩ := mr_g hn hc.2.2.1
      unfold fX7_grow
      rw [tk_ok m0, m_many hM hM2, bd_ok, k1, h0, if_neg (by simp; rfl)]
  have h0' : 0 < cN (aC a) := by omega
  have hwc' : Wf (cF (aC a), cN (aC a), cS (aC a), 1, 0) := ⟨hwc.1, hwc.2.1, hwc.2.2.1, by show 1 ≤ 3; omega, fun _ => h0', fun h => absurd h (by show ¬ 2 ≤ 1; omega)⟩
  have hs0 := hwc.2.2.1 0 (by omega)
  have hs5 := hwc.2.2.1 5 (by omega)
  refine ⟨nI (nrC (aC a)), (aB a, aN a, (cF (aC a), cN (aC a), cS (aC a), 1, 0), aX a, (rem a).2.2.2.2), ?_, fun σ hc => ?_, fun σ hc => ?_⟩
  · obtain ⟨g1, g2, g3, g4, g5, g6, g7⟩ := rem_wf hw
    exact ⟨g1, g2, hwc', g4, g5, g6, g7⟩
  · obtain ⟨s, e1, e2, e3, e4⟩ := c_rem hR cpy_ok hw hc
    obtain ⟨k1, k2, k3⟩ : RR s (cF (aC a)) (cN (aC a)) ∧ (∀ j, j < 6 → gi s 6 j = nI (cS (aC a) j)) ∧ gi s 2 2 = nI (cT (aC a)) := cs_rr e2.2.2.2.1
    obtain ⟨s2, g1, g2, g3, g4, g5, g6⟩ := c_growFrom (σ := s) (a := 7) (d := 3) (n := cN (aC a)) (F := cF (aC a)) (R := cS (aC a) 0) (tu := tuC (aC a)) lg lr rfl h0' hn hs0.1 hs0.2 k1.1 k1.2.1 hwc.2.1
    have hsel : (if ¬ (gi s 6 5) = (1 : Int32) then (some ((0 : Int32), s)) else (some ((1 : Int32), s))) = some (bI (tuC (aC a)), s) := by
      rw [k2 5 (by omega)]
      have : cS (aC a) 5 ≤ 1 := hs5.2
      rcases (show cS (aC a) 5 = 0 ∨ cS (aC a) 5 = 1 by omega) with q | q
      · show _ = some (bI (cS (aC a) 5 == 1), s); rw [q]; rfl
      · show _ = some (bI (cS (aC a) 5 == 1), s); rw [q]; rfl
    have g1' : fX0_growFrom E (2 + 5) (2 + 1) (nI (cS (aC a) 0)) (bI (tuC (aC a))) s = some s2 := g1
    unfold fX6_grow fX4_growRuns
    rw [tk_ok r0, dr_ok r3 l2.1, hst σ hc, i1, if_pos (nI_lt (by omega) (by omega)), dr_ok rb0 lr.1, hsz σ hc, if_pos (nI_ne0 h0' (by omega)), e1, bv_ok, tk_ok b0, dr_ok rb3 lg.1, dr_ok rb0 lr.1, dr_ok rb1 la4.1, la4.2, i0, ck_n (by omega) (by omega), i5, ck_n (by omega) (by omega), nI_clamp (by omega), nI_clamp (by omega), show nI 1 = (1 : Int32) from rfl, show nI 0 = (0 : Int32) from rfl, hsel, bd_ok, k2 0 (by omega), g1', bv_ok, ss_ok, bv_ok, dr_ok rb3 lg.1]
    have hfr : ∀ x k, (x < 7 ∨ 11 ≤ x) → ¬ (x = 2 ∧ k = 2) → gi (si s2 2 2 1) x k = gi s x k := fun x k hx hk => by rw [gs_ne (by omega), g6 _ _ (by omega)]
    refine ⟨si s2 2 2 1, ?_, rc_act e2 (mk_cs ⟨?_, fun i hi => ?_, fun i hi => ?_, ?_⟩ (fun j hj => ?_) gs_eq (fun _ => ⟨?_, ?_, fun x hx => ?_, fun r hr => ?_⟩) (hwc.2.2.1 1 (by omega)).2 (fun h => absurd h (by show ¬ 2 ≤ 1; omega))) ?_ (fun x k q1 q2 q3 => hfr _ _ (by omega) (by omega)), fun x k q => ?_⟩
    · show some (gi (si s2 2 2 1) 7 2, _) = _
      rw [gs_ne (by omega), g2]; rfl
    · rw [hfr _ _ (by omega) (by omega)]; exact k1.1
    · rw [hfr _ _ (by omega) (by omega)]; exact k1.2.1 i hi
    · rw [hfr _ _ (by omega) (by omega)]; exact k1.2.2.1 i hi
    · rw [hfr _ _ (by omega) (by omega)]; exact k1.2.2.2
    · rw [hfr _ _ (by omega) (by omega)]; exact k2 j hj
    · rw [gs_ne (by omega)]; exact g2
    · rw [gs_ne (by omega)]; exact g3
    · rw [gs_ne (by omega)]; exact g4 x hx
    · rw [gs_ne (by omega)]; exact g5 r hr
    · rw [hfr _ _ (by omega) (by omega)]; exact e2.2.2.1
    · rw [hfr _ _ (by omega) (by omega)]; exact e4 x k q
  · obtain ⟨s, e1, e2, e3, e4⟩ := m_rem hM hM2 hw hc
    obtain ⟨k1, k2, k3, k4, k5⟩ := mr_g hn hc.2.2.1
    obtain ⟨s2, g1, g2, g3, g4, g5, g6⟩ := m_laysRuns (σ := s) (n := cN (aC a)) (F := cF (aC a)) (R := cS (aC a) 0) (tu := tuC (aC a)) (s5 := cS (aC a) 5) hM hM2 (by rw [e3]; exact k3 5 (by omega)) hs5.2 rfl h0' hn hs0.1 hs0.2 (by rw [e3]; exact k3 0 (by omega)) (by rw [e3]; exact k1) (fun i hi => by rw [e3]; exact k2 i hi) hwc.2.1
    unfold fX7_grow
    rw [tk_ok m0, m_many hM hM2, bd_ok, k1, if_pos (nI_ne0 h0' (by omega)), dr_ok hM.2.1 hM2.1.1, hM2.1.2, i7, ck_n (by omega) (by omega), nI_clamp (by omega), k4, show cT (aC a) = 0 by omega, if_pos (by decide), e1, bv_ok, g1, bv_ok, ck_n (by omega) (by omega), ss_ok, show (14 : Int32) = nI 14 from rfl, ck_n (by omega) (by omega), nI_clamp (by omega), gs_ne (by omega), g2]
    have hfr : ∀ k, k < 326 ∨ 1227 ≤ k → k ≠ 7 → k ≠ 14 → gi (si s2 396 7 1) 396 k = gi σ 396 k := fun k hk h7 h14 => by rw [gs_ne (by omega), g6 _ _ (by unfold esG; omega) (by omega), e3]
    refine ⟨_, rfl, rm_act e2 (mk_mr hwc' ?_ (fun i hi => ?_) (fun j hj => ?_) gs_eq ?_ (fun _ => ⟨?_, fun j hj => ?_, fun p hp => ?_, fun x hx => ?_⟩) (fun h => absurd h (by show ¬ 2 ≤ 1; omega))) (fun x k q => ?_), fun x k q => ?_⟩
    · rw [hfr _ (by omega) (by omega) (by omega)]; exact k1
    · have hi : i < cN (aC a) := hi
      rw [hfr _ (by omega) (by omega) (by omega)]; exact k2 i hi
    · rw [hfr _ (by omega) (by omega) (by omega)]; exact k3 j hj
    · rw [hfr _ (by omega) (by omega) (by omega)]; exact k5
    · rw [gs_ne (by omega)]; exact g2
    · rw [gs_ne (by omega)]; exact g5 j hj
    · rw [gs_ne (by omega)]; exact g4 p hp
    · rw [gs_ne (by omega)]; exact g3 x hx
    · rw [gs_ne (by omega), g6 _ _ (by unfold esG; omega) (by omega)]
    · rw [gs_ne (by omega), g6 _ _ (by unfold esG; omega) (by omega)]; exact e4 x k q
end OG
