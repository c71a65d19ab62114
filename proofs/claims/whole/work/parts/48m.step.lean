/-! step, phase, all -/
def mvC (c : Cu) : Nat := szl (glC c) (catF (gvf (cS c 2) (cS c 1 / 2) (mK (miC c))) (mT (miC c)) (cS c 1))
noncomputable def itC (c : Cu) (i : Nat) : Cu := (cF c, cN c, cS c, if cI c + i = KC c then 3 else 2, cI c + i)
section ST
variable {E : En} {σ : Sg} {c : Cu} {x : Nat}
theorem wf_it (hw : Wf c) (h2 : 2 ≤ cT c) (i : Nat) : Wf (itC c i) := ⟨hw.1, hw.2.1, hw.2.2.1, by show (if cI c + i = KC c then 3 else 2) ≤ 3; split <;> omega, fun _ => hw.2.2.2.2.1 (by omega), fun _ => hw.2.2.2.2.2 h2⟩
theorem it_0 (h2 : cT c = 2) (hi : cI c < KC c) : itC c 0 = c := by
  unfold itC
  rw [if_neg (show ¬ cI c + 0 = KC c by omega), ← h2]; rfl
theorem it_T (i : Nat) (hi : cI c + i < KC c) : cT (itC c i) = 2 := by
  show (if cI c + i = KC c then 3 else 2) = 2
  rw [if_neg (by omega)]
theorem nx_mo : mMo (miC (nxC c)) = mMo (miC c) + mvC c := by
  show mMo (stp (cS c 2) (cS c 1) (bkC c) (glC c) (miC c)) = _
  unfold stp
  rw [tul_n.2.2]; rfl
theorem c_once (hR : LRun E) (hw : Wf c) (h2 : cT c = 2) (h : CS CG' CM' (lc σ 2) c) : ∃ s, fX4_mergeOnce E 2 σ = some s ∧ CS CG' CM' (lc s 2) (nxC c) ∧ ∀ x k, (x < 2 ∨ 35 ≤ x) → gi s x k = gi σ x k := by
  obtain ⟨r0, r1, r3, r4, r5, r8, r9, r10, r11, r12, r13, l1, l2, lx⟩ := id hR
  obtain ⟨k1, k2, k3⟩ := cs_rr h
  obtain ⟨g1, g2, g3, g4⟩ := cs_g h (by omega)
  obtain ⟨i1', i2', i3', i4'⟩ := cs_m hw h (by omega)
  have h0 := hw.2.2.2.2.1 (by omega)
  have hgo := gok_c hw h0 (hw.2.2.2.2.2 (by omega))
  have hnr := (nr_c hw h0).2
  have hlt : cI c < kst (cS c 2) (cS c 1) (nrC c) := by
    have : cI c ≠ KC c := fun q => by have := i2'.mpr q; omega
    have : cI c ≤ KC c := i1'
    show cI c < KC c
    omega
  obtain ⟨hw2, hT3, hT, _⟩ := id hgo
  obtain ⟨s, e1, q1, q2, q3, q4⟩ := c_mergeOnce (σ := σ) (b := 2) l2 i3' hT hT3 hw2 (by omega) g1 (mil_ai hgo (Nat.le_of_lt hlt)) (mil_ok hgo hlt).1 i4'
  refine ⟨s, e1, mk_cs ⟨?_, fun i hi => ?_, fun i hi => ?_, ?_⟩ (fun j hj => ?_) ?_ (fun _ => ⟨?_, ?_, fun x hx => ?_, fun r hr => ?_⟩) hT (fun _ => ⟨hlt, ?_, q1, q2⟩), fun x k hx => q4 _ _ (by omega) (by omega)⟩
  · rw [q4 _ _ (by omega) (by omega)]; exact k1.1
  · rw [q4 _ _ (by omega) (by omega)]; exact k1.2.1 i hi
  · rw [q4 _ _ (by omega) (by omega)]; exact k1.2.2.1 i hi
  · rw [q4 _ _ (by omega) (by omega)]; exact k1.2.2.2
  · rw [q4 _ _ (by omega) (by omega)]; exact k2 j hj
  · rw [q3, k3, h2]
    show (if lef (cS c 1) (mK (miC (nxC c))) = 1 then (3 : Int32) else nI 2) = nI (if cI c + 1 = KC c then 3 else 2)
    have hks : lef (cS c 1) (mK (miC (nxC c))) = 1 ↔ cI c + 1 = KC c := kst_s (bk := bkC c) (fr := frC c) (tu := tuC c) (gl := glC c) hgo hlt
    by_cases hq : cI c + 1 = KC c
    · rw [if_pos (hks.mpr hq), if_pos hq]; rfl
    · rw [if_neg (fun z => hq (hks.mp z)), if_neg hq]
  · rw [q4 _ _ (by omega) (by omega)]; exact g1
  · rw [q4 _ _ (by omega) (by omega)]; exact g2
  · rw [q4 _ _ (by omega) (by omega)]; exact g3 x hx
  · rw [q4 _ _ (by omega) (by omega)]; exact g4 r hr
  · show (if cI c + 1 = KC c then 3 else 2) = 3 ↔ cI c + 1 = KC c
    split
    · next q => exact ⟨fun _ => q, fun _ => rfl⟩
    · next q => exact ⟨fun z => by omega, fun z => absurd z q⟩
theorem m_once (hM : LMod E) (hM2 : LMo2 E) (hw : Wf c) (h2 : cT c = 2) (h : MR MG' MM' (rw7 σ 396 0) c x) : ∃ s, fX7_steps E 395 σ = some (nI (mvC c), s) ∧ MR MG' MM' (rw7 s 396 0) (nxC c) x ∧ ∀ y k, y ≠ 396 → ¬ (407 ≤ y ∧ y ≤ 409) → gi s y k = gi σ y k := by
  obtain ⟨k1, k2, k3, k4, k5⟩ := mr_g hw.1 h
  have kg := mr_mg hw h (by omega)
  obtain ⟨i1', i2', i3'⟩ := mr_mm hw h (by omega)
  have h0 := hw.2.2.2.2.1 (by omega)
  have hn := hw.1
  have hgo := gok_c hw h0 (hw.2.2.2.2.2 (by omega))
  have hnr := (nr_c hw h0).2
  have hlt : cI c < kst (cS c 2) (cS c 1) (nrC c) := by
    have : cI c ≠ KC c := fun q => by have := i2'.mpr q; omega
    have : cI c ≤ KC c := i1'
    show cI c < KC c
    omega
  obtain ⟨hw2, hT3, hT, _⟩ := id hgo
  obtain ⟨s, e1, q1, q2, q3⟩ := m_step hM hM2 (gv_c hw h0) hT hT3 hw2 (mil_ai hgo (Nat.le_of_lt hlt)) (mil_ok hgo hlt).1 i3'
  have hwx : Wf (nxC c) := wf_it hw (by omega) 1
  have hfr : ∀ k, k < 7 ∨ k = 8 ∨ k = 14 ∨ (26 ≤ k ∧ k < 1227) → gi s 396 k = gi σ 396 k := fun k hk => q3 _ _ (by unfold esQ; omega)
  refine ⟨s, e1, mk_mr hwx ?_ (fun i hi => ?_) (fun j hj => ?_) ?_ ?_ (fun _ => ⟨?_, fun j hj => ?_, fun p hp => ?_, fun y hy => ?_⟩) (fun _ => ⟨hlt, ?_, q1⟩), fun y k hy hk => q3 _ _ (by unfold esQ; omega)⟩
  · rw [hfr _ (by omega)]; exact k1
  · have hi : i < cN c := hi
    rw [hfr _ (by omega)]; exact k2 i hi
  · rw [hfr _ (by omega)]; exact k3 j hj
  · rw [q2, k4, h2]
    show (if lef (cS c 1) (mK (miC (nxC c))) = 1 then (3 : Int32) else nI 2) = nI (if cI c + 1 = KC c then 3 else 2)
    have hks : lef (cS c 1) (mK (miC (nxC c))) = 1 ↔ cI c + 1 = KC c := kst_s (bk := bkC c) (fr := frC c) (tu := tuC c) (gl := glC c) hgo hlt
    by_cases hq : cI c + 1 = KC c
    · rw [if_pos (hks.mpr hq), if_pos hq]; rfl
    · rw [if_neg (fun z => hq (hks.mp z)), if_neg hq]
  · rw [hfr _ (by omega)]; exact k5
  · rw [hfr _ (by omega)]; exact kg.1
  · have hj : j ≤ nrC c := hj
    rw [hfr _ (by omega)]; exact kg.2.1 j hj
  · have hp : p < cN c := hp
    rw [hfr _ (by omega)]; exact kg.2.2.1 p hp
  · have hy : y < cN c := hy
    rw [hfr _ (by omega)]; exact kg.2.2.2 y hy
  · show (if cI c + 1 = KC c then 3 else 2) = 3 ↔ cI c + 1 = KC c
    split
    · next q => exact ⟨fun _ => q, fun _ => rfl⟩
    · next q => exact ⟨fun z => by omega, fun z => absurd z q⟩
theorem c_tally (hw : Wf c) (h2 : 2 ≤ cT c) (h : CS CG' CM' (lc σ 2) c) : gi σ 14 0 = nI (mMo (miC c)) ∧ gi σ 14 1 = nI (cI c) ∧ gi σ 14 2 = nI (mPh (miC c)) ∧ gi σ 14 3 = nI (mTu (miC c)) := by
  obtain ⟨_, _, ⟨L, H, _, _, _, _, t0, t1, t2, t3⟩, _⟩ := cs_m hw h h2
  refine ⟨t0, ?_, t2, t3⟩
  rw [show mSt (miC c) = cI c from mil_st _] at t1; exact t1
theorem m_tally (hw : Wf c) (h2 : 2 ≤ cT c) (h : MR MG' MM' (rw7 σ 396 0) c x) : gi σ 396 9 = nI (mMo (miC c)) ∧ gi σ 396 10 = nI (cI c) ∧ gi σ 396 11 = nI (mPh (miC c)) ∧ gi σ 396 12 = nI (mTu (miC c)) := by
  obtain ⟨_, _, _, _, _, t0, t1, t2, t3⟩ := mr_mm hw h h2
  refine ⟨t0, ?_, t2, t3⟩
  rw [show mSt (miC c) = cI c from mil_st _] at t1; exact t1
theorem c_why (hR : LRun E) (h2 : gi σ 2 2 = nI (cT c)) (ht : cT c ≤ 3) : fX6_whyNoStep E 0 σ = some (if cT c = 3 then -2 else if cT c = 2 then 0 else -1, σ) := by
  obtain ⟨r0, r1, r3, r4, r5, r8, r9, r10, r11, r12, r13, l1, l2, lx⟩ := id hR
  unfold fX6_whyNoStep
  rw [tk_ok r0, dr_ok r3 l2.1, h2]
  rcases (show cT c = 0 ∨ cT c = 1 ∨ cT c = 2 ∨ cT c = 3 by omega) with q | q | q | q <;> rw [q] <;> rfl
theorem m_refused (hM : LMod E) (hM2 : LMo2 E) (h7 : gi σ 396 7 = nI (cT c)) (ht : cT c ≤ 3) : fX7_refused E 395 σ = some (if cT c = 3 then -2 else if cT c = 2 then 0 else -1, σ) := by
  unfold fX7_refused fX7_isSpread
  rw [tk_ok hM.1, tk_ok hM.1, dr_ok hM.2.1 hM2.1.1, hM2.1.2, i7, ck_n (by omega) (by omega), nI_clamp (by omega), h7]
  rcases (show cT c = 0 ∨ cT c = 1 ∨ cT c = 2 ∨ cT c = 3 by omega) with q | q | q | q
  · rw [q]; rfl
  · rw [q]; rfl
  · rw [q, if_neg (by decide), bd_ok, kb_1, bd_ok, if_pos (by decide), dr_ok hM.2.1 hM2.1.1, hM2.1.2, ck_n (by omega) (by omega), h7, q]; rfl
  · rw [q, if_neg (by decide), bd_ok, kb_1, bd_ok, if_pos (by decide), dr_ok hM.2.1 hM2.1.1, hM2.1.2, ck_n (by omega) (by omega), h7, q]; rfl
/-- not spread, or merged: nothing happens -/
theorem no_step (hR : LRun E) (hM : LMod E) (hM2 : LMo2 E) {f g : Sg → Option (Int32 × Sg)} {a : Ab} (hw : Wfa a) (h2 : cT (aC a) ≠ 2) (hf : ∀ σ r, r ≠ 0 → fX6_whyNoStep E 0 σ = some (r, σ) → f σ = some (r, σ)) (hg : ∀ σ r, r ≠ 0 → fX7_refused E 395 σ = some (r, σ) → g σ = some (r, σ)) : ∃ r a', Wfa a' ∧ SpC CG' CM' f r a a' ∧ SpM MG' MM' g r a a' := by
  have hwc := hw.2.2.1
  have ht := hwc.2.2.2.1
  refine ⟨if cT (aC a) = 3 then -2 else -1, a, hw, spc_q (fun σ hc => ⟨σ, ?_, fun _ _ _ => rfl, fun _ _ _ => rfl⟩), spm_q (fun σ hc => ⟨σ, ?_, fun _ _ _ => rfl, fun _ _ _ => rfl⟩)⟩
  · have := c_why (c := aC a) hR (cs_rr hc.2.2.2.1).2.2 ht
    rw [if_neg h2] at this
    exact hf σ _ (by split <;> decide) this
  · obtain ⟨k1, k2, k3, k4, k5⟩ := mr_g hwc.1 hc.2.2.1
    have := m_refused (c := aC a) hM hM2 k4 ht
    rw [if_neg h2] at this
    exact hg σ _ (by split <;> decide) this
theorem ok_step (hR : LRun E) (hM : LMod E) (hM2 : LMo2 E) : Ok (JJ CG' CM' MG' MM') (fX6_step E 0) (fX7_step E 395) := by
  refine ok_of (fun a hw => ?_)
  have hwc := hw.2.2.1
  obtain ⟨r0, r1, r3, r4, r5, r8, r9, r10, r11, r12, r13, l1, l2, lx⟩ := id hR
  obtain ⟨b0, rb0, rb1, rb3, rb4, rb5, rb6, lr, la4, lg, lm, la31, la32⟩ := id l2
  have m0 := hM.1
  have ht := hwc.2.2.2.1
  by_cases h2 : cT (aC a) = 2
  · have hwx : Wf (nxC (aC a)) := wf_it hwc (by omega) 1
    refine ⟨nI (mvC (aC a)), (aB a, aN a, nxC (aC a), aX a, (rem a).2.2.2.2), ?_, fun σ hc => ?_, fun σ hc => ?_⟩
    · obtain ⟨g1, g2, g3, g4, g5, g6, g7⟩ := rem_wf hw
      exact ⟨g1, g2, hwx, g4, g5, g6, g7⟩
    · obtain ⟨s, e1, e2, e3, e4⟩ := c_rem hR cpy_ok hw hc
      obtain ⟨s2, g1, g2, g3⟩ := c_once (σ := s) (c := aC a) hR hwc h2 e2.2.2.2.1
      have hy := c_why (c := aC a) hR (cs_rr hc.2.2.2.1).2.2 ht
      rw [if_neg (by omega), if_pos h2] at hy
      have t1 := (c_tally (c := aC a) hwc (by omega) e2.2.2.2.1).1
      have t2 := (c_tally (c := nxC (aC a)) hwx (by show 2 ≤ (if cI (aC a) + 1 = KC (aC a) then 3 else 2); split <;> omega) g2).1
      rw [nx_mo] at t2
      unfold fX6_step
      rw [tk_ok r0, hy, bd_ok, if_pos rfl, e1, bv_ok, dr_ok r3 l2.1, dr_ok rb4 lm.1, dr_ok lm.2.2.2.1 lm.2.2.2.2.2.2.2.2.2.2.2.1.1, lm.2.2.2.2.2.2.2.2.2.2.2.1.2, i0, ck_n (by omega) (by omega), lt_ok, nI_clamp (by omega), show gi s (2 + 9 + 3) 0 = gi s 14 0 from rfl, t1, g1, bv_ok, ck_n (by omega) (by omega)]
      refine ⟨s2, ?_, rc_act e2 g2 (by rw [g3 _ _ (by omega)]; exact e2.2.2.1) (fun x k q1 q2 q3 => g3 _ _ (by omega)), fun x k q => by rw [g3 _ _ (by omega)]; exact e4 x k q⟩
      show some (gi s2 14 0 - _, s2) = _
      rw [t2, sub_n (by omega), show mMo (miC (aC a)) + mvC (aC a) - mMo (miC (aC a)) = mvC (aC a) by omega]
    · obtain ⟨s, e1, e2, e3, e4⟩ := m_rem hM hM2 hw hc
      obtain ⟨k1, k2, k3, k4, k5⟩ := mr_g hwc.1 hc.2.2.1
      have hy := m_refused (c := aC a) hM hM2 k4 ht
      rw [if_neg (by omega), if_pos h2] at hy
      obtain ⟨s2, g1, g2, g3⟩ := m_once (σ := s) (c := aC a) (x := aX a) hM hM2 hwc h2 e2.2.2.1
      unfold fX7_step
      rw [tk_ok m0, hy, bd_ok, if_pos rfl, e1, bv_ok, g1, bd_ok]
      exact ⟨s2, rfl, rm_act e2 g2 (fun x k q => g3 _ _ (by omega) (by omega)), fun x k q => by rw [g3 _ _ (by omega) (by omega)]; exact e4 x k q⟩
  · exact no_step hR hM hM2 hw h2 (fun σ r hr h => by unfold fX6_step; rw [tk_ok r0, h, bd_ok, if_neg hr]) (fun σ r hr h => by unfold fX7_step; rw [tk_ok m0, h, bd_ok, if_neg hr, h, bd_ok])
/-- steps by the dozen -/
theorem c_many (hR : LRun E) (hw : Wf c) (h2 : cT c = 2) (hlt : cI c < KC c) {s0 : Sg} (h : CS CG' CM' (lc s0 2) c) {i : Nat} (hi : cI c + i < KC c) {s : Sg} (hs : CS CG' CM' (lc s 2) (itC c i)) : ∃ s', fX4_mergeOnce E 2 s = some s' ∧ CS CG' CM' (lc s' 2) (itC c (i + 1)) ∧ ∀ x k, (x < 2 ∨ 35 ≤ x) → gi s' x k = gi s x k := c_once (c := itC c i) hR (wf_it hw (by omega) i) (it_T i hi) hs
theorem kc_lt (hw : Wf c) (h2 : cT c = 2) (h : CS CG' CM' (lc σ 2) c) : cI c < KC c ∧ KC c ≤ 699 := by
  obtain ⟨i1', i2', _, _⟩ := cs_m hw h (by omega)
  have hgo := gok_c hw (hw.2.2.2.2.1 (by omega)) (hw.2.2.2.2.2 (by omega))
  have h1 : cI c ≠ KC c := fun q => by have := i2'.mpr q; omega
  have h3 : KC c ≤ 699 := hgo.2.2.2.2.2.2.1
  omega
theorem kc_ltm (hw : Wf c) (h2 : cT c = 2) (h : MR MG' MM' (rw7 σ 396 0) c x) : cI c < KC c ∧ KC c ≤ 699 := by
  obtain ⟨i1', i2', _⟩ := mr_mm hw h (by omega)
  have hgo := gok_c hw (hw.2.2.2.2.1 (by omega)) (hw.2.2.2.2.2 (by omega))
  have h1 : cI c ≠ KC c := fun q => by have := i2'.mpr q; omega
  have h3 : KC c ≤ 699 := hgo.2.2.2.2.2.2.1
  omega
/-- how many steps a call for some comes to: as long as st says so -/
theorem ok_steps (hR : LRun E) (hM : LMod E) (hM2 : LMo2 E) {f g : Sg → Option (Int32 × Sg)} (P : Cu → Nat)
    (hP : ∀ c, Wf c → cT c = 2 → cI c < KC c → KC c ≤ 699 → cI c + P c ≤ KC c)
    (hf0 : ∀ σ r, r ≠ 0 → fX6_whyNoStep E 0 σ = some (r, σ) → f σ = some (r, σ)) (hg0 : ∀ σ r, r ≠ 0 → fX7_refused E 395 σ = some (r, σ) → g σ = some (r, σ))
    (hf : ∀ c σ s, Wf c → cT c = 2 → cI c < KC c → KC c ≤ 699 → fX6_whyNoStep E 0 σ = some (0, σ) → fX6_remember E 0 σ = some s → CS CG' CM' (lc s 2) c → ∃ s', f σ = some (nI (P c), s') ∧ CS CG' CM' (lc s' 2) (itC c (P c)) ∧ ∀ x k, (x < 2 ∨ 35 ≤ x) → gi s' x k = gi s x k)
    (hg : ∀ c σ s x, Wf c → cT c = 2 → cI c < KC c → KC c ≤ 699 → fX7_refused E 395 σ = some (0, σ) → fX7_remembers E 395 σ = some s → MR MG' MM' (rw7 s 396 0) c x → ∃ s', g σ = some (nI (P c), s') ∧ MR MG' MM' (rw7 s' 396 0) (itC c (P c)) x ∧ ∀ y k, y ≠ 396 → ¬ (407 ≤ y ∧ y ≤ 409) → gi s' y k = gi s y k) : Ok (JJ CG' CM' MG' MM') f g := by
  refine ok_of (fun a hw => ?_)
  have hwc := hw.2.2.1
  have ht := hwc.2.2.2.1
  by_cases h2 : cT (aC a) = 2
  · refine ⟨nI (P (aC a)), (aB a, aN a, itC (aC a) (P (aC a)), aX a, (rem a).2.2.2.2), ?_, fun σ hc => ?_, fun σ hc => ?_⟩
    · obtain ⟨g1, g2, g3, g4, g5, g6, g7⟩ := rem_wf hw
      exact ⟨g1, g2, wf_it hwc (by omega) _, g4, g5, g6, g7⟩
    · obtain ⟨s, e1, e2, e3, e4⟩ := c_rem hR cpy_ok hw hc
      have hk := kc_lt (c := aC a) hwc h2 hc.2.2.2.1
      have hy := c_why (c := aC a) hR (cs_rr hc.2.2.2.1).2.2 ht
      rw [if_neg (by omega), if_pos h2] at hy
      obtain ⟨s2, g1, g2, g3⟩ := hf (aC a) σ s hwc h2 hk.1 hk.2 hy e1 e2.2.2.2.1
      exact ⟨s2, g1, rc_act e2 g2 (by rw [g3 _ _ (by omega)]; exact e2.2.2.1) (fun x k q1 q2 q3 => g3 _ _ (by omega)), fun x k q => by rw [g3 _ _ (by omega)]; exact e4 x k q⟩
    · obtain ⟨s, e1, e2, e3, e4⟩ := m_rem hM hM2 hw hc
      obtain ⟨k1, k2, k3, k4, k5⟩ := mr_g hwc.1 hc.2.2.1
      have hk := kc_ltm (c := aC a) hwc h2 hc.2.2.1
      have hy := m_refused (c := aC a) hM hM2 k4 ht
      rw [if_neg (by omega), if_pos h2] at hy
      obtain ⟨s2, g1, g2, g3⟩ := hg (aC a) σ s (aX a) hwc h2 hk.1 hk.2 hy e1 e2.2.2.1
      exact ⟨s2, g1, rm_act e2 g2 (fun x k q => g3 _ _ (by omega) (by omega)), fun x k q => by rw [g3 _ _ (by omega) (by omega)]; exact e4 x k q⟩
  · exact no_step hR hM hM2 hw h2 hf0 hg0
theorem ok_all (hR : LRun E) (hM : LMod E) (hM2 : LMo2 E) : Ok (JJ CG' CM' MG' MM') (fX6_all E 0) (fX7_all E 395) := by
  obtain ⟨r0, r1, r3, r4, r5, r8, r9, r10, r11, r12, r13, l1, l2, lx⟩ := id hR
  obtain ⟨b0, rb0, rb1, rb3, rb4, rb5, rb6, lr, la4, lg, lm, la31, la32⟩ := id l2
  have m0 := hM.1
  refine ok_steps hR hM hM2 (fun c => KC c - cI c) (fun c _ _ h _ => by omega) (fun σ r hr h => by unfold fX6_all; rw [tk_ok r0, h, bd_ok, if_neg hr]) (fun σ r hr h => by unfold fX7_all; rw [tk_ok m0, h, bd_ok, if_neg hr, h, bd_ok]) ?_ ?_
  · intro c σ s hw h2 hlt hk hy e1 hc
    obtain ⟨⟨v, s2⟩, e2, q1, q2⟩ := for_in (F := fun (rec : Int32 × Sg → Option (Int32 × Sg)) (a : Int32 × Sg) => bX6_all_30 E 2 (fun u0 t => rec (u0, t)) a.1 a.2) (KC c - cI c)
      (fun i b => b.1 = nI i ∧ CS CG' CM' (lc b.2 2) (itC c i) ∧ ∀ x k, (x < 2 ∨ 35 ≤ x) → gi b.2 x k = gi s x k)
      (fun b => CS CG' CM' (lc b.2 2) (itC c (KC c - cI c)) ∧ ∀ x k, (x < 2 ∨ 35 ≤ x) → gi b.2 x k = gi s x k) (N := FU) (by show KC c - cI c < 1000000; omega)
      (by
        rintro i ⟨v, s2⟩ rec hi ⟨rfl, q1, q2⟩
        dsimp only at q1 q2 ⊢
        obtain ⟨s3, g1, g2, g3⟩ := c_many hR hw h2 hlt hc (i := i) (by omega) q1
        have hst := (cs_rr q1).2.2
        rw [it_T i (by omega)] at hst
        unfold bX6_all_30
        rw [show (100000 : Int32) = nI 100000 from rfl, if_neg (nI_ge (by omega) (by omega)), hst, if_neg (by simp; rfl), g1, bv_ok, lt_ok, ad1]
        exact ⟨_, rfl, rfl, g2, fun x k hx => by dsimp only; rw [g3 x k hx]; exact q2 x k hx⟩)
      (by
        rintro ⟨v, s2⟩ rec ⟨rfl, q1, q2⟩
        dsimp only at q1 q2 ⊢
        have hst := (cs_rr q1).2.2
        have : cT (itC c (KC c - cI c)) = 3 := by show (if cI c + (KC c - cI c) = KC c then 3 else 2) = 3; rw [if_pos (by omega)]
        rw [this] at hst
        unfold bX6_all_30
        rw [show (100000 : Int32) = nI 100000 from rfl, if_neg (nI_ge (by omega) (by omega)), hst, if_pos (by decide)]
        exact ⟨_, rfl, q1, q2⟩)
      (a := ((0 : Int32), s)) ⟨rfl, by rw [it_0 h2 hlt]; exact hc, fun _ _ _ => rfl⟩
    dsimp only at q1 q2
    have t1 := (c_tally hw (by omega) hc).2.1
    have t2 := (c_tally (c := itC c (KC c - cI c)) (wf_it hw (by omega) _) (by show 2 ≤ (if cI c + (KC c - cI c) = KC c then 3 else 2); split <;> omega) q1).2.1
    have t2 : gi s2 14 1 = nI (cI c + (KC c - cI c)) := t2
    unfold fX6_all
    rw [tk_ok r0, hy, bd_ok, if_pos rfl, e1, bv_ok, dr_ok r3 l2.1, dr_ok rb4 lm.1, dr_ok lm.2.2.2.1 lm.2.2.2.2.2.2.2.2.2.2.2.1.1, lm.2.2.2.2.2.2.2.2.2.2.2.1.2, i1, ck_n (by omega) (by omega), lt_ok, nI_clamp (by omega), show gi s (2 + 9 + 3) 1 = gi s 14 1 from rfl, t1, e2, bd_ok, ck_n (by omega) (by omega)]
    refine ⟨s2, ?_, q1, q2⟩
    show some (gi s2 14 1 - _, s2) = _
    rw [t2, sub_n (by omega), show cI c + (KC c - cI c) - cI c = KC c - cI c by omega]
  · intro c σ s x hw h2 hlt hk hy e1 hc
    obtain ⟨⟨v, s2⟩, e2, q0, q1, q2⟩ := for_in (F := fun (rec : Int32 × Sg → Option (Int32 × Sg)) (a : Int32 × Sg) => bX7_all_18 E 395 (fun u0 t => rec (u0, t)) a.1 a.2) (KC c - cI c)
      (fun i b => b.1 = nI i ∧ MR MG' MM' (rw7 b.2 396 0) (itC c i) x ∧ ∀ y k, y ≠ 396 → ¬ (407 ≤ y ∧ y ≤ 409) → gi b.2 y k = gi s y k)
      (fun b => b.1 = nI (KC c - cI c) ∧ MR MG' MM' (rw7 b.2 396 0) (itC c (KC c - cI c)) x ∧ ∀ y k, y ≠ 396 → ¬ (407 ≤ y ∧ y ≤ 409) → gi b.2 y k = gi s y k) (N := FU) (by show KC c - cI c < 1000000; omega)
      (by
        rintro i ⟨v, s2⟩ rec hi ⟨rfl, q1, q2⟩
        dsimp only at q1 q2 ⊢
        obtain ⟨s3, g1, g2, g3⟩ := m_once (c := itC c i) hM hM2 (wf_it hw (by omega) i) (it_T i (by omega)) q1
        have hst := (mr_g (c := itC c i) hw.1 q1).2.2.2.1
        rw [it_T i (by omega)] at hst
        unfold bX7_all_18
        rw [dr_ok hM.2.1 hM2.1.1, hM2.1.2, i7, ck_n (by omega) (by omega), nI_clamp (by omega), hst, if_neg (by simp; rfl), g1, bd_ok, lt_ok, ad1]
        exact ⟨_, rfl, rfl, g2, fun y k h1 h2 => by dsimp only; rw [g3 y k h1 h2]; exact q2 y k h1 h2⟩)
      (by
        rintro ⟨v, s2⟩ rec ⟨rfl, q1, q2⟩
        dsimp only at q1 q2 ⊢
        have hst := (mr_g (c := itC c (KC c - cI c)) hw.1 q1).2.2.2.1
        have : cT (itC c (KC c - cI c)) = 3 := by show (if cI c + (KC c - cI c) = KC c then 3 else 2) = 3; rw [if_pos (by omega)]
        rw [this] at hst
        unfold bX7_all_18
        rw [dr_ok hM.2.1 hM2.1.1, hM2.1.2, i7, ck_n (by omega) (by omega), nI_clamp (by omega), hst, if_pos (by decide)]
        exact ⟨_, rfl, rfl, q1, q2⟩)
      (a := ((0 : Int32), s)) ⟨rfl, by rw [it_0 h2 hlt]; exact hc, fun _ _ _ _ => rfl⟩
    dsimp only at q0 q1 q2
    subst q0
    unfold fX7_all
    rw [tk_ok m0, hy, bd_ok, if_pos rfl, e1, bv_ok, e2, bd_ok]
    exact ⟨s2, rfl, q1, q2⟩
/-- how many steps a phase has from now on -/
noncomputable def phB (c : Cu) (i : Nat) : Bool := decide (cI c + i + 1 = KC c) || !(mPh (miC (itC c (i + 1))) == mPh (miC c))
noncomputable def phN (c : Cu) : Nat := (fstF (phB c) (KC c - cI c)).getD 0 + 1
theorem phN_ok (hlt : cI c < KC c) : cI c + phN c ≤ KC c ∧ (∀ i, i < phN c → cI c + i < KC c ∧ mPh (miC (itC c i)) = mPh (miC c)) ∧ (cI c + phN c = KC c ∨ mPh (miC (itC c (phN c))) ≠ mPh (miC c)) := by
  obtain ⟨e, he, hle⟩ := fstF_ex (p := phB c) (n := KC c - cI c) (j := KC c - cI c - 1) (by omega) (by unfold phB; rw [decide_eq_true (by omega)]; rfl)
  obtain ⟨q1, q2, q3⟩ := fstF_some he
  have hp : phN c = e + 1 := by unfold phN; rw [he]; rfl
  rw [hp]
  refine ⟨by omega, fun i hi => ?_, ?_⟩
  · refine ⟨by omega, ?_⟩
    cases i with
    | zero => rfl
    | succ i =>
      have := q3 i (by omega)
      unfold phB at this
      simp only [Bool.or_eq_false_iff, decide_eq_false_iff_not, Bool.not_eq_false', beq_iff_eq] at this
      exact this.2
  · unfold phB at q2
    simp only [Bool.or_eq_true, decide_eq_true_eq, Bool.not_eq_true', beq_eq_false_iff_ne] at q2
    rcases q2 with q | q
    · exact Or.inl (by omega)
    · exact Or.inr q
theorem ok_phase (hR : LRun E) (hM : LMod E) (hM2 : LMo2 E) : Ok (JJ CG' CM' MG' MM') (fX6_phase E 0) (fX7_phase E 395) := by
  obtain ⟨r0, r1, r3, r4, r5, r8, r9, r10, r11, r12, r13, l1, l2, lx⟩ := id hR
  obtain ⟨b0, rb0, rb1, rb3, rb4, rb5, rb6, lr, la4, lg, lm, la31, la32⟩ := id l2
  have m0 := hM.1
  have hpb : ∀ c i, mPh (miC (itC c i)) ≤ cI c + i := fun c i => mil_ph (cI c + i)
  have hpc : ∀ c, mPh (miC c) ≤ cI c := fun c => mil_ph (cI c)
  refine ok_steps hR hM hM2 phN (fun c _ _ h _ => (phN_ok h).1) (fun σ r hr h => by unfold fX6_phase; rw [tk_ok r0, h, bd_ok, if_neg hr]) (fun σ r hr h => by unfold fX7_phase; rw [tk_ok m0, h, bd_ok, if_neg hr, h, bd_ok]) ?_ ?_
  · intro c σ s hw h2 hlt hk hy e1 hc
    obtain ⟨p1, p2, p3⟩ := phN_ok (c := c) hlt
    obtain ⟨t1, t2, t3, t4⟩ := c_tally hw (by omega) hc
    have hcb := hpc c
    obtain ⟨⟨v, s2⟩, e2, q1, q2⟩ := for_in (F := fun (rec : Int32 × Sg → Option (Int32 × Sg)) (a : Int32 × Sg) => bX6_phase_44 E 2 14 (nI (mPh (miC c))) (fun u0 t => rec (u0, t)) a.1 a.2) (phN c)
      (fun i b => b.1 = nI i ∧ CS CG' CM' (lc b.2 2) (itC c i) ∧ ∀ x k, (x < 2 ∨ 35 ≤ x) → gi b.2 x k = gi s x k)
      (fun b => CS CG' CM' (lc b.2 2) (itC c (phN c)) ∧ ∀ x k, (x < 2 ∨ 35 ≤ x) → gi b.2 x k = gi s x k) (N := FU) (by show phN c < 1000000; omega)
      (by
        rintro i ⟨v, s2⟩ rec hi ⟨rfl, q1, q2⟩
        dsimp only at q1 q2 ⊢
        obtain ⟨z1, z2⟩ := p2 i hi
        obtain ⟨s3, g1, g2, g3⟩ := c_many hR hw h2 hlt hc (i := i) z1 q1
        have hst := (cs_rr q1).2.2
        rw [it_T i z1] at hst
        have tt := (c_tally (c := itC c i) (wf_it hw (by omega) _) (by rw [it_T i z1]; omega) q1).2.2.1
        rw [z2] at tt
        unfold bX6_phase_44
        rw [show (100000 : Int32) = nI 100000 from rfl, if_neg (nI_ge (by omega) (by omega)), hst, if_neg (by simp; rfl), show ln E 14 = 6 from lm.2.2.2.2.2.2.2.2.2.2.2.1.2, i2, ck_n (by omega) (by omega), nI_clamp (by omega), tt, if_neg (by simp), g1, bv_ok, lt_ok, ad1]
        exact ⟨_, rfl, rfl, g2, fun x k hx => by dsimp only; rw [g3 x k hx]; exact q2 x k hx⟩)
      (by
        rintro ⟨v, s2⟩ rec ⟨rfl, q1, q2⟩
        dsimp only at q1 q2 ⊢
        have hst := (cs_rr q1).2.2
        unfold bX6_phase_44
        rw [show (100000 : Int32) = nI 100000 from rfl, if_neg (nI_ge (by omega) (by omega)), hst]
        by_cases hq : cI c + phN c = KC c
        · have : cT (itC c (phN c)) = 3 := by show (if cI c + phN c = KC c then 3 else 2) = 3; rw [if_pos hq]
          rw [this, if_pos (by decide)]
          exact ⟨_, rfl, q1, q2⟩
        · have hz : cI c + phN c < KC c := by omega
          have hne := p3.resolve_left hq
          have tt := (c_tally (c := itC c (phN c)) (wf_it hw (by omega) _) (by rw [it_T _ hz]; omega) q1).2.2.1
          have hb1 := hpb c (phN c)
          rw [it_T _ hz, if_neg (by simp; rfl), show ln E 14 = 6 from lm.2.2.2.2.2.2.2.2.2.2.2.1.2, i2, ck_n (by omega) (by omega), nI_clamp (by omega), tt, if_pos (fun q => hne ((nI_eq (by omega) (by omega)).mp q))]
          exact ⟨_, rfl, q1, q2⟩)
      (a := ((0 : Int32), s)) ⟨rfl, by rw [it_0 h2 hlt]; exact hc, fun _ _ _ => rfl⟩
    dsimp only at q1 q2
    have t5 := (c_tally (c := itC c (phN c)) (wf_it hw (by omega) _) (by show 2 ≤ (if cI c + phN c = KC c then 3 else 2); split <;> omega) q1).2.1
    have t5 : gi s2 14 1 = nI (cI c + phN c) := t5
    unfold fX6_phase
    rw [tk_ok r0, hy, bd_ok, if_pos rfl, e1, bv_ok, dr_ok r3 l2.1, dr_ok rb4 lm.1, dr_ok lm.2.2.2.1 lm.2.2.2.2.2.2.2.2.2.2.2.1.1, lm.2.2.2.2.2.2.2.2.2.2.2.1.2, i2, ck_n (by omega) (by omega), lt_ok, nI_clamp (by omega), show gi s (2 + 9 + 3) 2 = gi s 14 2 from rfl, t3, i1, ck_n (by omega) (by omega), lt_ok, nI_clamp (by omega), show gi s (2 + 9 + 3) 1 = gi s 14 1 from rfl, t2]
    have e2' : fx (fun rec a => bX6_phase_44 E 2 (2 + 9 + 3) (nI (mPh (miC c))) (fun u0 t => rec (u0, t)) a.1 a.2) FU ((0 : Int32), s) = some (v, s2) := e2
    rw [e2', bd_ok, ck_n (by omega) (by omega)]
    refine ⟨s2, ?_, q1, q2⟩
    show some (gi s2 14 1 - _, s2) = _
    rw [t5, sub_n (by omega), show cI c + phN c - cI c = phN c by omega]
  · intro c σ s x hw h2 hlt hk hy e1 hc
    obtain ⟨p1, p2, p3⟩ := phN_ok (c := c) hlt
    obtain ⟨t1, t2, t3, t4⟩ := m_tally hw (by omega) hc
    have hcb := hpc c
    obtain ⟨⟨v, s2⟩, e2, q0, q1, q2⟩ := for_in (F := fun (rec : Int32 × Sg → Option (Int32 × Sg)) (a : Int32 × Sg) => bX7_phase_26 E 396 (nI (mPh (miC c))) 395 (fun u0 t => rec (u0, t)) a.1 a.2) (phN c)
      (fun i b => b.1 = nI i ∧ MR MG' MM' (rw7 b.2 396 0) (itC c i) x ∧ ∀ y k, y ≠ 396 → ¬ (407 ≤ y ∧ y ≤ 409) → gi b.2 y k = gi s y k)
      (fun b => b.1 = nI (phN c) ∧ MR MG' MM' (rw7 b.2 396 0) (itC c (phN c)) x ∧ ∀ y k, y ≠ 396 → ¬ (407 ≤ y ∧ y ≤ 409) → gi b.2 y k = gi s y k) (N := FU) (by show phN c < 1000000; omega)
      (by
        rintro i ⟨v, s2⟩ rec hi ⟨rfl, q1, q2⟩
        dsimp only at q1 q2 ⊢
        obtain ⟨z1, z2⟩ := p2 i hi
        obtain ⟨s3, g1, g2, g3⟩ := m_once (c := itC c i) hM hM2 (wf_it hw (by omega) i) (it_T i z1) q1
        have hst := (mr_g (c := itC c i) hw.1 q1).2.2.2.1
        rw [it_T i z1] at hst
        have tt := (m_tally (c := itC c i) (wf_it hw (by omega) _) (by rw [it_T i z1]; omega) q1).2.2.1
        rw [z2] at tt
        unfold bX7_phase_26
        rw [hM2.1.2, show (11 : Int32) = nI 11 from rfl, ck_n (by omega) (by omega), nI_clamp (by omega), tt, if_neg (by simp), i7, ck_n (by omega) (by omega), nI_clamp (by omega), hst, if_neg (by simp; rfl), g1, bd_ok, lt_ok, ad1]
        exact ⟨_, rfl, rfl, g2, fun y k h1 h2 => by dsimp only; rw [g3 y k h1 h2]; exact q2 y k h1 h2⟩)
      (by
        rintro ⟨v, s2⟩ rec ⟨rfl, q1, q2⟩
        dsimp only at q1 q2 ⊢
        have hst := (mr_g (c := itC c (phN c)) hw.1 q1).2.2.2.1
        have hb1 := hpb c (phN c)
        have tt := (m_tally (c := itC c (phN c)) (wf_it hw (by omega) _) (by show 2 ≤ (if cI c + phN c = KC c then 3 else 2); split <;> omega) q1).2.2.1
        unfold bX7_phase_26
        rw [hM2.1.2, show (11 : Int32) = nI 11 from rfl, ck_n (by omega) (by omega), nI_clamp (by omega), tt]
        by_cases hq : mPh (miC (itC c (phN c))) = mPh (miC c)
        · have h3 : cI c + phN c = KC c := p3.resolve_right (fun z => z hq)
          have : cT (itC c (phN c)) = 3 := by show (if cI c + phN c = KC c then 3 else 2) = 3; rw [if_pos h3]
          rw [hq, if_neg (by simp), i7, ck_n (by omega) (by omega), nI_clamp (by omega), hst, this, if_pos (by decide)]
          exact ⟨_, rfl, rfl, q1, q2⟩
        · rw [if_pos (fun z => hq ((nI_eq (by omega) (by omega)).mp z))]
          exact ⟨_, rfl, rfl, q1, q2⟩)
      (a := ((0 : Int32), s)) ⟨rfl, by rw [it_0 h2 hlt]; exact hc, fun _ _ _ _ => rfl⟩
    dsimp only at q0 q1 q2
    subst q0
    unfold fX7_phase
    rw [tk_ok m0, hy, bd_ok, if_pos rfl, e1, bv_ok, dr_ok hM.2.1 hM2.1.1, hM2.1.2, show (11 : Int32) = nI 11 from rfl, ck_n (by omega) (by omega), lt_ok, nI_clamp (by omega), t3, e2, bd_ok]
    exact ⟨s2, rfl, q1, q2⟩
end ST
