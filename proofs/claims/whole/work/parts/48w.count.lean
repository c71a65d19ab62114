/-! count -/
section CT
variable {E : En}
theorem ok_count (hR : LRun E) (hM : LMod E) (hM2 : LMo2 E) (p0 : Int32) : Ok (JJ CG' CM' MG' MM') (fX6_count E 0 p0) (fX7_count E 395 p0) := by
  refine ok_of (fun a hw => ?_)
  obtain ⟨r0, r1, r3, r4, r5, r8, r9, r10, r11, r12, r13, l1, l2, lx⟩ := id hR
  obtain ⟨b0, rb0, rb1, rb3, rb4, rb5, rb6, lr, la4, lg, lm, la31, la32⟩ := id l2
  have lm : LMill E 11 300 := lm
  have rb4 : rf E 2 4 = some 11 := rb4
  have la4 : LArr E 6 100 6 := la4
  have rb1 : rf E 2 1 = some 6 := rb1
  have rb0 : rf E 2 0 = some 3 := rb0
  have lr : LRec E 3 := lr
  have rb3 : rf E 2 3 = some 7 := rb3
  have lg : LGro E 7 := lg
  have l12 : rf E 11 12 = some 14 := lm.2.2.2.1
  have la14 : LArr E 14 100 6 := lm.2.2.2.2.2.2.2.2.2.2.2.1
  have m0 := hM.1
  have hwc := hw.2.2.1
  have hn := hwc.1
  have ht3 := hwc.2.2.2.1
  rcases pin p0 (lo := 0) (hi := 15) (by omega) (by omega) with ⟨k, _, hk, rfl⟩ | ⟨hq, hq2⟩
  · rcases (show k = 0 ∨ k = 1 ∨ k = 2 ∨ k = 3 ∨ k = 4 ∨ k = 5 ∨ k = 6 ∨ k = 7 ∨ k = 8 ∨ k = 9 ∨ k = 10 ∨ k = 11 ∨ k = 12 ∨ k = 13 ∨ k = 14 ∨ k = 15 by omega) with rfl | rfl | rfl | rfl | rfl | rfl | rfl | rfl | rfl | rfl | rfl | rfl | rfl | rfl | rfl | rfl
    · refine ⟨nI (cN (aC a)), a, hw, spc_q (fun σ hc => ⟨σ, ?_, fun _ _ _ => rfl, fun _ _ _ => rfl⟩), spm_q (fun σ hc => ⟨σ, ?_, fun _ _ _ => rfl, fun _ _ _ => rfl⟩)⟩
      · obtain ⟨k1, k2, k3⟩ := cs_rr hc.2.2.2.1
        unfold fX6_count
        rw [tk_ok r0]
        simp (disch := decide) only [if_pos, if_neg]
        rw [dr_ok r3 l2.1, dr_ok rb0 lr.1, k1.1]
      · obtain ⟨k1, k2, k3, k4, k5⟩ := mr_g hn hc.2.2.1
        unfold fX7_count
        rw [tk_ok m0]
        simp (disch := decide) only [if_pos, if_neg]
        rw [m_many hM hM2, bd_ok, k1]
    · refine ⟨if 1 ≤ cT (aC a) then nI (nrC (aC a)) else 0, a, hw, spc_q (fun σ hc => ⟨σ, ?_, fun _ _ _ => rfl, fun _ _ _ => rfl⟩), spm_q (fun σ hc => ⟨σ, ?_, fun _ _ _ => rfl, fun _ _ _ => rfl⟩)⟩
      · obtain ⟨k1, k2, k3⟩ := cs_rr hc.2.2.2.1
        unfold fX6_count
        rw [tk_ok r0]
        simp (disch := decide) only [if_pos, if_neg]
        rw [dr_ok r3 l2.1, k3, i1]
        by_cases ht : 1 ≤ cT (aC a)
        · rw [if_neg (nI_nlt ht (by omega)), dr_ok rb3 lg.1, (cs_g hc.2.2.2.1 ht).1, bd_ok, if_pos ht]
        · rw [if_pos (nI_lt (by omega) (by omega)), bd_ok, if_neg ht]
      · obtain ⟨k1, k2, k3, k4, k5⟩ := mr_g hn hc.2.2.1
        unfold fX7_count
        rw [tk_ok m0]
        simp (disch := decide) only [if_pos, if_neg]
        rw [dr_ok hM.2.1 hM2.1.1, hM2.1.2, i7, ck_n (by omega) (by omega), nI_clamp (by omega), k4]
        by_cases ht : 1 ≤ cT (aC a)
        · rw [if_neg (show ¬ nI (cT (aC a)) ≤ 0 from (nI_ge (by omega) (by omega) : ¬ nI (cT (aC a)) ≤ nI 0)), show (14 : Int32) = nI 14 from rfl, ck_n (by omega) (by omega), nI_clamp (by omega), (mr_mg hwc hc.2.2.1 ht).1, bd_ok, if_pos ht]
        · rw [show cT (aC a) = 0 by omega, if_pos (by decide), bd_ok, if_neg (by omega)]
    · refine ⟨nI (cS (aC a) 0), a, hw, spc_q (fun σ hc => ⟨σ, ?_, fun _ _ _ => rfl, fun _ _ _ => rfl⟩), spm_q (fun σ hc => ⟨σ, ?_, fun _ _ _ => rfl, fun _ _ _ => rfl⟩)⟩
      · obtain ⟨k1, k2, k3⟩ := cs_rr hc.2.2.2.1
        unfold fX6_count
        rw [tk_ok r0]
        simp (disch := decide) only [if_pos, if_neg]
        rw [dr_ok r3 l2.1, dr_ok rb1 la4.1, la4.2, show nI 2 - (2 : Int32) = nI 0 from rfl, ck_n (by omega) (by omega), nI_clamp (by omega), k2 0 (by omega)]
      · obtain ⟨k1, k2, k3, k4, k5⟩ := mr_g hn hc.2.2.1
        unfold fX7_count
        rw [tk_ok m0]
        simp (disch := decide) only [if_pos, if_neg]
        rw [dr_ok hM.2.1 hM2.1.1, hM2.1.2, show (1 : Int32) + nI 2 - 2 = nI 1 from rfl, ck_n (by omega) (by omega), nI_clamp (by omega), show gi σ 396 1 = nI (cS (aC a) 0) from k3 0 (by omega)]
    · refine ⟨nI (cS (aC a) 1), a, hw, spc_q (fun σ hc => ⟨σ, ?_, fun _ _ _ => rfl, fun _ _ _ => rfl⟩), spm_q (fun σ hc => ⟨σ, ?_, fun _ _ _ => rfl, fun _ _ _ => rfl⟩)⟩
      · obtain ⟨k1, k2, k3⟩ := cs_rr hc.2.2.2.1
        unfold fX6_count
        rw [tk_ok r0]
        simp (disch := decide) only [if_pos, if_neg]
        rw [dr_ok r3 l2.1, dr_ok rb1 la4.1, la4.2, show nI 3 - (2 : Int32) = nI 1 from rfl, ck_n (by omega) (by omega), nI_clamp (by omega), k2 1 (by omega)]
      · obtain ⟨k1, k2, k3, k4, k5⟩ := mr_g hn hc.2.2.1
        unfold fX7_count
        rw [tk_ok m0]
        simp (disch := decide) only [if_pos, if_neg]
        rw [dr_ok hM.2.1 hM2.1.1, hM2.1.2, show (1 : Int32) + nI 3 - 2 = nI 2 from rfl, ck_n (by omega) (by omega), nI_clamp (by omega), show gi σ 396 2 = nI (cS (aC a) 1) from k3 1 (by omega)]
    · refine ⟨nI (cS (aC a) 2), a, hw, spc_q (fun σ hc => ⟨σ, ?_, fun _ _ _ => rfl, fun _ _ _ => rfl⟩), spm_q (fun σ hc => ⟨σ, ?_, fun _ _ _ => rfl, fun _ _ _ => rfl⟩)⟩
      · obtain ⟨k1, k2, k3⟩ := cs_rr hc.2.2.2.1
        unfold fX6_count
        rw [tk_ok r0]
        simp (disch := decide) only [if_pos, if_neg]
        rw [dr_ok r3 l2.1, dr_ok rb1 la4.1, la4.2, show nI 4 - (2 : Int32) = nI 2 from rfl, ck_n (by omega) (by omega), nI_clamp (by omega), k2 2 (by omega)]
      · obtain ⟨k1, k2, k3, k4, k5⟩ := mr_g hn hc.2.2.1
        unfold fX7_count
        rw [tk_ok m0]
        simp (disch := decide) only [if_pos, if_neg]
        rw [dr_ok hM.2.1 hM2.1.1, hM2.1.2, show (1 : Int32) + nI 4 - 2 = nI 3 from rfl, ck_n (by omega) (by omega), nI_clamp (by omega), show gi σ 396 3 = nI (cS (aC a) 2) from k3 2 (by omega)]
    · refine ⟨nI (cS (aC a) 3), a, hw, spc_q (fun σ hc => ⟨σ, ?_, fun _ _ _ => rfl, fun _ _ _ => rfl⟩), spm_q (fun σ hc => ⟨σ, ?_, fun _ _ _ => rfl, fun _ _ _ => rfl⟩)⟩
      · obtain ⟨k1, k2, k3⟩ := cs_rr hc.2.2.2.1
        unfold fX6_count
        rw [tk_ok r0]
        simp (disch := decide) only [if_pos, if_neg]
        rw [dr_ok r3 l2.1, dr_ok rb1 la4.1, la4.2, show nI 5 - (2 : Int32) = nI 3 from rfl, ck_n (by omega) (by omega), nI_clamp (by omega), k2 3 (by omega)]
      · obtain ⟨k1, k2, k3, k4, k5⟩ := mr_g hn hc.2.2.1
        unfold fX7_count
        rw [tk_ok m0]
        simp (disch := decide) only [if_pos, if_neg]
        rw [dr_ok hM.2.1 hM2.1.1, hM2.1.2, show (1 : Int32) + nI 5 - 2 = nI 4 from rfl, ck_n (by omega) (by omega), nI_clamp (by omega), show gi σ 396 4 = nI (cS (aC a) 3) from k3 3 (by omega)]
    · refine ⟨nI (cS (aC a) 4), a, hw, spc_q (fun σ hc => ⟨σ, ?_, fun _ _ _ => rfl, fun _ _ _ => rfl⟩), spm_q (fun σ hc => ⟨σ, ?_, fun _ _ _ => rfl, fun _ _ _ => rfl⟩)⟩
      · obtain ⟨k1, k2, k3⟩ := cs_rr hc.2.2.2.1
        unfold fX6_count
        rw [tk_ok r0]
        simp (disch := decide) only [if_pos, if_neg]
        rw [dr_ok r3 l2.1, dr_ok rb1 la4.1, la4.2, show nI 6 - (2 : Int32) = nI 4 from rfl, ck_n (by omega) (by omega), nI_clamp (by omega), k2 4 (by omega)]
      · obtain ⟨k1, k2, k3, k4, k5⟩ := mr_g hn hc.2.2.1
        unfold fX7_count
        rw [tk_ok m0]
        simp (disch := decide) only [if_pos, if_neg]
        rw [dr_ok hM.2.1 hM2.1.1, hM2.1.2, show (1 : Int32) + nI 6 - 2 = nI 5 from rfl, ck_n (by omega) (by omega), nI_clamp (by omega), show gi σ 396 5 = nI (cS (aC a) 4) from k3 4 (by omega)]
    · refine ⟨nI (cT (aC a)), a, hw, spc_q (fun σ hc => ⟨σ, ?_, fun _ _ _ => rfl, fun _ _ _ => rfl⟩), spm_q (fun σ hc => ⟨σ, ?_, fun _ _ _ => rfl, fun _ _ _ => rfl⟩)⟩
      · obtain ⟨k1, k2, k3⟩ := cs_rr hc.2.2.2.1
        unfold fX6_count
        rw [tk_ok r0]
        simp (disch := decide) only [if_pos, if_neg]
        rw [dr_ok r3 l2.1, k3]
      · obtain ⟨k1, k2, k3, k4, k5⟩ := mr_g hn hc.2.2.1
        unfold fX7_count
        rw [tk_ok m0]
        simp (disch := decide) only [if_pos, if_neg]
        rw [dr_ok hM.2.1 hM2.1.1, hM2.1.2, i7, ck_n (by omega) (by omega), nI_clamp (by omega), k4]
    · refine ⟨if 2 ≤ cT (aC a) then nI (mMo (miC (aC a))) else 0, a, hw, spc_q (fun σ hc => ⟨σ, ?_, fun _ _ _ => rfl, fun _ _ _ => rfl⟩), spm_q (fun σ hc => ⟨σ, ?_, fun _ _ _ => rfl, fun _ _ _ => rfl⟩)⟩
      · obtain ⟨k1, k2, k3⟩ := cs_rr hc.2.2.2.1
        unfold fX6_count
        rw [tk_ok r0]
        simp (disch := decide) only [if_pos, if_neg]
        rw [dr_ok r3 l2.1, k3, i2]
        by_cases ht : 2 ≤ cT (aC a)
        · obtain ⟨q1, q2, ⟨L, H, u0, u1, u2, u3, u4, u5, u6, u7⟩, q4⟩ := cs_m hwc hc.2.2.2.1 ht
          rw [if_neg (nI_nlt ht (by omega)), dr_ok rb4 lm.1, dr_ok l12 la14.1, la14.2, show nI 8 - (8 : Int32) = nI 0 from rfl, ck_n (by omega) (by omega), nI_clamp (by omega), show gi σ 14 0 = nI (mMo (miC (aC a))) from u4, bd_ok, if_pos ht]
        · rw [if_pos (nI_lt (by omega) (by omega)), bd_ok, if_neg ht]
      · obtain ⟨k1, k2, k3, k4, k5⟩ := mr_g hn hc.2.2.1
        unfold fX7_count
        rw [tk_ok m0]
        simp (disch := decide) only [if_pos, if_neg]
        by_cases ht : 2 ≤ cT (aC a)
        · obtain ⟨f1, f2, f4, f5⟩ := m_tapesF hM hM2 hw ht hc
          obtain ⟨q1, q2, q3, q4, q8, u4, u5, u6, u7⟩ := mr_mm hwc hc.2.2.1 ht
          rw [f4, bd_ok, if_neg (by decide), dr_ok hM.2.1 hM2.1.1, hM2.1.2, show (9 : Int32) + nI 8 - 8 = nI 9 from rfl, ck_n (by omega) (by omega), nI_clamp (by omega), u4, bd_ok, if_pos ht]
        · rw [(spread_no hR hM hM2 hw ht).2 σ hc, bd_ok, if_pos rfl, bd_ok, if_neg ht]
    · refine ⟨if 2 ≤ cT (aC a) then nI (mSt (miC (aC a))) else 0, a, hw, spc_q (fun σ hc => ⟨σ, ?_, fun _ _ _ => rfl, fun _ _ _ => rfl⟩), spm_q (fun σ hc => ⟨σ, ?_, fun _ _ _ => rfl, fun _ _ _ => rfl⟩)⟩
      · obtain ⟨k1, k2, k3⟩ := cs_rr hc.2.2.2.1
        unfold fX6_count
        rw [tk_ok r0]
        simp (disch := decide) only [if_pos, if_neg]
        rw [dr_ok r3 l2.1, k3, i2]
        by_cases ht : 2 ≤ cT (aC a)
        · obtain ⟨q1, q2, ⟨L, H, u0, u1, u2, u3, u4, u5, u6, u7⟩, q4⟩ := cs_m hwc hc.2.2.2.1 ht
          rw [if_neg (nI_nlt ht (by omega)), dr_ok rb4 lm.1, dr_ok l12 la14.1, la14.2, show nI 9 - (8 : Int32) = nI 1 from rfl, ck_n (by omega) (by omega), nI_clamp (by omega), show gi σ 14 1 = nI (mSt (miC (aC a))) from u5, bd_ok, if_pos ht]
        · rw [if_pos (nI_lt (by omega) (by omega)), bd_ok, if_neg ht]
      · obtain ⟨k1, k2, k3, k4, k5⟩ := mr_g hn hc.2.2.1
        unfold fX7_count
        rw [tk_ok m0]
        simp (disch := decide) only [if_pos, if_neg]
        by_cases ht : 2 ≤ cT (aC a)
        · obtain ⟨f1, f2, f4, f5⟩ := m_tapesF hM hM2 hw ht hc
          obtain ⟨q1, q2, q3, q4, q8, u4, u5, u6, u7⟩ := mr_mm hwc hc.2.2.1 ht
          rw [f4, bd_ok, if_neg (by decide), dr_ok hM.2.1 hM2.1.1, hM2.1.2, show (9 : Int32) + nI 9 - 8 = nI 10 from rfl, ck_n (by omega) (by omega), nI_clamp (by omega), u5, bd_ok, if_pos ht]
        · rw [(spread_no hR hM hM2 hw ht).2 σ hc, bd_ok, if_pos rfl, bd_ok, if_neg ht]
    · refine ⟨if 2 ≤ cT (aC a) then nI (mPh (miC (aC a))) else 0, a, hw, spc_q (fun σ hc => ⟨σ, ?_, fun _ _ _ => rfl, fun _ _ _ => rfl⟩), spm_q (fun σ hc => ⟨σ, ?_, fun _ _ _ => rfl, fun _ _ _ => rfl⟩)⟩
      · obtain ⟨k1, k2, k3⟩ := cs_rr hc.2.2.2.1
        unfold fX6_count
        rw [tk_ok r0]
        simp (disch := decide) only [if_pos, if_neg]
        rw [dr_ok r3 l2.1, k3, i2]
        by_cases ht : 2 ≤ cT (aC a)
        · obtain ⟨q1, q2, ⟨L, H, u0, u1, u2, u3, u4, u5, u6, u7⟩, q4⟩ := cs_m hwc hc.2.2.2.1 ht
          rw [if_neg (nI_nlt ht (by omega)), dr_ok rb4 lm.1, dr_ok l12 la14.1, la14.2, show nI 10 - (8 : Int32) = nI 2 from rfl, ck_n (by omega) (by omega), nI_clamp (by omega), show gi σ 14 2 = nI (mPh (miC (aC a))) from u6, bd_ok, if_pos ht]
        · rw [if_pos (nI_lt (by omega) (by omega)), bd_ok, if_neg ht]
      · obtain ⟨k1, k2, k3, k4, k5⟩ := mr_g hn hc.2.2.1
        unfold fX7_count
        rw [tk_ok m0]
        simp (disch := decide) only [if_pos, if_neg]
        by_cases ht : 2 ≤ cT (aC a)
        · obtain ⟨f1, f2, f4, f5⟩ := m_tapesF hM hM2 hw ht hc
          obtain ⟨q1, q2, q3, q4, q8, u4, u5, u6, u7⟩ := mr_mm hwc hc.2.2.1 ht
          rw [f4, bd_ok, if_neg (by decide), dr_ok hM.2.1 hM2.1.1, hM2.1.2, show (9 : Int32) + nI 10 - 8 = nI 11 from rfl, ck_n (by omega) (by omega), nI_clamp (by omega), u6, bd_ok, if_pos ht]
        · rw [(spread_no hR hM hM2 hw ht).2 σ hc, bd_ok, if_pos rfl, bd_ok, if_neg ht]
    · refine ⟨if 2 ≤ cT (aC a) then nI (mTu (miC (aC a))) else 0, a, hw, spc_q (fun σ hc => ⟨σ, ?_, fun _ _ _ => rfl, fun _ _ _ => rfl⟩), spm_q (fun σ hc => ⟨σ, ?_, fun _ _ _ => rfl, fun _ _ _ => rfl⟩)⟩
      · obtain ⟨k1, k2, k3⟩ := cs_rr hc.2.2.2.1
        unfold fX6_count
        rw [tk_ok r0]
        simp (disch := decide) only [if_pos, if_neg]
        rw [dr_ok r3 l2.1, k3, i2]
        by_cases ht : 2 ≤ cT (aC a)
        · obtain ⟨q1, q2, ⟨L, H, u0, u1, u2, u3, u4, u5, u6, u7⟩, q4⟩ := cs_m hwc hc.2.2.2.1 ht
          rw [if_neg (nI_nlt ht (by omega)), dr_ok rb4 lm.1, dr_ok l12 la14.1, la14.2, show nI 11 - (8 : Int32) = nI 3 from rfl, ck_n (by omega) (by omega), nI_clamp (by omega), show gi σ 14 3 = nI (mTu (miC (aC a))) from u7, bd_ok, if_pos ht]
        · rw [if_pos (nI_lt (by omega) (by omega)), bd_ok, if_neg ht]
      · obtain ⟨k1, k2, k3, k4, k5⟩ := mr_g hn hc.2.2.1
        unfold fX7_count
        rw [tk_ok m0]
        simp (disch := decide) only [if_pos, if_neg]
        by_cases ht : 2 ≤ cT (aC a)
        · obtain ⟨f1, f2, f4, f5⟩ := m_tapesF hM hM2 hw ht hc
          obtain ⟨q1, q2, q3, q4, q8, u4, u5, u6, u7⟩ := mr_mm hwc hc.2.2.1 ht
          rw [f4, bd_ok, if_neg (by decide), dr_ok hM.2.1 hM2.1.1, hM2.1.2, show (9 : Int32) + nI 11 - 8 = nI 12 from rfl, ck_n (by omega) (by omega), nI_clamp (by omega), u7, bd_ok, if_pos ht]
        · rw [(spread_no hR hM hM2 hw ht).2 σ hc, bd_ok, if_pos rfl, bd_ok, if_neg ht]
    · refine ⟨nI (aH a).length, a, hw, spc_q (fun σ hc => ⟨σ, ?_, fun _ _ _ => rfl, fun _ _ _ => rfl⟩), spm_q (fun σ hc => ⟨σ, ?_, fun _ _ _ => rfl, fun _ _ _ => rfl⟩)⟩
      · obtain ⟨k1, k2, k3⟩ := cs_rr hc.2.2.2.1
        unfold fX6_count
        rw [tk_ok r0]
        simp (disch := decide) only [if_pos, if_neg]
        rw [hc.2.2.2.2.1.1]
      · obtain ⟨k1, k2, k3, k4, k5⟩ := mr_g hn hc.2.2.1
        unfold fX7_count
        rw [tk_ok m0]
        simp (disch := decide) only [if_pos, if_neg]
        rw [hc.2.2.2.1.1]
    · refine ⟨nI (aX a), a, hw, spc_q (fun σ hc => ⟨σ, ?_, fun _ _ _ => rfl, fun _ _ _ => rfl⟩), spm_q (fun σ hc => ⟨σ, ?_, fun _ _ _ => rfl, fun _ _ _ => rfl⟩)⟩
      · obtain ⟨k1, k2, k3⟩ := cs_rr hc.2.2.2.1
        unfold fX6_count
        rw [tk_ok r0]
        simp (disch := decide) only [if_pos, if_neg]
        rw [hc.2.2.1]
      · obtain ⟨k1, k2, k3, k4, k5⟩ := mr_g hn hc.2.2.1
        unfold fX7_count
        rw [tk_ok m0]
        simp (disch := decide) only [if_pos, if_neg]
        rw [dr_ok hM.2.1 hM2.1.1, hM2.1.2, i8, ck_n (by omega) (by omega), nI_clamp (by omega), k5]
    · refine ⟨nI (aN a), a, hw, spc_q (fun σ hc => ⟨σ, ?_, fun _ _ _ => rfl, fun _ _ _ => rfl⟩), spm_q (fun σ hc => ⟨σ, ?_, fun _ _ _ => rfl, fun _ _ _ => rfl⟩)⟩
      · obtain ⟨k1, k2, k3⟩ := cs_rr hc.2.2.2.1
        unfold fX6_count
        rw [tk_ok r0]
        simp (disch := decide) only [if_pos, if_neg]
        rw [hc.1]
      · obtain ⟨k1, k2, k3, k4, k5⟩ := mr_g hn hc.2.2.1
        unfold fX7_count
        rw [tk_ok m0]
        simp (disch := decide) only [if_pos, if_neg]
        rw [hc.1]
    · refine ⟨nI (cS (aC a) 5), a, hw, spc_q (fun σ hc => ⟨σ, ?_, fun _ _ _ => rfl, fun _ _ _ => rfl⟩), spm_q (fun σ hc => ⟨σ, ?_, fun _ _ _ => rfl, fun _ _ _ => rfl⟩)⟩
      · obtain ⟨k1, k2, k3⟩ := cs_rr hc.2.2.2.1
        unfold fX6_count
        rw [tk_ok r0]
        simp (disch := decide) only [if_pos, if_neg]
        rw [dr_ok r3 l2.1, dr_ok rb1 la4.1, la4.2, i5, ck_n (by omega) (by omega), nI_clamp (by omega), k2 5 (by omega)]
      · obtain ⟨k1, k2, k3, k4, k5⟩ := mr_g hn hc.2.2.1
        unfold fX7_count
        rw [tk_ok m0]
        simp (disch := decide) only [if_pos, if_neg]
        rw [dr_ok hM.2.1 hM2.1.1, hM2.1.2, i6, ck_n (by omega) (by omega), nI_clamp (by omega), show gi σ 396 6 = nI (cS (aC a) 5) from k3 5 (by omega)]
  · have hne : ∀ j, j < 16 → ¬ p0 = nI j := fun j hj e => by
      subst e
      exact hq ⟨nI_le (Nat.zero_le _) (by omega), nI_le (by omega) (by omega)⟩
    refine ⟨-1, a, hw, spc_q (fun σ hc => ⟨σ, ?_, fun _ _ _ => rfl, fun _ _ _ => rfl⟩), spm_q (fun σ hc => ⟨σ, ?_, fun _ _ _ => rfl, fun _ _ _ => rfl⟩)⟩
    · unfold fX6_count
      rw [tk_ok r0]
      rcases hq2 with h | ⟨_, h⟩
      · have h : p0 < 0 := h
        rw [if_pos (Int32.lt_trans h (by decide)), if_pos (Int32.lt_trans h (by decide)), if_neg (show ¬ p0 = 0 from hne 0 (by omega)), if_neg (show ¬ p0 = 1 from hne 1 (by omega)), if_neg (show ¬ p0 = 2 from hne 2 (by omega)), if_neg (show ¬ p0 = 3 from hne 3 (by omega)), if_neg (show ¬ p0 = 4 from hne 4 (by omega)), if_neg (show ¬ p0 = 5 from hne 5 (by omega)), if_neg (show ¬ p0 = 6 from hne 6 (by omega)), if_neg (show ¬ p0 = 7 from hne 7 (by omega)), if_neg (show ¬ p0 = 8 from hne 8 (by omega)), if_neg (show ¬ p0 = 9 from hne 9 (by omega)), if_neg (show ¬ p0 = 10 from hne 10 (by omega)), if_neg (show ¬ p0 = 11 from hne 11 (by omega)), if_neg (show ¬ p0 = 12 from hne 12 (by omega)), if_neg (show ¬ p0 = 13 from hne 13 (by omega)), if_neg (show ¬ p0 = 14 from hne 14 (by omega)), if_neg (show ¬ p0 = 15 from hne 15 (by omega))]
      · have h : (15 : Int32) < p0 := h
        rw [if_neg (fun q => absurd (Int32.lt_trans h q) (by decide)), if_pos (Int32.lt_trans (by decide) h), if_neg (fun q => absurd (Int32.lt_trans h q) (by decide)), if_pos (Int32.lt_trans (by decide) h), if_neg (show ¬ p0 = 0 from hne 0 (by omega)), if_neg (show ¬ p0 = 1 from hne 1 (by omega)), if_neg (show ¬ p0 = 2 from hne 2 (by omega)), if_neg (show ¬ p0 = 3 from hne 3 (by omega)), if_neg (show ¬ p0 = 4 from hne 4 (by omega)), if_neg (show ¬ p0 = 5 from hne 5 (by omega)), if_neg (show ¬ p0 = 6 from hne 6 (by omega)), if_neg (show ¬ p0 = 7 from hne 7 (by omega)), if_neg (show ¬ p0 = 8 from hne 8 (by omega)), if_neg (show ¬ p0 = 9 from hne 9 (by omega)), if_neg (show ¬ p0 = 10 from hne 10 (by omega)), if_neg (show ¬ p0 = 11 from hne 11 (by omega)), if_neg (show ¬ p0 = 12 from hne 12 (by omega)), if_neg (show ¬ p0 = 13 from hne 13 (by omega)), if_neg (show ¬ p0 = 14 from hne 14 (by omega)), if_neg (show ¬ p0 = 15 from hne 15 (by omega))]
    · unfold fX7_count
      rw [tk_ok m0, if_neg (show ¬ p0 = 0 from hne 0 (by omega)), if_neg (show ¬ p0 = 1 from hne 1 (by omega)), if_neg (show ¬ p0 = 2 from hne 2 (by omega)), if_neg (show ¬ p0 = 3 from hne 3 (by omega)), if_neg (show ¬ p0 = 4 from hne 4 (by omega)), if_neg (show ¬ p0 = 5 from hne 5 (by omega)), if_neg (show ¬ p0 = 6 from hne 6 (by omega)), if_neg (show ¬ p0 = 7 from hne 7 (by omega)), if_neg (show ¬ p0 = 8 from hne 8 (by omega)), if_neg (show ¬ p0 = 9 from hne 9 (by omega)), if_neg (show ¬ p0 = 10 from hne 10 (by omega)), if_neg (show ¬ p0 = 11 from hne 11 (by omega)), if_neg (show ¬ p0 = 12 from hne 12 (by omega)), if_neg (show ¬ p0 = 13 from hne 13 (by omega)), if_neg (show ¬ p0 = 14 from hne 14 (by omega)), if_neg (show ¬ p0 = 15 from hne 15 (by omega))]
end CT
