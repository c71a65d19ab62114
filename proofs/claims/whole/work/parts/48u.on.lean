/-! tape, on: the queries -/
section ON
variable {E : En}
theorem m_tapeLoop {σ : Sg} {t nr n : Nat} {F ro gl : Nat → Nat} {X : Nat → List Dn} {l : List Rn} (hM : LMod E) (hM2 : LMo2 E) (ht : t < 6) (hl : (X t).length = l.length) (hX : ∀ k, k < (X t).length → ((X t).getD k d0).2.2 = l.getD k dum) (hT : XT σ X) (hD : ∀ k, k < (X t).length → DD σ F n ro gl ((X t).getD k d0)) (hn : n ≤ 300) (hg : Gln F n ro gl nr) (hlt : ∀ r, r ∈ l → ∀ j, j ∈ r.1 → j < nr) :
    fx (fun (rec : (Int32 × Int32 × Int32) × Sg → Option ((Int32 × Int32 × Int32) × Sg)) a => bX7_tape_40 E 395 (nI t) (fun u0 u1 u2 t => rec ((u0, u1, u2), t)) a.1.1 a.1.2.1 a.1.2.2 a.2) FU (((0 : Int32), (0 : Int32), (0 : Int32)), σ) = some ((nI (l.countP (fun r => r.1.isEmpty)), nI (sumF (fun k => szl gl (l.getD k dum).1) l.length), nI l.length), σ) := by
  obtain ⟨x1, x2, x3⟩ := hT t ht
  rw [← cnP_gl (fun r : Rn => r.1.isEmpty) dum l]
  refine for_tr l.length (fun k => ((nI (cnP (fun i => (l.getD i dum).1.isEmpty) k), nI (sumF (fun k => szl gl (l.getD k dum).1) k), nI k), σ)) (by show l.length < 1000000; omega) ?_ ?_ rfl
  · intro k rec hk
    have hk' : k < (X t).length := by omega
    have hr := m_runAt (E := E) (σ := σ) hM hM2 (t := t) (k := k) ht (by omega)
    obtain ⟨d1, d2, d3, d4, d5, d6⟩ := hD k hk'
    have hmem : l.getD k dum ∈ l := by
      rw [List.getD_eq_getElem?_getD, List.getElem?_eq_getElem hk]
      exact List.getElem_mem _
    have hz : zz gl ((X t).getD k d0) = szl gl (l.getD k dum).1 := by unfold zz; rw [hX k hk']
    rw [hz] at d3 d5
    have h0 := szl_0 hg (hlt _ hmem)
    rw [x3 k hk'] at hr
    unfold bX7_tape_40
    dsimp only
    rw [dr_ok hM.2.1 hM2.1.1, hM2.1.2, show (20 : Int32) = nI 20 from rfl, nI_add, ck_n (by omega) (by omega), nI_clamp (by omega), x1, if_neg (nI_ge hk' (by omega)), hr, bd_ok, show (1927 : Int32) = nI 1927 from rfl, nI_add, ck_n (by omega) (by omega), nI_clamp (by omega), d3]
    have e : cnP (fun i => (l.getD i dum).1.isEmpty) (k + 1) = cnP (fun i => (l.getD i dum).1.isEmpty) k + (if (l.getD k dum).1.isEmpty = true then 1 else 0) := rfl
    have e2 : sumF (fun k => szl gl (l.getD k dum).1) (k + 1) = sumF (fun k => szl gl (l.getD k dum).1) k + szl gl (l.getD k dum).1 := rfl
    by_cases hb : (l.getD k dum).1.isEmpty = true
    · rw [if_neg (by rw [h0.mpr hb]; simp; rfl), bd_ok, m_truth, bd_ok, if_neg (by decide), lt_ok, hr, bd_ok, nI_add, ck_n (by omega) (by omega), nI_clamp (by omega), d3, lt_ok, lt_ok, i1, nI_add, nI_add, nI_add, e, if_pos hb, e2]
    · have hz0 : szl gl (l.getD k dum).1 ≠ 0 := fun q => hb (h0.mp q)
      rw [if_pos (nI_ne0 (by omega) (by omega)), bd_ok, m_truth, bd_ok, if_pos rfl, lt_ok, hr, bd_ok, nI_add, ck_n (by omega) (by omega), nI_clamp (by omega), d3, lt_ok, lt_ok, i0, i1, nI_add, nI_add, nI_add, e, if_neg hb, e2]
  · intro rec
    unfold bX7_tape_40
    dsimp only
    rw [dr_ok hM.2.1 hM2.1.1, hM2.1.2, show (20 : Int32) = nI 20 from rfl, nI_add, ck_n (by omega) (by omega), nI_clamp (by omega), x1, if_pos (nI_le (by omega) (by omega))]
theorem no4 {p : Int32} (h0 : ¬ p = 0) (h1 : ¬ p = 1) (h2 : ¬ p = 2) (h3 : ¬ p = 3) : ¬ ((0 : Int32) ≤ p ∧ p ≤ 3) := fun q => by
  obtain ⟨m, hm, rfl⟩ := nI_of (x := p) (Int32.not_lt.mpr q.1)
  have q2 : nI m ≤ nI 3 := q.2
  have := (nI_leI hm (by omega)).mp q2
  rcases (show m = 0 ∨ m = 1 ∨ m = 2 ∨ m = 3 by omega) with rfl | rfl | rfl | rfl
  · exact h0 rfl
  · exact h1 rfl
  · exact h2 rfl
  · exact h3 rfl
theorem spread_no (hR : LRun E) (hM : LMod E) (hM2 : LMo2 E) {a : Ab} (hw : Wfa a) (ht : ¬ 2 ≤ cT (aC a)) : (∀ σ p, RC CG' CM' σ a → fX6_isTape E 0 p σ = some (0, σ)) ∧ ∀ σ, RM MG' MM' σ a → fX7_isSpread E 395 σ = some (0, σ) := by
  obtain ⟨r0, r1, r3, r4, r5, r8, r9, r10, r11, r12, r13, l1, l2, lx⟩ := id hR
  have hwc := hw.2.2.1
  refine ⟨fun σ p hc => ?_, fun σ hc => ?_⟩
  · obtain ⟨k1, k2, k3⟩ := cs_rr hc.2.2.2.1
    unfold fX6_isTape
    rw [tk_ok r0, dr_ok r3 l2.1, k3, i2, if_pos (nI_lt (by omega) (by omega)), bd_ok, kb_0]
  · obtain ⟨k1, k2, k3, k4, k5⟩ := mr_g hwc.1 hc.2.2.1
    unfold fX7_isSpread
    rw [tk_ok hM.1, dr_ok hM.2.1 hM2.1.1, hM2.1.2, i7, ck_n (by omega) (by omega), nI_clamp (by omega), k4, i1, if_pos (nI_le (by omega) (by omega)), bd_ok, kb_0]
theorem ok_tape (hR : LRun E) (hM : LMod E) (hM2 : LMo2 E) (p0 p1 : Int32) : Ok (JJ CG' CM' MG' MM') (fX6_tape E 0 p0 p1) (fX7_tape E 395 p0 p1) := by
  refine ok_of (fun a hw => ?_)
  obtain ⟨r0, r1, r3, r4, r5, r8, r9, r10, r11, r12, r13, l1, l2, lx⟩ := id hR
  obtain ⟨b0, rb0, rb1, rb3, rb4, rb5, rb6, lr, la4, lg, lm, la31, la32⟩ := id l2
  have lm : LMill E 11 300 := lm
  have rb4 : rf E 2 4 = some 11 := rb4
  have m0 := hM.1
  have hwc := hw.2.2.1
  have hn := hwc.1
  by_cases ht : 2 ≤ cT (aC a)
  · have h0 := hwc.2.2.2.2.1 (by omega)
    obtain ⟨n1, n2⟩ := nr_c hwc h0
    obtain ⟨_, _, v⟩ := gv_c hwc h0
    have hT2 := (hwc.2.2.1 1 (by omega)).2
    have hT2 : cS (aC a) 1 ≤ 6 := hT2
    rcases below p0 (n := cS (aC a) 1) (by omega) with ⟨t, htT, rfl⟩ | ⟨hq, hq2⟩
    · obtain ⟨lm0, lm4, _, _, _, _, _, _, _, lma, _, _, _, _, _, _, _, lmt⟩ := id lm
      obtain ⟨lt1, lt2⟩ := lmt t (by omega)
      have hids : ∀ (h : AI (cS (aC a) 1) (nrC (aC a)) (miC (aC a))), IDs (mT (miC (aC a)) t) := fun h r hr i l' e => by
        have := oc_lt h.1 htT hr (j := i) (by rw [e]; simp); omega
      -- the reference, up to the loop
      have hm : ∀ σ, RM MG' MM' σ a → ∀ j, j < 4 → p1 = nI j → fX7_tape E 395 (nI t) p1 σ = some (if j = 0 then nI (mT (miC (aC a)) t).length else if j = 1 then nI ((mT (miC (aC a)) t).countP (fun r => r.1.isEmpty)) else if j = 2 then nI (sumF (fun k => szl (glC (aC a)) ((mT (miC (aC a)) t).getD k dum).1) (mT (miC (aC a)) t).length) else if nI (kto (mK (miC (aC a)))) = nI t then 1 else 0, σ) := by
        intro σ hc j hj hp
        obtain ⟨f1, ⟨f2, f3⟩, f4, X, f5, f6, f7⟩ := m_tapesF hM hM2 hw ht hc
        obtain ⟨x1, x2, x3⟩ := f6 t (by omega)
        have hloop := m_tapeLoop (σ := σ) hM hM2 (t := t) (by omega) (f5 t).1 (f5 t).2 f6 (f7 t (by omega)) hn v (fun r hr j hj => oc_lt f1.1 htT hr hj)
        subst hp
        unfold fX7_tape
        rw [tk_ok m0, f4, bd_ok, if_neg (by decide), m_tapes hM hM2, bd_ok, f2, show fX7_in E (nI t) (0 : Int32) (nI (cS (aC a) 1) - 1) σ = some (1, σ) from m_inB htT (by omega), bd_ok, if_neg (by decide), show fX7_in E (nI j) (0 : Int32) (3 : Int32) σ = some (1, σ) from m_inN (l := 0) (h := 3) (by omega), bd_ok, if_pos (by decide), hloop, bd_ok]
        rcases (show j = 0 ∨ j = 1 ∨ j = 2 ∨ j = 3 by omega) with rfl | rfl | rfl | rfl
        · rw [if_neg (by simp; rfl), dr_ok hM.2.1 hM2.1.1, hM2.1.2, show (20 : Int32) = nI 20 from rfl, nI_add, ck_n (by omega) (by omega), nI_clamp (by omega), x1, bd_ok, (f5 t).1, if_pos rfl]
        · rw [if_pos (by decide), if_neg (by simp; rfl), bd_ok, if_neg (by decide), if_pos rfl]
        · rw [if_pos (by decide), if_pos (by decide), if_neg (by simp; rfl), bd_ok, if_neg (by decide), if_neg (by decide), if_pos rfl]
        · rw [if_pos (by decide), if_pos (by decide), if_pos (by decide), dr_ok hM.2.1 hM2.1.1, hM2.1.2, show (13 : Int32) = nI 13 from rfl, ck_n (by omega) (by omega), nI_clamp (by omega), f3, if_neg (show ¬ 3 = 0 by decide), if_neg (show ¬ 3 = 1 by decide), if_neg (show ¬ 3 = 2 by decide)]
          by_cases he : nI (kto (mK (miC (aC a)))) = nI t
          · rw [if_neg (fun q => q he), bd_ok, m_truth, bd_ok, bd_ok, if_pos he]; rfl
          · rw [if_pos he, bd_ok, m_truth, bd_ok, bd_ok, if_neg he]; rfl
      by_cases e0 : p1 = 0
      · refine ⟨nI (mT (miC (aC a)) t).length, a, hw, spc_q (fun σ hc => ⟨σ, ?_, fun _ _ _ => rfl, fun _ _ _ => rfl⟩), spm_q (fun σ hc => ⟨σ, ?_, fun _ _ _ => rfl, fun _ _ _ => rfl⟩)⟩
        · obtain ⟨f1, ⟨f2, f3, f4, f5⟩, f6, f7, f8, f9, f10⟩ := c_tapes hR hw ht hc
          obtain ⟨L, H, t1, t2, t3, t4, t5, t6⟩ := f6 t htT
          unfold fX6_tape
          rw [tk_ok r0, f10 t htT, bd_ok, if_pos (by decide), dr_ok r3 l2.1, dr_ok rb4 lm.1, if_pos e0, lm4, dr_s, lma.1, lma.2, tk_s, ck_m (by omega), nI_clamp (by omega), lt1, dr_s, lt2.1, tk_s, tape_size lt2 t1 t2 t3, bd_ok, t5]
        · rw [hm σ hc 0 (by omega) e0, if_pos rfl]
      · by_cases e1 : p1 = 1
        · refine ⟨nI ((mT (miC (aC a)) t).countP (fun r => r.1.isEmpty)), a, hw, spc_q (fun σ hc => ⟨σ, ?_, fun _ _ _ => rfl, fun _ _ _ => rfl⟩), spm_q (fun σ hc => ⟨σ, ?_, fun _ _ _ => rfl, fun _ _ _ => rfl⟩)⟩
          · obtain ⟨f1, ⟨f2, f3, f4, f5⟩, f6, f7, f8, f9, f10⟩ := c_tapes hR hw ht hc
            obtain ⟨L, H, htp⟩ := f6 t htT
            unfold fX6_tape
            rw [tk_ok r0, f10 t htT, bd_ok, if_pos (by decide), dr_ok r3 l2.1, dr_ok rb4 lm.1, if_neg e0, if_pos e1, lm4, dr_s, lma.1, lma.2, tk_s, ck_m (by omega), nI_clamp (by omega), lt1, dr_s, lt2.1, tk_s, c_dum lt2 htp (hids f1), bd_ok]
          · rw [hm σ hc 1 (by omega) e1, if_neg (by decide), if_pos rfl]
        · by_cases e2 : p1 = 2
          · refine ⟨nI (sumF (fun k => szl (glC (aC a)) ((mT (miC (aC a)) t).getD k dum).1) (mT (miC (aC a)) t).length), a, hw, spc_q (fun σ hc => ⟨σ, ?_, fun _ _ _ => rfl, fun _ _ _ => rfl⟩), spm_q (fun σ hc => ⟨σ, ?_, fun _ _ _ => rfl, fun _ _ _ => rfl⟩)⟩
            · obtain ⟨f1, ⟨f2, f3, f4, f5⟩, f6, f7, f8, f9, f10⟩ := c_tapes hR hw ht hc
              obtain ⟨L, H, htp⟩ := f6 t htT
              unfold fX6_tape
              rw [tk_ok r0, f10 t htT, bd_ok, if_pos (by decide), dr_ok r3 l2.1, dr_ok rb4 lm.1, if_neg e0, if_neg e1, if_pos e2, c_recOn lm (by omega) f3 f4 (by omega) (by omega) htp (f7 t htT), bd_ok]
            · rw [hm σ hc 2 (by omega) e2, if_neg (by decide), if_neg (by decide), if_pos rfl]
          · by_cases e3 : p1 = 3
            · refine ⟨if nI (kto (mK (miC (aC a)))) = nI t then 1 else 0, a, hw, spc_q (fun σ hc => ⟨σ, ?_, fun _ _ _ => rfl, fun _ _ _ => rfl⟩), spm_q (fun σ hc => ⟨σ, ?_, fun _ _ _ => rfl, fun _ _ _ => rfl⟩)⟩
              · obtain ⟨f1, ⟨f2, f3, f4, f5⟩, f6, f7, f8, f9, f10⟩ := c_tapes hR hw ht hc
                unfold fX6_tape
                rw [tk_ok r0, f10 t htT, bd_ok, if_pos (by decide), dr_ok r3 l2.1, dr_ok rb4 lm.1, if_neg e0, if_neg e1, if_neg e2, if_pos e3, f5]
                by_cases he : nI (kto (mK (miC (aC a)))) = nI t
                · rw [if_neg (fun q => q he), bd_ok, if_pos he]
                · rw [if_pos he, bd_ok, if_neg he]
              · rw [hm σ hc 3 (by omega) e3, if_neg (by decide), if_neg (by decide), if_neg (by decide)]
            · refine ⟨-1, a, hw, spc_q (fun σ hc => ⟨σ, ?_, fun _ _ _ => rfl, fun _ _ _ => rfl⟩), spm_q (fun σ hc => ⟨σ, ?_, fun _ _ _ => rfl, fun _ _ _ => rfl⟩)⟩
              · obtain ⟨f1, ⟨f2, f3, f4, f5⟩, f6, f7, f8, f9, f10⟩ := c_tapes hR hw ht hc
                unfold fX6_tape
                rw [tk_ok r0, f10 t htT, bd_ok, if_pos (by decide), dr_ok r3 l2.1, dr_ok rb4 lm.1, if_neg e0, if_neg e1, if_neg e2, if_neg e3]
              · obtain ⟨f1, ⟨f2, f3⟩, f4, X, f5, f6, f7⟩ := m_tapesF hM hM2 hw ht hc
                unfold fX7_tape
                rw [tk_ok m0, f4, bd_ok, if_neg (by decide), m_tapes hM hM2, bd_ok, f2, show fX7_in E (nI t) (0 : Int32) (nI (cS (aC a) 1) - 1) σ = some (1, σ) from m_inB htT (by omega), bd_ok, if_neg (by decide), m_inF (no4 e0 e1 e2 e3), bd_ok, if_neg (by simp)]
    · refine ⟨-1, a, hw, spc_q (fun σ hc => ⟨σ, ?_, fun _ _ _ => rfl, fun _ _ _ => rfl⟩), spm_q (fun σ hc => ⟨σ, ?_, fun _ _ _ => rfl, fun _ _ _ => rfl⟩)⟩
      · obtain ⟨f1, ⟨f2, f3, f4, f5⟩, f6, f7, f8, f9, f10⟩ := c_tapes hR hw ht hc
        unfold fX6_tape
        rw [tk_ok r0, f9 p0 hq, bd_ok, if_neg (by simp)]
      · obtain ⟨f1, ⟨f2, f3⟩, f4, X, f5, f6, f7⟩ := m_tapesF hM hM2 hw ht hc
        unfold fX7_tape
        rw [tk_ok m0, f4, bd_ok, if_neg (by decide), m_tapes hM hM2, bd_ok, f2, show fX7_in E p0 (0 : Int32) (nI (cS (aC a) 1) - 1) σ = some (0, σ) from m_inF hq2, bd_ok, if_pos rfl]
  · obtain ⟨q1, q2⟩ := spread_no hR hM hM2 hw ht
    refine ⟨-1, a, hw, spc_q (fun σ hc => ⟨σ, ?_, fun _ _ _ => rfl, fun _ _ _ => rfl⟩), spm_q (fun σ hc => ⟨σ, ?_, fun _ _ _ => rfl, fun _ _ _ => rfl⟩)⟩
    · unfold fX6_tape
      rw [tk_ok r0, q1 σ p0 hc, bd_ok, if_neg (by simp)]
    · unfold fX7_tape
      rw [tk_ok m0, q2 σ hc, bd_ok, if_pos rfl]
end ON
