/-! depth: both sides -/
def hvC (w T : Nat) (mi : Nat → Mi) : Nat → Nat → Int32
  | 0, j => nI j
  | i + 1, j => if j ∈ ctA w T (mi i) then idI (ctA w T (mi i)) else hvC w T mi i j
theorem cnt_in {w T k : Nat} {mi : Nat → Mi} {i : Nat} : cntF (fun i => (ctA w T (mi i)).contains k) (i + 1) = cntF (fun i => (ctA w T (mi i)).contains k) i + if k ∈ ctA w T (mi i) then 1 else 0 := by
  show _ + (if (ctA w T (mi i)).contains k = true then 1 else 0) = _
  congr 1
  by_cases h : k ∈ ctA w T (mi i)
  · rw [if_pos h, if_pos (List.contains_iff_mem.mpr h)]
  · rw [if_neg h, if_neg (fun z => h (List.contains_iff_mem.mp z))]
section DO
variable {E : En}
theorem ok_depth (hR : LRun E) (hM : LMod E) (hM2 : LMo2 E) (p0 : Int32) : Ok (JJ CG' CM' MG' MM') (fX6_depth E 0 p0) (fX7_depth E 395 p0) := by
  refine ok_of (fun a hw => ?_)
  obtain ⟨r0, r1, r3, r4, r5, r8, r9, r10, r11, r12, r13, l1, l2, l35, l36, l37, l38, l39, l61, l63, l64, lp, ls⟩ := id hR
  obtain ⟨b0, rb0, rb1, rb3, rb4, rb5, rb6, lr, la4, lg, lm, la31, la32⟩ := id l2
  obtain ⟨m0, m1, m2, mz⟩ := id hM
  obtain ⟨n1, n2, nz'⟩ := id hM2
  have hwc := hw.2.2.1
  have hn := hwc.1
  have ht3 := hwc.2.2.2.1
  have hdec : Decidable (canS (aC a)) := Classical.propDecidable _
  by_cases ht : 1 ≤ cT (aC a)
  · have h0 := hwc.2.2.2.2.1 ht
    have hnr := (nr_c hwc h0).2
    rcases below p0 (n := nrC (aC a)) (by omega) with ⟨k, hk, rfl⟩ | ⟨hq, hq2⟩
    · have hisr : ∀ σ, RC CG' CM' σ a → fX6_isRun E 0 (nI k) σ = some (1, σ) := fun σ hc => by
        obtain ⟨k1, k2, k3⟩ := cs_rr hc.2.2.2.1
        obtain ⟨g1, g2, g3, g4⟩ := cs_g hc.2.2.2.1 ht
        unfold fX6_isRun
        rw [tk_ok r0, dr_ok r3 l2.1, k3, i1, if_neg (nI_nlt ht (by omega)), if_neg (nI_pos (by omega)), dr_ok rb3 lg.1]
        show bd (if gi σ 7 2 ≤ nI k then _ else _) _ = _
        rw [g1, if_neg (nI_ge hk (by omega)), bd_ok, ← i1, kb_1]
      by_cases hcs : canS (aC a)
      · have hgo := gok_c hwc h0 hcs.2
        have hgv := gv_c hwc h0
        have hK : KC (aC a) ≤ 699 := hgo.2.2.2.2.2.2.1
        obtain ⟨hw2, hT3, hT, hn1, _, hcap, hgd⟩ := id hgo
        have hm0 : mil (cS (aC a) 2) (cS (aC a) 1) (bkC (aC a)) (frC (aC a)) (tuC (aC a)) (glC (aC a)) (nrC (aC a)) 0 = mi0 (cS (aC a) 2) (cS (aC a) 1) (bkC (aC a)) (frC (aC a)) (tuC (aC a)) (glC (aC a)) (nrC (aC a)) := rfl
        generalize hMi : mil (cS (aC a) 2) (cS (aC a) 1) (bkC (aC a)) (frC (aC a)) (tuC (aC a)) (glC (aC a)) (nrC (aC a)) = mi at hm0
        have hai : ∀ i, i ≤ KC (aC a) → AI (cS (aC a) 1) (nrC (aC a)) (mi i) := fun i hi => by rw [← hMi]; exact mil_ai hgo hi
        have hlf : ∀ i, i < KC (aC a) → 1 < lef (cS (aC a) 1) (mK (mi i)) := fun i hi => by rw [← hMi]; exact mil_lef hgo hi
        have hmo : ∀ i, i < KC (aC a) → oks (cS (aC a) 2) (cS (aC a) 1) (cS (aC a) 1 / 2) (mK (mi i)) = true := fun i hi => by rw [← hMi]; exact (mil_ok hgo hi).1
        have hend : lef (cS (aC a) 1) (mK (mi (KC (aC a)))) = 1 := by rw [← hMi]; exact mil_end hgo
        have hst : ∀ i, stp (cS (aC a) 2) (cS (aC a) 1) (bkC (aC a)) (glC (aC a)) (mi i) = mi (i + 1) := fun i => by rw [← hMi]; rfl
        have hks : ∀ i, i < KC (aC a) → (lef (cS (aC a) 1) (mK (mi (i + 1))) = 1 ↔ i + 1 = KC (aC a)) := fun i hi => by rw [← hMi]; exact kst_s hgo hi
        have hhol : ∀ i, i ≤ KC (aC a) → HOl (cS (aC a) 1) (hvC (cS (aC a) 2) (cS (aC a) 1) mi i) (mi i) := by
          intro i
          induction i with
          | zero => intro _; rw [hm0]; exact hol_0
          | succ i ih => intro hi; rw [← hst]; exact hol_stp (hai i (by omega)) (hmo i (by omega)) (ih (by omega))
        refine ⟨nI (cntF (fun i => (ctA (cS (aC a) 2) (cS (aC a) 1) (mi i)).contains k) (KC (aC a))), a, hw, spc_q (fun σ hc => ?_), spm_t (fun σ hc => ?_)⟩
        · obtain ⟨k1, k2, k3⟩ := cs_rr hc.2.2.2.1
          obtain ⟨s1, e1, q1, q2, q3, q4⟩ := c_begPlan hR hwc hcs hc.2.2.2.1
          rw [hMi] at q1
          unfold fX6_depth
          rw [tk_ok r0, hisr σ hc, bd_ok, if_neg (by decide), c_canPlan hR hwc k2 k3, bd_ok, decide_eq_true hcs, if_pos (by decide), e1, bv_ok]
          obtain ⟨⟨v, s3⟩, e3, p1, p2⟩ := for_in (F := fun (rec : (Int32 × Int32 × Int32) × Sg → Option ((Int32 × Int32 × Int32) × Sg)) (b : (Int32 × Int32 × Int32) × Sg) => bX6_depth_28 E 0 (fun u0 u1 u2 t => rec ((u0, u1, u2), t)) b.1.1 b.1.2.1 b.1.2.2 b.2) (KC (aC a))
            (fun i b => b.1 = (hvC (cS (aC a) 2) (cS (aC a) 1) mi i k, nI (cntF (fun i => (ctA (cS (aC a) 2) (cS (aC a) 1) (mi i)).contains k) i), nI i) ∧ RMl b.2 39 (cS (aC a) 2) (cS (aC a) 1) (bkC (aC a)) (glC (aC a)) (nrC (aC a)) (mi i) ∧ ∀ x k, (x < 39 ∨ 61 ≤ x) → gi b.2 x k = gi σ x k)
            (fun b => b.1.2.1 = nI (cntF (fun i => (ctA (cS (aC a) 2) (cS (aC a) 1) (mi i)).contains k) (KC (aC a))) ∧ ∀ x k, (x < 39 ∨ 61 ≤ x) → gi b.2 x k = gi σ x k) (N := FU) (by show KC (aC a) < 1000000; omega)
            (by
              rintro i ⟨v, s⟩ rec hi ⟨f0, f1, f2⟩
              dsimp only at f0 f1 f2 ⊢
              subst f0
              dsimp only
              have h8 := rml_8 f1
              have hle := rml_lef hT f1
              have h1l := hlf _ hi
              obtain ⟨s'', z1, z2, z3, z4, z5⟩ := c_adv l39 f1 hT hT3 hw2 (by omega) (by omega) (oc_dj (hai _ (by omega)).1) (hmo _ hi)
              rw [hst] at z2
              have hT1 : gi s'' 39 1 = nI (cS (aC a) 1) := by obtain ⟨L, H, hms, _⟩ := z2; exact hms.1.2.1
              obtain ⟨o, o1, o2, o3⟩ := hol_tk (σ := s'') (w := cS (aC a) 2) l39 hT (by omega) (hai i (by omega)) (hhol i (by omega)) hT1 z4 hk
              unfold bX6_depth_28
              rw [show (100000 : Int32) = nI 100000 from rfl, if_neg (nI_ge (by omega) (by omega)), dr_ok r10 l39.1, h8, i1, if_neg (nI_ge (by omega) (by omega)), z1, bv_ok, o1, bd_ok, cnt_in]
              cases ho : o with
              | none =>
                have hnc := o3 ho
                have hv1 : hvC (cS (aC a) 2) (cS (aC a) 1) mi (i + 1) k = hvC (cS (aC a) 2) (cS (aC a) 1) mi i k := by show (if _ then _ else _) = _; rw [if_neg hnc]
                rw [if_pos (show optI none = -nI 1 from rfl), bd_ok, lt_ok, nI_add]
                refine ⟨_, rfl, ?_, z2, fun x k hx => by dsimp only; rw [z5 _ _ (by unfold esA; omega)]; exact f2 x k hx⟩
                dsimp only
                rw [hv1, if_neg hnc]
                rfl
              | some e =>
                obtain ⟨y1, y2, y3⟩ := o2 e ho
                have hyc : k ∈ ctA (cS (aC a) 2) (cS (aC a) 1) (mi i) := cat_memI.mpr ⟨e, y1, y2, y3⟩
                have hv1 : hvC (cS (aC a) 2) (cS (aC a) 1) mi (i + 1) k = idI (ctA (cS (aC a) 2) (cS (aC a) 1) (mi i)) := by show (if _ then _ else _) = _; rw [if_pos hyc]
                rw [if_neg (show ¬ optI (some e) = -nI 1 from nI_nm1 (n := e) (by omega)), z3, lt_ok, lt_ok, bd_ok, lt_ok, nI_add, nI_add]
                refine ⟨_, rfl, ?_, z2, fun x k hx => by dsimp only; rw [z5 _ _ (by unfold esA; omega)]; exact f2 x k hx⟩
                dsimp only
                rw [hv1, if_pos hyc])
            (by
              rintro ⟨v, s⟩ rec ⟨f0, f1, f2⟩
              dsimp only at f0 f1 f2 ⊢
              subst f0
              dsimp only
              have h8 := rml_8 f1
              rw [hend] at h8
              unfold bX6_depth_28
              rw [show (100000 : Int32) = nI 100000 from rfl, if_neg (nI_ge (by omega) (by omega)), dr_ok r10 l39.1, h8, i1, if_pos (nI_le (Nat.le_refl _) (by omega))]
              exact ⟨_, rfl, rfl, f2⟩)
            (a := ((nI k, (0 : Int32), (0 : Int32)), s1)) ⟨rfl, q1, fun x k hx => q4 x k (by omega)⟩
          dsimp only at p1 p2
          rw [e3, bd_ok]
          refine ⟨s3, by rw [p1], fun x k he => ?_, fun x k hx => p2 _ _ (by omega)⟩
          unfold esC at he
          exact p2 _ _ (by omega)
        · obtain ⟨k1, k2, k3, k4, k5⟩ := mr_g hn hc.2.2.1
          have kg := mr_mg hwc hc.2.2.1 ht
          obtain ⟨y1, y2, y3⟩ := bg_c hwc h0
          have hgk := (hgv.2.2.1 k hk).2
          have hbk := y2 k hk
          have hx0 := y3 k hk 0 hgk
          rw [Nat.add_zero] at hx0
          have hcl : (cnt (cF (aC a)) (cN (aC a)) (roC (aC a)) (rnj (tuC (aC a)) k)).length = glC (aC a) k := by
            rw [cnt_len hgv.2.2 (q := rnj (tuC (aC a)) k) (by show [k].Nodup; simp) (fun j hj => by
              have hj : j ∈ [k] := hj
              rw [List.mem_singleton.mp hj]; exact hk)]
            show glC (aC a) k + 0 = _
            omega
          have hxm := cnt_mem.mp (getD_mem (P := cnt (cF (aC a)) (cN (aC a)) (roC (aC a)) (rnj (tuC (aC a)) k)) (i := 0) (by omega))
          rw [← hx0] at hxm
          have hxr : roC (aC a) (olC (aC a) (bgC (aC a) k)) = k := by
            have : roC (aC a) (olC (aC a) (bgC (aC a) k)) ∈ [k] := hxm.2
            exact List.mem_singleton.mp this
          obtain ⟨s2, e2, f2⟩ := mkeep (σ := σ) (off := 0) hM hM2 n2 (by omega) (by omega) (by omega)
          have f2' : ∀ x k, x ≠ 397 → gi s2 x k = gi σ x k := fun x k q => by rw [f2, if_neg (by omega)]
          have k3' : ∀ j, j < 6 → gi s2 396 (1 + j) = nI (cS (aC a) j) := fun j hj => by rw [f2' _ _ (by omega)]; exact k3 j hj
          obtain ⟨s4, g1, g2, g3, g4, g5, g6⟩ := m_spreads (σ := s2) (fr := frC (aC a)) hM hM2 hgv hgo (by omega) (fun q => sm_ok hw2 hT3 hT hnr q) (sr_c hwc (by rw [f2' _ _ (by omega)]; exact k1) (fun i hi => by rw [f2' _ _ (by omega)]; exact k2 i hi) k3') (by rw [← n_b (st_1 hwc (by omega))]; exact k3' 3 (by omega)) (go_c hwc h0 k3' ⟨by rw [f2' _ _ (by omega)]; exact kg.1, fun j hj => by rw [f2' _ _ (by omega)]; exact kg.2.1 j hj, fun p hp => by rw [f2' _ _ (by omega)]; exact kg.2.2.1 p hp, fun x hx => by rw [f2' _ _ (by omega)]; exact kg.2.2.2 x hx⟩)
          rw [← hm0] at g2
          unfold fX7_depth
          rw [tk_ok m0, m_canSp hM hM2 hwc k3 k4, bd_ok, decide_eq_true hcs, if_neg (by decide), dr_ok m1 n1.1, n1.2, show (14 : Int32) = nI 14 from rfl, ck_n (by omega) (by omega), nI_clamp (by omega), kg.1, show fX7_in E (nI k) (0 : Int32) (nI (nrC (aC a)) - 1) σ = some (1, σ) from m_inB hk (by omega), bd_ok, if_pos (by decide), show (926 : Int32) = nI 926 from rfl, nI_add, ck_n (by omega) (by omega), nI_clamp (by omega), kg.2.1 k (by omega), show (626 : Int32) = nI 626 from rfl, nI_add, ck_n (by omega) (by omega), nI_clamp (by omega), kg.2.2.1 _ (by omega), lt_ok, dr_ok m2 n2.1, show (0 : Int32) = nI 0 from rfl, e2, bv_ok, g1, bv_ok]
          generalize hxd : olC (aC a) (bgC (aC a) k) = x at *
          obtain ⟨⟨v, s3⟩, e3, p1, p2⟩ := for_in (F := fun (rec : Int32 × Sg → Option (Int32 × Sg)) (b : Int32 × Sg) => bX7_depth_61 E 396 395 (nI x) (fun u0 t => rec (u0, t)) b.1 b.2) (KC (aC a))
            (fun i b => b.1 = nI (cntF (fun i => (ctA (cS (aC a) 2) (cS (aC a) 1) (mi i)).contains k) i) ∧ RMm b.2 (cF (aC a)) (cN (aC a)) (roC (aC a)) (glC (aC a)) (cS (aC a) 2) (cS (aC a) 1) (bkC (aC a)) (mi i) ∧ gi b.2 396 7 = (if i = KC (aC a) then 3 else 2) ∧ ∀ x k, x ≠ 396 → ¬ (407 ≤ x ∧ x ≤ 409) → gi b.2 x k = gi s4 x k)
            (fun b => b.1 = nI (cntF (fun i => (ctA (cS (aC a) 2) (cS (aC a) 1) (mi i)).contains k) (KC (aC a))) ∧ ∀ x k, x ≠ 396 → ¬ (407 ≤ x ∧ x ≤ 409) → gi b.2 x k = gi s4 x k) (N := FU) (by show KC (aC a) < 1000000; omega)
            (by
              rintro i ⟨v, s⟩ rec hi ⟨f0, f1, f3, f4⟩
              dsimp only at f0 f1 f3 f4 ⊢
              subst f0
              obtain ⟨hs, ⟨X, hm, hx⟩, hkm, hz⟩ := id f1
              obtain ⟨s', y1, y2, y3⟩ := m_laysTaken hM hM2 hgv hT hT3 hw2 (hai _ (by omega)) (hmo _ hi) hs hm hx hkm
              have f1' : RMm s' (cF (aC a)) (cN (aC a)) (roC (aC a)) (glC (aC a)) (cS (aC a) 2) (cS (aC a) 1) (bkC (aC a)) (mi i) := rmm_tr hn hT f1 (fun k _ _ _ => y3 _ _ (by omega))
              have hx' : RX s' (cF (aC a)) (cN (aC a)) (roC (aC a)) (glC (aC a)) X := ⟨xt_fr hx.1 (fun k _ => y3 _ _ (by omega)), fun z hz => dd_fr (hx.2.1 z hz) (y3 _ _ (by omega)) (y3 _ _ (by omega)) (y3 _ _ (by omega)) (fun i _ => y3 _ _ (by omega)), hx.2.2⟩
              obtain ⟨s'', z1, z2, z3, z4⟩ := m_step hM hM2 hgv hT hT3 hw2 (hai _ (by omega)) (hmo _ hi) f1'
              rw [hst] at z2 z3
              unfold bX7_depth_61
              rw [n1.2, i7, ck_n (by omega) (by omega), nI_clamp (by omega), f3, if_neg (show ¬ i = KC (aC a) by omega), if_neg (by simp), y1, bd_ok, m_dep80 hM hM2 hT hgv (hai _ (by omega)) f1'.1.1 hm hx' y2 hxm.1, bd_ok, z1, bd_ok, hxr]
              refine ⟨_, rfl, by dsimp only; rw [cnt_in], z2, ?_, fun x k h1 h2 => ?_⟩
              · dsimp only
                rw [z3, y3 _ _ (by omega), f3, if_neg (show ¬ i = KC (aC a) by omega)]
                by_cases hq : i + 1 = KC (aC a)
                · rw [if_pos ((hks _ hi).mpr hq), if_pos hq]
                · rw [if_neg (fun z => hq ((hks _ hi).mp z)), if_neg hq]
              · dsimp only
                rw [z4 _ _ (by unfold esQ; omega), y3 _ _ (by omega)]; exact f4 x k h1 h2)
            (by
              rintro ⟨v, s⟩ rec ⟨f0, f1, f3, f4⟩
              dsimp only at f0 f1 f3 f4 ⊢
              unfold bX7_depth_61
              rw [n1.2, i7, ck_n (by omega) (by omega), nI_clamp (by omega), f3, if_pos rfl, if_pos (by decide)]
              exact ⟨_, rfl, f0, f4⟩)
            (a := (nI 0, s4)) ⟨rfl, g2, by
              dsimp only
              rw [g3]
              by_cases hz : lef (cS (aC a) 1) (skA (cS (aC a) 2) (cS (aC a) 1) (nrC (aC a))) = 1
              · rw [if_pos hz, if_pos (show 0 = KC (aC a) from (kst_0 hgo).mp hz)]
              · rw [if_neg hz, if_neg (fun (z : 0 = KC (aC a)) => hz ((kst_0 hgo).mpr z))], fun _ _ _ _ => rfl⟩
          dsimp only at p1 p2
          rw [e3, bd_ok]
          obtain ⟨s8, e8, f8⟩ := mlays (σ := s3) (off := 0) hM hM2 n2 (by omega) (by omega) (by omega)
          rw [e8, bv_ok]
          refine ⟨s8, by rw [p1], fun k hk => ?_, fun x k he hx => ?_, fun x k hx => ?_⟩
          · rw [f8, if_pos ⟨rfl, hk⟩, Nat.zero_add, p2 _ _ (by omega) (by omega), g6 _ _ (by unfold esY; omega), f2, if_pos (by omega), Nat.sub_zero]
          · unfold esM at he
            rw [f8, if_neg (by omega), p2 _ _ (by omega) (by omega), g6 _ _ (by unfold esY; omega), f2' _ _ (by omega)]
          · rw [f8, if_neg (by omega), p2 _ _ (by omega) (by omega), g6 _ _ (by unfold esY; omega), f2' _ _ (by omega)]
      · refine ⟨-1, a, hw, spc_q (fun σ hc => ⟨σ, ?_, fun _ _ _ => rfl, fun _ _ _ => rfl⟩), spm_q (fun σ hc => ⟨σ, ?_, fun _ _ _ => rfl, fun _ _ _ => rfl⟩)⟩
        · obtain ⟨k1, k2, k3⟩ := cs_rr hc.2.2.2.1
          unfold fX6_depth
          rw [tk_ok r0, hisr σ hc, bd_ok, if_neg (by decide), c_canPlan hR hwc k2 k3, bd_ok, decide_eq_false hcs, if_neg (by decide)]
        · obtain ⟨k1, k2, k3, k4, k5⟩ := mr_g hn hc.2.2.1
          unfold fX7_depth
          rw [tk_ok m0, m_canSp hM hM2 hwc k3 k4, bd_ok, decide_eq_false hcs, if_pos (by decide)]
    · refine ⟨-1, a, hw, spc_q (fun σ hc => ⟨σ, ?_, fun _ _ _ => rfl, fun _ _ _ => rfl⟩), spm_q (fun σ hc => ⟨σ, ?_, fun _ _ _ => rfl, fun _ _ _ => rfl⟩)⟩
      · obtain ⟨k1, k2, k3⟩ := cs_rr hc.2.2.2.1
        obtain ⟨g1, g2, g3, g4⟩ := cs_g hc.2.2.2.1 ht
        have : fX6_isRun E 0 p0 σ = some (0, σ) := by
          unfold fX6_isRun
          rw [tk_ok r0, dr_ok r3 l2.1, k3, i1, if_neg (nI_nlt ht (by omega))]
          rcases hq with h | ⟨h1, h2⟩
          · rw [if_pos h, bd_ok, kb_0]
          · rw [if_neg h1, dr_ok rb3 lg.1]
            show bd (if gi σ 7 2 ≤ p0 then _ else _) _ = _
            rw [g1, if_pos (Int32.not_lt.mp h2), bd_ok, kb_0]
        unfold fX6_depth
        rw [tk_ok r0, this, bd_ok, if_pos rfl]
      · obtain ⟨k1, k2, k3, k4, k5⟩ := mr_g hn hc.2.2.1
        have kg := mr_mg hwc hc.2.2.1 ht
        unfold fX7_depth
        rw [tk_ok m0, m_canSp hM hM2 hwc k3 k4, bd_ok]
        by_cases hcs : canS (aC a)
        · rw [decide_eq_true hcs, if_neg (by decide), dr_ok m1 n1.1, n1.2, show (14 : Int32) = nI 14 from rfl, ck_n (by omega) (by omega), nI_clamp (by omega), kg.1, show fX7_in E p0 (0 : Int32) (nI (nrC (aC a)) - 1) σ = some (0, σ) from m_inF hq2, bd_ok, if_neg (by decide)]
        · rw [decide_eq_false hcs, if_pos (by decide)]
  · have hcs : ¬ canS (aC a) := fun z => ht z.1
    refine ⟨-1, a, hw, spc_q (fun σ hc => ⟨σ, ?_, fun _ _ _ => rfl, fun _ _ _ => rfl⟩), spm_q (fun σ hc => ⟨σ, ?_, fun _ _ _ => rfl, fun _ _ _ => rfl⟩)⟩
    · obtain ⟨k1, k2, k3⟩ := cs_rr hc.2.2.2.1
      have : fX6_isRun E 0 p0 σ = some (0, σ) := by
        unfold fX6_isRun
        rw [tk_ok r0, dr_ok r3 l2.1, k3, i1, if_pos (nI_lt (by omega) (by omega)), bd_ok, kb_0]
      unfold fX6_depth
      rw [tk_ok r0, this, bd_ok, if_pos rfl]
    · obtain ⟨k1, k2, k3, k4, k5⟩ := mr_g hn hc.2.2.1
      unfold fX7_depth
      rw [tk_ok m0, m_canSp hM hM2 hwc k3 k4, bd_ok, decide_eq_false hcs, if_pos (by decide)]
end DO
