/-! sorted -/
theorem tul_up {gl : Nat → Nat} {T : Nat} {B : Mi} (h : lef T (mK (tul gl T B)) = 1) {t : Nat} {r : Rn} (hr : r ∈ mT (tul gl T B) t) : r.2 = false := by
  rw [tul_K] at h
  unfold tul at hr
  rw [if_pos h] at hr
  have hr : r ∈ upr (mT B t) := hr
  unfold upr at hr
  obtain ⟨r', _, e⟩ := List.mem_map.mp hr
  rw [← e]
theorem mil_tul {w T nr : Nat} {bk fr tu : Bool} {gl : Nat → Nat} : ∀ n, ∃ B, mil w T bk fr tu gl nr n = tul gl T B
  | 0 => ⟨_, rfl⟩
  | _ + 1 => ⟨_, rfl⟩
theorem mil_one {c : Cu} (hw : Wf c) (ht : 2 ≤ cT c) (hK : cI c = KC c) : ∃ t r, t < cS c 1 ∧ mT (miC c) t = [r] ∧ r.2 = false ∧ ∀ j, j < nrC c → j ∈ r.1 := by
  have h0 := hw.2.2.2.2.1 (by omega)
  have hg := gok_c hw h0 (hw.2.2.2.2.2 ht)
  obtain ⟨n1, n2⟩ := nr_c hw h0
  have hle : lef (cS c 1) (mK (miC c)) = 1 := by
    unfold miC; rw [hK]; exact mil_end hg
  have hai : AI (cS c 1) (nrC c) (miC c) := mil_ai hg (by rw [hK]; exact Nat.le_refl _)
  obtain ⟨t, r, h1, h2, h3⟩ := oc_ex hai.1 (show 0 < nrC c by omega)
  have hkc := hai.2.1
  have hl1 : (mT (miC c) t).length ≤ 1 := by
    have := sumF_1 (f := kc (mK (miC c))) h1
    rw [hkc t h1] at this
    unfold lef at hle
    omega
  have ht1 : mT (miC c) t = [r] := by
    cases hl : mT (miC c) t with
    | nil => rw [hl] at h2; cases h2
    | cons x l =>
      rw [hl] at h2 hl1
      have : l = [] := List.eq_nil_of_length_eq_zero (by simpa using hl1)
      subst this
      rw [List.mem_singleton.mp h2]
  refine ⟨t, r, h1, ht1, ?_, fun j hj => ?_⟩
  · obtain ⟨B, hB⟩ := mil_tul (w := cS c 2) (T := cS c 1) (nr := nrC c) (bk := bkC c) (fr := frC c) (tu := tuC c) (gl := glC c) (cI c)
    have hB : miC c = tul (glC c) (cS c 1) B := hB
    rw [hB] at hle h2
    exact tul_up hle h2
  · obtain ⟨t', r', q1, q2, q3⟩ := oc_ex hai.1 hj
    have : t' = t := by
      apply Classical.byContradiction
      intro hne
      have s := sumF_2 (f := kc (mK (miC c))) hne q1 h1
      have p1 : 0 < (mT (miC c) t').length := List.length_pos_of_mem q2
      have p2 : 0 < (mT (miC c) t).length := List.length_pos_of_mem h2
      rw [hkc t' q1, hkc t h1] at s
      unfold lef at hle
      omega
    subst this
    rw [ht1] at q2
    rw [← List.mem_singleton.mp q2]; exact q3
section SO
variable {E : En}
theorem ok_sorted (hR : LRun E) (hM : LMod E) (hM2 : LMo2 E) (p0 : Int32) : Ok (JJ CG' CM' MG' MM') (fX6_sorted E 0 p0) (fX7_sorted E 395 p0) := by
  refine ok_of (fun a hw => ?_)
  obtain ⟨r0, r1, r3, r4, r5, r8, r9, r10, r11, r12, r13, l1, l2, lx⟩ := id hR
  obtain ⟨b0, rb0, rb1, rb3, rb4, rb5, rb6, lr, la4, lg, lm, la31, la32⟩ := id l2
  have m0 := hM.1
  have hwc := hw.2.2.1
  have hn := hwc.1
  have ht3 := hwc.2.2.2.1
  rcases below p0 (n := cN (aC a)) (by omega) with ⟨j, hj, rfl⟩ | ⟨hq, hq2⟩
  · by_cases h3 : cT (aC a) = 3
    · refine ⟨nI ((rs (cF (aC a)) (cN (aC a))).getD j 0), a, hw, spc_q (fun σ hc => ⟨σ, ?_, fun _ _ _ => rfl, fun _ _ _ => rfl⟩), spm_q (fun σ hc => ⟨σ, ?_, fun _ _ _ => rfl, fun _ _ _ => rfl⟩)⟩
      · obtain ⟨k1, k2, k3⟩ := cs_rr hc.2.2.2.1
        unfold fX6_sorted
        rw [tk_ok r0, if_neg (nI_pos (by omega)), dr_ok r3 l2.1, dr_ok rb0 lr.1, k1.1, if_pos (nI_lt hj (by omega)), k3, h3, if_neg (by simp; rfl), lr.2.2.1, dr_s, lr.2.2.2.2.1, lr.2.2.2.2.2, tk_s, ck_m (by omega), nI_clamp (by omega)]
        show some (gi σ 5 j, σ) = _
        rw [k1.2.2.1 j hj]
      · obtain ⟨k1, k2, k3, k4, k5⟩ := mr_g hn hc.2.2.1
        have h0 : 0 < cN (aC a) := by omega
        have hK : cI (aC a) = KC (aC a) := (mr_mm hwc hc.2.2.1 (by omega)).2.1.mp h3
        obtain ⟨t, r, t1, t2, t3, t4⟩ := mil_one hwc (by omega) hK
        have hT2 := (hwc.2.2.1 1 (by omega)).2
        have hT2 : cS (aC a) 1 ≤ 6 := hT2
        obtain ⟨f1, _, _, X, f5, f6, f7⟩ := m_tapesF hM hM2 hw (by omega) hc
        obtain ⟨_, _, v⟩ := gv_c hwc h0
        have hXl : 0 < (X t).length := by rw [(f5 t).1, t2]; simp
        have hz : ((X t).getD 0 d0).2.2 = r := by rw [(f5 t).2 0 hXl, t2]; rfl
        obtain ⟨d1, d2, d3, d4, d5, d6⟩ := f7 t (by omega) 0 hXl
        rw [hz] at d6
        have hrm : r ∈ mT (miC (aC a)) t := by rw [t2]; simp
        have hcl : cnt (cF (aC a)) (cN (aC a)) (roC (aC a)) r = rs (cF (aC a)) (cN (aC a)) := by
          unfold cnt lst
          rw [t3, if_neg (by simp)]
          refine List.filter_eq_self.mpr (fun x hx => ?_)
          rw [List.contains_iff_mem]
          exact t4 _ (v.2 x (rs_mem.mp hx))
        have hzz : zz (glC (aC a)) ((X t).getD 0 d0) = cN (aC a) := by
          unfold zz
          rw [hz, ← cnt_len v (oc_nd f1.1 t1 hrm) (fun j hj => oc_lt f1.1 t1 hrm hj), hcl, rs_len]
        rw [hzz] at d5 d6
        have := d6 j hj
        rw [show ((X t).getD 0 d0).2.1 = 0 by omega, hcl] at this
        unfold fX7_sorted
        rw [tk_ok m0, m_many hM hM2, bd_ok, k1, show fX7_in E (nI j) (0 : Int32) (nI (cN (aC a)) - 1) σ = some (1, σ) from m_inB hj (by omega), bd_ok, if_pos (by decide), dr_ok hM.2.1 hM2.1.1, hM2.1.2, i7, ck_n (by omega) (by omega), nI_clamp (by omega), k4, h3, if_neg (by simp; rfl), show (7527 : Int32) = nI 7527 from rfl, nI_add, ck_n (by omega) (by omega), nI_clamp (by omega), bd_ok]
        exact congrArg (fun v => some (v, σ)) this
    · refine ⟨-2, a, hw, spc_q (fun σ hc => ⟨σ, ?_, fun _ _ _ => rfl, fun _ _ _ => rfl⟩), spm_q (fun σ hc => ⟨σ, ?_, fun _ _ _ => rfl, fun _ _ _ => rfl⟩)⟩
      · obtain ⟨k1, k2, k3⟩ := cs_rr hc.2.2.2.1
        unfold fX6_sorted
        rw [tk_ok r0, if_neg (nI_pos (by omega)), dr_ok r3 l2.1, dr_ok rb0 lr.1, k1.1, if_pos (nI_lt hj (by omega)), k3, if_pos (show ¬ nI (cT (aC a)) = 3 from fun q => h3 ((nI_eq (by omega) (by omega)).mp q)), bd_ok]
      · obtain ⟨k1, k2, k3, k4, k5⟩ := mr_g hn hc.2.2.1
        unfold fX7_sorted
        rw [tk_ok m0, m_many hM hM2, bd_ok, k1, show fX7_in E (nI j) (0 : Int32) (nI (cN (aC a)) - 1) σ = some (1, σ) from m_inB hj (by omega), bd_ok, if_pos (by decide), dr_ok hM.2.1 hM2.1.1, hM2.1.2, i7, ck_n (by omega) (by omega), nI_clamp (by omega), k4, if_pos (show ¬ nI (cT (aC a)) = 3 from fun q => h3 ((nI_eq (by omega) (by omega)).mp q)), bd_ok]
  · refine ⟨-1, a, hw, spc_q (fun σ hc => ⟨σ, ?_, fun _ _ _ => rfl, fun _ _ _ => rfl⟩), spm_q (fun σ hc => ⟨σ, ?_, fun _ _ _ => rfl, fun _ _ _ => rfl⟩)⟩
    · obtain ⟨k1, k2, k3⟩ := cs_rr hc.2.2.2.1
      unfold fX6_sorted
      rw [tk_ok r0]
      rcases hq with h | ⟨h1, h2⟩
      · rw [if_pos h]
      · rw [if_neg h1, dr_ok r3 l2.1, dr_ok rb0 lr.1, k1.1, if_neg h2]
    · obtain ⟨k1, k2, k3, k4, k5⟩ := mr_g hn hc.2.2.1
      unfold fX7_sorted
      rw [tk_ok m0, m_many hM hM2, bd_ok, k1, show fX7_in E p0 (0 : Int32) (nI (cN (aC a)) - 1) σ = some (0, σ) from m_inF hq2, bd_ok, if_neg (by simp)]
end SO
