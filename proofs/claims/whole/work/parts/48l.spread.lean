/-! spread; steps -/
section MLx
variable {w T nr : Nat} {bk fr tu : Bool} {gl : Nat → Nat}
theorem tul_n {A : Mi} : mSt (tul gl T A) = mSt A ∧ mPh (tul gl T A) = mPh A ∧ mMo (tul gl T A) = mMo A := by unfold tul; split <;> exact ⟨rfl, rfl, rfl⟩
theorem mil_st : ∀ n, mSt (mil w T bk fr tu gl nr n) = n
  | 0 => by show mSt (mi0 w T bk fr tu gl nr) = 0; unfold mi0; rw [tul_n.1]
  | n + 1 => by
    show mSt (stp w T bk gl (mil w T bk fr tu gl nr n)) = n + 1
    unfold stp
    rw [tul_n.1]
    show mSt (mil w T bk fr tu gl nr n) + 1 = n + 1
    rw [mil_st n]
theorem mil_ph : ∀ n, mPh (mil w T bk fr tu gl nr n) ≤ n
  | 0 => by show mPh (mi0 w T bk fr tu gl nr) ≤ 0; unfold mi0; rw [tul_n.2.1]; exact Nat.le_refl _
  | n + 1 => by
    show mPh (stp w T bk gl (mil w T bk fr tu gl nr n)) ≤ n + 1
    unfold stp
    rw [tul_n.2.1]
    show mPh (mil w T bk fr tu gl nr n) + (if _ then 1 else 0) ≤ n + 1
    have := mil_ph n
    split <;> omega
theorem kst_0 (h : Gok w T nr) : lef T (skA w T nr) = 1 ↔ 0 = kst w T nr := by
  obtain ⟨h1, h2, h3⟩ := h.2.2.2.2.2.2
  constructor
  · intro q
    by_cases hz : kst w T nr = 0
    · exact hz.symm
    · exact absurd q (h3 0 (by omega)).1
  · intro q
    rw [← q] at h2; exact h2
theorem kst_s (h : Gok w T nr) {n : Nat} (hn : n < kst w T nr) : lef T (mK (mil w T bk fr tu gl nr (n + 1))) = 1 ↔ n + 1 = kst w T nr := by
  obtain ⟨h1, h2, h3⟩ := h.2.2.2.2.2.2
  rw [mil_K h]
  constructor
  · intro q
    by_cases hz : n + 1 = kst w T nr
    · exact hz
    · exact absurd q (h3 (n + 1) (by omega)).1
  · intro q; rw [q]; exact h2
end MLx
def canS (c : Cu) : Prop := 1 ≤ cT c ∧ (cS c 2 ≠ 1 ∨ 3 < cS c 1)
noncomputable def nxC (c : Cu) : Cu := (cF c, cN c, cS c, if cI c + 1 = KC c then 3 else 2, cI c + 1)
section SPR
variable {E : En} {σ : Sg} {c : Cu} {x : Nat}
theorem c_canPlan (hR : LRun E) (hw : Wf c) (h6 : ∀ j, j < 6 → gi σ 6 j = nI (cS c j)) (h2 : gi σ 2 2 = nI (cT c)) [Decidable (canS c)] : fX6_canPlan E 0 σ = some (bI (decide (canS c)), σ) := by
  obtain ⟨r0, r1, r3, r4, r5, r8, r9, r10, r11, r12, r13, l1, l2, lx⟩ := id hR
  obtain ⟨b0, rb0, rb1, rb3, rb4, rb5, rb6, lr, la4, lg, lm, la31, la32⟩ := id l2
  have ht3 := hw.2.2.2.1
  have hs1 : cS c 1 ≤ 6 := (hw.2.2.1 1 (by omega)).2
  have hs2 : cS c 2 ≤ 2 := (hw.2.2.1 2 (by omega)).2
  unfold fX6_canPlan fX6_canSpread
  rw [tk_ok r0, dr_ok r3 l2.1, h2, i1]
  by_cases h1 : cT c < 1
  · rw [if_pos (nI_lt h1 (by omega)), bd_ok, kb_0, decide_eq_false (fun q => by have := q.1; omega)]; rfl
  · rw [if_neg (nI_nlt (by omega) (by omega)), dr_ok rb1 la4.1, la4.2, i2, ck_n (by omega) (by omega), ck_n (by omega) (by omega), nI_clamp (by omega), nI_clamp (by omega)]
    rw [h6 2 (by omega), h6 1 (by omega)]
    by_cases hq : cS c 2 = 1
    · rw [hq, if_neg (by simp)]
      by_cases hq2 : cS c 1 ≤ 3
      · rw [i3, if_pos (nI_le hq2 (by omega)), bd_ok, kb_0, bd_ok, if_pos rfl, bd_ok, kb_0, decide_eq_false (fun q => by have := q.2; omega)]; rfl
      · rw [i3, if_neg (nI_ge (by omega) (by omega)), bd_ok, kb_n1, bd_ok, if_neg (by decide), bd_ok, kb_n1, decide_eq_true (show canS c from ⟨by omega, Or.inr (by omega)⟩)]; rfl
    · rw [if_pos (fun q => hq ((nI_eq (by omega) (by omega)).mp q)), bd_ok, kb_n1, bd_ok, if_neg (by decide), bd_ok, kb_n1, decide_eq_true (show canS c from ⟨by omega, Or.inl hq⟩)]; rfl
theorem m_canSp (hM : LMod E) (hM2 : LMo2 E) (hw : Wf c) (h6 : ∀ j, j < 6 → gi σ 396 (1 + j) = nI (cS c j)) (h7 : gi σ 396 7 = nI (cT c)) [Decidable (canS c)] : fX7_canSpread E 395 σ = some (bI (decide (canS c)), σ) := by
  have ht3 := hw.2.2.2.1
  have hs1 : cS c 1 ≤ 6 := (hw.2.2.1 1 (by omega)).2
  have hs2 : cS c 2 ≤ 2 := (hw.2.2.1 2 (by omega)).2
  have e2 := h6 1 (by omega)
  have e3 := h6 2 (by omega)
  unfold fX7_canSpread
  rw [tk_ok hM.1, dr_ok hM.2.1 hM2.1.1, hM2.1.2, i7, ck_n (by omega) (by omega), nI_clamp (by omega), h7]
  by_cases h1 : cT c < 1
  · rw [show cT c = 0 by omega, if_pos (by decide), bd_ok, kb_0, decide_eq_false (fun q => by have := q.1; omega)]; rfl
  · rw [if_neg (nI_nle (by omega) (by omega)), m_way hM hM2, bd_ok, e3, i1]
    by_cases hq : cS c 2 = 1
    · rw [hq, if_neg (by simp), m_tapes hM hM2, bd_ok, e2]
      by_cases hq2 : cS c 1 ≤ 3
      · rw [i3, if_pos (nI_le hq2 (by omega)), bd_ok, kb_0, decide_eq_false (fun q => by have := q.2; omega)]; rfl
      · rw [i3, if_neg (nI_ge (by omega) (by omega)), bd_ok, kb_n1, decide_eq_true (show canS c from ⟨by omega, Or.inr (by omega)⟩)]; rfl
    · rw [if_pos (fun q => hq ((nI_eq (by omega) (by omega)).mp q)), bd_ok, kb_n1, decide_eq_true (show canS c from ⟨by omega, Or.inl hq⟩)]; rfl
/-- the settings are numbers between bounds -/
theorem st_1 (hw : Wf c) {j : Nat} (hj : j = 3 ∨ j = 4 ∨ j = 5) : cS c j ≤ 1 := by
  rcases hj with rfl | rfl | rfl
  · exact (hw.2.2.1 3 (by omega)).2
  · exact (hw.2.2.1 4 (by omega)).2
  · exact (hw.2.2.1 5 (by omega)).2
theorem sel_b {v : Nat} (hv : v ≤ 1) {s : Sg} : (if ¬ nI v = (1 : Int32) then (some ((0 : Int32), s)) else (some ((1 : Int32), s))) = some (bI (v == 1), s) := by
  rcases (show v = 0 ∨ v = 1 by omega) with rfl | rfl <;> rfl
theorem n_b {v : Nat} (hv : v ≤ 1) : nI v = nI (if (v == 1) = true then 1 else 0) := by
  rcases (show v = 0 ∨ v = 1 by omega) with rfl | rfl <;> rfl
theorem sr_c (hw : Wf c) (k1 : gi σ 396 0 = nI (cN c)) (k2 : ∀ i, i < cN c → gi σ 396 (26 + i) = nI (cF c i)) (k3 : ∀ j, j < 6 → gi σ 396 (1 + j) = nI (cS c j)) : SR σ (cF c) (cN c) (cS c 2) (cS c 1) (bkC c) := ⟨k1, k3 1 (by omega), k3 2 (by omega), by rw [← n_b (st_1 hw (by omega))]; exact k3 4 (by omega), k2⟩
theorem go_c (hw : Wf c) (h0 : 0 < cN c) (k3 : ∀ j, j < 6 → gi σ 396 (1 + j) = nI (cS c j)) (hg : gi σ 396 14 = nI (nrC c) ∧ (∀ j, j ≤ nrC c → gi σ 396 (926 + j) = nI (bgC c j)) ∧ (∀ p, p < cN c → gi σ 396 (626 + p) = nI (olC c p)) ∧ ∀ x, x < cN c → gi σ 396 (326 + x) = nI (roC c x)) : GOm σ (cF c) (cN c) (roC c) (glC c) (bgC c) (olC c) (tuC c) (nrC c) := by
  obtain ⟨b1, b2, b3⟩ := bg_c hw h0
  exact ⟨hg.1, ⟨cS c 5, k3 5 (by omega), st_1 hw (by omega), rfl⟩, hg.2.1, hg.2.2.1, b1, b2, b3⟩
/-- runs are spread in the class -/
theorem c_spreadR (hR : LRun E) (hw : Wf c) (h1 : cT c = 1) (hcs : cS c 2 ≠ 1 ∨ 3 < cS c 1) (h : CS CG' CM' (lc σ 2) c) : ∃ s, fX4_spreadRuns E 2 σ = some s ∧ CS CG' CM' (lc s 2) (cF c, cN c, cS c, if 0 = KC c then 3 else 2, 0) ∧ gi s 14 4 = nI (dmN (cS c 2) (cS c 1) (nrC c)) ∧ ∀ x k, (x < 2 ∨ 35 ≤ x) → gi s x k = gi σ x k := by
  obtain ⟨r0, r1, r3, r4, r5, r8, r9, r10, r11, r12, r13, l1, l2, lx⟩ := id hR
  obtain ⟨b0, rb0, rb1, rb3, rb4, rb5, rb6, lr, la4, lg, lm, la31, la32⟩ := id l2
  obtain ⟨k1, k2, k3⟩ := cs_rr h
  obtain ⟨g1, g2, g3, g4⟩ := cs_g h (by omega)
  have h0 := hw.2.2.2.2.1 (by omega)
  have hgo := gok_c hw h0 hcs
  obtain ⟨hw2, hT3, hT, hn1, _, hcap, _⟩ := id hgo
  have hnr := (nr_c hw h0).2
  obtain ⟨s1, e1, d1, f1⟩ := c_begin (σ := σ) (w := cS c 2) (T := cS c 1) (bk := bkC c) (gl := glC c) (tu := tuC c) lm hT3 hT
  obtain ⟨s2, e2, r2, t4, t5, f2⟩ := c_layRuns (σ := s1) (fr := frC c) (f3 := cS c 3) l2 lm (by omega) (by rw [f1 _ _ (by omega)]; exact g1) (by rw [f1 _ _ (by omega)]; exact g2) (fun r hr => by rw [f1 _ _ (by omega)]; exact g4 r hr) (by rw [f1 _ _ (by omega)]; exact k2 3 (by omega)) (st_1 hw (by omega)) rfl d1 (by omega) (by omega) (by omega) hw2 hT hT3 hcap
  unfold fX4_spreadRuns
  rw [tk_ok b0, dr_ok rb4 lm.1, dr_ok rb1 la4.1, la4.2, i2, ck_n (by omega) (by omega), i1, ck_n (by omega) (by omega), i4, ck_n (by omega) (by omega), nI_clamp (by omega), nI_clamp (by omega), nI_clamp (by omega), k2 4 (by omega), k2 2 (by omega), k2 1 (by omega), show nI 1 = (1 : Int32) from rfl, sel_b (st_1 hw (by omega)), bd_ok, e1, bv_ok, e2, bv_ok]
  have f2' : ∀ x k, (x < 11 ∨ 33 ≤ x) → gi s2 x k = gi σ x k := fun x k hx => by rw [f2 _ _ (by omega), f1 _ _ (by omega)]
  refine bd_in (nrC c) (fun i a => a.1 = nI i ∧ (∀ j, j < i → gi a.2 33 j = nI j) ∧ ∀ x k, x ≠ 33 → gi a.2 x k = gi s2 x k) (fun a => (∀ j, j < nrC c → gi a.2 33 j = nI j) ∧ ∀ x k, x ≠ 33 → gi a.2 x k = gi s2 x k) (by show nrC c < 1000000; omega) ⟨rfl, fun j hj => absurd hj (Nat.not_lt_zero j), fun _ _ _ => rfl⟩ ?_ ?_ ?_
  · rintro i ⟨v, s⟩ rec hi ⟨rfl, q1, q2⟩
    dsimp only at q1 q2 ⊢
    unfold bX4_spreadRuns_44
    rw [dr_ok rb3 lg.1, q2 _ _ (by omega), f2' _ _ (by omega), g1, if_neg (nI_ge hi (by omega)), dr_ok rb5 la31.1, la31.2, ck_n (by omega) (by omega), nI_clamp (by omega), ss_ok, lt_ok, ad1]
    refine ⟨_, rfl, rfl, fun j hj => ?_, fun x k hx => by dsimp only; rw [gs_ne (by omega)]; exact q2 x k hx⟩
    dsimp only
    by_cases hji : j = i
    · subst hji; rw [gs_eq]
    · rw [gs_ne (by omega)]; exact q1 j (by omega)
  · rintro ⟨v, s⟩ rec ⟨rfl, q1, q2⟩
    dsimp only at q1 q2 ⊢
    unfold bX4_spreadRuns_44
    rw [dr_ok rb3 lg.1, q2 _ _ (by omega), f2' _ _ (by omega), g1, if_pos (nI_le (Nat.le_refl _) (by omega))]
    exact ⟨_, rfl, q1, q2⟩
  · rintro v s3 ⟨q1, q2⟩
    dsimp only at q1 q2
    have h8 : gi s3 (2 + 9) 8 = nI (lef (cS c 1) (skA (cS c 2) (cS c 1) (nrC c))) := by
      rw [q2 _ _ (by omega)]
      obtain ⟨L, H, _, _, _, q, _⟩ := r2
      rw [mi0_K hT3 hcap] at q; exact q
    have hlb : lef (cS c 1) (skA (cS c 2) (cS c 1) (nrC c)) ≤ 1536 := by
      obtain ⟨L, H, hms, _⟩ := r2
      have := ms_lef hT hms
      rw [mi0_K hT3 hcap] at this; exact this
    have hlp : 0 < lef (cS c 1) (skA (cS c 2) (cS c 1) (nrC c)) := by
      by_cases hk : kst (cS c 2) (cS c 1) (nrC c) = 0
      · rw [(kst_0 hgo).mpr hk.symm]; omega
      · have := mil_lef (bk := bkC c) (fr := frC c) (tu := tuC c) (gl := glC c) hgo (n := 0) (by omega)
        rw [mil_K hgo] at this
        show 0 < lef (cS c 1) (ski (cS c 2) (cS c 1) (skA (cS c 2) (cS c 1) (nrC c)) 0)
        omega
    have hsel : (if (gi s3 (2 + 9) 8) ≤ (1 : Int32) then (some ((3 : Int32), s3)) else (some ((2 : Int32), s3))) = some (nI (if 0 = KC c then 3 else 2), s3) := by
      rw [h8, i1]
      by_cases hq : lef (cS c 1) (skA (cS c 2) (cS c 1) (nrC c)) = 1
      · rw [hq, if_pos (by decide), if_pos (show 0 = KC c from (kst_0 hgo).mp hq)]; rfl
      · rw [if_neg (nI_ge (by omega) (by omega)), if_neg (fun (z : 0 = KC c) => hq ((kst_0 hgo).mpr z))]; rfl
    rw [show nI 2 = (2 : Int32) from rfl, hsel, bd_ok, ss_ok]
    have f4 : ∀ x k, x ≠ 33 → ¬ (x = 2 ∧ k = 2) → gi (si s3 2 2 (nI (if 0 = KC c then 3 else 2))) x k = gi s2 x k := fun x k hx hk => by rw [gs_ne (by omega), q2 _ _ hx]
    refine ⟨_, rfl, mk_cs ⟨?_, fun i hi => ?_, fun i hi => ?_, ?_⟩ (fun j hj => ?_) gs_eq (fun _ => ⟨?_, ?_, fun x hx => ?_, fun r hr => ?_⟩) hT (fun _ => ⟨Nat.zero_le _, ?_, ?_, fun t r j ht hr hj => ?_⟩), ?_, fun x k hx => ?_⟩
    · rw [f4 _ _ (by omega) (by omega), f2' _ _ (by omega)]; exact k1.1
    · rw [f4 _ _ (by omega) (by omega), f2' _ _ (by omega)]; exact k1.2.1 i hi
    · rw [f4 _ _ (by omega) (by omega), f2' _ _ (by omega)]; exact k1.2.2.1 i hi
    · rw [f4 _ _ (by omega) (by omega), f2' _ _ (by omega)]; exact k1.2.2.2
    · rw [f4 _ _ (by omega) (by omega), f2' _ _ (by omega)]; exact k2 j hj
    · rw [f4 _ _ (by omega) (by omega), f2' _ _ (by omega)]; exact g1
    · rw [f4 _ _ (by omega) (by omega), f2' _ _ (by omega)]; exact g2
    · rw [f4 _ _ (by omega) (by omega), f2' _ _ (by omega)]; exact g3 x hx
    · rw [f4 _ _ (by omega) (by omega), f2' _ _ (by omega)]; exact g4 r hr
    · show (if 0 = KC c then 3 else 2) = 3 ↔ 0 = KC c
      split
      · next q => exact ⟨fun _ => q, fun _ => rfl⟩
      · next q => exact ⟨fun z => by omega, fun z => absurd z q⟩
    · exact rml_tr hT r2 (fun x k hx => f4 _ _ (by omega) (by omega))
    · have hr : r ∈ mT (mi0 (cS c 2) (cS c 1) (bkC c) (frC c) (tuC c) (glC c) (nrC c)) t := hr
      have hjn := oc_lt (ai_mi0 hT3 hcap).1 ht hr hj
      have hr1 : r.1 = [j] := by
        unfold mi0 tul at hr
        have : ∃ r0, r0 ∈ tp0 (cS c 2) (cS c 1) (bkC c) (frC c) (tuC c) (nrC c) t ∧ r0.1 = r.1 := by
          split at hr
          · have hr : r ∈ upr (tp0 (cS c 2) (cS c 1) (bkC c) (frC c) (tuC c) (nrC c) t) := hr
            unfold upr at hr
            obtain ⟨r0, h1, rfl⟩ := List.mem_map.mp hr
            exact ⟨r0, h1, rfl⟩
          · exact ⟨r, hr, rfl⟩
        obtain ⟨r0, hr0, he⟩ := this
        rw [← he] at hj ⊢
        rcases tp0_mem hr0 with rfl | ⟨j', rfl⟩
        · cases hj
        · have hj : j ∈ [j'] := hj
          rw [List.mem_singleton.mp hj]; rfl
      rw [gs_ne (by omega), q1 j hjn, hr1]; rfl
    · rw [f4 _ _ (by omega) (by omega)]; exact t4
    · rw [f4 _ _ (by omega) (by omega), f2' _ _ (by omega)]
theorem ok_spread (hR : LRun E) (hM : LMod E) (hM2 : LMo2 E) : Ok (JJ CG' CM' MG' MM') (fX6_spread E 0) (fX7_spread E 395) := by
  refine ok_of (fun a hw => ?_)
  have hwc := hw.2.2.1
  have hn := hwc.1
  obtain ⟨r0, r1, r3, r4, r5, r8, r9, r10, r11, r12, r13, l1, l2, lx⟩ := id hR
  obtain ⟨b0, rb0, rb1, rb3, rb4, rb5, rb6, lr, la4, lg, lm, la31, la32⟩ := id l2
  have m0 := hM.1
  have ht3 := hwc.2.2.2.1
  have hdec : Decidable (canS (aC a)) := Classical.propDecidable _
  by_cases h2 : 2 ≤ cT (aC a)
  · have hcs : canS (aC a) := ⟨by omega, hwc.2.2.2.2.2 h2⟩
    refine ⟨-2, a, hw, spc_q (fun σ hc => ⟨σ, ?_, fun _ _ _ => rfl, fun _ _ _ => rfl⟩), spm_q (fun σ hc => ⟨σ, ?_, fun _ _ _ => rfl, fun _ _ _ => rfl⟩)⟩
    · unfold fX6_spread
      rw [tk_ok r0, dr_ok r3 l2.1, (cs_rr hc.2.2.2.1).2.2, i2, if_neg (nI_nlt h2 (by omega))]
    · obtain ⟨k1, k2, k3, k4, k5⟩ := mr_g hn hc.2.2.1
      unfold fX7_spread
      rw [tk_ok m0, m_canSp hM hM2 hwc k3 k4, bd_ok, decide_eq_true hcs, if_pos (by decide), dr_ok hM.2.1 hM2.1.1, hM2.1.2, i7, ck_n (by omega) (by omega), nI_clamp (by omega), k4, i1, if_neg (nI_ge (by omega) (by omega))]
  by_cases hcs : canS (aC a)
  · have h1 : cT (aC a) = 1 := by have := hcs.1; omega
    have h0 := hwc.2.2.2.2.1 (by omega)
    have hgo := gok_c hwc h0 hcs.2
    have hnr := (nr_c hwc h0).2
    have hwc' : Wf (cF (aC a), cN (aC a), cS (aC a), if 0 = KC (aC a) then 3 else 2, 0) := ⟨hwc.1, hwc.2.1, hwc.2.2.1, by show (if 0 = KC (aC a) then 3 else 2) ≤ 3; split <;> omega, fun _ => h0, fun _ => hcs.2⟩
    refine ⟨nI (dmN (cS (aC a) 2) (cS (aC a) 1) (nrC (aC a))), (aB a, aN a, (cF (aC a), cN (aC a), cS (aC a), if 0 = KC (aC a) then 3 else 2, 0), aX a, (rem a).2.2.2.2), ?_, fun σ hc => ?_, fun σ hc => ?_⟩
    · obtain ⟨g1, g2, g3, g4, g5, g6, g7⟩ := rem_wf hw
      exact ⟨g1, g2, hwc', g4, g5, g6, g7⟩
    · obtain ⟨s, e1, e2, e3, e4⟩ := c_rem hR cpy_ok hw hc
      obtain ⟨s2, g1, g2, g3, g4⟩ := c_spreadR (σ := s) (c := aC a) hR hwc h1 hcs.2 e2.2.2.2.1
      obtain ⟨k1, k2, k3⟩ := cs_rr hc.2.2.2.1
      unfold fX6_spread
      rw [tk_ok r0, dr_ok r3 l2.1, k3, i2, if_pos (nI_lt (by omega) (by omega)), c_canPlan hR hwc k2 k3, bd_ok, decide_eq_true hcs, if_pos (by decide), e1, bv_ok, g1, bv_ok, dr_ok rb4 lm.1, dr_ok lm.2.2.2.1 lm.2.2.2.2.2.2.2.2.2.2.2.1.1, lm.2.2.2.2.2.2.2.2.2.2.2.1.2, i4, ck_n (by omega) (by omega), nI_clamp (by omega)]
      refine ⟨s2, ?_, rc_act e2 g2 (by rw [g4 _ _ (by omega)]; exact e2.2.2.1) (fun x k q1 q2 q3 => g4 _ _ (by omega)), fun x k q => by rw [g4 _ _ (by omega)]; exact e4 x k q⟩
      show some (gi s2 14 4, s2) = _
      rw [g3]
    · obtain ⟨s, e1, e2, e3, e4⟩ := m_rem hM hM2 hw hc
      obtain ⟨k1, k2, k3, k4, k5⟩ := mr_g hn hc.2.2.1
      have kg := mr_mg hwc hc.2.2.1 (by omega)
      have k3' : ∀ j, j < 6 → gi s 396 (1 + j) = nI (cS (aC a) j) := fun j hj => by rw [e3]; exact k3 j hj
      obtain ⟨s2, g1, g2, g3, g4, g5, g6⟩ := m_spreads (σ := s) (fr := frC (aC a)) hM hM2 (gv_c hwc h0) hgo (by omega) (fun q => sm_ok hgo.1 hgo.2.1 hgo.2.2.1 hnr q) (sr_c hwc (by rw [e3]; exact k1) (fun i hi => by rw [e3]; exact k2 i hi) k3') (by rw [← n_b (st_1 hwc (by omega))]; exact k3' 3 (by omega)) (go_c hwc h0 k3' ⟨by rw [e3]; exact kg.1, fun j hj => by rw [e3]; exact kg.2.1 j hj, fun p hp => by rw [e3]; exact kg.2.2.1 p hp, fun x hx => by rw [e3]; exact kg.2.2.2 x hx⟩)
      unfold fX7_spread
      rw [tk_ok m0, m_canSp hM hM2 hwc k3 k4, bd_ok, decide_eq_true hcs, if_pos (by decide), dr_ok hM.2.1 hM2.1.1, hM2.1.2, i7, ck_n (by omega) (by omega), nI_clamp (by omega), k4, i1, if_pos (nI_le (by omega) (by omega)), e1, bv_ok, g1, bv_ok, show (18 : Int32) = nI 18 from rfl, ck_n (by omega) (by omega), nI_clamp (by omega), g4]
      have hfr : ∀ k, k < 7 ∨ k = 8 ∨ k = 14 ∨ (26 ≤ k ∧ k < 1227) → gi s2 396 k = gi σ 396 k := fun k hk => by rw [g6 _ _ (by unfold esY; omega), e3]
      refine ⟨_, rfl, rm_act e2 (mk_mr hwc' ?_ (fun i hi => ?_) (fun j hj => ?_) ?_ ?_ (fun _ => ⟨?_, fun j hj => ?_, fun p hp => ?_, fun x hx => ?_⟩) (fun _ => ⟨Nat.zero_le _, ?_, g2⟩)) (fun x k q => g6 _ _ (by unfold esY; omega)), fun x k q => by rw [g6 _ _ (by unfold esY; omega)]; exact e4 x k q⟩
      · rw [hfr _ (by omega)]; exact k1
      · have hi : i < cN (aC a) := hi
        rw [hfr _ (by omega)]; exact k2 i hi
      · rw [hfr _ (by omega)]; exact k3 j hj
      · rw [g3]
        show _ = nI (if 0 = KC (aC a) then 3 else 2)
        by_cases hq : lef (cS (aC a) 1) (skA (cS (aC a) 2) (cS (aC a) 1) (nrC (aC a))) = 1
        · rw [if_pos hq, if_pos (show 0 = KC (aC a) from (kst_0 hgo).mp hq)]; rfl
        · rw [if_neg hq, if_neg (fun (z : 0 = KC (aC a)) => hq ((kst_0 hgo).mpr z))]; rfl
      · rw [hfr _ (by omega)]; exact k5
      · rw [hfr _ (by omega)]; exact kg.1
      · have hj : j ≤ nrC (aC a) := hj
        rw [hfr _ (by omega)]; exact kg.2.1 j hj
      · have hp : p < cN (aC a) := hp
        rw [hfr _ (by omega)]; exact kg.2.2.1 p hp
      · have hx : x < cN (aC a) := hx
        rw [hfr _ (by omega)]; exact kg.2.2.2 x hx
      · show (if 0 = KC (aC a) then 3 else 2) = 3 ↔ 0 = KC (aC a)
        split
        · next q => exact ⟨fun _ => q, fun _ => rfl⟩
        · next q => exact ⟨fun z => by omega, fun z => absurd z q⟩
  · refine ⟨-1, a, hw, spc_q (fun σ hc => ⟨σ, ?_, fun _ _ _ => rfl, fun _ _ _ => rfl⟩), spm_q (fun σ hc => ⟨σ, ?_, fun _ _ _ => rfl, fun _ _ _ => rfl⟩)⟩
    · obtain ⟨k1, k2, k3⟩ := cs_rr hc.2.2.2.1
      unfold fX6_spread
      rw [tk_ok r0, dr_ok r3 l2.1, k3, i2, if_pos (nI_lt (by omega) (by omega)), c_canPlan hR hwc k2 k3, bd_ok, decide_eq_false hcs, if_neg (by simp; rfl)]
    · obtain ⟨k1, k2, k3, k4, k5⟩ := mr_g hn hc.2.2.1
      unfold fX7_spread
      rw [tk_ok m0, m_canSp hM hM2 hwc k3 k4, bd_ok, decide_eq_false hcs, if_neg (by simp; rfl)]
end SPR
