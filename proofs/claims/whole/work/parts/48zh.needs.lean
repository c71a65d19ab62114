/-! needs -/
def blkF (gl : Nat → Nat) (B : Nat) (g : Nat → Bool) (tp : Nat → List Rn) (t : Nat) : Nat := if g t = true then (szl gl (hdr (tp t)).1 + B - 1) / B else 0
def blk (w T B : Nat) (gl : Nat → Nat) (A : Mi) : Nat := sumF (blkF gl B (gvf w (T / 2) (mK A)) (mT A)) T
section ND
variable {E : En} {σ : Sg} {m N w T nr n : Nat} {bk : Bool} {gl F ro : Nat → Nat} {A : Mi}
theorem rml_lk {s : Sg} (hT : T ≤ 6) (h : RMl σ m w T bk gl nr A) (hf : ∀ x k, x ≠ m + 4 → ¬ (x = m ∧ (k = 14 ∨ k = 15)) → gi s x k = gi σ x k) : RMl s m w T bk gl nr A := by
  obtain ⟨L, H, hms, hl0, hD, h8, t0, t1, t2, t3⟩ := h
  refine ⟨L, H, ms_fr hms (fun x k he => hf x k (by unfold esS at he; omega) (by unfold esS at he; omega)), hl0, fun t ht r hr => ⟨(hD t ht r hr).1, fun i l hz => ?_⟩, ?_, ?_, ?_, ?_, ?_⟩
  · rw [hf _ _ (by omega) (by omega), hf _ _ (by omega) (by omega)]; exact (hD t ht r hr).2 i l hz
  · rw [hf _ _ (by omega) (by omega)]; exact h8
  · rw [hf _ _ (by omega) (by omega)]; exact t0
  · rw [hf _ _ (by omega) (by omega)]; exact t1
  · rw [hf _ _ (by omega) (by omega)]; exact t2
  · rw [hf _ _ (by omega) (by omega)]; exact t3
theorem c_lookR (hL : LMill E m N) (h : RMl σ m w T bk gl nr A) (hT : T ≤ 6) (hw : w ≤ 2) (hn : nr ≤ N) (hN : N ≤ 700) (hok : oks w T (T / 2) (mK A) = true) : ∃ s, fX1_look E m σ = some s ∧ RMl s m w T bk gl nr A ∧ (∀ t, t < T → gi s (m + 4) t = tkI (gvf w (T / 2) (mK A)) (mT A) t) ∧ gi s m 15 = bI (bk && (ldD (gvf w (T / 2) (mK A)) (mT A) T == some false)) ∧ ∀ x k, x ≠ m + 4 → ¬ (x = m ∧ (k = 14 ∨ k = 15)) → gi s x k = gi σ x k := by
  obtain ⟨L, H, hms, hl0, hD, hz⟩ := id h
  have ho := (oks_un hok).2.1
  obtain ⟨s, e, q1, q2, q3, q4⟩ := c_look hL hms hT hw (by omega) hn hN hD
  exact ⟨s, e, rml_lk hT h q4, q1, q3, q4⟩
theorem sz_le (hg : GV F n ro gl nr) (ha : AI T nr A) {t : Nat} {r : Rn} (ht : t < T) (hr : r ∈ mT A t) : szl gl r.1 ≤ n := by
  rw [← cnt_len hg.2.2 (oc_nd ha.1 ht hr) (fun j hj => oc_lt ha.1 ht hr hj)]
  unfold cnt
  refine Nat.le_trans (List.length_filter_le _ _) ?_
  unfold lst
  split
  · rw [List.length_reverse, rs_len]; exact Nat.le_refl _
  · rw [rs_len]; exact Nat.le_refl _
theorem gv_hd (ha : AI T nr A) {t : Nat} (ht : t < T) (hg : gvf w (T / 2) (mK A) t = true) : hdr (mT A t) ∈ mT A t := hdr_mem (by rw [← ha.2.1 t ht]; exact (gv_fl hg).2)
theorem c_blocks (hL : LMill E m N) (h : RMl σ m w T bk gl nr A) (hT : T ≤ 6) (hn : nr ≤ N) (hN : N ≤ 700) (hg : GV F n ro gl nr) (ha : AI T nr A) (h4 : ∀ t, t < T → gi σ (m + 4) t = tkI (gvf w (T / 2) (mK A)) (mT A) t) {B : Nat} (hB : 1 ≤ B) (hB2 : B ≤ 16) : fX1_blocksTaken E m (nI B) σ = some (nI (blk w T B gl A), σ) := by
  obtain ⟨L, H, hms, hl0, hD, hz⟩ := id h
  obtain ⟨l0, l4, l10, l12, l13, l17, l18, l5, l6, a1, a2, a3, a4, a5, a7, a8, a9, ltp⟩ := id hL
  have hn3 := hg.1
  unfold fX1_blocksTaken
  rw [tk_ok l0]
  refine bd_tr ((nI (blk w T B gl A), nI T), σ) T (fun i => ((nI (sumF (blkF gl B (gvf w (T / 2) (mK A)) (mT A)) i), nI i), σ)) (by show T < 1000000; omega) ?_ ?_ rfl
  · intro i rec hi
    unfold bX1_blocksTaken_4
    dsimp only
    rw [hms.1.2.1, if_neg (nI_ge hi (by omega)), dr_ok l13 a4.1, a4.2, ck_n (by omega) (by omega), nI_clamp (by omega), h4 i hi]
    have hsm : sumF (blkF gl B (gvf w (T / 2) (mK A)) (mT A)) (i + 1) = sumF (blkF gl B (gvf w (T / 2) (mK A)) (mT A)) i + blkF gl B (gvf w (T / 2) (mK A)) (mT A) i := rfl
    by_cases hgi : gvf w (T / 2) (mK A) i = true
    · have hmem := gv_hd ha hi hgi
      have hrd := hD i hi _ hmem
      have hsz := sz_le hg ha hi hmem
      have htk : tkI (gvf w (T / 2) (mK A)) (mT A) i = idI (hdr (mT A i)).1 := by unfold tkI; rw [if_pos hgi]
      have hbf : blkF gl B (gvf w (T / 2) (mK A)) (mT A) i = (szl gl (hdr (mT A i)).1 + B - 1) / B := by unfold blkF; rw [if_pos hgi]
      rw [htk, c_sizeOf hL hms.1.2.2.2.2 hn hN hrd]
      cases hq : (hdr (mT A i)).1 with
      | nil =>
        rw [if_pos (show idI [] < 0 by decide), bd_ok, lt_ok, ad1, hsm, hbf, hq, show (szl gl [] + B - 1) / B = 0 from Nat.div_eq_of_lt (by show 0 + B - 1 < B; omega)]
        rfl
      | cons j l =>
        have hj := (hrd.2 j l hq).1
        rw [← hq, if_neg (show ¬ idI (hdr (mT A i)).1 < 0 by rw [hq]; exact nI_pos (n := j) (by omega)), if_neg (show ¬ nI B ≤ 0 from nI_ge (a := 0) hB (by omega)), ck_n (by omega) (by omega), bd_ok]
        unfold nz
        rw [if_neg (nI_ne0 (by omega) (by omega)), nI_add, i1, sub_n (by omega), pk_div (by omega) (by omega) (by omega), lt_ok, nI_add, bd_ok, lt_ok, nI_add, hsm, hbf]
    · have htk : tkI (gvf w (T / 2) (mK A)) (mT A) i = -2 := by unfold tkI; rw [if_neg hgi]
      have hbf : blkF gl B (gvf w (T / 2) (mK A)) (mT A) i = 0 := by unfold blkF; rw [if_neg hgi]
      rw [htk, if_pos (by decide), bd_ok, lt_ok, ad1, hsm, hbf]
      rfl
  · intro rec
    unfold bX1_blocksTaken_4
    dsimp only
    rw [hms.1.2.1, if_pos (nI_le (Nat.le_refl _) (by omega))]
    rfl
theorem m_blocks (hM : LMod E) (hM2 : LMo2 E) (hT : T ≤ 6) (hg : GV F n ro gl nr) (ha : AI T nr A) {X : Nat → List Dn} (hm : Xm X (mT A)) (hx : RX σ F n ro gl X) (h407 : ∀ t, t < 6 → gi σ 407 t = tkO (hdO (gT w T (mK A)) X t)) {B : Nat} (hB : 1 ≤ B) (hB2 : B ≤ 16) (v : Nat) : fx (fun rec a => bX7_needs_48 E 395 396 (nI B) (fun u0 u1 t => rec ((u0, u1), t)) a.1.1 a.1.2 a.2) FU ((nI v, (0 : Int32)), σ) = some ((nI (v + blk w T B gl A), nI 6), σ) := by
  obtain ⟨m0, m1, m2, m3, m4, m5, m6, m7, m8, m9, m10, m11, m12, mz⟩ := id hM
  obtain ⟨n1, n2, n3, n4, n5, n6, n7, n8, n9, n10, n11, n12, nz'⟩ := id hM2
  have hn3 := hg.1
  have hs6 : sumF (blkF gl B (gT w T (mK A)) (mT A)) 6 = blk w T B gl A := by
    unfold blk
    rw [sumF_z (m := T) hT (fun t h1 h2 => by unfold blkF gT; rw [if_neg (by simp; omega)])]
    exact sumF_congr (fun t ht => by unfold blkF gT; rw [decide_eq_true ht, Bool.true_and])
  rw [← hs6]
  refine for_tr 6 (fun i => ((nI (v + sumF (blkF gl B (gT w T (mK A)) (mT A)) i), nI i), σ)) (by show 6 < 1000000; omega) ?_ ?_ rfl
  · intro i rec hi
    unfold bX7_needs_48
    dsimp only
    have hsm : sumF (blkF gl B (gT w T (mK A)) (mT A)) (i + 1) = sumF (blkF gl B (gT w T (mK A)) (mT A)) i + blkF gl B (gT w T (mK A)) (mT A) i := rfl
    rw [i6, if_neg (nI_ge hi (by omega)), dr_ok m12 n12.1, n12.2, ck_n (by omega) (by omega), nI_clamp (by omega), h407 i hi]
    unfold hdO
    by_cases hgi : gT w T (mK A) i = true
    · obtain ⟨hiT, l, hX, hr, hl⟩ := hd_run hm ha hgi
      have hz : (X i).getD 0 d0 ∈ catX X 6 := catX_mem.mpr ⟨i, hi, by rw [hX]; simp⟩
      obtain ⟨d1, d2, d3, d4, d5, d6⟩ := hx.2.1 _ hz
      have hzz : zz gl ((X i).getD 0 d0) = szl gl (hdr (mT A i)).1 := by unfold zz; rw [hr]
      have hsz := sz_le hg ha hiT (hdr_mem hl)
      have hbf : blkF gl B (gT w T (mK A)) (mT A) i = (szl gl (hdr (mT A i)).1 + B - 1) / B := by unfold blkF; rw [if_pos hgi]
      rw [if_pos hgi, show tkO (some ((X i).getD 0 d0)) = nI ((X i).getD 0 d0).1 from rfl, if_pos (nI_nm1 (by omega)), ck_n (by omega) (by omega), n1.2, show (1927 : Int32) = nI 1927 from rfl, nI_add, ck_n (by omega) (by omega), nI_clamp (by omega), d3, hzz]
      unfold nz
      rw [if_neg (nI_ne0 (by omega) (by omega)), nI_add, i1, sub_n (by omega), pk_div (by omega) (by omega) (by omega), bd_ok, lt_ok, lt_ok, nI_add, nI_add, hsm, hbf, Nat.add_assoc]
    · have hbf : blkF gl B (gT w T (mK A)) (mT A) i = 0 := by unfold blkF; rw [if_neg hgi]
      rw [if_neg hgi, if_neg (show ¬ ¬ tkO none = -1 from fun z => z rfl), bd_ok, lt_ok, lt_ok, ad1, hsm, hbf]
      show rec ((nI _ + nI 0, _), σ) = _
      rw [nI_add, Nat.add_zero]
      rfl
  · intro rec
    unfold bX7_needs_48
    dsimp only
    rw [i6, if_pos (nI_le (Nat.le_refl _) (by omega))]
end ND
section NE
variable {E : En}
theorem ok_needs (hR : LRun E) (hM : LMod E) (hM2 : LMo2 E) (p0 : Int32) : Ok (JJ CG' CM' MG' MM') (fX6_needs E 0 p0) (fX7_needs E 395 p0) := by
  refine ok_of (fun a hw => ?_)
  obtain ⟨r0, r1, r3, r4, r5, r8, r9, r10, r11, r12, r13, l1, l2, l35, l36, l37, l38, l39, l61, l63, l64, lp, ls⟩ := id hR
  obtain ⟨b0, rb0, rb1, rb3, rb4, rb5, rb6, lr, la4, lg, lm, la31, la32⟩ := id l2
  obtain ⟨m0, m1, m2, mz⟩ := id hM
  obtain ⟨n1, n2, nz'⟩ := id hM2
  have hwc := hw.2.2.1
  have hn := hwc.1
  have ht3 := hwc.2.2.2.1
  rcases pin p0 (lo := 1) (hi := 16) (by omega) (by omega) with ⟨B, hB, hB2, rfl⟩ | ⟨hz, hz2⟩
  · have hin : ∀ σ, fX7_in E (nI B) (1 : Int32) (16 : Int32) σ = some (1, σ) := fun σ => m_inN (l := 1) (h := 16) (by omega)
    have hc1 : ¬ nI B < 1 := nI_nlt (b := 1) hB (by omega)
    have hc2 : ¬ (16 : Int32) < nI B := nI_nlt (a := 16) hB2 (by omega)
    by_cases ht : 2 ≤ cT (aC a)
    · have h0 := hwc.2.2.2.2.1 (by omega)
      have hgo := gok_c hwc h0 (hwc.2.2.2.2.2 ht)
      have hgv := gv_c hwc h0
      have hK : KC (aC a) ≤ 699 := hgo.2.2.2.2.2.2.1
      have hnr := (nr_c hwc h0).2
      obtain ⟨hw2, hT3, hT, hn1, _, hcap, hgd⟩ := id hgo
      generalize hMi : mil (cS (aC a) 2) (cS (aC a) 1) (bkC (aC a)) (frC (aC a)) (tuC (aC a)) (glC (aC a)) (nrC (aC a)) = mi
      have hmiC : miC (aC a) = mi (cI (aC a)) := by rw [← hMi]; rfl
      have hai : ∀ i, i ≤ KC (aC a) → AI (cS (aC a) 1) (nrC (aC a)) (mi i) := fun i hi => by rw [← hMi]; exact mil_ai hgo hi
      have hlf : ∀ i, i < KC (aC a) → 1 < lef (cS (aC a) 1) (mK (mi i)) := fun i hi => by rw [← hMi]; exact mil_lef hgo hi
      have hmo : ∀ i, i < KC (aC a) → oks (cS (aC a) 2) (cS (aC a) 1) (cS (aC a) 1 / 2) (mK (mi i)) = true := fun i hi => by rw [← hMi]; exact (mil_ok hgo hi).1
      have hend : lef (cS (aC a) 1) (mK (mi (KC (aC a)))) = 1 := by rw [← hMi]; exact mil_end hgo
      have hst : ∀ i, stp (cS (aC a) 2) (cS (aC a) 1) (bkC (aC a)) (glC (aC a)) (mi i) = mi (i + 1) := fun i => by rw [← hMi]; rfl
      have hks : ∀ i, i < KC (aC a) → (lef (cS (aC a) 1) (mK (mi (i + 1))) = 1 ↔ i + 1 = KC (aC a)) := fun i hi => by rw [← hMi]; exact kst_s hgo hi
      refine ⟨nI (sumF (fun i => blk (cS (aC a) 2) (cS (aC a) 1) B (glC (aC a)) (mi (cI (aC a) + i))) (KC (aC a) - cI (aC a))), a, hw, spc_q (fun σ hc => ?_), spm_t (fun σ hc => ?_)⟩
      · obtain ⟨k1, k2, k3⟩ := cs_rr hc.2.2.2.1
        obtain ⟨x1, x2, x3, x4⟩ := cs_m hwc hc.2.2.2.1 ht
        rw [hmiC] at x3
        obtain ⟨s1, e1, q1, q2⟩ := c_cpMill l39 lm (by omega) hT (by omega) (by omega) (by omega) (by omega) x3
        unfold fX6_needs
        rw [tk_ok r0, if_neg hc1, if_neg hc2, dr_ok r3 l2.1, k3, if_pos (show (2 : Int32) ≤ nI (cT (aC a)) from nI_le (a := 2) ht (by omega)), dr_ok r10 l39.1, dr_ok rb4 lm.1, e1, bv_ok]
        obtain ⟨⟨v, s3⟩, e3, p1, p2⟩ := for_in (F := fun (rec : (Int32 × Int32) × Sg → Option ((Int32 × Int32) × Sg)) (b : (Int32 × Int32) × Sg) => bX6_needs_42 E 39 (nI B) (fun u0 u1 t => rec ((u0, u1), t)) b.1.1 b.1.2 b.2) (KC (aC a) - cI (aC a))
          (fun i b => b.1 = (nI (sumF (fun i => blk (cS (aC a) 2) (cS (aC a) 1) B (glC (aC a)) (mi (cI (aC a) + i))) i), nI i) ∧ RMl b.2 39 (cS (aC a) 2) (cS (aC a) 1) (bkC (aC a)) (glC (aC a)) (nrC (aC a)) (mi (cI (aC a) + i)) ∧ ∀ x k, (x < 39 ∨ 61 ≤ x) → gi b.2 x k = gi σ x k)
          (fun b => b.1.1 = nI (sumF (fun i => blk (cS (aC a) 2) (cS (aC a) 1) B (glC (aC a)) (mi (cI (aC a) + i))) (KC (aC a) - cI (aC a))) ∧ ∀ x k, (x < 39 ∨ 61 ≤ x) → gi b.2 x k = gi σ x k) (N := FU) (by show KC (aC a) - cI (aC a) < 1000000; omega)
          (by
            rintro i ⟨v, s⟩ rec hi ⟨f0, f1, f2⟩
            dsimp only at f0 f1 f2 ⊢
            subst f0
            dsimp only
            have hi' : cI (aC a) + i < KC (aC a) := by omega
            have h8 := rml_8 f1
            have hle := rml_lef hT f1
            have h1l := hlf _ hi'
            obtain ⟨s', y1, y2, y3, y4, y5⟩ := c_lookR l39 f1 hT hw2 (by omega) (by omega) (hmo _ hi')
            obtain ⟨s'', z1, z2, z3, z4, z5⟩ := c_adv l39 y2 hT hT3 hw2 (by omega) (by omega) (oc_dj (hai _ (by omega)).1) (hmo _ hi')
            rw [hst] at z2
            unfold bX6_needs_42
            rw [show (100000 : Int32) = nI 100000 from rfl, if_neg (nI_ge (by omega) (by omega)), h8, i1, if_neg (nI_ge (by omega) (by omega)), y1, bv_ok, c_blocks l39 y2 hT (by omega) (by omega) hgv (hai _ (by omega)) y3 hB hB2, bd_ok, lt_ok, z1, bv_ok, lt_ok, nI_add, nI_add]
            refine ⟨_, rfl, rfl, z2, fun x k hx => ?_⟩
            dsimp only
            rw [z5 _ _ (by unfold esA; omega), y5 _ _ (by omega) (by omega)]; exact f2 x k hx)
          (by
            rintro ⟨v, s⟩ rec ⟨f0, f1, f2⟩
            dsimp only at f0 f1 f2 ⊢
            subst f0
            dsimp only
            have h8 := rml_8 f1
            rw [show cI (aC a) + (KC (aC a) - cI (aC a)) = KC (aC a) by omega, hend] at h8
            unfold bX6_needs_42
            rw [show (100000 : Int32) = nI 100000 from rfl, if_neg (nI_ge (by omega) (by omega)), h8, i1, if_pos (nI_le (Nat.le_refl _) (by omega))]
            exact ⟨_, rfl, rfl, f2⟩)
          (a := (((0 : Int32), (0 : Int32)), s1)) ⟨rfl, q1, fun x k hx => q2 x k (by omega)⟩
        dsimp only at p1 p2
        rw [e3, bd_ok]
        refine ⟨s3, by rw [p1], fun x k he => ?_, fun x k hx => p2 _ _ (by omega)⟩
        unfold esC at he
        exact p2 _ _ (by omega)
      · obtain ⟨k1, k2, k3, k4, k5⟩ := mr_g hn hc.2.2.1
        obtain ⟨x1, x2, x3⟩ := mr_mm hwc hc.2.2.1 ht
        rw [hmiC] at x3
        obtain ⟨s2, e2, f2⟩ := mkeep (σ := σ) (off := 0) hM hM2 n2 (by omega) (by omega) (by omega)
        have f2' : ∀ x k, x ≠ 397 → gi s2 x k = gi σ x k := fun x k q => by rw [f2, if_neg (by omega)]
        unfold fX7_needs
        rw [tk_ok m0, hin, bd_ok, if_neg (by decide), (m_tapesF hM hM2 hw ht hc).2.2.1, bd_ok, if_pos (by decide), dr_ok m2 n2.1, show (0 : Int32) = nI 0 from rfl, e2, bv_ok]
        obtain ⟨⟨v, s3⟩, e3, p1, p2⟩ := for_in (F := fun (rec : Int32 × Sg → Option (Int32 × Sg)) (b : Int32 × Sg) => bX7_needs_30 E 395 (nI B) (fun u0 t => rec (u0, t)) b.1 b.2) (KC (aC a) - cI (aC a))
          (fun i b => b.1 = nI (sumF (fun i => blk (cS (aC a) 2) (cS (aC a) 1) B (glC (aC a)) (mi (cI (aC a) + i))) i) ∧ RMm b.2 (cF (aC a)) (cN (aC a)) (roC (aC a)) (glC (aC a)) (cS (aC a) 2) (cS (aC a) 1) (bkC (aC a)) (mi (cI (aC a) + i)) ∧ gi b.2 396 7 = (if cI (aC a) + i = KC (aC a) then 3 else 2) ∧ ∀ x k, x ≠ 396 → ¬ (407 ≤ x ∧ x ≤ 409) → gi b.2 x k = gi s2 x k)
          (fun b => b.1 = nI (sumF (fun i => blk (cS (aC a) 2) (cS (aC a) 1) B (glC (aC a)) (mi (cI (aC a) + i))) (KC (aC a) - cI (aC a))) ∧ ∀ x k, x ≠ 396 → ¬ (407 ≤ x ∧ x ≤ 409) → gi b.2 x k = gi s2 x k) (N := FU) (by show KC (aC a) - cI (aC a) < 1000000; omega)
          (by
            rintro i ⟨v, s⟩ rec hi ⟨f0, f1, f3, f4⟩
            dsimp only at f0 f1 f3 f4 ⊢
            subst f0
            have hi' : cI (aC a) + i < KC (aC a) := by omega
            obtain ⟨hs, ⟨X, hm, hx⟩, hk, hz⟩ := id f1
            obtain ⟨s', y1, y2, y3⟩ := m_laysTaken hM hM2 hgv hT hT3 hw2 (hai _ (by omega)) (hmo _ hi') hs hm hx hk
            have f1' : RMm s' (cF (aC a)) (cN (aC a)) (roC (aC a)) (glC (aC a)) (cS (aC a) 2) (cS (aC a) 1) (bkC (aC a)) (mi (cI (aC a) + i)) := rmm_tr hn hT f1 (fun k _ _ _ => y3 _ _ (by omega))
            have hx' : RX s' (cF (aC a)) (cN (aC a)) (roC (aC a)) (glC (aC a)) X := ⟨xt_fr hx.1 (fun k _ => y3 _ _ (by omega)), fun z hz => dd_fr (hx.2.1 z hz) (y3 _ _ (by omega)) (y3 _ _ (by omega)) (y3 _ _ (by omega)) (fun i _ => y3 _ _ (by omega)), hx.2.2⟩
            obtain ⟨s'', z1, z2, z3, z4⟩ := m_step hM hM2 hgv hT hT3 hw2 (hai _ (by omega)) (hmo _ hi') f1'
            rw [hst] at z2 z3
            unfold bX7_needs_30
            rw [dr_ok m1 n1.1, n1.2, i7, ck_n (by omega) (by omega), nI_clamp (by omega), f3, if_neg (show ¬ cI (aC a) + i = KC (aC a) by omega), if_neg (by simp), y1, bd_ok, m_blocks hM hM2 hT hgv (hai _ (by omega)) hm hx' y2 hB hB2, bd_ok, z1, bd_ok]
            refine ⟨_, rfl, rfl, z2, ?_, fun x k h1 h2 => ?_⟩
            · dsimp only
              rw [z3, y3 _ _ (by omega), f3, if_neg (show ¬ cI (aC a) + i = KC (aC a) by omega)]
              by_cases hq : cI (aC a) + i + 1 = KC (aC a)
              · rw [if_pos ((hks _ hi').mpr hq), if_pos (by omega)]
              · rw [if_neg (fun z => hq ((hks _ hi').mp z)), if_neg (by omega)]
            · dsimp only
              rw [z4 _ _ (by unfold esQ; omega), y3 _ _ (by omega)]; exact f4 x k h1 h2)
          (by
            rintro ⟨v, s⟩ rec ⟨f0, f1, f3, f4⟩
            dsimp only at f0 f1 f3 f4 ⊢
            unfold bX7_needs_30
            rw [dr_ok m1 n1.1, n1.2, i7, ck_n (by omega) (by omega), nI_clamp (by omega), f3, if_pos (show cI (aC a) + (KC (aC a) - cI (aC a)) = KC (aC a) by omega), if_pos (by decide)]
            exact ⟨_, rfl, f0, f4⟩)
          (a := (nI 0, s2)) ⟨rfl, rmm_tr hn hT x3 (fun k _ _ _ => f2' _ _ (by omega)), by
            dsimp only
            rw [f2' _ _ (by omega), k4, Nat.add_zero]
            by_cases hq : cI (aC a) = KC (aC a)
            · rw [if_pos hq, x2.mpr hq]; rfl
            · rw [if_neg hq, show cT (aC a) = 2 by have : cT (aC a) ≠ 3 := fun z => hq (x2.mp z); omega]; rfl, fun _ _ _ _ => rfl⟩
        dsimp only at p1 p2
        rw [e3, bd_ok]
        obtain ⟨s8, e8, f8⟩ := mlays (σ := s3) (off := 0) hM hM2 n2 (by omega) (by omega) (by omega)
        rw [e8, bv_ok]
        refine ⟨s8, by rw [p1], fun k hk => ?_, fun x k he hx => ?_, fun x k hx => ?_⟩
        · rw [f8, if_pos ⟨rfl, hk⟩, Nat.zero_add, p2 _ _ (by omega) (by omega), f2, if_pos (by omega), Nat.sub_zero]
        · unfold esM at he
          rw [f8, if_neg (by omega), p2 _ _ (by omega) (by omega), f2' _ _ (by omega)]
        · rw [f8, if_neg (by omega), p2 _ _ (by omega) (by omega), f2' _ _ (by omega)]
    · obtain ⟨q1, q2⟩ := spread_no hR hM hM2 hw ht
      refine ⟨-1, a, hw, spc_q (fun σ hc => ⟨σ, ?_, fun _ _ _ => rfl, fun _ _ _ => rfl⟩), spm_q (fun σ hc => ⟨σ, ?_, fun _ _ _ => rfl, fun _ _ _ => rfl⟩)⟩
      · obtain ⟨k1, k2, k3⟩ := cs_rr hc.2.2.2.1
        unfold fX6_needs
        rw [tk_ok r0, if_neg hc1, if_neg hc2, dr_ok r3 l2.1, k3, if_neg (show ¬ (2 : Int32) ≤ nI (cT (aC a)) from nI_ge (a := cT (aC a)) (b := 2) (by omega) (by omega))]
      · unfold fX7_needs
        rw [tk_ok m0, hin, bd_ok, if_neg (by decide), q2 σ hc, bd_ok, if_neg (by decide)]
  · refine ⟨-1, a, hw, spc_q (fun σ hc => ⟨σ, ?_, fun _ _ _ => rfl, fun _ _ _ => rfl⟩), spm_q (fun σ hc => ⟨σ, ?_, fun _ _ _ => rfl, fun _ _ _ => rfl⟩)⟩
    · unfold fX6_needs
      rw [tk_ok r0]
      rcases hz2 with h | ⟨h1, h2⟩
      · rw [if_pos (show p0 < 1 from h)]
      · rw [if_neg (show ¬ p0 < 1 from h1), if_pos (show (16 : Int32) < p0 from h2)]
    · unfold fX7_needs
      rw [tk_ok m0, show fX7_in E p0 (1 : Int32) (16 : Int32) σ = some (0, σ) from m_inF hz, bd_ok, if_pos rfl]
end NE
