/-! units: both sides -/
def spk (w T l : Nat) : Bool := decide (1 ≤ smp w (T - 1) l) && decide (smp w (T - 1) l ≤ 700)
theorem sp_03 : cntF (spk 0 3) 6 = 6 := by decide +kernel
theorem sp_04 : cntF (spk 0 4) 6 = 6 := by decide +kernel
theorem sp_05 : cntF (spk 0 5) 6 = 6 := by decide +kernel
theorem sp_06 : cntF (spk 0 6) 6 = 6 := by decide +kernel
theorem sp_23 : cntF (spk 2 3) 6 = 6 := by decide +kernel
theorem sp_24 : cntF (spk 2 4) 6 = 6 := by decide +kernel
theorem sp_25 : cntF (spk 2 5) 6 = 6 := by decide +kernel
theorem sp_26 : cntF (spk 2 6) 6 = 6 := by decide +kernel
theorem spk_un {w T l : Nat} (h : spk w T l = true) : 1 ≤ smp w (T - 1) l ∧ smp w (T - 1) l ≤ 700 := by
  unfold spk at h
  rw [Bool.and_eq_true, decide_eq_true_eq, decide_eq_true_eq] at h
  exact h
theorem gok_u {w T l : Nat} (hw : w = 0 ∨ w = 2) (hT3 : 3 ≤ T) (hT : T ≤ 6) (hl : l < 6) : Gok w T (smp w (T - 1) l) ∧ uck w T l = true ∧ spk w T l = true := by
  rcases hw with rfl | rfl
  · rcases (show T = 3 ∨ T = 4 ∨ T = 5 ∨ T = 6 by omega) with rfl | rfl | rfl | rfl
    · have s := cntF_all sp_03 l hl
      exact ⟨gok_lv (l := l) (L := 12) (by omega) hT3 hT (spk_un s).1 (spk_un s).2 (by omega) (by omega) (Nat.le_refl _) lv_03.2 gd_03, cntF_all uc_03 l hl, s⟩
    · have s := cntF_all sp_04 l hl
      exact ⟨gok_lv (l := l) (L := 9) (by omega) hT3 hT (spk_un s).1 (spk_un s).2 (by omega) (by omega) (Nat.le_refl _) lv_04.2 gd_04, cntF_all uc_04 l hl, s⟩
    · have s := cntF_all sp_05 l hl
      exact ⟨gok_lv (l := l) (L := 8) (by omega) hT3 hT (spk_un s).1 (spk_un s).2 (by omega) (by omega) (Nat.le_refl _) lv_05.2 gd_05, cntF_all uc_05 l hl, s⟩
    · have s := cntF_all sp_06 l hl
      exact ⟨gok_lv (l := l) (L := 8) (by omega) hT3 hT (spk_un s).1 (spk_un s).2 (by omega) (by omega) (Nat.le_refl _) lv_06.2 gd_06, cntF_all uc_06 l hl, s⟩
  · rcases (show T = 3 ∨ T = 4 ∨ T = 5 ∨ T = 6 by omega) with rfl | rfl | rfl | rfl
    · have s := cntF_all sp_23 l hl
      exact ⟨gok_lv (l := l) (L := 12) (by omega) hT3 hT (spk_un s).1 (spk_un s).2 (by omega) (by omega) (Nat.le_refl _) lv_23.2 gd_23, cntF_all uc_23 l hl, s⟩
    · have s := cntF_all sp_24 l hl
      exact ⟨gok_lv (l := l) (L := 7) (by omega) hT3 hT (spk_un s).1 (spk_un s).2 (by omega) (by omega) (Nat.le_refl _) lv_24.2 gd_24, cntF_all uc_24 l hl, s⟩
    · have s := cntF_all sp_25 l hl
      exact ⟨gok_lv (l := l) (L := 6) (by omega) hT3 hT (spk_un s).1 (spk_un s).2 (by omega) (by omega) (Nat.le_refl _) lv_25.2 gd_25, cntF_all uc_25 l hl, s⟩
    · have s := cntF_all sp_26 l hl
      exact ⟨gok_lv (l := l) (L := 6) (by omega) hT3 hT (spk_un s).1 (spk_un s).2 (by omega) (by omega) (Nat.le_refl _) lv_26.2 gd_26, cntF_all uc_26 l hl, s⟩
theorem uck_un {w T l : Nat} (h : uck w T l = true) : ∃ r, uRun w T 60 (sk0 w T l) (tab (fun _ => 1) T) 0 = some r ∧ unRun w T 699 (sk0 w T l) (tab (fun _ => 1) T) 0 = some r ∧ lvA w T (smp w (T - 1) l) = l := by
  unfold uck at h
  cases h1 : uRun w T 60 (sk0 w T l) (tab (fun _ => 1) T) 0 with
  | none => rw [h1] at h; cases h
  | some a =>
    cases h2 : unRun w T 699 (sk0 w T l) (tab (fun _ => 1) T) 0 with
    | none => rw [h1, h2] at h; cases h
    | some b =>
      rw [h1, h2] at h
      dsimp only at h
      rw [Bool.and_eq_true, beq_iff_eq, beq_iff_eq] at h
      exact ⟨a, rfl, by rw [h.1], h.2⟩
theorem unit_mo {w T l r : Nat} {bk : Bool} (hw : w = 0 ∨ w = 2) (hg : Gok w T (smp w (T - 1) l)) (hr : unRun w T 699 (sk0 w T l) (tab (fun _ => 1) T) 0 = some r) (hl : lvA w T (smp w (T - 1) l) = l) : mMo (mil w T bk false false (fun _ => 1) (smp w (T - 1) l) (kst w T (smp w (T - 1) l))) = r := by
  obtain ⟨hw2, hT3, hT, hn1, _, hcap, hgd⟩ := id hg
  have hw1 : w ≠ 1 := by omega
  have hK : mK (mi0 w T bk false false (fun _ => 1) (smp w (T - 1) l)) = sk0 w T l := by rw [mi0_K hT3 hcap]; unfold skA; rw [if_neg hw1, hl]
  have hKs : skA w T (smp w (T - 1) l) = sk0 w T l := by unfold skA; rw [if_neg hw1, hl]
  have hmo : mMo (mi0 w T bk false false (fun _ => 1) (smp w (T - 1) l)) = 0 := by unfold mi0; rw [tul_n.2.2]
  unfold mil
  refine unRun_ok (nr := smp w (T - 1) l) 699 _ (tab (fun _ => 1) T) (ai_mi0 hT3 hcap) ?_ (by rw [hK, hmo]; exact hr) _ (by rw [hK, ← hKs]; exact hgd.2.1) (fun j hj => by rw [hK, ← hKs]; exact hgd.2.2 j hj)
  intro t ht q hq
  have hr0 : ∃ r0, r0 ∈ tp0 w T bk false false (smp w (T - 1) l) t ∧ r0.1 = q.1 := by
    unfold mi0 tul at hq
    split at hq
    · have hq : q ∈ upr (tp0 w T bk false false (smp w (T - 1) l) t) := hq
      unfold upr at hq
      obtain ⟨r0, h1, rfl⟩ := List.mem_map.mp hq
      exact ⟨r0, h1, rfl⟩
    · exact ⟨q, hq, rfl⟩
  obtain ⟨r0, h1, h2⟩ := hr0
  rw [← h2, tab_at ht]
  unfold tp0 at h1
  rw [if_neg hw1] at h1
  unfold tpi at h1
  have hd : dmA w T false (smp w (T - 1) l) t = 0 := by unfold dmA; rw [hl, Nat.sub_self]; rfl
  rw [hd, List.replicate_zero, List.nil_append] at h1
  have : ∃ j, r0 = rnj false j := by
    cases bk with
    | true =>
      rw [if_pos rfl, List.mem_reverse] at h1
      obtain ⟨j, _, e⟩ := List.mem_map.mp h1
      exact ⟨j, e.symm⟩
    | false =>
      rw [if_neg (by decide)] at h1
      obtain ⟨j, _, e⟩ := List.mem_map.mp h1
      exact ⟨j, e.symm⟩
  obtain ⟨j, rfl⟩ := this
  rfl
theorem pfn_len {w k : Nat} : ∀ l, (pfn w k l).length = k
  | 0 => by unfold pfn tab; simp
  | l + 1 => by unfold pfn tab; split <;> simp
section UO
variable {E : En}
theorem ok_units (hR : LRun E) (hM : LMod E) (hM2 : LMo2 E) (p0 : Int32) : Ok (JJ CG' CM' MG' MM') (fX6_units E 0 p0) (fX7_units E 395 p0) := by
  refine ok_of (fun a hw => ?_)
  obtain ⟨r0, r1, r3, r4, r5, r8, r9, r10, r11, r12, r13, l1, l2, l35, l36, l37, l38, l39, l61, l63, l64, lp, ls⟩ := id hR
  obtain ⟨b0, rb0, rb1, rb3, rb4, rb5, rb6, lr, la4, lg, lm, la31, la32⟩ := id l2
  obtain ⟨m0, m1, m2, m3, m4, m5, m6, m7, m8, m9, m10, m11, m12, m13, m14, m15, m16, m17, mz⟩ := id hM
  obtain ⟨n1, n2, n3, n4, n5, n6, n7, n8, n9, n10, n11, n12, n13, n14, n15, n16, n17, nz'⟩ := id hM2
  have hwc := hw.2.2.1
  have hn := hwc.1
  obtain ⟨t1, t2⟩ := hwc.2.2.1 1 (by omega)
  obtain ⟨w1, w2⟩ := hwc.2.2.1 2 (by omega)
  have t1 : 3 ≤ cS (aC a) 1 := t1
  have t2 : cS (aC a) 1 ≤ 6 := t2
  have w2 : cS (aC a) 2 ≤ 2 := w2
  have la : cd E 6 = 100 ∧ ln E 6 = 6 := la4
  have r6 : rf E 2 1 = some 6 := rb1
  rcases below p0 (n := 6) (by omega) with ⟨l, hl, rfl⟩ | ⟨hq, hq2⟩
  · have hin : ∀ σ, fX7_in E (nI l) (0 : Int32) (5 : Int32) σ = some (1, σ) := fun σ => m_inN (l := 0) (h := 5) (by omega)
    have h5 : ¬ (5 : Int32) < nI l := nI_nlt (a := 5) (by omega) (by omega)
    by_cases hw1 : cS (aC a) 2 = 1
    · refine ⟨-1, a, hw, spc_q (fun σ hc => ⟨σ, ?_, fun _ _ _ => rfl, fun _ _ _ => rfl⟩), spm_q (fun σ hc => ⟨σ, ?_, fun _ _ _ => rfl, fun _ _ _ => rfl⟩)⟩
      · obtain ⟨k1, k2, k3⟩ := cs_rr hc.2.2.2.1
        unfold fX6_units
        rw [tk_ok r0, if_neg (nI_pos (by omega)), if_neg h5, dr_ok r3 l2.1, dr_ok r6 la.1, la.2, i2, ck_n (by omega) (by omega), nI_clamp (by omega), k2 2 (by omega), hw1, if_neg (show ¬ ¬ nI 1 = 1 from fun z => z rfl)]
      · obtain ⟨k1, k2, k3, k4, k5⟩ := mr_g hn hc.2.2.1
        unfold fX7_units
        rw [tk_ok m0, hin, bd_ok, if_neg (by decide), m_way hM hM2, bd_ok, show gi σ 396 3 = nI (cS (aC a) 2) from k3 2 (by omega), hw1, if_neg (show ¬ ¬ nI 1 = 1 from fun z => z rfl)]
    · have hw02 : cS (aC a) 2 = 0 ∨ cS (aC a) 2 = 2 := by omega
      obtain ⟨hgo, huck, hspk⟩ := gok_u (w := cS (aC a) 2) (T := cS (aC a) 1) (l := l) hw02 t1 t2 hl
      obtain ⟨hs1, hs2⟩ := spk_un hspk
      obtain ⟨r, hu1, hu2, hlv⟩ := uck_un huck
      have hK : kst (cS (aC a) 2) (cS (aC a) 1) (smp (cS (aC a) 2) (cS (aC a) 1 - 1) l) ≤ 699 := hgo.2.2.2.2.2.2.1
      refine ⟨nI r, a, hw, spc_q (fun σ hc => ?_), spm_q (fun σ hc => ?_)⟩
      · obtain ⟨k1, k2, k3⟩ := cs_rr hc.2.2.2.1
        obtain ⟨s1, e1, q1, f1⟩ := n_climbTo (σ := σ) (l := l) (w := cS (aC a) 2) (k := cS (aC a) 1 - 1) l61 (by omega) (by omega) hw02 (by omega)
        have e1 : fX2_climbTo E 61 (nI l) (nI (cS (aC a) 2)) (nI (cS (aC a) 1 - 1)) σ = some s1 := e1
        have e2 := n_tog (σ := s1) l61 (by omega) q1
        have e2 : fX2_together E 61 s1 = some (nI (smp (cS (aC a) 2) (cS (aC a) 1 - 1) l), s1) := e2
        obtain ⟨s2, e3, q2, f2⟩ := c_begin (σ := s1) (w := cS (aC a) 2) (T := cS (aC a) 1) (bk := bkC (aC a)) (gl := fun _ => 1) (tu := false) l39 t1 t2
        generalize hnr : smp (cS (aC a) 2) (cS (aC a) 1 - 1) l = nr at *
        obtain ⟨⟨v, s3⟩, e4, q3, f3⟩ := for_in (F := fun (rec : Int32 × Sg → Option (Int32 × Sg)) (b : Int32 × Sg) => bX6_units_100 E (nI nr) 39 (fun u0 t => rec (u0, t)) b.1 b.2) nr
          (fun i b => b.1 = nI i ∧ LD b.2 39 (cS (aC a) 2) (cS (aC a) 1) (bkC (aC a)) i (fun _ => 1) false ∧ ∀ x k, (x < 39 ∨ 61 ≤ x) → gi b.2 x k = gi s2 x k) (fun b => LD b.2 39 (cS (aC a) 2) (cS (aC a) 1) (bkC (aC a)) nr (fun _ => 1) false ∧ ∀ x k, (x < 39 ∨ 61 ≤ x) → gi b.2 x k = gi s2 x k) (N := FU) (by show nr < 1000000; omega)
          (by
            rintro i ⟨v, s⟩ rec hi ⟨rfl, g1, g2⟩
            dsimp only at g1 g2 ⊢
            obtain ⟨s', z1, z2, z3⟩ := c_load l39 g1 (by omega) (by omega)
            have z1 : fX1_load E 39 (1 : Int32) (0 : Int32) s = some s' := z1
            unfold bX6_units_100
            rw [if_neg (nI_ge hi (by omega)), z1, bv_ok, lt_ok, ad1]
            exact ⟨_, rfl, rfl, z2, fun x k hx => by dsimp only; rw [z3 _ _ (by omega)]; exact g2 x k hx⟩)
          (by
            rintro ⟨v, s⟩ rec ⟨rfl, g1, g2⟩
            unfold bX6_units_100
            rw [if_pos (nI_le (Nat.le_refl _) (by omega))]
            exact ⟨_, rfl, g1, g2⟩)
          (a := ((0 : Int32), s2)) ⟨rfl, q2, fun _ _ _ => rfl⟩
        dsimp only at q3 f3
        obtain ⟨s4, e5, q4, _, _, f4⟩ := c_layOut (fr := false) l39 q3 w2 t2 t1 (by omega) (by omega) hgo.2.2.2.2.2.1
        have e5 : fX1_layOut E 39 (0 : Int32) s3 = some s4 := e5
        obtain ⟨s5, e6, q5, f5⟩ := c_mergeAll (fr := false) (tu := false) l39 hgo (by omega) (by omega) (by omega) q4
        have hmo := unit_mo (bk := bkC (aC a)) hw02 (by rw [hnr]; exact hgo) hu2 (by rw [hnr]; exact hlv)
        rw [hnr] at hmo
        unfold fX6_units
        rw [tk_ok r0, if_neg (nI_pos (by omega)), if_neg h5, dr_ok r3 l2.1, dr_ok r6 la.1, la.2, i2, ck_n (by omega) (by omega), nI_clamp (by omega), k2 2 (by omega), if_pos (show ¬ nI (cS (aC a) 2) = 1 from fun z => hw1 ((nI_eq (b := 1) (by omega) (by omega)).mp z)), i1, ck_n (by omega) (by omega), nI_clamp (by omega), k2 1 (by omega), lt_ok, dr_ok r11 l61.1, sub_n (by omega), e1, bv_ok, e2, bd_ok, dr_ok r10 l39.1, i4, ck_n (by omega) (by omega), nI_clamp (by omega), f1 6 4 (by omega) (by omega), f1 6 2 (by omega) (by omega), k2 4 (by omega), k2 2 (by omega), show nI 1 = (1 : Int32) from rfl, sel_b (st_1 hwc (by omega)), bd_ok, e3, bv_ok, e4, bd_ok, e5, bv_ok, e6, bv_ok, dr_ok l39.2.2.2.1 l39.2.2.2.2.2.2.2.2.2.2.2.1.1, l39.2.2.2.2.2.2.2.2.2.2.2.1.2, i0, ck_n (by omega) (by omega), nI_clamp (by omega)]
        refine ⟨s5, ?_, fun x k he => ?_, fun x k hx => ?_⟩
        · obtain ⟨L, H, _, _, _, _, z0, _⟩ := q5
          show some (gi s5 (39 + 3) 0, s5) = _
          rw [z0, hmo]
        · unfold esC at he
          rw [f5 _ _ (by unfold esA; omega), f4 _ _ (by omega), f3 _ _ (by omega), f2 _ _ (by omega), f1 _ _ (by omega) (by omega)]
        · rw [f5 _ _ (by unfold esA; omega), f4 _ _ (by omega), f3 _ _ (by omega), f2 _ _ (by omega), f1 _ _ (by omega) (by omega)]
      · obtain ⟨k1, k2, k3, k4, k5⟩ := mr_g hn hc.2.2.1
        have k32 : gi σ 396 3 = nI (cS (aC a) 2) := k3 2 (by omega)
        have k31 : gi σ 396 2 = nI (cS (aC a) 1) := k3 1 (by omega)
        generalize hTd : cS (aC a) 1 = T at *
        generalize hWd : cS (aC a) 2 = w at *
        obtain ⟨s1, e1, q1, f1⟩ := m_layP (σ := σ) (l := l) (w := w) (k := T - 1) hM hM2 (by omega) (by omega) hw02 (by omega)
        have hpf : ∀ t, t < T → (pfn w (T - 1) l).getD t 0 ≤ 1000 ∧ (T - 1 ≤ t → (pfn w (T - 1) l).getD t 0 = 0) := fun t ht => by
          have hl' := pfn_len (w := w) (k := T - 1) l
          by_cases hq : t < T - 1
          · have := sumF_1 (f := fun t => (pfn w (T - 1) l).getD t 0) hq
            have hs : sumF (fun t => (pfn w (T - 1) l).getD t 0) (T - 1) ≤ 700 := hs2
            exact ⟨Nat.le_trans this (by omega), fun z => by omega⟩
          · have : (pfn w (T - 1) l).getD t 0 = 0 := by rw [List.getD_eq_getElem?_getD, List.getElem?_eq_none (by omega)]; rfl
            rw [this]; exact ⟨by omega, fun _ => rfl⟩
        obtain ⟨⟨v, s2⟩, e2, q2, f2⟩ := for_in (F := fun (rec : Int32 × Sg → Option (Int32 × Sg)) (b : Int32 × Sg) => bX7_units_38 E 395 (nI (T - 1)) (fun u0 t => rec (u0, t)) b.1 b.2) 6
          (fun i b => b.1 = nI i ∧ (∀ t, t < i → t < T → gi b.2 411 t = nI ((pfn w (T - 1) l).getD t 0) ∧ gi b.2 412 t = nI 1) ∧ ∀ x k, x ≠ 411 → x ≠ 412 → gi b.2 x k = gi s1 x k) (fun b => (∀ t, t < T → gi b.2 411 t = nI ((pfn w (T - 1) l).getD t 0) ∧ gi b.2 412 t = nI 1) ∧ ∀ x k, x ≠ 411 → x ≠ 412 → gi b.2 x k = gi s1 x k) (N := FU) (by show 6 < 1000000; omega)
          (by
            rintro i ⟨v, s⟩ rec hi ⟨rfl, g1, g2⟩
            dsimp only at g1 g2 ⊢
            unfold bX7_units_38
            rw [i6, if_neg (nI_ge hi (by omega)), dr_ok m16 n16.1, n16.2]
            have key : ∀ y, (i < T → y = nI ((pfn w (T - 1) l).getD i 0)) → ∃ a', (ck (nI i) 6 (ss (si s 411 (nI i).toNatClampNeg y) (fun s28 => dr (rf E 395 22) E 100 (fun x29 => ck (nI i) (ln E x29) (ss (si s28 x29 (nI i).toNatClampNeg (1 : Int32)) (fun s31 => lt (nI i + (1 : Int32)) (fun v32 => rec (v32, s31)))))))) = rec a' ∧ (a'.1 = nI (i + 1) ∧ (∀ t, t < i + 1 → t < T → gi a'.2 411 t = nI ((pfn w (T - 1) l).getD t 0) ∧ gi a'.2 412 t = nI 1) ∧ ∀ x k, x ≠ 411 → x ≠ 412 → gi a'.2 x k = gi s1 x k) := by
              intro y hy
              rw [ck_n (by omega) (by omega), nI_clamp (by omega), ss_ok, dr_ok m17 n17.1, n17.2, ck_n (by omega) (by omega), ss_ok, lt_ok, ad1]
              refine ⟨_, rfl, rfl, fun t ht htT => ?_, fun x k h1 h2 => by dsimp only; rw [gs_ne (by omega), gs_ne (by omega)]; exact g2 x k h1 h2⟩
              dsimp only
              by_cases hti : t = i
              · subst hti; rw [gs_ne (by omega), gs_eq, gs_eq, hy htT]; exact ⟨rfl, rfl⟩
              · rw [gs_ne (by omega), gs_ne (by omega), gs_ne (by omega), gs_ne (by omega)]; exact g1 t (by omega) htT
            by_cases hiT : T - 1 ≤ i
            · rw [if_pos (nI_le hiT (by omega)), bd_ok]
              exact key _ (fun z => by rw [(hpf i z).2 hiT]; rfl)
            · rw [if_neg (nI_ge (by omega) (by omega)), dr_ok m8 n8.1, n8.2, ck_n (by omega) (by omega), nI_clamp (by omega), bd_ok, g2 403 i (by omega) (by omega), q1 i (by omega)]
              have := key (nI ((pfn w (T - 1) l).getD i 0)) (fun _ => rfl)
              rw [nI_clamp (by omega)] at this
              exact this)
          (by
            rintro ⟨v, s⟩ rec ⟨rfl, g1, g2⟩
            unfold bX7_units_38
            rw [i6, if_pos (nI_le (Nat.le_refl _) (by omega))]
            exact ⟨_, rfl, fun t ht => g1 t (by omega) ht, g2⟩)
          (a := ((0 : Int32), s1)) ⟨rfl, fun t ht => absurd ht (Nat.not_lt_zero t), fun _ _ _ _ => rfl⟩
        dsimp only at q2 f2
        have f3 : ∀ x k, x ≠ 411 → x ≠ 412 → x ≠ 403 → x ≠ 404 → ¬ (x = 395 ∧ k = 23) → gi (si s2 395 23 (nI (T - 1))) x k = gi σ x k := fun x k h1 h2 h3 h4 h5 => by rw [gs_ne (by omega), f2 _ _ h1 h2, f1 _ _ h3 h4]
        obtain ⟨s4, b, z1, z2, z3, z4, z5, z6⟩ := m_begU (σ := si s2 395 23 (nI (T - 1))) (T := T) (to := T - 1) (c := fun t => (pfn w (T - 1) l).getD t 0) hM hM2 t2 (by rw [f3 _ _ (by omega) (by omega) (by omega) (by omega) (by omega)]; exact k31) gs_eq (by omega) (fun t ht => ⟨by rw [gs_ne (by omega)]; exact (q2 t ht).1, by have := (hpf t ht).1; omega⟩)
        have hkc : ∀ t, t < T → kc (sk0 w T l) t = (pfn w (T - 1) l).getD t 0 := fun t ht => by
          show (tab (fun t => (pfn w (T - 1) l).getD t 0) T).getD t 0 = _
          rw [tab_at ht]
        have hum : UMs s4 w T (sk0 w T l) (tab (fun _ => 1) T) := by
          refine ⟨⟨?_, ?_, ?_, show T - 1 < T by omega, b, 2 ^ (T - 1), z2, (bt_sh (T - 1) (by omega)).2, z3, z4, fun t ht => ?_⟩, fun t ht => ⟨?_, ?_, ?_⟩⟩
          · rw [z6 _ _ (by omega), f3 _ _ (by omega) (by omega) (by omega) (by omega) (by omega)]; exact k31
          · rw [z6 _ _ (by omega), f3 _ _ (by omega) (by omega) (by omega) (by omega) (by omega)]; exact k32
          · rw [z6 _ _ (by omega), gs_eq]; rfl
          · show (opn T (T - 1) (tab (fun t => (pfn w (T - 1) l).getD t 0) T)).getD t false = _
            unfold opn
            rw [tab_at ht, tab_at ht, z5 t ht, bt_pw (T - 1) (by omega) t (by omega)]
          · rw [z6 _ _ (by omega), gs_ne (by omega), hkc t ht]; exact (q2 t ht).1
          · rw [hkc t ht]; exact (hpf t ht).1
          · rw [z6 _ _ (by omega), gs_ne (by omega), tab_at ht]; exact (q2 t ht).2
        obtain ⟨s5, e5, f5⟩ := m_uRun hM hM2 t2 hw02 60 FU s4 (sk0 w T l) (tab (fun _ => 1) T) 0 (by show 60 < 1000000; omega) hum hu1
        have e5 : fx (fun rec a => bX7_units_89 E 395 (fun u0 t => rec (u0, t)) a.1 a.2) FU ((0 : Int32), s4) = some (nI r, s5) := e5
        unfold fX7_units
        rw [tk_ok m0, hin, bd_ok, if_neg (by decide), m_way hM hM2, bd_ok, k32, if_pos (show ¬ nI w = 1 from fun z => hw1 ((nI_eq (b := 1) (by omega) (by omega)).mp z)), m_tapes hM hM2, bd_ok, k31, i1, sub_n (by omega), lt_ok, m_way hM hM2, bd_ok, k32, e1, bv_ok, e2, bd_ok, ss_ok, z1, bv_ok, e5, bd_ok]
        refine ⟨s5, rfl, fun x k he => ?_, fun x k hx => ?_⟩
        · unfold esM at he
          rw [f5 _ _ (by omega) (by omega) (by omega), z6 _ _ (by omega), f3 _ _ (by omega) (by omega) (by omega) (by omega) (by omega)]
        · rw [f5 _ _ (by omega) (by omega) (by omega), z6 _ _ (by omega), f3 _ _ (by omega) (by omega) (by omega) (by omega) (by omega)]
  · refine ⟨-1, a, hw, spc_q (fun σ hc => ⟨σ, ?_, fun _ _ _ => rfl, fun _ _ _ => rfl⟩), spm_q (fun σ hc => ⟨σ, ?_, fun _ _ _ => rfl, fun _ _ _ => rfl⟩)⟩
    · unfold fX6_units
      rw [tk_ok r0]
      rcases hq with h | ⟨h1, h2⟩
      · rw [if_pos h]
      · rw [if_neg h1, if_pos ?_]
        have h3 := Int32.not_lt.mp h2
        obtain ⟨m, hm, rfl⟩ := nI_of h1
        have := (nI_leI (by omega) hm).mp h3
        exact nI_lt (a := 5) (by omega) hm
    · unfold fX7_units
      rw [tk_ok m0, show fX7_in E p0 (0 : Int32) (5 : Int32) σ = some (0, σ) from m_inF hq2, bd_ok, if_pos rfl]
end UO
