/-! forecast: both sides -/
section MX
variable {E : En} {σ : Sg} {w T nr n : Nat} {bk : Bool} {gl F ro : Nat → Nat} {A : Mi}
theorem m_scan (hM : LMod E) (hM2 : LMo2 E) (hT : T ≤ 6) (hg : GV F n ro gl nr) (ha : AI T nr A) {X : Nat → List Dn} (hm : Xm X (mT A)) (hhc : HC' σ n gl (fun z => cnt F n ro z.2.2) (hdO (gT w T (mK A)) X)) {P : List Nat} (hPl : P.length ≤ 300) (hP : ∀ x, x ∈ P → (tko w T ro A x).isSome = true) (h415 : ∀ i, i < P.length → gi σ 415 i = nI ((tko w T ro A (P.getD i 0)).getD 0)) (h416 : ∀ t, t < 6 → gi σ 416 t = nI 0) {B : Nat} (hB : 1 ≤ B) (hB2 : B ≤ 16) (kq : Int32) :
    ∃ b, fx (fun rec a => bX7_forecast_39 E (nI P.length) 395 (nI B) 396 kq (fun u0 u1 t => rec ((u0, u1), t)) a.1.1 a.1.2 a.2) FU (((0 : Int32), (0 : Int32)), σ) = some b ∧ scE (scn B (fun t => szl gl (hdr (mT A t)).1) kq (P.map (fun x => (tko w T ro A x).getD 0)) (fun _ => 0) 0) b.1 ∧ ∀ x k, x ≠ 416 → gi b.2 x k = gi σ x k := by
  obtain ⟨m0, m1, m2, m3, m4, m5, m6, m7, m8, m9, m10, m11, m12, m13, m14, m15, m16, m17, m18, m19, m20, m21⟩ := id hM
  obtain ⟨n1, n2, n3, n4, n5, n6, n7, n8, n9, n10, n11, n12, n13, n14, n15, n16, n17, n18, n19, n20, n21⟩ := id hM2
  have hn := hg.1
  refine for_ex P.length (fun r (b : (Int32 × Int32) × Sg) => ∃ dn f, b.1 = (nI f, nI r) ∧ (∀ t, t < 6 → gi b.2 416 t = nI (dn t) ∧ dn t ≤ r) ∧ (∀ x k, x ≠ 416 → gi b.2 x k = gi σ x k) ∧ scn B (fun t => szl gl (hdr (mT A t)).1) kq ((P.drop r).map (fun x => (tko w T ro A x).getD 0)) dn f = scn B (fun t => szl gl (hdr (mT A t)).1) kq (P.map (fun x => (tko w T ro A x).getD 0)) (fun _ => 0) 0)
    (fun (b : ((Int32 × Int32) ⊕ Int32) × Sg) => scE (scn B (fun t => szl gl (hdr (mT A t)).1) kq (P.map (fun x => (tko w T ro A x).getD 0)) (fun _ => 0) 0) b.1 ∧ ∀ x k, x ≠ 416 → gi b.2 x k = gi σ x k) (by show P.length < 1000000; omega) ?_ ?_ ⟨fun _ => 0, 0, rfl, fun t ht => ⟨h416 t ht, Nat.le_refl _⟩, fun _ _ _ => rfl, rfl⟩
  · rintro r ⟨v, s⟩ rec hr ⟨dn, f, f0, f1, f2, f3⟩
    dsimp only at f0 f1 f2 ⊢
    subst f0
    dsimp only
    have hxm : P.getD r 0 ∈ P := getD_mem hr
    have hdrop : P.drop r = P.getD r 0 :: P.drop (r + 1) := by
      rw [List.drop_eq_getElem_cons hr, List.getD_eq_getElem?_getD, List.getElem?_eq_getElem hr]; rfl
    rw [hdrop, List.map_cons] at f3
    have hcell := h415 r hr
    generalize hxd : P.getD r 0 = x at *
    have his := hP x hxm
    cases hq : tko w T ro A x with
    | none => rw [hq] at his; cases his
    | some t =>
      rw [hq] at f3 hcell
      have hcell : gi σ 415 r = nI t := hcell
      have f3 : scn B (fun t => szl gl (hdr (mT A t)).1) kq (t :: (P.drop (r + 1)).map (fun x => (tko w T ro A x).getD 0)) dn f = scn B (fun t => szl gl (hdr (mT A t)).1) kq (P.map (fun x => (tko w T ro A x).getD 0)) (fun _ => 0) 0 := f3
      rw [scn_cons] at f3
      obtain ⟨t1, t2, t3⟩ := tko_some hq
      obtain ⟨d1, d2⟩ := f1 t (by omega)
      have hgi : gT w T (mK A) t = true := by unfold gT; rw [decide_eq_true t1, t2]; rfl
      obtain ⟨hiT, l, hX, hrr, hl⟩ := hd_run hm ha hgi
      have hHd : hdO (gT w T (mK A)) X t = some ((X t).getD 0 d0) := by unfold hdO; rw [if_pos hgi]
      obtain ⟨z1, z2, z3, z4, z5, z6⟩ := hhc.2 t _ (by omega) hHd
      have h407 : gi σ 407 t = nI ((X t).getD 0 d0).1 := by rw [hhc.1 t (by omega), hHd]; rfl
      have hzz : zz gl ((X t).getD 0 d0) = szl gl (hdr (mT A t)).1 := by unfold zz; rw [hrr]
      rw [hzz] at z3 z4
      have hnew : ∀ u, u < 6 → gi (si s 416 t (nI (dn t + 1))) 416 u = nI (incD dn t u) ∧ incD dn t u ≤ r + 1 := by
        intro u hu
        unfold incD
        by_cases hut : u = t
        · subst hut; rw [gs_eq, if_pos rfl]; exact ⟨rfl, by omega⟩
        · rw [gs_ne (by omega), if_neg hut]; exact ⟨(f1 u hu).1, by have := (f1 u hu).2; omega⟩
      have hfr : ∀ x k, x ≠ 416 → gi (si s 416 t (nI (dn t + 1))) x k = gi σ x k := fun x k hx => by rw [gs_ne (by omega)]; exact f2 x k hx
      have hlt := Nat.mod_lt (dn t + 1) (show 0 < B by omega)
      unfold bX7_forecast_39
      rw [if_neg (nI_ge hr (by omega)), dr_ok m20 n20.1, n20.2, ck_n (by omega) (by omega), nI_clamp (by omega), f2 415 r (by omega), hcell, lt_ok, dr_ok m21 n21.1, n21.2, ck_n (by omega) (by omega), ck_n (by omega) (by omega), nI_clamp (by omega), d1, ad1, ss_ok, ck_n (by omega) (by omega), gs_eq]
      unfold nz
      rw [if_neg (nI_ne0 (by omega) (by omega)), im_n (by omega) (by omega) (by omega)]
      by_cases hc1 : (dn t + 1) % B = 0
      · rw [if_neg (show ¬ ¬ nI ((dn t + 1) % B) = 0 by rw [hc1]; exact fun z => z rfl), ck_n (by omega) (by omega), dr_ok m12 n12.1, n12.2, ck_n (by omega) (by omega), hfr 407 t (by omega), h407, n1.2, show (1927 : Int32) = nI 1927 from rfl, nI_add, ck_n (by omega) (by omega), nI_clamp (by omega), hfr 396 _ (by omega), z3]
        by_cases hc2 : dn t + 1 < szl gl (hdr (mT A t)).1
        · rw [if_pos ⟨hc1, hc2⟩] at f3
          rw [if_neg (nI_ge hc2 (by omega))]
          by_cases hk : nI f = kq
          · rw [if_pos hk] at f3
            rw [if_neg (fun z => z hk)]
            refine Or.inl ⟨_, rfl, ?_, hfr⟩
            have hgo : scE (.inr t) (.inr (nI t)) := rfl
            rw [f3] at hgo
            exact hgo
          · rw [if_neg hk] at f3
            rw [if_pos hk, lt_ok, lt_ok, ad1, ad1]
            exact Or.inr ⟨_, rfl, incD dn t, f + 1, rfl, hnew, hfr, f3⟩
        · rw [if_neg (fun q => hc2 q.2)] at f3
          rw [if_pos (nI_le (by omega) (by omega)), lt_ok, ad1]
          exact Or.inr ⟨_, rfl, incD dn t, f, rfl, hnew, hfr, f3⟩
      · rw [if_neg (fun q => hc1 q.1)] at f3
        rw [if_pos (show ¬ nI ((dn t + 1) % B) = 0 from nI_ne0 (by omega) (by omega)), lt_ok, ad1]
        exact Or.inr ⟨_, rfl, incD dn t, f, rfl, hnew, hfr, f3⟩
  · rintro ⟨v, s⟩ rec ⟨dn, f, f0, f1, f2, f3⟩
    dsimp only at f0 f1 f2 ⊢
    subst f0
    dsimp only
    unfold bX7_forecast_39
    rw [if_pos (nI_le (Nat.le_refl _) (by omega))]
    refine ⟨_, rfl, ?_, f2⟩
    rw [List.drop_eq_nil_of_le (by omega)] at f3
    have f3 : (.inl f : Nat ⊕ Nat) = _ := f3
    rw [← f3]
    exact ⟨_, rfl⟩
end MX
section FO
variable {E : En}
/-- a look and counts beside leave the class's bond -/
theorem rc_look {σ s : Sg} {a : Ab} (hw : Wfa a) (h : RC CG' CM' σ a) (hf : ∀ x k, x ≠ 15 → x ≠ 34 → ¬ (x = 11 ∧ (k = 14 ∨ k = 15)) → gi s x k = gi σ x k) : RC CG' CM' s a := by
  obtain ⟨h1, h2, h3, h4, h5, h6⟩ := h
  have hwc := hw.2.2.1
  obtain ⟨k1, k2, k3⟩ := cs_rr h4
  refine ⟨by rw [hf _ _ (by omega) (by omega) (by omega)]; exact h1, fun i hi => by rw [hf _ _ (by omega) (by omega) (by omega)]; exact h2 i hi, by rw [hf _ _ (by omega) (by omega) (by omega)]; exact h3, ?_, ?_, ?_⟩
  · refine mk_cs ⟨?_, fun i hi => ?_, fun i hi => ?_, ?_⟩ (fun j hj => ?_) ?_ (fun q => ?_) (hwc.2.2.1 1 (by omega)).2 (fun q => ?_)
    · rw [hf _ _ (by omega) (by omega) (by omega)]; exact k1.1
    · rw [hf _ _ (by omega) (by omega) (by omega)]; exact k1.2.1 i hi
    · rw [hf _ _ (by omega) (by omega) (by omega)]; exact k1.2.2.1 i hi
    · rw [hf _ _ (by omega) (by omega) (by omega)]; exact k1.2.2.2
    · rw [hf _ _ (by omega) (by omega) (by omega)]; exact k2 j hj
    · rw [hf _ _ (by omega) (by omega) (by omega)]; exact k3
    · obtain ⟨g1, g2, g3, g4⟩ := cs_g h4 q
      exact ⟨by rw [hf _ _ (by omega) (by omega) (by omega)]; exact g1, by rw [hf _ _ (by omega) (by omega) (by omega)]; exact g2, fun x hx => by rw [hf _ _ (by omega) (by omega) (by omega)]; exact g3 x hx, fun r hr => by rw [hf _ _ (by omega) (by omega) (by omega)]; exact g4 r hr⟩
    · obtain ⟨g1, g2, g3, g4⟩ := cs_m hwc h4 q
      have hT : cS (aC a) 1 ≤ 6 := (hwc.2.2.1 1 (by omega)).2
      obtain ⟨L, H, hms, hl0, hD, t8, t0, t1, t2, t3⟩ := g3
      refine ⟨g1, g2, ⟨L, H, ms_fr hms (fun x k he => hf x k (by unfold esS at he; omega) (by unfold esS at he; omega) (by unfold esS at he; omega)), hl0, fun t ht r hr => ⟨(hD t ht r hr).1, fun i l hz => ?_⟩, ?_, ?_, ?_, ?_, ?_⟩, fun t r j ht hr hj => ?_⟩
      · rw [hf _ _ (by omega) (by omega) (by omega), hf _ _ (by omega) (by omega) (by omega)]; exact (hD t ht r hr).2 i l hz
      · rw [hf _ _ (by omega) (by omega) (by omega)]; exact t8
      · rw [hf _ _ (by omega) (by omega) (by omega)]; exact t0
      · rw [hf _ _ (by omega) (by omega) (by omega)]; exact t1
      · rw [hf _ _ (by omega) (by omega) (by omega)]; exact t2
      · rw [hf _ _ (by omega) (by omega) (by omega)]; exact t3
      · rw [hf _ _ (by omega) (by omega) (by omega)]; exact g4 t r j ht hr hj
  · exact hc_same h5 (hf _ _ (by omega) (by omega) (by omega)) (hf _ _ (by omega) (by omega) (by omega)) (fun k => hf _ _ (by omega) (by omega) (by omega)) (fun x k g1 g2 => hf _ _ (by omega) (by omega) (by omega))
  · exact sc_same h6 (fun k => hf _ _ (by omega) (by omega) (by omega)) (fun x k g1 g2 => hf _ _ (by omega) (by omega) (by omega))
theorem m1_split (p : Int32) : p < -1 ∨ ¬ p < -1 := Classical.em _
theorem ok_forecast (hR : LRun E) (hM : LMod E) (hM2 : LMo2 E) (p0 p1 : Int32) : Ok (JJ CG' CM' MG' MM') (fX6_forecast E 0 p0 p1) (fX7_forecast E 395 p0 p1) := by
  refine ok_of (fun a hw => ?_)
  obtain ⟨r0, r1, r3, r4, r5, r8, r9, r10, r11, r12, r13, l1, l2, l35, l36, l37, l38, l39, l61, l63, l64, lp, ls⟩ := id hR
  obtain ⟨b0, rb0, rb1, rb3, rb4, rb5, rb6, lr, la4, lg, lm, la31, la32⟩ := id l2
  obtain ⟨m0, m1, m2, mz⟩ := id hM
  obtain ⟨n1, n2, nz'⟩ := id hM2
  have hwc := hw.2.2.1
  have hn := hwc.1
  have ht3 := hwc.2.2.2.1
  rcases pin p0 (lo := 1) (hi := 16) (by omega) (by omega) with ⟨B, hB, hB2, rfl⟩ | ⟨hz, hz2⟩
  · have hin : ∀ σ, fX7_in E (nI B) (1 : Int32) (16 : Int32) σ = some (1, σ) := fun σ => m_inN (l := 1) (h := 16) (by omega)
    have hc1 : ¬ nI B < 1 := nI_nlt (b := 1) hB (by omega)
    have hc2 : ¬ (16 : Int32) < nI B := nI_nlt (a := 16) hB2 (by omega)
    by_cases hk : p1 < -1
    · refine ⟨-1, a, hw, spc_q (fun σ hc => ⟨σ, ?_, fun _ _ _ => rfl, fun _ _ _ => rfl⟩), spm_q (fun σ hc => ⟨σ, ?_, fun _ _ _ => rfl, fun _ _ _ => rfl⟩)⟩
      · unfold fX6_forecast
        rw [tk_ok r0, if_neg hc1, if_neg hc2, if_pos hk]
      · unfold fX7_forecast
        rw [tk_ok m0, hin, bd_ok, if_neg (by decide), if_pos hk]
    by_cases ht : cT (aC a) = 2
    · have h0 := hwc.2.2.2.2.1 (by omega)
      have hgo := gok_c hwc h0 (hwc.2.2.2.2.2 (by omega))
      have hgv := gv_c hwc h0
      have hnr := (nr_c hwc h0).2
      obtain ⟨hw2, hT3, hT, hn1, _, hcap, hgd⟩ := id hgo
      generalize hrd : rsg (bkC (aC a)) (ldD (gvf (cS (aC a) 2) (cS (aC a) 1 / 2) (mK (miC (aC a)))) (mT (miC (aC a))) (cS (aC a) 1)) = rising
      have hfal : (bkC (aC a) && (ldD (gvf (cS (aC a) 2) (cS (aC a) 1 / 2) (mK (miC (aC a)))) (mT (miC (aC a))) (cS (aC a) 1) == some false)) = !rising := by
        rw [← hrd]
        cases ldD (gvf (cS (aC a) 2) (cS (aC a) 1 / 2) (mK (miC (aC a)))) (mT (miC (aC a))) (cS (aC a) 1) with
        | none => unfold rsg; cases bkC (aC a) <;> rfl
        | some d => unfold rsg; cases bkC (aC a) <;> cases d <;> rfl
      refine ⟨scR p1 (scn B (fun t => szl (glC (aC a)) (hdr (mT (miC (aC a)) t)).1) p1 ((lst (cF (aC a)) (cN (aC a)) (!rising)).filterMap (tko (cS (aC a) 2) (cS (aC a) 1) (roC (aC a)) (miC (aC a)))) (fun _ => 0) 0), a, hw, fun σ hc => ?_, spm_q (fun σ hc => ?_)⟩
      · obtain ⟨k1, k2, k3⟩ := cs_rr hc.2.2.2.1
        obtain ⟨x1, x2, x3, x4⟩ := cs_m hwc hc.2.2.2.1 (by omega)
        obtain ⟨g1, g2, g3, g4⟩ := cs_g hc.2.2.2.1 (by omega)
        have hlt : cI (aC a) < kst (cS (aC a) 2) (cS (aC a) 1) (nrC (aC a)) := by
          have h1 : cI (aC a) ≠ KC (aC a) := fun z => by have := x2.mpr z; omega
          unfold KC at h1 x1
          omega
        have hai : AI (cS (aC a) 1) (nrC (aC a)) (miC (aC a)) := mil_ai hgo (Nat.le_of_lt hlt)
        have hok : oks (cS (aC a) 2) (cS (aC a) 1) (cS (aC a) 1 / 2) (mK (miC (aC a))) = true := (mil_ok hgo hlt).1
        obtain ⟨s1, e1, q1, q2, q3, q4⟩ := c_lookR (m := 11) (N := 300) lm x3 hT hw2 (by omega) (by omega) hok
        have q4' : ∀ x k, x ≠ 15 → ¬ (x = 11 ∧ (k = 14 ∨ k = 15)) → gi s1 x k = gi σ x k := fun x k h1 h2 => q4 x k (by omega) h2
        unfold fX6_forecast
        rw [tk_ok r0, if_neg hc1, if_neg hc2, if_neg hk, dr_ok r3 l2.1, k3, ht, if_pos (show nI 2 = (2 : Int32) from rfl)]
        unfold fX4_fetchedTape
        rw [tk_ok b0, dr_ok (show rf E 2 4 = some 11 from rb4) lm.1, e1, bv_ok]
        obtain ⟨⟨v, s2⟩, e2, p1', p2'⟩ := for_in (F := fun (rec : Int32 × Sg → Option (Int32 × Sg)) (b : Int32 × Sg) => bX4_fetchedTape_9 E 2 (fun u0 t => rec (u0, t)) b.1 b.2) 6
          (fun i b => b.1 = nI i ∧ (∀ t, t < i → gi b.2 34 t = nI 0) ∧ ∀ x k, x ≠ 34 → gi b.2 x k = gi s1 x k) (fun b => (∀ t, t < 6 → gi b.2 34 t = nI 0) ∧ ∀ x k, x ≠ 34 → gi b.2 x k = gi s1 x k) (N := FU) (by show 6 < 1000000; omega)
          (by
            rintro i ⟨v, s⟩ rec hi ⟨rfl, f1, f2⟩
            dsimp only at f1 f2 ⊢
            unfold bX4_fetchedTape_9
            rw [i6, if_neg (nI_ge hi (by omega)), dr_ok (show rf E 2 6 = some 34 from rb6) (show cd E 34 = 100 from la32.1), show ln E 34 = 6 from la32.2, ck_n (by omega) (by omega), nI_clamp (by omega), ss_ok, lt_ok, ad1]
            refine ⟨_, rfl, rfl, fun t ht => ?_, fun x k hx => by dsimp only; rw [gs_ne (by omega)]; exact f2 x k hx⟩
            dsimp only
            by_cases hti : t = i
            · subst hti; rw [gs_eq]; rfl
            · rw [gs_ne (by omega)]; exact f1 t (by omega))
          (by
            rintro ⟨v, s⟩ rec ⟨rfl, q⟩
            unfold bX4_fetchedTape_9
            rw [i6, if_pos (nI_le (Nat.le_refl _) (by omega))]
            exact ⟨_, rfl, q⟩)
          (a := ((0 : Int32), s1)) ⟨rfl, fun t ht => absurd ht (Nat.not_lt_zero t), fun _ _ _ => rfl⟩
        dsimp only at p1' p2'
        rw [e2, bd_ok]
        obtain ⟨⟨o, s3⟩, e3, z1, z2⟩ := c_scan (σ := s2) (F := cF (aC a)) (n := cN (aC a)) (ro := roC (aC a)) (fal := !rising) (w := cS (aC a) 2) (T := cS (aC a) 1) (A := miC (aC a)) (bk := bkC (aC a)) l2 hT (by omega) hgv hai (rml_tr hT q1 (fun x k hx => p2' _ _ (by omega))) (fun t r j h1 h2 h3 => by rw [p2' _ _ (by omega), q4' _ _ (by omega) (by omega)]; exact x4 t r j h1 h2 h3) (fun t ht => by rw [p2' _ _ (by omega)]; exact q2 t ht) (by rw [p2' _ _ (by omega), q3, hfal]) (by rw [p2' _ _ (by omega), q4' _ _ (by omega) (by omega)]; exact k1.1) (fun i hi => by rw [p2' _ _ (by omega), q4' _ _ (by omega) (by omega)]; exact k1.2.2.1 i hi) (fun x hx => by rw [p2' _ _ (by omega), q4' _ _ (by omega) (by omega)]; exact g3 x hx) p1' hB hB2 p1
        dsimp only at z1 z2
        rw [e3, bd_ok, sc_fin z1, bd_ok]
        have hfr : ∀ x k, x ≠ 15 → x ≠ 34 → ¬ (x = 11 ∧ (k = 14 ∨ k = 15)) → gi s3 x k = gi σ x k := fun x k h1 h2 h3 => by rw [z2 _ _ h2, p2' _ _ h2, q4' _ _ h1 h3]
        exact ⟨s3, rfl, rc_look hw hc hfr, fun x k hx => hfr _ _ (by omega) (by omega) (by omega)⟩
      · obtain ⟨k1, k2, k3, k4, k5⟩ := mr_g hn hc.2.2.1
        obtain ⟨x1, x2, x3⟩ := mr_mm hwc hc.2.2.1 (by omega)
        have hlt : cI (aC a) < kst (cS (aC a) 2) (cS (aC a) 1) (nrC (aC a)) := by
          have h1 : cI (aC a) ≠ KC (aC a) := fun z => by have := x2.mpr z; omega
          unfold KC at h1 x1
          omega
        have hai : AI (cS (aC a) 1) (nrC (aC a)) (miC (aC a)) := mil_ai hgo (Nat.le_of_lt hlt)
        have hok : oks (cS (aC a) 2) (cS (aC a) 1) (cS (aC a) 1 / 2) (mK (miC (aC a))) = true := (mil_ok hgo hlt).1
        obtain ⟨s1, X, e1, w1, w2, w3, w4, w5⟩ := m_writes hM hM2 hgv hT hT3 hw2 hai hok x3
        rw [hrd] at e1 w1
        have hfm : (lst (cF (aC a)) (cN (aC a)) (!rising)).filterMap (tko (cS (aC a) 2) (cS (aC a) 1) (roC (aC a)) (miC (aC a))) = ((lst (cF (aC a)) (cN (aC a)) (!rising)).filter (fun x => (ctA (cS (aC a) 2) (cS (aC a) 1) (miC (aC a))).contains (roC (aC a) x))).map (fun x => (tko (cS (aC a) 2) (cS (aC a) 1) (roC (aC a)) (miC (aC a)) x).getD 0) := by
          rw [fmp_eq]
          congr 1
          exact List.filter_congr (fun x _ => tko_is)
        have hPl : ((lst (cF (aC a)) (cN (aC a)) (!rising)).filter (fun x => (ctA (cS (aC a) 2) (cS (aC a) 1) (miC (aC a))).contains (roC (aC a) x))).length ≤ 300 := Nat.le_trans (List.length_filter_le _ _) (by rw [lst_len]; exact hn)
        obtain ⟨⟨o, s2⟩, e2, z1, z2⟩ := m_scan (σ := s1) hM hM2 hT hgv hai w4 w3 hPl (fun x hx => by rw [tko_is]; exact (List.mem_filter.mp hx).2) w1 w2 hB hB2 p1
        rw [← hfm] at z1
        dsimp only at z1 z2
        unfold fX7_forecast
        rw [tk_ok m0, hin, bd_ok, if_neg (by decide), if_neg hk, dr_ok m1 n1.1, n1.2, i7, ck_n (by omega) (by omega), nI_clamp (by omega), k4, ht, if_pos (show nI 2 = (2 : Int32) from rfl), e1, bd_ok, e2, bd_ok, sc_fin z1]
        refine ⟨s2, rfl, fun x k he => ?_, fun x k hx => ?_⟩
        · unfold esM at he
          rw [z2 _ _ (by omega), w5 _ _ (by omega) (by omega)]
        · rw [z2 _ _ (by omega), w5 _ _ (by omega) (by omega)]
    · refine ⟨-1, a, hw, spc_q (fun σ hc => ⟨σ, ?_, fun _ _ _ => rfl, fun _ _ _ => rfl⟩), spm_q (fun σ hc => ⟨σ, ?_, fun _ _ _ => rfl, fun _ _ _ => rfl⟩)⟩
      · obtain ⟨k1, k2, k3⟩ := cs_rr hc.2.2.2.1
        unfold fX6_forecast
        rw [tk_ok r0, if_neg hc1, if_neg hc2, if_neg hk, dr_ok r3 l2.1, k3, if_neg (show ¬ nI (cT (aC a)) = 2 from fun q => ht ((nI_eq (b := 2) (by omega) (by omega)).mp q))]
      · obtain ⟨k1, k2, k3, k4, k5⟩ := mr_g hn hc.2.2.1
        unfold fX7_forecast
        rw [tk_ok m0, hin, bd_ok, if_neg (by decide), if_neg hk, dr_ok m1 n1.1, n1.2, i7, ck_n (by omega) (by omega), nI_clamp (by omega), k4, if_neg (show ¬ nI (cT (aC a)) = 2 from fun q => ht ((nI_eq (b := 2) (by omega) (by omega)).mp q))]
  · refine ⟨-1, a, hw, spc_q (fun σ hc => ⟨σ, ?_, fun _ _ _ => rfl, fun _ _ _ => rfl⟩), spm_q (fun σ hc => ⟨σ, ?_, fun _ _ _ => rfl, fun _ _ _ => rfl⟩)⟩
    · unfold fX6_forecast
      rw [tk_ok r0]
      rcases hz2 with h | ⟨h1, h2⟩
      · rw [if_pos (show p0 < 1 from h)]
      · rw [if_neg (show ¬ p0 < 1 from h1), if_pos (show (16 : Int32) < p0 from h2)]
    · unfold fX7_forecast
      rw [tk_ok m0, show fX7_in E p0 (1 : Int32) (16 : Int32) σ = some (0, σ) from m_inF hz, bd_ok, if_pos rfl]
end FO
