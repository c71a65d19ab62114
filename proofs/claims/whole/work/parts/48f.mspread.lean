/-! the reference spreads -/
section SQ
variable {E : En} {σ : Sg} {F : Nat → Nat} {n nr w T : Nat} {ro gl bg : Nat → Nat} {bk tu fr : Bool}
theorem bg_mono (hbg : ∀ r, r < nr → bg r + gl r = bg (r + 1) ∧ bg (r + 1) ≤ n) : ∀ r, r ≤ nr → bg 0 ≤ bg r
  | 0, _ => Nat.le_refl _
  | r + 1, h => by have := bg_mono hbg r (by omega); have := (hbg r (by omega)).1; omega
theorem m_spreadsP (hM : LMod E) (hM2 : LMo2 E) (hn : n ≤ 300) (hnr : nr ≤ 300) (hT : T ≤ 6) (hT3 : 3 ≤ T) (hw : w = 0 ∨ w = 2) (hc : Cap w T nr) (hsm : smp w (T - 1) (lvA w T nr) ≤ 700) (hs : SR σ F n w T bk) (h4 : gi σ 396 4 = nI (if fr then 1 else 0)) (hg : GRm σ F n ro gl bg tu nr) (hb0 : bg 0 = 0) (hx : DLr σ F n ro gl (fun _ => []) 0 0) (hn1 : 1 ≤ nr) :
    ∃ s X, fX7_spreadsPerfectly E 395 σ = some s ∧ DLr s F n ro gl X (smp w (T - 1) (lvA w T nr)) (bg nr) ∧ (∀ t, (X t).map (fun z => z.2.2) = tp0 w T bk fr tu nr t) ∧ gi s 396 13 = nI (T - 1) ∧ gi s 396 18 = nI (smp w (T - 1) (lvA w T nr) - nr) ∧ gi s 396 19 = nI (lvA w T nr) ∧ ∀ x k, esR x k → ¬ (403 ≤ x ∧ x ≤ 406) → ¬ (x = 396 ∧ (k = 13 ∨ k = 18 ∨ k = 19)) → gi s x k = gi σ x k := by
  obtain ⟨m0, m1, m2, m3, m4, m5, m6, m7, m8, m9, m10, m11, mz⟩ := id hM
  obtain ⟨n1, n2, n3, n4, n5, n6, n7, n8, n9, n10, n11, nz⟩ := id hM2
  have hw1 : w ≠ 1 := by omega
  obtain ⟨c1, c2, c3, c4, c5⟩ := cap_pf hc hw1
  generalize hl : lvA w T nr = l at *
  obtain ⟨l1, l2, l3⟩ := fstF_some c1
  simp only [decide_eq_false_iff_not] at l3
  have hpf : ∀ i, i < T - 1 → (pfn w (T - 1) l).getD i 0 = pfA w T l i := fun i hi => by unfold pfA; rw [if_pos hi]
  have hsum := pfA_sum (w := w) (T := T) (l := l)
  have htp : ∀ t, tp0 w T bk fr tu nr t = tpi bk tu (dms (pfA w T l) fr (T - 1) (smp w (T - 1) l - nr)) (dlt (fun t => pfA w T l t - dms (pfA w T l) fr (T - 1) (smp w (T - 1) l - nr) t) (T - 1) nr) t := fun t => by unfold tp0; rw [if_neg hw1]; unfold dlA dmA; rw [hl]
  generalize hpfd : pfA w T l = pf at *
  generalize hsmd : smp w (T - 1) l = sm at *
  unfold fX7_spreadsPerfectly
  rw [tk_ok m0, m_tapes hM hM2, bd_ok, hs.2.1, i1, sub_n (by omega), lt_ok, dr_ok m1 n1.1, n1.2, show (14 : Int32) = nI 14 from rfl, ck_n (by omega) (by omega), nI_clamp (by omega), hg.1, lt_ok, m_way hM hM2, bd_ok, hs.2.2.1]
  obtain ⟨s1, e1, p1, f1⟩ := m_layP (σ := σ) (w := w) (k := T - 1) (l := 0) hM hM2 (by omega) (by omega) hw (by omega)
  rw [i0, e1, bv_ok]
  obtain ⟨⟨v, s2⟩, e2, g0, g1, g2⟩ := for_in (F := fun (rec : Int32 × Sg → Option (Int32 × Sg)) (a : Int32 × Sg) => bX7_spreadsPerfectly_27 E 395 (nI (T - 1)) (nI nr) (fun u0 t => rec (u0, t)) a.1 a.2) l
    (fun i b => b.1 = nI i ∧ (∀ j, j < T - 1 → gi b.2 403 j = nI ((pfn w (T - 1) i).getD j 0)) ∧ ∀ x j, x ≠ 403 → x ≠ 404 → gi b.2 x j = gi σ x j)
    (fun b => b.1 = nI l ∧ (∀ j, j < T - 1 → gi b.2 403 j = nI ((pfn w (T - 1) l).getD j 0)) ∧ ∀ x j, x ≠ 403 → x ≠ 404 → gi b.2 x j = gi σ x j) (N := FU) (by show l < 1000000; omega)
    (by
      rintro i ⟨v, s⟩ rec hi ⟨rfl, q1, q2⟩
      dsimp only at q1 q2 ⊢
      have hsi := c3 i (by omega)
      have hlt := l3 i hi
      obtain ⟨s3, e3, p3, f3⟩ := m_layP (σ := s) (w := w) (k := T - 1) (l := i + 1) hM hM2 (by omega) (by omega) hw (by omega)
      unfold bX7_spreadsPerfectly_27
      rw [m_allP hM hM2 (by omega) q1, bd_ok]
      rw [show sumF (fun j => (pfn w (T - 1) i).getD j 0) (T - 1) = smp w (T - 1) i from rfl, if_neg (nI_ge (by omega) (by omega)), lt_ok, m_way hM hM2, bd_ok, q2 396 3 (by omega) (by omega), hs.2.2.1, ad1, e3, bv_ok]
      exact ⟨_, rfl, rfl, p3, fun x j h1 h2 => by dsimp only; rw [f3 _ _ h1 h2]; exact q2 x j h1 h2⟩)
    (by
      rintro ⟨v, s⟩ rec ⟨rfl, q1, q2⟩
      dsimp only at q1 q2 ⊢
      have hsi := c3 l (by omega)
      unfold bX7_spreadsPerfectly_27
      rw [m_allP hM hM2 (by omega) q1, bd_ok]
      rw [show sumF (fun j => (pfn w (T - 1) l).getD j 0) (T - 1) = sm from hsmd, if_pos (nI_le c4 (by omega))]
      exact ⟨_, rfl, rfl, q1, q2⟩)
    (a := (nI 0, s1)) ⟨rfl, p1, f1⟩
  dsimp only at g0 g1 g2
  subst g0
  rw [e2, bd_ok, show (19 : Int32) = nI 19 from rfl, ck_n (by omega) (by omega), nI_clamp (by omega), ss_ok, m_allP (σ := si s2 396 19 (nI l)) (P := fun j => (pfn w (T - 1) l).getD j 0) hM hM2 (by omega) (fun i hi => by rw [gs_ne (by omega)]; exact g1 i hi), bd_ok]
  rw [show sumF (fun j => (pfn w (T - 1) l).getD j 0) (T - 1) = sm from hsmd, sub_n c4, show (18 : Int32) = nI 18 from rfl, ck_n (by omega) (by omega), nI_clamp (by omega), ss_ok, ck_n (by omega) (by omega), gs_eq]
  generalize hs3 : si (si s2 396 19 (nI l)) 396 18 (nI (sm - nr)) = s3
  have f3 : ∀ x k, ¬ (x = 396 ∧ (k = 18 ∨ k = 19)) → x ≠ 403 → x ≠ 404 → gi s3 x k = gi σ x k := fun x k q1 q2 q3 => by rw [← hs3, gs_ne (by omega), gs_ne (by omega)]; exact g2 x k q2 q3
  have g318 : gi s3 396 18 = nI (sm - nr) := by rw [← hs3, gs_eq]
  have g319 : gi s3 396 19 = nI l := by rw [← hs3, gs_ne (by omega), gs_eq]
  have hx3 : DLr s3 F n ro gl (fun _ => []) 0 0 := by
    obtain ⟨y1, y2, y3, y4⟩ := hx
    exact ⟨xt_fr y1 (fun k _ => f3 _ _ (by omega) (by omega) (by omega)), by rw [f3 _ _ (by omega) (by omega) (by omega)]; exact y2, fun z hz => (by
      obtain ⟨t, _, hzt⟩ := catX_mem.mp hz
      cases hzt), y4⟩
  have h403 : ∀ t, t < T - 1 → gi s3 403 t = nI (pf t) ∧ pf t ≤ 253 := fun t ht => ⟨by rw [← hs3, gs_ne (by omega), gs_ne (by omega), g1 t ht, hpf t ht], c5 t ht⟩
  obtain ⟨s4, X4, e4, d4, x4, g45, g43, f4⟩ := m_dummies (fr := fr) (k := T - 1) (D := sm - nr) (pf := pf) hM hM2 hn (by omega) (by rw [f3 _ _ (by omega) (by omega) (by omega)]; exact h4) h403 (by omega) (by omega) hx3
  rw [e4, bv_ok]
  obtain ⟨dd1, dd2, dd3, dd4⟩ := dms_ok (pf := pf) (fr := fr) (k := T - 1) (n := sm - nr) (by omega)
  generalize hdd : dms pf fr (T - 1) (sm - nr) = d at *
  have hps : sumF (fun t => pf t - d t) (T - 1) = nr := by have := sumF_sub (f := pf) (g := d) (n := T - 1) dd2; omega
  obtain ⟨⟨v, s5⟩, e5, z1, z2⟩ := for_in (F := fun (rec : Int32 × Sg → Option (Int32 × Sg)) (a : Int32 × Sg) => bX7_spreadsPerfectly_89 E (nI (T - 1)) 395 (fun u0 t => rec (u0, t)) a.1 a.2) (T - 1)
    (fun i b => b.1 = nI i ∧ (∀ j, j < i → gi b.2 406 j = nI 0) ∧ ∀ x j, x ≠ 406 → gi b.2 x j = gi s4 x j) (fun b => (∀ j, j < T - 1 → gi b.2 406 j = nI 0) ∧ ∀ x j, x ≠ 406 → gi b.2 x j = gi s4 x j) (N := FU) (by show T - 1 < 1000000; omega)
    (by
      rintro i ⟨v, s⟩ rec hi ⟨rfl, q1, q2⟩
      dsimp only at q1 q2 ⊢
      unfold bX7_spreadsPerfectly_89
      rw [if_neg (nI_ge hi (by omega)), dr_ok m11 n11.1, n11.2, ck_n (by omega) (by omega), nI_clamp (by omega), ss_ok, lt_ok, ad1]
      refine ⟨_, rfl, rfl, fun j hj => ?_, fun x j hx => by dsimp only; rw [gs_ne (by omega)]; exact q2 x j hx⟩
      dsimp only
      by_cases hji : j = i
      · subst hji; rw [gs_eq]; rfl
      · rw [gs_ne (by omega)]; exact q1 j (by omega))
    (by
      rintro ⟨v, s⟩ rec ⟨rfl, q⟩
      unfold bX7_spreadsPerfectly_89
      rw [if_pos (nI_le (Nat.le_refl _) (by omega))]
      exact ⟨_, rfl, q⟩)
    (a := (nI 0, s4)) ⟨rfl, fun j hj => absurd hj (Nat.not_lt_zero j), fun _ _ _ => rfl⟩
  dsimp only at z1 z2
  rw [e5, bd_ok]
  have d5 : DLr s5 F n ro gl X4 (sm - nr) 0 := by
    obtain ⟨y1, y2, y3, y4⟩ := d4
    exact ⟨xt_fr y1 (fun k _ => z2 _ _ (by omega)), by rw [z2 _ _ (by omega)]; exact y2, fun z hz => ⟨(y3 z hz).1, dd_fr (y3 z hz).2.1 (z2 _ _ (by omega)) (z2 _ _ (by omega)) (z2 _ _ (by omega)) (fun i _ => z2 _ _ (by omega)), (y3 z hz).2.2⟩, y4⟩
  have f5 : ∀ x k, esR x k → ¬ (403 ≤ x ∧ x ≤ 406) → ¬ (x = 396 ∧ (k = 18 ∨ k = 19)) → gi s5 x k = gi σ x k := fun x k he h1 h2 => by
    rw [z2 _ _ (by omega), f4 x k he (by omega), f3 _ _ h2 (by omega) (by omega)]
  -- runs, one by one
  generalize hp : (fun t => pf t - d t) = p at *
  have hpt : ∀ t, p t = pf t - d t := fun t => by rw [← hp]
  obtain ⟨⟨v, s6⟩, e6, X6, w1, w2, w3⟩ := for_in (F := fun (rec : Int32 × Sg → Option (Int32 × Sg)) (a : Int32 × Sg) => bX7_spreadsPerfectly_112 E (nI nr) (nI (T - 1)) 395 (fun u0 t => rec (u0, t)) a.1 a.2) nr
    (fun r b => b.1 = nI r ∧ ∃ X, DLr b.2 F n ro gl X (sm - nr + r) (bg r) ∧ (∀ t, (X t).map (fun z => z.2.2) = tpi bk tu d (dlt p (T - 1) r) t) ∧ (∀ t, t < T - 1 → gi b.2 406 t = nI (dlt p (T - 1) r t).length ∧ gi b.2 405 t = nI (d t) ∧ gi b.2 403 t = nI (pf t)) ∧ (∀ x k, esR x k → x ≠ 406 → gi b.2 x k = gi s5 x k))
    (fun b => ∃ X, DLr b.2 F n ro gl X sm (bg nr) ∧ (∀ t, (X t).map (fun z => z.2.2) = tpi bk tu d (dlt p (T - 1) nr) t) ∧ (∀ x k, esR x k → x ≠ 406 → gi b.2 x k = gi s5 x k)) (N := FU) (by show nr < 1000000; omega)
    (by
      rintro r ⟨v, s⟩ rec hr ⟨rfl, X, w1, w2, w3, w4⟩
      dsimp only at w1 w3 w4 ⊢
      obtain ⟨r1, r2, r3, r4⟩ := dlt_ok (p := p) (k := T - 1) (by omega) (r := r) (by omega)
      have r4 := r4 (by omega)
      rw [show T - 1 - 1 = T - 2 by omega] at r4
      have hpl : ∀ (s' : Sg) i, (∀ x k, ¬ (x = 396) → gi s' x k = gi s x k) → i < T - 1 → fX7_placesLeft E 395 (nI i) s' = some (nI (p i - (dlt p (T - 1) r i).length), s') := by
        intro s' i hs' hi
        obtain ⟨y1, y2, y3⟩ := w3 i hi
        have q1 := r2 i hi
        have q2 := hpt i
        have q3 := dd2 i hi
        unfold fX7_placesLeft
        rw [tk_ok m0, dr_ok m8 n8.1, n8.2, ck_n (by omega) (by omega), dr_ok m10 n10.1, n10.2, ck_n (by omega) (by omega), dr_ok m11 n11.1, n11.2, ck_n (by omega) (by omega), nI_clamp (by omega), hs' _ _ (by omega), hs' _ _ (by omega), hs' _ _ (by omega), y1, y2, y3, sub_n (by omega), sub_n (by omega), ← q2]
      have hloop : fx (fun rec a => bX7_spreadsPerfectly_124 E (nI (T - 1)) 395 (fun u0 u1 t => rec ((u0, u1), t)) a.1.1 a.1.2 a.2) FU (((0 : Int32), (1 : Int32)), s) = some ((nI (amx (fun u => p u - (dlt p (T - 1) r u).length) (T - 2)), nI (T - 1)), s) := by
        refine for_tr (T - 2) (fun i => ((nI (amx (fun u => p u - (dlt p (T - 1) r u).length) i), nI (i + 1)), s)) (by show T - 2 < 1000000; omega) (fun i rec hi => ?_) (fun rec => ?_) rfl
        · have hle := amx_le (fun u => p u - (dlt p (T - 1) r u).length) i
          have hb1 : ∀ u, u < T - 1 → p u - (dlt p (T - 1) r u).length < 2 ^ 31 := fun u hu => by have := hpt u; have := c5 u hu; omega
          dsimp only
          unfold bX7_spreadsPerfectly_124
          rw [if_neg (nI_ge (by omega) (by omega)), hpl s (i + 1) (fun _ _ _ => rfl) (by omega), bd_ok, hpl s _ (fun _ _ _ => rfl) (by omega), bd_ok]
          have ea : amx (fun u => p u - (dlt p (T - 1) r u).length) (i + 1) = if p (amx (fun u => p u - (dlt p (T - 1) r u).length) i) - (dlt p (T - 1) r (amx (fun u => p u - (dlt p (T - 1) r u).length) i)).length < p (i + 1) - (dlt p (T - 1) r (i + 1)).length then i + 1 else amx (fun u => p u - (dlt p (T - 1) r u).length) i := rfl
          rw [ea]
          by_cases hcc : p (i + 1) - (dlt p (T - 1) r (i + 1)).length ≤ p (amx (fun u => p u - (dlt p (T - 1) r u).length) i) - (dlt p (T - 1) r (amx (fun u => p u - (dlt p (T - 1) r u).length) i)).length
          · rw [if_pos (nI_le hcc (hb1 _ (by omega))), bd_ok, lt_ok, ad1, if_neg (by omega)]
          · rw [if_neg (nI_ge (by omega) (hb1 _ (by omega))), bd_ok, lt_ok, ad1, if_pos (by omega)]
        · unfold bX7_spreadsPerfectly_124
          dsimp only
          rw [show T - 2 + 1 = T - 1 by omega, if_pos (nI_le (Nat.le_refl _) (by omega))]
      generalize hb : amx (fun u => p u - (dlt p (T - 1) r u).length) (T - 2) = b at *
      have hbk' : b < T - 1 := by have := amx_le (fun u => p u - (dlt p (T - 1) r u).length) (T - 2); omega
      obtain ⟨y1, y2, y3⟩ := w3 b hbk'
      have hXl : (X b).length = d b + (dlt p (T - 1) r b).length := by rw [← List.length_map (f := fun z : Dn => z.2.2), w2 b, tpi_len]
      have hcb := c5 b hbk'
      have hpb := hpt b
      have hdb := dd2 b hbk'
      unfold bX7_spreadsPerfectly_112
      rw [if_neg (nI_ge hr (by omega)), hloop, bd_ok]
      dsimp only
      rw [dr_ok m11 n11.1, n11.2, ck_n (by omega) (by omega), ck_n (by omega) (by omega), nI_clamp (by omega), y1, ad1, ss_ok]
      have hd6 : DLr (si s 406 b (nI ((dlt p (T - 1) r b).length + 1))) F n ro gl X (sm - nr + r) (bg r) := by
        obtain ⟨q1, q2, q3, q4⟩ := w1
        exact ⟨xt_fr q1 (fun k _ => gs_ne (by omega)), by rw [gs_ne (by omega)]; exact q2, fun z hz => ⟨(q3 z hz).1, dd_fr (q3 z hz).2.1 (gs_ne (by omega)) (gs_ne (by omega)) (gs_ne (by omega)) (fun i _ => gs_ne (by omega)), (q3 z hz).2.2⟩, q4⟩
      have hfr : ∀ k, k < 13 ∨ k = 14 ∨ (26 ≤ k ∧ k < 1227) ∨ 7527 ≤ k → gi (si s 406 b (nI ((dlt p (T - 1) r b).length + 1))) 396 k = gi σ 396 k := fun k hk => by
        rw [gs_ne (by omega), w4 396 k (by unfold esR; omega) (by omega)]; exact f5 396 k (by unfold esR; omega) (by omega) (by omega)
      obtain ⟨s7, e7, d7, f7⟩ := m_dealRun (σ := si s 406 b (nI ((dlt p (T - 1) r b).length + 1))) (tu := tu) (d := d b) hM hM2 hn hnr (sr_fr hs hn (fun k hk => hfr _ (by omega))) (gr_fr hg hnr (fun k hk => hfr _ (by omega))) hd6 (by omega) (t := b) (by omega) (by omega) hr (by omega) (by omega) (fun _ => by rw [if_neg hw1, gs_ne (by omega)]; exact y2)
      rw [e7, bv_ok, lt_ok, ad1]
      have hnx : ∀ t, dlt p (T - 1) (r + 1) t = if t = b then dlt p (T - 1) r t ++ [r] else dlt p (T - 1) r t := fun t => by
        show (if t = amx (fun u => p u - (dlt p (T - 1) r u).length) (T - 1 - 1) then _ else _) = _
        rw [show T - 1 - 1 = T - 2 by omega, hb]
      refine ⟨_, rfl, rfl, _, d7, fun t => ?_, fun t ht => ?_, fun x k he h6 => ?_⟩
      · exact tpi_add (w2 t) (hnx t)
      · obtain ⟨v1, v2, v3⟩ := w3 t ht
        have u6 : ∀ x, x = 405 ∨ x = 403 ∨ x = 406 → gi s7 x t = gi (si s 406 b (nI ((dlt p (T - 1) r b).length + 1))) x t := fun x hx => f7 x t (by unfold esR; omega)
        dsimp only
        rw [u6 406 (by omega), u6 405 (by omega), u6 403 (by omega), hnx]
        refine ⟨?_, by rw [gs_ne (by omega)]; exact v2, by rw [gs_ne (by omega)]; exact v3⟩
        by_cases htb : t = b
        · subst htb; rw [gs_eq, if_pos rfl, List.length_append]; rfl
        · rw [if_neg htb, gs_ne (by omega)]; exact v1
      · dsimp only; rw [f7 x k he, gs_ne (by omega)]; exact w4 x k he (by assumption))
    (by
      rintro ⟨v, s⟩ rec ⟨rfl, X, w1, w2, w3, w4⟩
      dsimp only at w1 w4 ⊢
      unfold bX7_spreadsPerfectly_112
      rw [if_pos (nI_le (Nat.le_refl _) (by omega))]
      rw [show sm - nr + nr = sm by omega] at w1
      exact ⟨_, rfl, X, w1, w2, w4⟩)
    (a := (nI 0, s5)) ⟨rfl, X4, by rw [hb0]; exact d5, fun t => by rw [x4 t]; unfold tpi; cases bk <;> simp [dlt], fun t ht => ⟨z1 t ht, by rw [z2 _ _ (by omega)]; exact g45 t ht, by rw [z2 _ _ (by omega)]; exact g43 t ht⟩, fun _ _ _ _ => rfl⟩
  dsimp only at w1 w3
  rw [e6, bd_ok, show (13 : Int32) = nI 13 from rfl, ck_n (by omega) (by omega), nI_clamp (by omega), ss_ok]
  refine ⟨_, X6, rfl, ?_, fun t => by rw [w2 t, htp t], gs_eq, ?_, ?_, fun x k he h1 h2 => ?_⟩
  · obtain ⟨q1, q2, q3, q4⟩ := w1
    exact ⟨xt_fr q1 (fun k _ => gs_ne (by omega)), by rw [gs_ne (by omega)]; exact q2, fun z hz => ⟨(q3 z hz).1, dd_fr (q3 z hz).2.1 (gs_ne (by omega)) (gs_ne (by omega)) (gs_ne (by omega)) (fun i _ => gs_ne (by omega)), (q3 z hz).2.2⟩, q4⟩
  · rw [gs_ne (by omega), w3 _ _ (by unfold esR; omega) (by omega), z2 _ _ (by omega), f4 _ _ (by unfold esR; omega) (by omega)]; exact g318
  · rw [gs_ne (by omega), w3 _ _ (by unfold esR; omega) (by omega), z2 _ _ (by omega), f4 _ _ (by unfold esR; omega) (by omega)]; exact g319
  · rw [gs_ne (by omega), w3 x k he (by omega)]; exact f5 x k he h1 (by omega)
end SQ
