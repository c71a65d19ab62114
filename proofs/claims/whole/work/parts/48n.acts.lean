/-! undo, keep, back, record, sorted -/
section UN
variable {E : En}
theorem ok_undo (hR : LRun E) (hM : LMod E) (hM2 : LMo2 E) : Ok (JJ CG' CM' MG' MM') (fX6_undo E 0) (fX7_undo E 395) := by
  refine ok_of (fun a hw => ?_)
  obtain ⟨r0, r1, r3, r4, r5, r8, r9, r10, r11, r12, r13, l1, l2, l35, l36, l37, l38, l39, l61, l63, l64, lp, ls⟩ := id hR
  have m0 := hM.1
  obtain ⟨w1, w2, w3, w4, w5, w6, w7⟩ := id hw
  cases hh : aH a with
  | nil =>
    refine ⟨-1, a, hw, spc_q (fun σ hc => ⟨σ, ?_, fun _ _ _ => rfl, fun _ _ _ => rfl⟩), spm_q (fun σ hc => ⟨σ, ?_, fun _ _ _ => rfl, fun _ _ _ => rfl⟩)⟩
    · have := hc.2.2.2.2.1.1
      rw [hh] at this
      unfold fX6_undo; rw [tk_ok r0, this, if_neg (by simp; rfl)]
    · have := hc.2.2.2.1.1
      rw [hh] at this
      unfold fX7_undo; rw [tk_ok m0, this, if_neg (by simp; rfl)]
  | cons q h =>
    rw [hh] at w5 w6
    simp only [List.length_cons] at w5
    obtain ⟨wq1, wq2⟩ := w6 q List.mem_cons_self
    refine ⟨nI h.length, (aB a, aN a, q.1, q.2, h, aS a), ⟨w1, w2, wq1, wq2, by show h.length ≤ 8; omega, fun q' hq' => w6 q' (List.mem_cons_of_mem _ hq'), w7⟩, fun σ hc => ?_, fun σ hc => ?_⟩
    · obtain ⟨c1, c2, c3, c4, ⟨c5, p, hp, c6, c7⟩, c8⟩ := hc
      rw [hh] at c5 c7
      simp only [List.length_cons] at c5
      have hpp : (p + 8 - 1) % 8 < 8 := Nat.mod_lt _ (by omega)
      obtain ⟨lp1, lp2⟩ := lp _ hpp
      obtain ⟨q1, q2⟩ := c7 0 q rfl
      have hidx : (p + 15 - 0) % 8 = (p + 8 - 1) % 8 := by omega
      rw [hidx] at q1 q2
      unfold fX6_undo
      rw [tk_ok r0, c5, if_pos (nI_ne0 (by omega) (by omega)), ss_ok, c6, i8, nI_add, i1, sub_n (by omega), im_n (by omega) (by omega) (by omega), dr_ok r3 l2.1, dr_ok r4 l35.1, gs_eq, l35.2, ck_n hpp (by omega), nI_clamp (by omega), dr_ok lp1 lp2.1]
      generalize hs1 : si σ 0 7 (nI ((p + 8 - 1) % 8)) = s1
      have f1 : ∀ x k, ¬ (x = 0 ∧ k = 7) → gi s1 x k = gi σ x k := fun x k hx => by rw [← hs1, gs_ne (by omega)]
      generalize hpd : (p + 8 - 1) % 8 = p' at *
      obtain ⟨s, e1, e2, e3⟩ := cpy_ok s1 2 (65 + 33 * p') q.1 l2 lp2 (Or.inl (by omega)) wq1 (by rw [lc_same (σ := σ) (fun x k g1 g2 => f1 _ _ (by omega))]; exact q1)
      have g7 : gi s 0 7 = nI p' := by rw [e3 _ _ (by omega), ← hs1, gs_eq]
      have g36 : gi s 36 p' = nI q.2 := by rw [e3 _ _ (by omega), f1 _ _ (by omega)]; exact q2
      have g6 : gi s 0 6 = nI (h.length + 1) := by rw [e3 _ _ (by omega), f1 _ _ (by omega)]; exact c5
      have e6 : gi (si s 0 2 (nI q.2)) 0 6 = nI (h.length + 1) := by rw [gs_ne (by omega), g6]
      rw [e1, bv_ok, dr_ok r5 l36.1, g7, l36.2, ck_n (by omega) (by omega), nI_clamp (by omega), g36, ss_ok, ss_ok, e6, sub_n (by omega), show h.length + 1 - 1 = h.length by omega, gs_eq]
      have fr : ∀ x k, (x < 2 ∨ 35 ≤ x) → ¬ (x = 0 ∧ (k = 2 ∨ k = 6 ∨ k = 7)) → gi (si (si s 0 2 (nI q.2)) 0 6 (nI h.length)) x k = gi σ x k := fun x k h1 h2 => by rw [gs_ne (by omega), gs_ne (by omega), e3 _ _ h1, f1 _ _ (by omega)]
      refine ⟨_, rfl, ⟨?_, fun i hi => ?_, ?_, ?_, ⟨gs_eq, p', by omega, ?_, fun i q' hq' => ?_⟩, ?_⟩, fun x k hx => fr _ _ (by omega) (by omega)⟩
      · rw [fr _ _ (by omega) (by omega)]; exact c1
      · rw [fr _ _ (by omega) (by omega)]; exact c2 i hi
      · rw [gs_ne (by omega), gs_eq]
      · rw [lc_same (σ := s) (fun x k g1 g2 => by rw [gs_ne (by omega), gs_ne (by omega)])]; exact e2
      · rw [gs_ne (by omega), gs_ne (by omega)]; exact g7
      · obtain ⟨z1, z2⟩ := c7 (i + 1) q' (by simpa using hq')
        have hil := (List.getElem?_eq_some_iff.mp hq').1
        have hil : i < h.length := hil
        have e : (p' + 15 - i) % 8 = (p + 15 - (i + 1)) % 8 := by omega
        rw [e]
        refine ⟨?_, by rw [fr _ _ (by omega) (by omega)]; exact z2⟩
        rw [lc_same (σ := σ) (fun x k g1 g2 => fr _ _ (by omega) (by omega))]; exact z1
      · exact sc_same c8 (fun k => fr _ _ (by omega) (by omega)) (fun x k g1 g2 => fr _ _ (by omega) (by omega))
    · obtain ⟨c1, c2, c3, ⟨c4, c5⟩, c6⟩ := hc
      rw [hh] at c4 c5
      simp only [List.length_cons] at c4 c5
      unfold fX7_undo
      rw [tk_ok m0, c4, if_pos (nI_ne0 (by omega) (by omega)), ss_ok, i1, sub_n (by omega), show h.length + 1 - 1 = h.length by omega, dr_ok hM.2.2.2.1 hM2.2.2.1.1, gs_eq, show (7827 : Int32) = nI 7827 from rfl, pk_mul]
      obtain ⟨s, e1, e2⟩ := mlays (σ := si σ 395 4 (nI h.length)) hM hM2 (off := 7827 * h.length) hM2.2.2.1 (by omega) (by omega) (by omega)
      have g4 : gi s 395 4 = nI h.length := by rw [e2, if_neg (by omega), gs_eq]
      rw [e1, bv_ok, g4]
      have fr : ∀ x k, x ≠ 396 → ¬ (x = 395 ∧ k = 4) → gi s x k = gi σ x k := fun x k h1 h2 => by rw [e2, if_neg (by omega), gs_ne (by omega)]
      refine ⟨s, rfl, ⟨?_, fun i hi => ?_, ?_, ⟨g4, fun i q' hq' => ?_⟩, ?_⟩, fun x k hx => fr _ _ (by omega) (by omega)⟩
      · rw [fr _ _ (by omega) (by omega)]; exact c1
      · rw [fr _ _ (by omega) (by omega)]; exact c2 i hi
      · have := c5 0 q rfl
        have er : rw7 s 396 0 = rw7 σ 398 (7827 * (h.length + 1 - 1 - 0)) := by
          funext k
          unfold rw7
          split
          · next hk => rw [e2, if_pos ⟨rfl, by omega⟩, gs_ne (by omega), show h.length + 1 - 1 - 0 = h.length by omega, Nat.zero_add]
          · rfl
        rw [er]; exact this
      · have := c5 (i + 1) q' (by simpa using hq')
        rw [rw_same (σ := σ) (fun k => fr _ _ (by omega) (by omega))]
        have hil := (List.getElem?_eq_some_iff.mp hq').1
        have hil : i < h.length := hil
        rw [show h.length + 1 - 1 - (i + 1) = h.length - 1 - i by omega] at this
        exact this
      · exact sm_same c6 (fr _ _ (by omega) (by omega)) (fun k => fr _ _ (by omega) (by omega))
theorem sh_or : ∀ w, w < 4 → ∀ j, j < 2 → (nI w ||| ((1 : Int32) <<< (nI j &&& 31)) = nI (w ||| 2 ^ j) ∧ w ||| 2 ^ j < 4) ∧ ((nI w >>> (nI j &&& 31)) &&& 1 = bI (w.testBit j)) ∧ ∀ i, i < 2 → (w ||| 2 ^ j).testBit i = (w.testBit i || (i == j)) := by decide +kernel
/-- a shelf's number, or none -/
theorem shelf (p : Int32) : (∃ j, j < 2 ∧ p = nI j) ∨ ((p < 0 ∨ (¬ p < 0 ∧ ¬ p < 2)) ∧ ¬ ((0 : Int32) ≤ p ∧ p ≤ 1)) := by
  rcases pk_ix p (n := 2) (by omega) with h | h | ⟨j, hj, rfl⟩
  · exact Or.inr ⟨Or.inl h, fun q => absurd q.1 (Int32.not_le.mpr h)⟩
  · have h2 : ¬ p < 2 := Int32.not_lt.mpr h
    have h0 : ¬ p < 0 := fun q => h2 (Int32.lt_trans q (by decide))
    refine Or.inr ⟨Or.inr ⟨h0, h2⟩, fun q => ?_⟩
    have : nI 2 ≤ (1 : Int32) := Int32.le_trans h q.2
    exact absurd this (by decide)
  · exact Or.inl ⟨j, hj, rfl⟩
theorem ok_keep (hR : LRun E) (hM : LMod E) (hM2 : LMo2 E) (p0 : Int32) : Ok (JJ CG' CM' MG' MM') (fX6_keep E 0 p0) (fX7_keep E 395 p0) := by
  refine ok_of (fun a hw => ?_)
  obtain ⟨r0, r1, r3, r4, r5, r8, r9, r10, r11, r12, r13, l1, l2, l35, l36, l37, l38, l39, l61, l63, l64, lp, ls⟩ := id hR
  have m0 := hM.1
  obtain ⟨w1, w2, w3, w4, w5, w6, w7⟩ := id hw
  rcases shelf p0 with ⟨j, hj, rfl⟩ | ⟨hq, hq2⟩
  · refine ⟨nI (cN (aC a)), (aB a, aN a, aC a, aX a, aH a, fun i => if i = j then some (aC a, aX a) else aS a i), ⟨w1, w2, w3, w4, w5, w6, fun i q hiq => ?_⟩, fun σ hc => ?_, fun σ hc => ?_⟩
    · have hiq : (if i = j then some (aC a, aX a) else aS a i) = some q := hiq
      split at hiq
      · injection hiq with hiq; subst hiq; exact w3
      · exact w7 i q hiq
    · obtain ⟨c1, c2, c3, c4, c5, c8⟩ := hc
      obtain ⟨ls1, ls2⟩ := ls j hj
      obtain ⟨s, e1, e2, e3⟩ := cpy_ok σ (329 + 33 * j) 2 (aC a) ls2 l2 (Or.inr (by omega)) w3 c4
      have hsz := (cs_rr c4).1.1
      unfold fX6_keep
      rw [tk_ok r0, if_neg (nI_pos (by omega)), i2, if_pos (nI_lt hj (by omega)), dr_ok r8 l37.1, l37.2, ck_n hj (by omega), nI_clamp (by omega), dr_ok ls1 ls2.1, dr_ok r3 l2.1, e1, bv_ok, dr_ok r9 l38.1, l38.2, ck_n hj (by omega), ss_ok, dr_ok l2.2.1 l2.2.2.2.2.2.2.2.1.1, show vp_nar .boolean (1 : Int32) = bI true by decide]
      have fr : ∀ x k, ¬ (329 + 33 * j ≤ x ∧ x < 329 + 33 * j + 33) → ¬ (x = 38 ∧ k = j) → gi (si s 38 j (bI true)) x k = gi σ x k := fun x k h1 h2 => by rw [gs_ne (by omega), e3 _ _ (by omega)]
      refine ⟨si s 38 j (bI true), ?_, ⟨?_, fun i hi => ?_, ?_, ?_, ?_, fun i hi => ?_⟩, fun x k hx => fr _ _ (by omega) (by omega)⟩
      · show some (gi (si s 38 j (bI true)) 3 2, _) = _
        rw [fr _ _ (by omega) (by omega), hsz]
      · rw [fr _ _ (by omega) (by omega)]; exact c1
      · rw [fr _ _ (by omega) (by omega)]; exact c2 i hi
      · rw [fr _ _ (by omega) (by omega)]; exact c3
      · rw [lc_same (σ := σ) (fun x k g1 g2 => fr _ _ (by omega) (by omega))]; exact c4
      · exact hc_same c5 (fr _ _ (by omega) (by omega)) (fr _ _ (by omega) (by omega)) (fun k => fr _ _ (by omega) (by omega)) (fun x k g1 g2 => fr _ _ (by omega) (by omega))
      · obtain ⟨z1, z2⟩ := c8 i hi
        show gi _ 38 i = bI (if i = j then some (aC a, aX a) else aS a i).isSome ∧ ∀ q, (if i = j then some (aC a, aX a) else aS a i) = some q → _
        by_cases hij : i = j
        · subst hij
          rw [if_pos rfl]
          refine ⟨gs_eq, fun q hq => ?_⟩
          injection hq with hq; subst hq
          rw [lc_same (σ := s) (fun x k g1 g2 => gs_ne (by omega))]; exact e2
        · rw [if_neg hij]
          refine ⟨by rw [fr _ _ (by omega) (by omega)]; exact z1, fun q hq => ?_⟩
          rw [lc_same (σ := σ) (fun x k g1 g2 => fr _ _ (by omega) (by omega))]; exact z2 q hq
    · obtain ⟨c1, c2, c3, c4, w, hwl, c6, c7⟩ := hc
      obtain ⟨⟨o1, o2⟩, o3, o4⟩ := sh_or w hwl j hj
      obtain ⟨s, e1, e2⟩ := mkeep (σ := σ) hM hM2 (off := 7827 * j) hM2.2.2.2.1 (by omega) (by omega) (by omega)
      have g5 : gi s 395 5 = nI w := by rw [e2, if_neg (by omega)]; exact c6
      have k1 := (mr_g w3.1 c3).1
      unfold fX7_keep
      rw [tk_ok m0, i0, i1, m_inN (by omega), bd_ok, if_pos (by decide), dr_ok hM.2.2.2.2.1 hM2.2.2.2.1.1, show (7827 : Int32) = nI 7827 from rfl, pk_mul, e1, bv_ok, ss_ok, g5, show nI 1 = (1 : Int32) from rfl, o1, m_many hM hM2, bd_ok, gs_ne (by omega), e2, if_neg (by omega), k1]
      have fr : ∀ x k, x ≠ 399 → ¬ (x = 395 ∧ k = 5) → gi (si s 395 5 (nI (w ||| 2 ^ j))) x k = gi σ x k := fun x k h1 h2 => by rw [gs_ne (by omega), e2, if_neg (by omega)]
      refine ⟨_, rfl, ⟨?_, fun i hi => ?_, ?_, ?_, w ||| 2 ^ j, o2, gs_eq, fun i hi => ?_⟩, fun x k hx => fr _ _ (by omega) (by omega)⟩
      · rw [fr _ _ (by omega) (by omega)]; exact c1
      · rw [fr _ _ (by omega) (by omega)]; exact c2 i hi
      · rw [rw_same (σ := σ) (fun k => fr _ _ (by omega) (by omega))]; exact c3
      · exact hm_same c4 (fr _ _ (by omega) (by omega)) (fun k => fr _ _ (by omega) (by omega))
      · obtain ⟨z1, z2⟩ := c7 i hi
        show (w ||| 2 ^ j).testBit i = (if i = j then some (aC a, aX a) else aS a i).isSome ∧ ∀ q, (if i = j then some (aC a, aX a) else aS a i) = some q → _
        rw [o4 i hi, z1]
        by_cases hij : i = j
        · subst hij
          rw [if_pos rfl]
          refine ⟨by simp, fun q hq => ?_⟩
          injection hq with hq; subst hq
          have er : rw7 (si s 395 5 (nI (w ||| 2 ^ i))) 399 (7827 * i) = rw7 σ 396 0 := by
            funext k
            unfold rw7
            split
            · next hk => rw [gs_ne (by omega), e2, if_pos (by omega), show 7827 * i + k - 7827 * i = 0 + k by omega]
            · rfl
          rw [er]; exact c3
        · have hij' : (i == j) = false := by simpa using hij
          rw [if_neg hij, hij', Bool.or_false]
          refine ⟨rfl, fun q hq => ?_⟩
          have er : rw7 (si s 395 5 (nI (w ||| 2 ^ j))) 399 (7827 * i) = rw7 σ 399 (7827 * i) := by
            funext k
            unfold rw7
            split
            · next hk => rw [gs_ne (by omega), e2, if_neg (by omega)]
            · rfl
          rw [er]; exact z2 q hq
  · refine ⟨-1, a, hw, spc_q (fun σ hc => ⟨σ, ?_, fun _ _ _ => rfl, fun _ _ _ => rfl⟩), spm_q (fun σ hc => ⟨σ, ?_, fun _ _ _ => rfl, fun _ _ _ => rfl⟩)⟩
    · unfold fX6_keep
      rw [tk_ok r0]
      rcases hq with h | ⟨h1, h2⟩
      · rw [if_pos h]
      · rw [if_neg h1, if_neg h2]
    · unfold fX7_keep
      rw [tk_ok m0, m_inF hq2, bd_ok, if_neg (by simp)]
theorem ok_back (hR : LRun E) (hM : LMod E) (hM2 : LMo2 E) (p0 : Int32) : Ok (JJ CG' CM' MG' MM') (fX6_back E 0 p0) (fX7_back E 395 p0) := by
  refine ok_of (fun a hw => ?_)
  obtain ⟨r0, r1, r3, r4, r5, r8, r9, r10, r11, r12, r13, l1, l2, l35, l36, l37, l38, l39, l61, l63, l64, lp, ls⟩ := id hR
  have m0 := hM.1
  obtain ⟨w1, w2, w3, w4, w5, w6, w7⟩ := id hw
  rcases shelf p0 with ⟨j, hj, rfl⟩ | ⟨hq, hq2⟩
  · cases hs : aS a j with
    | none =>
      refine ⟨-2, a, hw, spc_q (fun σ hc => ⟨σ, ?_, fun _ _ _ => rfl, fun _ _ _ => rfl⟩), spm_q (fun σ hc => ⟨σ, ?_, fun _ _ _ => rfl, fun _ _ _ => rfl⟩)⟩
      · have z1 := (hc.2.2.2.2.2 j hj).1
        rw [hs] at z1
        unfold fX6_back
        rw [tk_ok r0, if_neg (nI_pos (by omega)), i2, if_pos (nI_lt hj (by omega)), dr_ok r9 l38.1, l38.2, ck_n hj (by omega), nI_clamp (by omega), z1, if_neg (by simp; rfl)]
      · obtain ⟨c1, c2, c3, c4, w, hwl, c6, c7⟩ := hc
        have z1 := (c7 j hj).1
        rw [hs] at z1
        have o3 := (sh_or w hwl j hj).2.1
        unfold fX7_back
        rw [tk_ok m0, i0, i1, m_inN (by omega), bd_ok, if_pos (by decide), c6, show nI 1 = (1 : Int32) from rfl, o3, z1, if_neg (by simp; rfl)]
    | some q =>
      have wq := w7 j q hs
      refine ⟨nI (cN q.1), (aB a, aN a, q.1, aX a, [], aS a), ⟨w1, w2, wq, w4, Nat.zero_le _, fun q' hq' => absurd hq' List.not_mem_nil, w7⟩, fun σ hc => ?_, fun σ hc => ?_⟩
      · obtain ⟨c1, c2, c3, c4, ⟨c5, p, hp, c6, c7⟩, c8⟩ := hc
        obtain ⟨ls1, ls2⟩ := ls j hj
        obtain ⟨z1, z2⟩ := c8 j hj
        rw [hs] at z1
        obtain ⟨s, e1, e2, e3⟩ := cpy_ok σ 2 (329 + 33 * j) q.1 l2 ls2 (Or.inl (by omega)) wq (z2 q hs)
        have hsz := (cs_rr e2).1.1
        unfold fX6_back
        rw [tk_ok r0, if_neg (nI_pos (by omega)), i2, if_pos (nI_lt hj (by omega)), dr_ok r9 l38.1, l38.2, ck_n hj (by omega), nI_clamp (by omega), z1, if_pos (show ¬ bI (some q).isSome = 0 by rw [Option.isSome_some]; decide), dr_ok r3 l2.1, dr_ok r8 l37.1, l37.2, ck_n hj (by omega), dr_ok ls1 ls2.1, e1, bv_ok, ss_ok, dr_ok l2.2.1 l2.2.2.2.2.2.2.2.1.1]
        have fr : ∀ x k, (x < 2 ∨ 35 ≤ x) → ¬ (x = 0 ∧ k = 6) → gi (si s 0 6 0) x k = gi σ x k := fun x k h1 h2 => by rw [gs_ne (by omega), e3 _ _ h1]
        refine ⟨si s 0 6 0, ?_, ⟨?_, fun i hi => ?_, ?_, ?_, ⟨gs_eq, p, hp, ?_, fun i q' hq' => (by have hq' : ([] : List (Cu × Nat))[i]? = some q' := hq'; simp at hq')⟩, ?_⟩, fun x k hx => fr _ _ (by omega) (by omega)⟩
        · show some (gi (si s 0 6 0) 3 2, _) = _
          rw [gs_ne (by omega), hsz]
        · rw [fr _ _ (by omega) (by omega)]; exact c1
        · rw [fr _ _ (by omega) (by omega)]; exact c2 i hi
        · rw [fr _ _ (by omega) (by omega)]; exact c3
        · rw [lc_same (σ := s) (fun x k g1 g2 => gs_ne (by omega))]; exact e2
        · rw [fr _ _ (by omega) (by omega)]; exact c6
        · exact sc_same c8 (fun k => fr _ _ (by omega) (by omega)) (fun x k g1 g2 => fr _ _ (by omega) (by omega))
      · obtain ⟨c1, c2, c3, c4, w, hwl, c6, c7⟩ := hc
        have hz := c7 j hj
        rw [hs] at hz
        have o3 := (sh_or w hwl j hj).2.1
        obtain ⟨s, e1, e2⟩ := mlays (σ := σ) hM hM2 (off := 7827 * j) hM2.2.2.2.1 (by omega) (by omega) (by omega)
        have k8 : gi σ 396 8 = nI (aX a) := (mr_g w3.1 c3).2.2.2.2
        have hmr := hz.2 q rfl
        unfold fX7_back
        rw [tk_ok m0, i0, i1, m_inN (by omega), bd_ok, if_pos (by decide), c6, show nI 1 = (1 : Int32) from rfl, o3, hz.1, if_pos (show ¬ bI (some q).isSome = nI 0 by rw [Option.isSome_some]; decide), dr_ok hM.2.1 hM2.1.1, hM2.1.2, i8, ck_n (by omega) (by omega), lt_ok, nI_clamp (by omega), k8, dr_ok hM.2.2.2.2.1 hM2.2.2.2.1.1, show (7827 : Int32) = nI 7827 from rfl, pk_mul, e1, bv_ok, ck_n (by omega) (by omega), ss_ok, ss_ok, m_many hM hM2, bd_ok]
        have fr : ∀ x k, x ≠ 396 → ¬ (x = 395 ∧ k = 4) → gi (si (si s 396 8 (nI (aX a))) 395 4 (nI 0)) x k = gi σ x k := fun x k h1 h2 => by rw [gs_ne (by omega), gs_ne (by omega), e2, if_neg (by omega)]
        have er : ∀ k, k ≠ 8 → rw7 (si (si s 396 8 (nI (aX a))) 395 4 (nI 0)) 396 0 k = rw7 σ 399 (7827 * j) k := fun k hk => by
          unfold rw7
          split
          · next hk2 => rw [gs_ne (by omega), gs_ne (by omega), e2, if_pos ⟨rfl, by omega⟩, Nat.zero_add]
          · rfl
        obtain ⟨y1, y2, y3, y4, y5, y6, y7⟩ := hmr
        have hmr' : MR MG' MM' (rw7 (si (si s 396 8 (nI (aX a))) 395 4 (nI 0)) 396 0) q.1 (aX a) := by
          refine ⟨by rw [er _ (by omega)]; exact y1, fun i hi => by rw [er _ (by omega)]; exact y2 i hi, fun i hi => by rw [er _ (by omega)]; exact y3 i hi, by rw [er _ (by omega)]; exact y4, ?_, fun hh => (hmx' _ _ q.1 er).1 (y6 hh), fun hh => (hmx' _ _ q.1 er).2 (y7 hh)⟩
          rw [rw_at (by omega), gs_ne (by omega), gs_eq]
        have k0 : gi (si (si s 396 8 (nI (aX a))) 395 4 (nI 0)) 396 0 = nI (cN q.1) := (mr_g wq.1 hmr').1
        rw [k0]
        refine ⟨_, rfl, ⟨?_, fun i hi => ?_, hmr', ⟨gs_eq, fun i q' hq' => (by have hq' : ([] : List (Cu × Nat))[i]? = some q' := hq'; simp at hq')⟩, w, hwl, ?_, fun i hi => ⟨(c7 i hi).1, fun q' hq' => ?_⟩⟩, fun x k hx => fr _ _ (by omega) (by omega)⟩
        · rw [fr _ _ (by omega) (by omega)]; exact c1
        · rw [fr _ _ (by omega) (by omega)]; exact c2 i hi
        · rw [fr _ _ (by omega) (by omega)]; exact c6
        · rw [rw_same (σ := σ) (fun k => fr _ _ (by omega) (by omega))]; exact (c7 i hi).2 q' hq'
  · refine ⟨-1, a, hw, spc_q (fun σ hc => ⟨σ, ?_, fun _ _ _ => rfl, fun _ _ _ => rfl⟩), spm_q (fun σ hc => ⟨σ, ?_, fun _ _ _ => rfl, fun _ _ _ => rfl⟩)⟩
    · unfold fX6_back
      rw [tk_ok r0]
      rcases hq with h | ⟨h1, h2⟩
      · rw [if_pos h]
      · rw [if_neg h1, if_neg h2]
    · unfold fX7_back
      rw [tk_ok m0, m_inF hq2, bd_ok, if_neg (by simp)]
/-- a number below n, or not -/
theorem below (p : Int32) {n : Nat} (hn : n < 2 ^ 30) : (∃ j, j < n ∧ p = nI j) ∨ ((p < 0 ∨ (¬ p < 0 ∧ ¬ p < nI n)) ∧ ¬ (nI 0 ≤ p ∧ p ≤ nI n - 1)) := by
  rcases pk_ix p (n := n) (by omega) with h | h | ⟨j, hj, rfl⟩
  · exact Or.inr ⟨Or.inl h, fun q => absurd q.1 (Int32.not_le.mpr h)⟩
  · have h2 : ¬ p < nI n := Int32.not_lt.mpr h
    have h0 : ¬ p < 0 := fun q => h2 (Int32.lt_of_lt_of_le q (nI_pos' (by omega)))
    refine Or.inr ⟨Or.inr ⟨h0, h2⟩, fun q => ?_⟩
    obtain ⟨m, hm, rfl⟩ := nI_of h0
    have hnm : n ≤ m := (nI_leI (by omega) hm).mp h
    by_cases hz : n = 0
    · subst hz
      have : nI m ≤ (-1 : Int32) := q.2
      exact absurd (Int32.lt_of_le_of_lt this (by decide : (-1 : Int32) < 0)) h0
    · rw [i1, sub_n (by omega)] at q
      have := (nI_leI hm (by omega)).mp q.2
      omega
  · exact Or.inl ⟨j, hj, rfl⟩
theorem m_inB {E : En} {σ : Sg} {j n : Nat} (hj : j < n) (hn : n < 2 ^ 30) : fX7_in E (nI j) (nI 0) (nI n - 1) σ = some (1, σ) := by
  rw [i1, sub_n (by omega)]; exact m_inN (by omega)
theorem ok_record (hR : LRun E) (hM : LMod E) (hM2 : LMo2 E) (p0 p1 : Int32) : Ok (JJ CG' CM' MG' MM') (fX6_record E 0 p0 p1) (fX7_record E 395 p0 p1) := by
  refine ok_of (fun a hw => ?_)
  obtain ⟨r0, r1, r3, r4, r5, r8, r9, r10, r11, r12, r13, l1, l2, lx⟩ := id hR
  obtain ⟨b0, rb0, rb1, rb3, rb4, rb5, rb6, lr, la4, lg, lm, la31, la32⟩ := id l2
  have m0 := hM.1
  have hwc := hw.2.2.1
  have hn := hwc.1
  have ht3 := hwc.2.2.2.1
  rcases below p0 (n := cN (aC a)) (by omega) with ⟨j, hj, rfl⟩ | ⟨hq, hq2⟩
  · by_cases h0 : p1 = 0
    · subst h0
      refine ⟨nI (cF (aC a) j), a, hw, spc_q (fun σ hc => ⟨σ, ?_, fun _ _ _ => rfl, fun _ _ _ => rfl⟩), spm_q (fun σ hc => ⟨σ, ?_, fun _ _ _ => rfl, fun _ _ _ => rfl⟩)⟩
      · obtain ⟨k1, k2, k3⟩ := cs_rr hc.2.2.2.1
        unfold fX6_record
        rw [tk_ok r0, if_neg (nI_pos (by omega)), dr_ok r3 l2.1, dr_ok rb0 lr.1, k1.1, if_pos (nI_lt hj (by omega)), if_neg (by simp), dr_ok lr.2.1 lr.2.2.2.1.1, lr.2.2.2.1.2, ck_n (by omega) (by omega), nI_clamp (by omega)]
        show some (gi σ 4 j, σ) = _
        rw [k1.2.1 j hj]
      · obtain ⟨k1, k2, k3, k4, k5⟩ := mr_g hn hc.2.2.1
        unfold fX7_record
        rw [tk_ok m0, m_many hM hM2, bd_ok, k1, i0, m_inB hj (by omega), bd_ok, if_neg (by decide), i1, m_inN (by omega), bd_ok, if_pos (by decide), if_neg (by simp), dr_ok hM.2.1 hM2.1.1, hM2.1.2, show (26 : Int32) = nI 26 from rfl, nI_add, ck_n (by omega) (by omega), nI_clamp (by omega), bd_ok, k2 j hj]
    · by_cases h1 : p1 = 1
      · subst h1
        by_cases ht : 1 ≤ cT (aC a)
        · refine ⟨nI (roC (aC a) j), a, hw, spc_q (fun σ hc => ⟨σ, ?_, fun _ _ _ => rfl, fun _ _ _ => rfl⟩), spm_q (fun σ hc => ⟨σ, ?_, fun _ _ _ => rfl, fun _ _ _ => rfl⟩)⟩
          · obtain ⟨k1, k2, k3⟩ := cs_rr hc.2.2.2.1
            obtain ⟨g1, g2, g3, g4⟩ := cs_g hc.2.2.2.1 ht
            unfold fX6_record
            rw [tk_ok r0, if_neg (nI_pos (by omega)), dr_ok r3 l2.1, dr_ok rb0 lr.1, k1.1, if_pos (nI_lt hj (by omega)), if_pos (by decide), if_neg (by simp), k3, i1, if_neg (nI_nlt ht (by omega)), dr_ok rb3 lg.1, dr_ok lg.2.1 lg.2.2.2.2.1.1, lg.2.2.2.2.1.2, ck_n (by omega) (by omega), nI_clamp (by omega), bd_ok]
            show some (gi σ 8 j, σ) = _
            rw [g3 j hj]
          · obtain ⟨k1, k2, k3, k4, k5⟩ := mr_g hn hc.2.2.1
            obtain ⟨g1, g2, g3, g4⟩ := mr_mg hwc hc.2.2.1 ht
            unfold fX7_record
            rw [tk_ok m0, m_many hM hM2, bd_ok, k1, i0, m_inB hj (by omega), bd_ok, if_neg (by decide), i1, m_inN (by omega), bd_ok, if_pos (by decide), if_pos (by decide), dr_ok hM.2.1 hM2.1.1, hM2.1.2, i7, ck_n (by omega) (by omega), nI_clamp (by omega), k4, if_neg (show ¬ nI (cT (aC a)) ≤ nI 0 from nI_nle (by omega) (by omega)), show (326 : Int32) = nI 326 from rfl, nI_add, ck_n (by omega) (by omega), nI_clamp (by omega), bd_ok, g4 j hj]
        · refine ⟨-1, a, hw, spc_q (fun σ hc => ⟨σ, ?_, fun _ _ _ => rfl, fun _ _ _ => rfl⟩), spm_q (fun σ hc => ⟨σ, ?_, fun _ _ _ => rfl, fun _ _ _ => rfl⟩)⟩
          · obtain ⟨k1, k2, k3⟩ := cs_rr hc.2.2.2.1
            unfold fX6_record
            rw [tk_ok r0, if_neg (nI_pos (by omega)), dr_ok r3 l2.1, dr_ok rb0 lr.1, k1.1, if_pos (nI_lt hj (by omega)), if_pos (by decide), if_neg (by simp), k3, i1, if_pos (nI_lt (by omega) (by omega)), bd_ok]
          · obtain ⟨k1, k2, k3, k4, k5⟩ := mr_g hn hc.2.2.1
            unfold fX7_record
            rw [tk_ok m0, m_many hM hM2, bd_ok, k1, i0, m_inB hj (by omega), bd_ok, if_neg (by decide), i1, m_inN (by omega), bd_ok, if_pos (by decide), if_pos (by decide), dr_ok hM.2.1 hM2.1.1, hM2.1.2, i7, ck_n (by omega) (by omega), nI_clamp (by omega), k4, show cT (aC a) = 0 by omega, if_pos (by decide), bd_ok]
      · refine ⟨-1, a, hw, spc_q (fun σ hc => ⟨σ, ?_, fun _ _ _ => rfl, fun _ _ _ => rfl⟩), spm_q (fun σ hc => ⟨σ, ?_, fun _ _ _ => rfl, fun _ _ _ => rfl⟩)⟩
        · obtain ⟨k1, k2, k3⟩ := cs_rr hc.2.2.2.1
          unfold fX6_record
          rw [tk_ok r0, if_neg (nI_pos (by omega)), dr_ok r3 l2.1, dr_ok rb0 lr.1, k1.1, if_pos (nI_lt hj (by omega)), if_pos h0, if_pos h1, bd_ok]
        · obtain ⟨k1, k2, k3, k4, k5⟩ := mr_g hn hc.2.2.1
          have hno : ¬ ((0 : Int32) ≤ p1 ∧ p1 ≤ 1) := fun q => by
            obtain ⟨m, hm, rfl⟩ := nI_of (x := p1) (Int32.not_lt.mpr q.1)
            have q2 : nI m ≤ nI 1 := q.2
            have := (nI_leI hm (by omega)).mp q2
            rcases (show m = 0 ∨ m = 1 by omega) with rfl | rfl
            · exact h0 rfl
            · exact h1 rfl
          unfold fX7_record
          rw [tk_ok m0, m_many hM hM2, bd_ok, k1, show fX7_in E (nI j) (0 : Int32) (nI (cN (aC a)) - 1) σ = some (1, σ) from m_inB hj (by omega), bd_ok, if_neg (by decide), m_inF hno, bd_ok, if_neg (by simp)]
  · refine ⟨-1, a, hw, spc_q (fun σ hc => ⟨σ, ?_, fun _ _ _ => rfl, fun _ _ _ => rfl⟩), spm_q (fun σ hc => ⟨σ, ?_, fun _ _ _ => rfl, fun _ _ _ => rfl⟩)⟩
    · obtain ⟨k1, k2, k3⟩ := cs_rr hc.2.2.2.1
      unfold fX6_record
      rw [tk_ok r0]
      rcases hq with h | ⟨h1, h2⟩
      · rw [if_pos h]
      · rw [if_neg h1, dr_ok r3 l2.1, dr_ok rb0 lr.1, k1.1, if_neg h2]
    · obtain ⟨k1, k2, k3, k4, k5⟩ := mr_g hn hc.2.2.1
      unfold fX7_record
      rw [tk_ok m0, m_many hM hM2, bd_ok, k1, show fX7_in E p0 (0 : Int32) (nI (cN (aC a)) - 1) σ = some (0, σ) from m_inF hq2, bd_ok, if_pos rfl]
end UN
