/-! tell -/
theorem m_comes {E : En} (hM : LMod E) (hM2 : LMo2 E) {σ : Sg} {n : Nat} {v : Int32} (h : gi σ 396 0 = nI n) (hn : n < 300) : fX7_comes E 395 v σ = some (si (si σ 396 (26 + n) v) 396 0 (nI (n + 1))) := by
  unfold fX7_comes
  rw [tk_ok hM.1, dr_ok hM.2.1 hM2.1.1, m_many hM hM2, bd_ok, h, show (26 : Int32) = nI 26 from rfl, nI_add, hM2.1.2, ck_n (by omega) (by omega), nI_clamp (by omega), ss_ok, show (0 : Int32) = nI 0 from rfl, ck_n (by omega) (by omega), ck_n (by omega) (by omega), nI_clamp (by omega), gs_ne (by omega), h, ss_ok, ad1]
theorem cs_rr {CG CM : (Nat → Nat → Int32) → Cu → Prop} {σ : Sg} {c : Cu} (h : CS CG CM (lc σ 2) c) : RR σ (cF c) (cN c) ∧ (∀ j, j < 6 → gi σ 6 j = nI (cS c j)) ∧ gi σ 2 2 = nI (cT c) := by
  obtain ⟨h1, h2, h3, h4, h5, h6, -, -⟩ := h
  refine ⟨⟨?_, fun i hi => ?_, fun i hi => ?_, ?_⟩, fun j hj => ?_, ?_⟩
  · rw [lc_at (by omega)] at h1; exact h1
  · have := h2 i hi; rw [lc_at (by omega)] at this; exact this
  · have := h3 i hi; rw [lc_at (by omega)] at this; exact this
  · rw [lc_at (by omega)] at h4; exact h4
  · have := h5 j hj; rw [lc_at (by omega)] at this; exact this
  · rw [lc_at (by omega)] at h6; exact h6
theorem rr_cs {CG CM : (Nat → Nat → Int32) → Cu → Prop} {σ : Sg} {F : Nat → Nat} {m : Nat} {st : Nat → Nat} (h : RR σ F m) (h2 : ∀ j, j < 6 → gi σ 6 j = nI (st j)) (h3 : gi σ 2 2 = 0) : CS CG CM (lc σ 2) (F, m, st, 0, 0) := by
  obtain ⟨g1, g2, g3, g4⟩ := h
  refine ⟨?_, fun i hi => ?_, fun i hi => ?_, ?_, fun j hj => ?_, ?_, fun h => absurd h (by show ¬ 1 ≤ 0; omega), fun h => absurd h (by show ¬ 2 ≤ 0; omega)⟩
  · rw [lc_at (by omega)]; exact g1
  · rw [lc_at (by omega)]; exact g2 i hi
  · rw [lc_at (by omega)]; exact g3 i hi
  · rw [lc_at (by omega)]; exact g4
  · rw [lc_at (by omega)]; exact h2 j hj
  · rw [lc_at (by omega)]; exact h3
theorem mr_g {MG MM : (Nat → Int32) → Cu → Prop} {σ : Sg} {c : Cu} {x : Nat} (hn : cN c ≤ 300) (h : MR MG MM (rw7 σ 396 0) c x) : gi σ 396 0 = nI (cN c) ∧ (∀ i, i < cN c → gi σ 396 (26 + i) = nI (cF c i)) ∧ (∀ j, j < 6 → gi σ 396 (1 + j) = nI (cS c j)) ∧ gi σ 396 7 = nI (cT c) ∧ gi σ 396 8 = nI x := by
  obtain ⟨h1, h2, h3, h4, h5, -, -⟩ := h
  refine ⟨?_, fun i hi => ?_, fun j hj => ?_, ?_, ?_⟩
  · rw [rw_at (by omega)] at h1; exact h1
  · have := h2 i hi; rw [rw_at (by omega), Nat.zero_add] at this; exact this
  · have := h3 j hj; rw [rw_at (by omega), Nat.zero_add] at this; exact this
  · rw [rw_at (by omega)] at h4; exact h4
  · rw [rw_at (by omega)] at h5; exact h5
theorem g_mr {MG MM : (Nat → Int32) → Cu → Prop} {σ : Sg} {F : Nat → Nat} {m x : Nat} {st : Nat → Nat} (hn : m ≤ 300) (h1 : gi σ 396 0 = nI m) (h2 : ∀ i, i < m → gi σ 396 (26 + i) = nI (F i)) (h3 : ∀ j, j < 6 → gi σ 396 (1 + j) = nI (st j)) (h4 : gi σ 396 7 = 0) (h5 : gi σ 396 8 = nI x) : MR MG MM (rw7 σ 396 0) (F, m, st, 0, 0) x := by
  refine ⟨?_, fun i hi => ?_, fun j hj => ?_, ?_, ?_, fun h => absurd h (by show ¬ 1 ≤ 0; omega), fun h => absurd h (by show ¬ 2 ≤ 0; omega)⟩
  · rw [rw_at (by omega)]; exact h1
  · have hi : i < m := hi
    rw [rw_at (by omega), Nat.zero_add]; exact h2 i hi
  · rw [rw_at (by omega), Nat.zero_add]; exact h3 j hj
  · rw [rw_at (by omega)]; exact h4
  · rw [rw_at (by omega)]; exact h5
section TL
variable {CG CM : (Nat → Nat → Int32) → Cu → Prop} {MG MM : (Nat → Int32) → Cu → Prop} {E : En}
theorem ok_tell (hR : LRun E) (hM : LMod E) (hM2 : LMo2 E) (hcp : CPY E CG CM) : Ok (JJ CG CM MG MM) (fX6_tell E 0) (fX7_tell E 395) := by
  refine ok_of (fun a hw => ?_)
  have hwc := hw.2.2.1
  have hn := hwc.1
  have hb := hw.1
  obtain ⟨r0, r1, r3, r4, r5, r8, r9, r10, r11, r12, r13, l1, l2, lx⟩ := id hR
  have l3 : LRec E 3 := l2.2.2.2.2.2.2.2.1
  by_cases h0 : aN a = 0
  · refine ⟨-1, a, hw, spc_q (fun σ hc => ⟨σ, ?_, fun _ _ _ => rfl, fun _ _ _ => rfl⟩), spm_q (fun σ hc => ⟨σ, ?_, fun _ _ _ => rfl, fun _ _ _ => rfl⟩)⟩
    · unfold fX6_tell; rw [tk_ok r0, hc.1, h0, if_pos (show nI 0 = 0 from rfl)]
    · unfold fX7_tell; rw [tk_ok hM.1, hc.1, h0, if_pos (show nI 0 = 0 from rfl)]
  have h0' : ¬ nI (aN a) = 0 := nI_ne0 (by omega) (by omega)
  by_cases h1 : cN (aC a) + aN a ≤ 300
  · let F : Nat → Nat := fun j => if j < cN (aC a) then cF (aC a) j else aB a (j - cN (aC a))
    have hFlo : ∀ i, i < cN (aC a) → cF (aC a) i = F i := fun i hi => by show _ = if _ then _ else _; rw [if_pos hi]
    have hFhi : ∀ i, aB a i = F (cN (aC a) + i) := fun i => by show _ = if _ then _ else _; rw [if_neg (by omega), show cN (aC a) + i - cN (aC a) = i by omega]
    have hF : ∀ i, i < cN (aC a) + aN a → F i < 256 := by
      intro i hi
      by_cases q : i < cN (aC a)
      · rw [← hFlo i q]; exact hwc.2.1 i q
      · rw [show i = cN (aC a) + (i - cN (aC a)) by omega, ← hFhi]; exact hw.2.1 _ (by omega)
    refine ⟨nI (cN (aC a) + aN a), (aB a, 0, (F, cN (aC a) + aN a, cS (aC a), 0, 0), (rem a).2.2.2), ?_, fun σ hc => ?_, fun σ hc => ?_⟩
    · obtain ⟨g1, g2, g3, g4, g5, g6, g7⟩ := rem_wf hw
      exact ⟨Nat.zero_le _, fun i hi => absurd hi (Nat.not_lt_zero i), ⟨h1, hF, hwc.2.2.1, Nat.zero_le _, fun h => absurd h (by show ¬ 1 ≤ 0; omega), fun h => absurd h (by show ¬ 2 ≤ 0; omega)⟩, g4, g5, g6, g7⟩
    · obtain ⟨s, e1, e2, e3, e4⟩ := c_rem hR hcp hw hc
      obtain ⟨d1, d2, d3, d4, d5, d6⟩ := e2
      have hsz : gi σ 3 2 = nI (cN (aC a)) := (cs_rr hc.2.2.2.1).1.1
      obtain ⟨k1, k2, k3⟩ := cs_rr d4
      have d1 : gi s 0 1 = nI (aN a) := d1
      have d2 : ∀ i, i < aN a → gi s 1 i = nI (aB a i) := d2
      have key := fx_ok (F := fun (rec : Int32 × Sg → Option (Int32 × Sg)) (b : Int32 × Sg) => bX6_tell_36 E 0 3 (fun u0 t => rec (u0, t)) b.1 b.2)
        (fun k b => ∃ i, b.1 = nI i ∧ i ≤ aN a ∧ k = aN a - i ∧ RR b.2 F (cN (aC a) + i) ∧ ∀ x k, x ≠ 3 → x ≠ 4 → x ≠ 5 → gi b.2 x k = gi s x k)
        (fun b => RR b.2 F (cN (aC a) + aN a) ∧ ∀ x k, x ≠ 3 → x ≠ 4 → x ≠ 5 → gi b.2 x k = gi s x k)
        ?_ FU (aN a) ((0 : Int32), s) (by show aN a < 1000000; omega) ⟨0, rfl, by omega, by omega, rr_congr k1 hFlo, fun _ _ _ _ _ => rfl⟩
      · obtain ⟨⟨v, s2⟩, f1, f2, f3⟩ := key
        dsimp only at f2 f3
        refine ⟨si (si s2 0 1 0) 2 2 0, ?_, ⟨?_, fun i hi => absurd hi (Nat.not_lt_zero i), ?_, ?_, ?_, ?_⟩, fun x k hx => ?_⟩
        · unfold fX6_tell
          rw [tk_ok r0, hc.1, if_neg h0', dr_ok r3 l2.1, dr_ok l2.2.1 l3.1, hsz, nI_add, show (300 : Int32) = nI 300 from rfl, if_pos (nI_le h1 (by omega)), e1, bv_ok]
          rw [f1, bd_ok, ss_ok, ss_ok, gs_ne (by omega), gs_ne (by omega)]
          show some (gi s2 3 2, _) = _
          rw [f2.1]
        · rw [gs_ne (by omega), gs_eq]; rfl
        · rw [gs_ne (by omega), gs_ne (by omega), f3 _ _ (by omega) (by omega) (by omega)]; exact d3
        · refine rr_cs ⟨?_, fun i hi => ?_, fun i hi => ?_, ?_⟩ (fun j hj => ?_) gs_eq
          · rw [gs_ne (by omega), gs_ne (by omega)]; exact f2.1
          · rw [gs_ne (by omega), gs_ne (by omega)]; exact f2.2.1 i hi
          · rw [gs_ne (by omega), gs_ne (by omega)]; exact f2.2.2.1 i hi
          · rw [gs_ne (by omega), gs_ne (by omega)]; exact f2.2.2.2
          · rw [gs_ne (by omega), gs_ne (by omega), f3 _ _ (by omega) (by omega) (by omega)]; exact k2 j hj
        · exact hc_same d5 (by rw [gs_ne (by omega), gs_ne (by omega), f3 _ _ (by omega) (by omega) (by omega)]) (by rw [gs_ne (by omega), gs_ne (by omega), f3 _ _ (by omega) (by omega) (by omega)]) (fun k => by rw [gs_ne (by omega), gs_ne (by omega), f3 _ _ (by omega) (by omega) (by omega)]) (fun x k g1 g2 => by rw [gs_ne (by omega), gs_ne (by omega), f3 _ _ (by omega) (by omega) (by omega)])
        · exact sc_same d6 (fun k => by rw [gs_ne (by omega), gs_ne (by omega), f3 _ _ (by omega) (by omega) (by omega)]) (fun x k g1 g2 => by rw [gs_ne (by omega), gs_ne (by omega), f3 _ _ (by omega) (by omega) (by omega)])
        · rw [gs_ne (by omega), gs_ne (by omega), f3 _ _ (by omega) (by omega) (by omega)]; exact e4 x k hx
      · rintro k ⟨v, s2⟩ rec ⟨i, rfl, hi2, rfl, f2, f3⟩ IH
        dsimp only at f2 f3 ⊢
        unfold bX6_tell_36
        rw [f3 0 1 (by omega) (by omega) (by omega), d1]
        by_cases q : i = aN a
        · subst q
          rw [if_pos (nI_le (Nat.le_refl _) (by omega))]
          exact ⟨_, rfl, f2, f3⟩
        · rw [if_neg (nI_ge (by omega) (by omega)), dr_ok r1 l1.1, l1.2, ck_n (by omega) (by omega), nI_clamp (by omega), f3 1 i (by omega) (by omega) (by omega), d2 i (by omega), hFhi i]
          obtain ⟨s3, g1, g2, g3⟩ := c_add l3 (m := cN (aC a) + i) (by omega) (fun j hj => hF j (by omega)) f2
          rw [g1, bv_ok, lt_ok, ad1]
          exact IH (aN a - (i + 1)) _ (by omega) ⟨i + 1, rfl, by omega, rfl, g2, fun x k h3 h4 h5 => by dsimp only; rw [g3 x k h4 h5 (by omega), f3 x k h3 h4 h5]⟩
    · obtain ⟨s, e1, e2, e3, e4⟩ := m_rem hM hM2 hw hc
      obtain ⟨d1, d2, d3, d4, d5⟩ := e2
      obtain ⟨k1, k2, k3, k4, k5⟩ := mr_g hn hc.2.2.1
      have d1 : gi s 395 7 = nI (aN a) := d1
      have d2 : ∀ i, i < aN a → gi s 400 i &&& 255 = nI (aB a i) := d2
      have key := fx_ok (F := fun (rec : Int32 × Sg → Option (Int32 × Sg)) (b : Int32 × Sg) => bX7_tell_30 E 395 (fun u0 t => rec (u0, t)) b.1 b.2)
        (fun k b => ∃ i, b.1 = nI i ∧ i ≤ aN a ∧ k = aN a - i ∧ gi b.2 396 0 = nI (cN (aC a) + i) ∧ (∀ j, j < cN (aC a) + i → gi b.2 396 (26 + j) = nI (F j)) ∧ (∀ j, 0 < j → j < 26 → gi b.2 396 j = gi σ 396 j) ∧ ∀ x k, x ≠ 396 → gi b.2 x k = gi s x k)
        (fun b => gi b.2 396 0 = nI (cN (aC a) + aN a) ∧ (∀ j, j < cN (aC a) + aN a → gi b.2 396 (26 + j) = nI (F j)) ∧ (∀ j, 0 < j → j < 26 → gi b.2 396 j = gi σ 396 j) ∧ ∀ x k, x ≠ 396 → gi b.2 x k = gi s x k)
        ?_ FU (aN a) ((0 : Int32), s) (by show aN a < 1000000; omega) ⟨0, rfl, by omega, by omega, by dsimp only; rw [e3]; exact k1, fun j hj => by dsimp only; rw [e3, k2 j hj, hFlo j hj], fun j _ _ => e3 j, fun _ _ _ => rfl⟩
      · obtain ⟨⟨v, s2⟩, f1, f2, f3, f4, f5⟩ := key
        dsimp only at f2 f3 f4 f5
        obtain ⟨s3, g1, g2, g3, g4⟩ := m_begins hM hM2 (σ := si s2 395 7 0)
        have g3' : ∀ k, k < 7 ∨ k = 8 ∨ 26 ≤ k → gi s3 396 k = gi s2 396 k := fun k hk => by rw [g3 k (by omega) (by omega) (by omega) (by omega) (by omega) (by omega) (by omega), gs_ne (by omega)]
        refine ⟨s3, ?_, ⟨?_, fun i hi => absurd hi (Nat.not_lt_zero i), ?_, ?_, ?_⟩, fun x k hx => ?_⟩
        · unfold fX7_tell
          rw [tk_ok hM.1, hc.1, if_neg h0', m_many hM hM2, bd_ok, k1, hc.1, nI_add, show (300 : Int32) = nI 300 from rfl, if_pos (nI_le h1 (by omega)), e1, bv_ok]
          rw [f1, bd_ok, ss_ok, g1, bv_ok, m_many hM hM2, bd_ok, g3' 0 (by omega), f2]
        · rw [g4 _ _ (by omega), gs_eq]; rfl
        · refine g_mr h1 (by rw [g3' _ (by omega)]; exact f2) (fun i hi => by rw [g3' _ (by omega)]; exact f3 i hi) (fun j hj => by rw [g3' _ (by omega), f4 _ (by omega) (by omega)]; exact k3 j hj) g2 (by rw [g3' _ (by omega), f4 _ (by omega) (by omega)]; exact k5)
        · exact hm_same d4 (by rw [g4 _ _ (by omega), gs_ne (by omega), f5 _ _ (by omega)]) (fun k => by rw [g4 _ _ (by omega), gs_ne (by omega), f5 _ _ (by omega)])
        · exact sm_same d5 (by rw [g4 _ _ (by omega), gs_ne (by omega), f5 _ _ (by omega)]) (fun k => by rw [g4 _ _ (by omega), gs_ne (by omega), f5 _ _ (by omega)])
        · rw [g4 _ _ (by omega), gs_ne (by omega), f5 _ _ (by omega)]; exact e4 x k hx
      · rintro k ⟨v, s2⟩ rec ⟨i, rfl, hi2, rfl, f2, f3, f4, f5⟩ IH
        dsimp only at f2 f3 f4 f5 ⊢
        unfold bX7_tell_30
        rw [f5 395 7 (by omega), d1]
        by_cases q : i = aN a
        · subst q
          rw [if_pos (nI_le (Nat.le_refl _) (by omega))]
          exact ⟨_, rfl, f2, f3, f4, f5⟩
        · rw [if_neg (nI_ge (by omega) (by omega)), dr_ok hM.2.2.2.2.2.1 hM2.2.2.2.2.1.1, hM2.2.2.2.2.1.2, ck_n (by omega) (by omega), nI_clamp (by omega), f5 400 i (by omega), d2 i (by omega), hFhi i, m_comes hM hM2 f2 (by omega), bv_ok, lt_ok, ad1]
          refine IH (aN a - (i + 1)) _ (by omega) ⟨i + 1, rfl, by omega, rfl, gs_eq, fun j hj => ?_, fun j h3 h4 => ?_, fun x k hx => ?_⟩
          · dsimp only
            rw [gs_ne (by omega)]
            by_cases qq : j = cN (aC a) + i
            · subst qq; exact gs_eq
            · rw [gs_ne (by omega)]; exact f3 j (by omega)
          · dsimp only; rw [gs_ne (by omega), gs_ne (by omega)]; exact f4 j h3 h4
          · dsimp only; rw [gs_ne (by omega), gs_ne (by omega)]; exact f5 x k hx
  · have h2 : ¬ nI (cN (aC a) + aN a) ≤ nI 300 := nI_ge (by omega) (by omega)
    refine ⟨-1, a, hw, spc_q (fun σ hc => ⟨σ, ?_, fun _ _ _ => rfl, fun _ _ _ => rfl⟩), spm_q (fun σ hc => ⟨σ, ?_, fun _ _ _ => rfl, fun _ _ _ => rfl⟩)⟩
    · have hsz : gi σ 3 2 = nI (cN (aC a)) := (cs_rr hc.2.2.2.1).1.1
      unfold fX6_tell
      rw [tk_ok r0, hc.1, if_neg h0', dr_ok r3 l2.1, dr_ok l2.2.1 l3.1, hsz, nI_add, show (300 : Int32) = nI 300 from rfl, if_neg h2]
    · obtain ⟨k1, k2, k3, k4, k5⟩ := mr_g hn hc.2.2.1
      unfold fX7_tell
      rw [tk_ok hM.1, hc.1, if_neg h0', m_many hM hM2, bd_ok, k1, hc.1, nI_add, show (300 : Int32) = nI 300 from rfl, if_neg h2]
end TL
