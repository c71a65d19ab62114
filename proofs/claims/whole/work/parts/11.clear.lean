/-! clear, settle -/
theorem m_begins {E : En} (hM : LMod E) (hM2 : LMo2 E) {σ : Sg} : ∃ s, fX7_begins E 395 σ = some s ∧ gi s 396 7 = 0 ∧ (∀ k, k ≠ 7 → k ≠ 9 → k ≠ 10 → k ≠ 11 → k ≠ 12 → k ≠ 14 → k ≠ 18 → gi s 396 k = gi σ 396 k) ∧ ∀ x k, x ≠ 396 → gi s x k = gi σ x k := by
  unfold fX7_begins fX7_clearsCounts
  rw [tk_ok hM.1, dr_ok hM.2.1 hM2.1.1, hM2.1.2]
  simp only [tk_ok hM.1, dr_ok hM.2.1 hM2.1.1, hM2.1.2, ss_ok, bv_ok]
  simp only [show (7 : Int32) = nI 7 from rfl, show (9 : Int32) = nI 9 from rfl, show (10 : Int32) = nI 10 from rfl, show (11 : Int32) = nI 11 from rfl, show (12 : Int32) = nI 12 from rfl, show (14 : Int32) = nI 14 from rfl, show (18 : Int32) = nI 18 from rfl]
  rw [ck_n (by omega) (by omega), ck_n (by omega) (by omega), ck_n (by omega) (by omega), ck_n (by omega) (by omega), ck_n (by omega) (by omega), ck_n (by omega) (by omega), ck_n (by omega) (by omega)]
  rw [nI_clamp (n := 7) (by omega), nI_clamp (n := 9) (by omega), nI_clamp (n := 10) (by omega), nI_clamp (n := 11) (by omega), nI_clamp (n := 12) (by omega), nI_clamp (n := 14) (by omega), nI_clamp (n := 18) (by omega), bv_ok]
  refine ⟨_, rfl, ?_, fun k h1 h2 h3 h4 h5 h6 h7 => ?_, fun x k h => ?_⟩
  · rw [gs_ne (by omega), gs_ne (by omega), gs_ne (by omega), gs_ne (by omega), gs_ne (by omega), gs_ne (by omega), gs_eq]
  · rw [gs_ne (by omega), gs_ne (by omega), gs_ne (by omega), gs_ne (by omega), gs_ne (by omega), gs_ne (by omega), gs_ne (by omega)]
  · rw [gs_ne (by omega), gs_ne (by omega), gs_ne (by omega), gs_ne (by omega), gs_ne (by omega), gs_ne (by omega), gs_ne (by omega)]
def setC (a : Ab) (c : Cu) : Ab := (aB a, aN a, c, a.2.2.2)
theorem lc_at {σ : Sg} {b x k : Nat} (h : x < 33) : lc σ b x k = gi σ (b + x) k := by simp [lc, h]
theorem rw_at {σ : Sg} {a off k : Nat} (h : k < 7827) : rw7 σ a off k = gi σ a (off + k) := by simp [rw7, h]
section CL
variable {CG CM : (Nat → Nat → Int32) → Cu → Prop} {MG MM : (Nat → Int32) → Cu → Prop} {E : En}
theorem ok_clear (hR : LRun E) (hM : LMod E) (hM2 : LMo2 E) (hcp : CPY E CG CM) : Ok (JJ CG CM MG MM) (fX6_clear E 0) (fX7_clear E 395) := by
  refine ok_of (fun a hw => ?_)
  have hwc := hw.2.2.1
  have hn := hwc.1
  refine ⟨nI (cN (aC a)), setC (rem a) (cF (aC a), 0, cS (aC a), 0, 0), ?_, fun σ hc => ?_, fun σ hc => ?_⟩
  · obtain ⟨h1, h2, h3, h4, h5, h6, h7⟩ := rem_wf hw
    exact ⟨h1, h2, ⟨Nat.zero_le _, fun i hi => absurd hi (Nat.not_lt_zero i), hwc.2.2.1, Nat.zero_le _, fun h => absurd h (by show ¬ 1 ≤ 0; omega), fun h => absurd h (by show ¬ 2 ≤ 0; omega)⟩, h4, h5, h6, h7⟩
  · obtain ⟨s, e1, e2, e3, e4⟩ := c_rem hR hcp hw hc
    obtain ⟨d1, d2, d3, d4, d5, d6⟩ := e2
    have hsz : gi s 3 2 = nI (cN (aC a)) := by have := d4.1; rw [lc_at (by omega)] at this; exact this
    refine ⟨si (si (si s 3 2 0) 3 3 0) 2 2 0, ?_, ⟨?_, fun i hi => ?_, ?_, ?_, ?_, ?_⟩, fun x k hx => ?_⟩
    · unfold fX6_clear fX3_wipe
      rw [tk_ok hR.1, e1, bv_ok, dr_ok hR.2.2.1 hR.2.2.2.2.2.2.2.2.2.2.2.2.1.1, dr_ok hR.2.2.2.2.2.2.2.2.2.2.2.2.1.2.1 hR.2.2.2.2.2.2.2.2.2.2.2.2.1.2.2.2.2.2.2.2.1.1, lt_ok, hsz, tk_ok hR.2.2.2.2.2.2.2.2.2.2.2.2.1.2.2.2.2.2.2.2.1.1, ss_ok, ss_ok, bv_ok, ss_ok]
    · rw [gs_ne (by omega), gs_ne (by omega), gs_ne (by omega)]; exact d1
    · rw [gs_ne (by omega), gs_ne (by omega), gs_ne (by omega)]; exact d2 i hi
    · rw [gs_ne (by omega), gs_ne (by omega), gs_ne (by omega)]; exact d3
    · refine ⟨?_, fun i hi => absurd hi (Nat.not_lt_zero i), fun i hi => absurd hi (Nat.not_lt_zero i), ?_, fun j hj => ?_, ?_, fun h => absurd h (by show ¬ 1 ≤ 0; omega), fun h => absurd h (by show ¬ 2 ≤ 0; omega)⟩
      · rw [lc_at (by omega), gs_ne (by omega), gs_ne (by omega), gs_eq]; rfl
      · rw [lc_at (by omega), gs_ne (by omega), gs_eq]; rfl
      · rw [lc_at (by omega), gs_ne (by omega), gs_ne (by omega), gs_ne (by omega)]
        have := d4.2.2.2.2.1 j hj
        rw [lc_at (by omega)] at this
        exact this
      · rw [lc_at (by omega), gs_eq]; rfl
    · exact hc_same d5 (by rw [gs_ne (by omega), gs_ne (by omega), gs_ne (by omega)]) (by rw [gs_ne (by omega), gs_ne (by omega), gs_ne (by omega)]) (fun k => by rw [gs_ne (by omega), gs_ne (by omega), gs_ne (by omega)]) (fun x k g1 g2 => by rw [gs_ne (by omega), gs_ne (by omega), gs_ne (by omega)])
    · exact sc_same d6 (fun k => by rw [gs_ne (by omega), gs_ne (by omega), gs_ne (by omega)]) (fun x k g1 g2 => by rw [gs_ne (by omega), gs_ne (by omega), gs_ne (by omega)])
    · rw [gs_ne (by omega), gs_ne (by omega), gs_ne (by omega)]; exact e4 x k hx
  · obtain ⟨s, e1, e2, e3, e4⟩ := m_rem hM hM2 hw hc
    obtain ⟨d1, d2, d3, d4, d5⟩ := e2
    obtain ⟨s2, g1, g2, g3, g4⟩ := m_begins hM hM2 (σ := si s 396 0 0)
    have h0 : gi s 396 0 = nI (cN (aC a)) := by have := d3.1; rw [rw_at (by omega)] at this; exact this
    refine ⟨s2, ?_, ⟨?_, fun i hi => ?_, ?_, ?_, ?_⟩, fun x k hx => ?_⟩
    · unfold fX7_clear
      rw [tk_ok hM.1, e1, bv_ok, m_many hM hM2, bd_ok, dr_ok hM.2.1 hM2.1.1, hM2.1.2, show (0 : Int32) = nI 0 from rfl, ck_n (by omega) (by omega), nI_clamp (by omega), ss_ok, show nI 0 = (0 : Int32) from rfl, g1, bv_ok, h0]
    · rw [g4 _ _ (by omega), gs_ne (by omega)]; exact d1
    · rw [g4 _ _ (by omega), gs_ne (by omega)]; exact d2 i hi
    · refine ⟨?_, fun i hi => absurd hi (Nat.not_lt_zero i), fun j hj => ?_, ?_, ?_, fun h => absurd h (by show ¬ 1 ≤ 0; omega), fun h => absurd h (by show ¬ 2 ≤ 0; omega)⟩
      · rw [rw_at (by omega), g3 _ (by omega) (by omega) (by omega) (by omega) (by omega) (by omega) (by omega), gs_eq]; rfl
      · rw [rw_at (by omega), g3 _ (by omega) (by omega) (by omega) (by omega) (by omega) (by omega) (by omega), gs_ne (by omega)]
        have := d3.2.2.1 j hj
        rw [rw_at (by omega)] at this
        exact this
      · rw [rw_at (by omega), g2]; rfl
      · rw [rw_at (by omega), g3 _ (by omega) (by omega) (by omega) (by omega) (by omega) (by omega) (by omega), gs_ne (by omega)]
        have := d3.2.2.2.2.1
        rw [rw_at (by omega)] at this
        exact this
    · exact hm_same d4 (by rw [g4 _ _ (by omega), gs_ne (by omega)]) (fun k => by rw [g4 _ _ (by omega), gs_ne (by omega)])
    · exact sm_same d5 (by rw [g4 _ _ (by omega), gs_ne (by omega)]) (fun k => by rw [g4 _ _ (by omega), gs_ne (by omega)])
    · rw [g4 _ _ (by omega), gs_ne (by omega)]; exact e4 x k hx
theorem stv_1 {j : Nat} (h : j < 6) : stv 1 j = nI (stL j) := by
  rcases (show j = 0 ∨ j = 1 ∨ j = 2 ∨ j = 3 ∨ j = 4 ∨ j = 5 by omega) with rfl | rfl | rfl | rfl | rfl | rfl <;> rfl
theorem stv_2 {j : Nat} (h : j < 6) : stv 2 j = nI (stH j) := by
  rcases (show j = 0 ∨ j = 1 ∨ j = 2 ∨ j = 3 ∨ j = 4 ∨ j = 5 by omega) with rfl | rfl | rfl | rfl | rfl | rfl <;> rfl
theorem kb_i {β : Type} {c : Prop} [Decidable c] {k : Int32 → Option β} : kb (if c then (1 : Int32) else 0) (k (if c then 1 else 0)) = k (if c then 1 else 0) := by
  split
  · exact kb_1
  · exact kb_0
theorem c_fits {j : Nat} (h : j < 6) {p1 : Int32} {σ : Sg} : fX6_fits E (nI j) p1 σ = some (if nI (stL j) ≤ p1 ∧ p1 ≤ nI (stH j) then 1 else 0, σ) := by
  unfold fX6_fits
  rw [if_neg (nI_pos (by omega)), show (6 : Int32) = nI 6 from rfl, if_neg (nI_ge h (by omega)), ck_n h (by omega), nI_clamp (by omega), ck_n h (by omega), stv_1 h, stv_2 h]
  by_cases h1 : p1 < nI (stL j)
  · rw [if_pos h1, bd_ok, kb_0, if_neg (fun q => absurd q.1 (Int32.not_le.mpr h1))]
  · rw [if_neg h1]
    by_cases h2 : nI (stH j) < p1
    · rw [if_pos h2, bd_ok, kb_0, if_neg (fun q => absurd q.2 (Int32.not_le.mpr h2))]
    · rw [if_neg h2, bd_ok, kb_1, if_pos ⟨Int32.not_lt.mp h1, Int32.not_lt.mp h2⟩]
theorem c_fitsN {p0 p1 : Int32} {σ : Sg} (h : p0 < 0 ∨ nI 6 ≤ p0) : fX6_fits E p0 p1 σ = some (0, σ) := by
  unfold fX6_fits
  by_cases h1 : p0 < 0
  · rw [if_pos h1, bd_ok, kb_0]
  · rw [if_neg h1, show (6 : Int32) = nI 6 from rfl, if_pos (h.resolve_left h1), bd_ok, kb_0]
theorem m_can {j : Nat} (h : j < 6) {p1 : Int32} {σ : Sg} : fX7_canSet E (nI j) p1 σ = some (if nI (stL j) ≤ p1 ∧ p1 ≤ nI (stH j) then 1 else 0, σ) := by
  unfold fX7_canSet
  rcases (show j = 0 ∨ j = 1 ∨ j = 2 ∨ j = 3 ∨ j = 4 ∨ j = 5 by omega) with rfl | rfl | rfl | rfl | rfl | rfl
  · rw [if_pos (by decide), m_in, bd_ok]; exact kb_i (k := fun r => some (r, σ))
  · rw [if_neg (by decide), if_pos (by decide), m_in, bd_ok]; exact kb_i (k := fun r => some (r, σ))
  · rw [if_neg (by decide), if_neg (by decide), if_pos (by decide), m_in, bd_ok]; exact kb_i (k := fun r => some (r, σ))
  · rw [if_neg (by decide), if_neg (by decide), if_neg (by decide), if_pos (by decide), m_in, bd_ok]; exact kb_i (k := fun r => some (r, σ))
  · rw [if_neg (by decide), if_neg (by decide), if_neg (by decide), if_neg (by decide), if_pos (by decide), m_in, bd_ok]; exact kb_i (k := fun r => some (r, σ))
  · rw [if_neg (by decide), if_neg (by decide), if_neg (by decide), if_neg (by decide), if_neg (by decide), if_pos (by decide), m_in, bd_ok]; exact kb_i (k := fun r => some (r, σ))
theorem m_canN {p0 p1 : Int32} {σ : Sg} (h : p0 < 0 ∨ nI 6 ≤ p0) : fX7_canSet E p0 p1 σ = some (0, σ) := by
  have hn : ∀ j, j < 6 → ¬ p0 = nI j := by
    intro j hj q
    subst q
    rcases h with h | h
    · exact nI_pos (by omega) h
    · exact nI_ge hj (by omega) h
  unfold fX7_canSet
  rw [if_neg (show ¬ p0 = 0 from hn 0 (by omega)), if_neg (show ¬ p0 = 1 from hn 1 (by omega)), if_neg (show ¬ p0 = 2 from hn 2 (by omega)), if_neg (show ¬ p0 = 3 from hn 3 (by omega)), if_neg (show ¬ p0 = 4 from hn 4 (by omega)), if_neg (show ¬ p0 = 5 from hn 5 (by omega))]
theorem st_hi {j : Nat} : stH j ≤ 16 := by
  unfold stH
  split <;> omega
theorem st_lo {j : Nat} : stL j ≤ 3 := by
  unfold stL
  split <;> omega
theorem ok_settle (hR : LRun E) (hM : LMod E) (hM2 : LMo2 E) (hcp : CPY E CG CM) (p0 p1 : Int32) : Ok (JJ CG CM MG MM) (fX6_settle E 0 p0 p1) (fX7_settle E 395 p0 p1) := by
  refine ok_of (fun a hw => ?_)
  have hwc := hw.2.2.1
  have hq0 : ∀ {P : p0 < 0 ∨ nI 6 ≤ p0}, ∃ r a', Wfa a' ∧ SpC CG CM (fX6_settle E 0 p0 p1) r a a' ∧ SpM MG MM (fX7_settle E 395 p0 p1) r a a' := by
    intro P
    refine ⟨-1, a, hw, spc_q (fun σ hc => ⟨σ, ?_, fun _ _ _ => rfl, fun _ _ _ => rfl⟩), spm_q (fun σ hc => ⟨σ, ?_, fun _ _ _ => rfl, fun _ _ _ => rfl⟩)⟩
    · unfold fX6_settle; rw [tk_ok hR.1, c_fitsN P, bd_ok, if_neg (fun q => q rfl)]
    · unfold fX7_settle; rw [tk_ok hM.1, m_canN P, bd_ok, if_neg (fun q => q rfl)]
  rcases pk_ix p0 (n := 6) (by omega) with h | h | ⟨j, hj, rfl⟩
  · exact hq0 (P := Or.inl h)
  · exact hq0 (P := Or.inr h)
  by_cases hf : nI (stL j) ≤ p1 ∧ p1 ≤ nI (stH j)
  · have hsh := st_hi (j := j)
    have hsl : stL j ≤ 3 := st_lo
    obtain ⟨v, hv, rfl⟩ := nI_of2 (x := p1) (M := nI (stH j)) (n := stH j) (nI_toInt (by omega)) (fun q => absurd (Int32.lt_of_le_of_lt hf.1 q) (nI_pos (by omega))) hf.2
    have hlo : stL j ≤ v := (nI_leI (by omega) (by omega)).mp hf.1
    have hst := hwc.2.2.1 j hj
    by_cases he : cS (aC a) j = v
    · refine ⟨-2, a, hw, spc_q (fun σ hc => ⟨σ, ?_, fun _ _ _ => rfl, fun _ _ _ => rfl⟩), spm_q (fun σ hc => ⟨σ, ?_, fun _ _ _ => rfl, fun _ _ _ => rfl⟩)⟩
      · have h4 : gi σ 6 j = nI (cS (aC a) j) := by have := hc.2.2.2.1.2.2.2.2.1 j hj; rw [lc_at (by omega)] at this; exact this
        obtain ⟨r0, r1, r3, r4, r5, r8, r9, r10, r11, r12, r13, l1, l2, lx⟩ := hR
        unfold fX6_settle
        rw [tk_ok r0, c_fits hj, if_pos hf, bd_ok, if_pos (by decide), dr_ok r3 l2.1, dr_ok l2.2.2.1 l2.2.2.2.2.2.2.2.2.1.1, l2.2.2.2.2.2.2.2.2.1.2, ck_n hj (by omega), lt_ok, nI_clamp (by omega), h4, he, if_neg (fun q => q rfl)]
      · have h4 : gi σ 396 (1 + j) = nI (cS (aC a) j) := by have := hc.2.2.1.2.2.1 j hj; rw [rw_at (by omega), Nat.zero_add] at this; exact this
        unfold fX7_settle
        rw [tk_ok hM.1, m_can hj, if_pos hf, bd_ok, if_pos (by decide), dr_ok hM.2.1 hM2.1.1, hM2.1.2, show (1 : Int32) = nI 1 from rfl, nI_add, ck_n (by omega) (by omega), lt_ok, nI_clamp (by omega), h4, he, if_neg (fun q => q rfl)]
    · have hne : ¬ nI (cS (aC a) j) = nI v := fun q => he ((nI_eq (by omega) (by omega)).mp q)
      refine ⟨nI (cS (aC a) j), setC (rem a) (cF (aC a), cN (aC a), fun i => if i = j then v else cS (aC a) i, 0, 0), ?_, fun σ hc => ?_, fun σ hc => ?_⟩
      · obtain ⟨h1, h2, h3, h4, h5, h6, h7⟩ := rem_wf hw
        refine ⟨h1, h2, ⟨hwc.1, hwc.2.1, fun i hi => ?_, Nat.zero_le _, fun h => absurd h (by show ¬ 1 ≤ 0; omega), fun h => absurd h (by show ¬ 2 ≤ 0; omega)⟩, h4, h5, h6, h7⟩
        show stL i ≤ (if i = j then v else cS (aC a) i) ∧ (if i = j then v else cS (aC a) i) ≤ stH i
        split
        · next q => subst q; exact ⟨hlo, hv⟩
        · exact hwc.2.2.1 i hi
      · obtain ⟨s, e1, e2, e3, e4⟩ := c_rem hR hcp hw hc
        have h4 : gi σ 6 j = nI (cS (aC a) j) := by have := hc.2.2.2.1.2.2.2.2.1 j hj; rw [lc_at (by omega)] at this; exact this
        obtain ⟨d1, d2, d3, d4, d5, d6⟩ := e2
        obtain ⟨r0, r1, r3, r4, r5, r8, r9, r10, r11, r12, r13, l1, l2, lx⟩ := hR
        refine ⟨si (si s 6 j (nI v)) 2 2 0, ?_, ⟨?_, fun i hi => ?_, ?_, ?_, ?_, ?_⟩, fun x k hx => ?_⟩
        · unfold fX6_settle
          rw [tk_ok r0, c_fits hj, if_pos hf, bd_ok, if_pos (by decide), dr_ok r3 l2.1, dr_ok l2.2.2.1 l2.2.2.2.2.2.2.2.2.1.1, l2.2.2.2.2.2.2.2.2.1.2, ck_n hj (by omega), lt_ok, nI_clamp (by omega), h4, if_pos hne, e1, bv_ok, ck_n hj (by omega), ss_ok, ss_ok]
        · rw [gs_ne (by omega), gs_ne (by omega)]; exact d1
        · rw [gs_ne (by omega), gs_ne (by omega)]; exact d2 i hi
        · rw [gs_ne (by omega), gs_ne (by omega)]; exact d3
        · obtain ⟨k1, k2, k3, k4, k5, k6, k7, k8⟩ := d4
          refine ⟨?_, fun i hi => ?_, fun i hi => ?_, ?_, fun i hi => ?_, ?_, fun h => absurd h (by show ¬ 1 ≤ 0; omega), fun h => absurd h (by show ¬ 2 ≤ 0; omega)⟩
          · rw [lc_at (by omega), gs_ne (by omega), gs_ne (by omega), ← lc_at (by omega)]; exact k1
          · rw [lc_at (by omega), gs_ne (by omega), gs_ne (by omega), ← lc_at (by omega)]; exact k2 i hi
          · rw [lc_at (by omega), gs_ne (by omega), gs_ne (by omega), ← lc_at (by omega)]; exact k3 i hi
          · rw [lc_at (by omega), gs_ne (by omega), gs_ne (by omega), ← lc_at (by omega)]; exact k4
          · show _ = nI (if i = j then v else cS (aC a) i)
            rw [lc_at (by omega), gs_ne (by omega)]
            by_cases q : i = j
            · rw [if_pos q, q, gs_eq]
            · rw [if_neg q, gs_ne (by omega), ← lc_at (by omega)]; exact k5 i hi
          · rw [lc_at (by omega), gs_eq]; rfl
        · exact hc_same d5 (by rw [gs_ne (by omega), gs_ne (by omega)]) (by rw [gs_ne (by omega), gs_ne (by omega)]) (fun k => by rw [gs_ne (by omega), gs_ne (by omega)]) (fun x k g1 g2 => by rw [gs_ne (by omega), gs_ne (by omega)])
        · exact sc_same d6 (fun k => by rw [gs_ne (by omega), gs_ne (by omega)]) (fun x k g1 g2 => by rw [gs_ne (by omega), gs_ne (by omega)])
        · rw [gs_ne (by omega), gs_ne (by omega)]; exact e4 x k hx
      · obtain ⟨s, e1, e2, e3, e4⟩ := m_rem hM hM2 hw hc
        have h4 : gi σ 396 (1 + j) = nI (cS (aC a) j) := by have := hc.2.2.1.2.2.1 j hj; rw [rw_at (by omega), Nat.zero_add] at this; exact this
        obtain ⟨d1, d2, d3, d4, d5⟩ := e2
        obtain ⟨s2, g1, g2, g3, g4⟩ := m_begins hM hM2 (σ := si s 396 (1 + j) (nI v))
        have g3' : ∀ k, k < 7 ∨ k = 8 ∨ 26 ≤ k → gi s2 396 k = gi (si s 396 (1 + j) (nI v)) 396 k := fun k hk => g3 k (by omega) (by omega) (by omega) (by omega) (by omega) (by omega) (by omega)
        refine ⟨s2, ?_, ⟨?_, fun i hi => ?_, ?_, ?_, ?_⟩, fun x k hx => ?_⟩
        · unfold fX7_settle
          rw [tk_ok hM.1, m_can hj, if_pos hf, bd_ok, if_pos (by decide), dr_ok hM.2.1 hM2.1.1, hM2.1.2, show (1 : Int32) = nI 1 from rfl, nI_add, ck_n (by omega) (by omega), lt_ok, nI_clamp (by omega), h4, if_pos hne, e1, bv_ok, ck_n (by omega) (by omega), ss_ok, g1, bv_ok]
        · rw [g4 _ _ (by omega), gs_ne (by omega)]; exact d1
        · rw [g4 _ _ (by omega), gs_ne (by omega)]; exact d2 i hi
        · obtain ⟨k1, k2, k3, k4, k5, k6, k7⟩ := d3
          have hn := hwc.1
          refine ⟨?_, fun i hi => ?_, fun i hi => ?_, ?_, ?_, fun h => absurd h (by show ¬ 1 ≤ 0; omega), fun h => absurd h (by show ¬ 2 ≤ 0; omega)⟩
          · rw [rw_at (by omega), g3' _ (by omega), gs_ne (by omega), ← rw_at (by omega)]; exact k1
          · have hi : i < cN (aC a) := hi
            rw [rw_at (by omega), g3' _ (by omega), gs_ne (by omega), ← rw_at (by omega)]; exact k2 i hi
          · show _ = nI (if i = j then v else cS (aC a) i)
            rw [rw_at (by omega), g3' _ (by omega), Nat.zero_add]
            by_cases q : i = j
            · rw [if_pos q, q, gs_eq]
            · rw [if_neg q, gs_ne (by omega), ← Nat.zero_add (1 + i), ← rw_at (by omega)]; exact k3 i hi
          · rw [rw_at (by omega), g2]; rfl
          · rw [rw_at (by omega), g3' _ (by omega), gs_ne (by omega), ← rw_at (by omega)]; exact k5
        · exact hm_same d4 (by rw [g4 _ _ (by omega), gs_ne (by omega)]) (fun k => by rw [g4 _ _ (by omega), gs_ne (by omega)])
        · exact sm_same d5 (by rw [g4 _ _ (by omega), gs_ne (by omega)]) (fun k => by rw [g4 _ _ (by omega), gs_ne (by omega)])
        · rw [g4 _ _ (by omega), gs_ne (by omega)]; exact e4 x k hx
  · refine ⟨-1, a, hw, spc_q (fun σ hc => ⟨σ, ?_, fun _ _ _ => rfl, fun _ _ _ => rfl⟩), spm_q (fun σ hc => ⟨σ, ?_, fun _ _ _ => rfl, fun _ _ _ => rfl⟩)⟩
    · unfold fX6_settle; rw [tk_ok hR.1, c_fits hj, if_neg hf, bd_ok, if_neg (fun q => q rfl)]
    · unfold fX7_settle; rw [tk_ok hM.1, m_can hj, if_neg hf, bd_ok, if_neg (fun q => q rfl)]
end CL
