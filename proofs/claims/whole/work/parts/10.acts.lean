/-! acts: what is remembered ahead of each -/
theorem im_n {a d : Nat} (ha : a < 2 ^ 31) (h0 : 0 < d) (hd : d < 2 ^ 31) : im (nI a) (nI d) = nI (a % d) := pk_rem ha h0 hd
theorem imin_n {a b : Nat} (ha : a < 2 ^ 31) (hb : b < 2 ^ 31) : imin (nI a) (nI b) = nI (min a b) := by
  unfold imin
  by_cases h : b < a
  · rw [if_pos (nI_lt h ha), Nat.min_eq_right (by omega)]
  · rw [if_neg (nI_nlt (by omega) hb), Nat.min_eq_left (by omega)]
theorem imax_n {a b : Nat} (ha : a < 2 ^ 31) (hb : b < 2 ^ 31) : imax (nI a) (nI b) = nI (max a b) := by
  unfold imax
  by_cases h : a < b
  · rw [if_pos (nI_lt h hb), Nat.max_eq_right (by omega)]
  · rw [if_neg (nI_nlt (by omega) ha), Nat.max_eq_left (by omega)]
/-- a State is copied into another one -/
def CPY (E : En) (CG CM : (Nat → Nat → Int32) → Cu → Prop) : Prop := ∀ (σ : Sg) (b b2 : Nat) (c : Cu), LSta E b → LSta E b2 → (b + 33 ≤ b2 ∨ b2 + 33 ≤ b) → Wf c → CS CG CM (lc σ b2) c → ∃ σ', fX4_copyFrom E b b2 σ = some σ' ∧ CS CG CM (lc σ' b) c ∧ ∀ x k, (x < b ∨ b + 33 ≤ x) → gi σ' x k = gi σ x k
/-- an act is remembered -/
def rem (a : Ab) : Ab := (aB a, aN a, aC a, aX a, (aC a, aX a) :: (aH a).take 7, aS a)
theorem rem_wf {a : Ab} (h : Wfa a) : Wfa (rem a) := by
  obtain ⟨h1, h2, h3, h4, h5, h6, h7⟩ := h
  refine ⟨h1, h2, h3, h4, ?_, fun q hq => ?_, h7⟩
  · show ((aC a, aX a) :: (aH a).take 7).length ≤ 8
    simp only [List.length_cons, List.length_take]
    omega
  · rcases List.mem_cons.mp hq with rfl | hq
    · exact ⟨h3, h4⟩
    · exact h6 q (List.mem_of_mem_take hq)
theorem rem_len (h : List (Cu × Nat)) (q : Cu × Nat) (hl : h.length ≤ 8) : (q :: h.take 7).length = if h.length = 8 then 8 else h.length + 1 := by
  simp only [List.length_cons, List.length_take]
  split <;> omega
section AC
variable {CG CM : (Nat → Nat → Int32) → Cu → Prop} {MG MM : (Nat → Int32) → Cu → Prop} {σ : Sg} {a : Ab} {E : En}
theorem c_rem (hR : LRun E) (hcp : CPY E CG CM) (hw : Wfa a) (hc : RC CG CM σ a) : ∃ s, fX6_remember E 0 σ = some s ∧ RC CG CM s (rem a) ∧ (∀ x k, 2 ≤ x → x < 35 → gi s x k = gi σ x k) ∧ ∀ x k, 395 ≤ x → gi s x k = gi σ x k := by
  obtain ⟨c1, c2, c3, c4, ⟨c5, p, hp, c6, c7⟩, c8⟩ := hc
  have hl := hw.2.2.2.2.1
  obtain ⟨r0, r1, r3, r4, r5, r8, r9, r10, r11, r12, r13, l1, l2, l35, l36, l37, l38, l39, l61, l63, l64, lp, ls⟩ := hR
  obtain ⟨lp1, lp2⟩ := lp p hp
  unfold fX6_remember
  rw [tk_ok r0, dr_ok r4 l35.1, c6, l35.2, ck_n hp (by omega), nI_clamp (by omega), dr_ok lp1 lp2.1, dr_ok r3 l2.1]
  obtain ⟨s, e1, e2, e3⟩ := hcp σ (65 + 33 * p) 2 (aC a) lp2 l2 (Or.inr (by omega)) hw.2.2.1 c4
  have f7 : gi s 0 7 = nI p := by rw [e3 _ _ (by omega)]; exact c6
  have f2 : gi s 0 2 = nI (aX a) := by rw [e3 _ _ (by omega)]; exact c3
  have f6 : gi s 0 6 = nI (aH a).length := by rw [e3 _ _ (by omega)]; exact c5
  rw [e1, bv_ok, dr_ok r5 l36.1, f7, l36.2, ck_n hp (by omega), nI_clamp (by omega), f2, ss_ok, ss_ok, ss_ok, gs_ne (by omega), f7, ad1, show (8 : Int32) = nI 8 from rfl, im_n (by omega) (by omega) (by omega), gs_ne (by omega), gs_ne (by omega), f6, ad1, imin_n (by omega) (by omega)]
  refine ⟨_, rfl, ⟨?_, fun i hi => ?_, ?_, ?_, ⟨?_, (p + 1) % 8, Nat.mod_lt _ (by omega), ?_, fun i q hq => ?_⟩, ?_⟩, fun x k h1 h2 => ?_, fun x k h1 => ?_⟩
  · rw [gs_ne (by omega), gs_ne (by omega), gs_ne (by omega), e3 _ _ (by omega)]; exact c1
  · rw [gs_ne (by omega), gs_ne (by omega), gs_ne (by omega), e3 _ _ (by omega)]; exact c2 i hi
  · rw [gs_ne (by omega), gs_ne (by omega), gs_ne (by omega)]; exact f2
  · rw [lc_same (σ := σ) (fun x k g1 g2 => by rw [gs_ne (by omega), gs_ne (by omega), gs_ne (by omega), e3 _ _ (by omega)])]; exact c4
  · rw [gs_eq]
    show _ = nI ((aC a, aX a) :: (aH a).take 7).length
    rw [rem_len _ _ hl]
    congr 1
    split <;> omega
  · rw [gs_ne (by omega), gs_eq]
  · have hq : ((aC a, aX a) :: (aH a).take 7)[i]? = some q := hq
    cases i with
    | zero =>
      simp only [List.getElem?_cons_zero, Option.some.injEq] at hq
      subst hq
      rw [show ((p + 1) % 8 + 15 - 0) % 8 = p by omega]
      refine ⟨?_, ?_⟩
      · rw [lc_same (σ := s) (fun x k g1 g2 => by rw [gs_ne (by omega), gs_ne (by omega), gs_ne (by omega)])]; exact e2
      · rw [gs_ne (by omega), gs_ne (by omega), gs_eq]
    | succ j =>
      rw [List.getElem?_cons_succ] at hq
      have hj : j < 7 := by
        have := (List.getElem?_eq_some_iff.mp hq).1
        simp only [List.length_take] at this
        omega
      rw [List.getElem?_take_of_lt hj] at hq
      obtain ⟨q1, q2⟩ := c7 j q hq
      have hij : ((p + 1) % 8 + 15 - (j + 1)) % 8 = (p + 15 - j) % 8 := by omega
      have hnp : (p + 15 - j) % 8 ≠ p := by omega
      rw [hij]
      generalize (p + 15 - j) % 8 = r at hnp q1 q2 hij ⊢
      refine ⟨?_, ?_⟩
      · have hr : r < 8 := by omega
        rw [lc_same (σ := σ) (fun x k g1 g2 => by rw [gs_ne (by omega), gs_ne (by omega), gs_ne (by omega), e3 _ _ (by omega)])]; exact q1
      · rw [gs_ne (by omega), gs_ne (by omega), gs_ne (by omega), e3 _ _ (by omega)]; exact q2
  · exact sc_same c8 (fun k => by rw [gs_ne (by omega), gs_ne (by omega), gs_ne (by omega), e3 _ _ (by omega)]) (fun x k g1 g2 => by rw [gs_ne (by omega), gs_ne (by omega), gs_ne (by omega), e3 _ _ (by omega)])
  · rw [gs_ne (by omega), gs_ne (by omega), gs_ne (by omega), e3 _ _ (by omega)]
  · rw [gs_ne (by omega), gs_ne (by omega), gs_ne (by omega), e3 _ _ (by omega)]
theorem m_rem (hM : LMod E) (hM2 : LMo2 E) (hw : Wfa a) (hc : RM MG MM σ a) : ∃ s, fX7_remembers E 395 σ = some s ∧ RM MG MM s (rem a) ∧ (∀ k, gi s 396 k = gi σ 396 k) ∧ ∀ x k, x < 395 → gi s x k = gi σ x k := by
  obtain ⟨c1, c2, c3, ⟨c4, c5⟩, c6⟩ := hc
  have hl := hw.2.2.2.2.1
  obtain ⟨s, e1, e2, e3, e4, e5⟩ := mrem hM hM2 hl c4
  refine ⟨s, e1, ⟨?_, fun i hi => ?_, ?_, ⟨?_, fun i q hq => ?_⟩, ?_⟩, fun k => e3 _ _ (by omega) (by omega), fun x k h => e3 _ _ (by omega) (by omega)⟩
  · rw [e3 _ _ (by omega) (by omega)]; exact c1
  · rw [e3 _ _ (by omega) (by omega)]; exact c2 i hi
  · rw [rw_same (σ := σ) (fun k => e3 _ _ (by omega) (by omega))]; exact c3
  · rw [e2]
    show _ = nI ((aC a, aX a) :: (aH a).take 7).length
    rw [rem_len _ _ hl]
  · have hq : ((aC a, aX a) :: (aH a).take 7)[i]? = some q := hq
    show MR MG MM (rw7 s 398 (7827 * (((aC a, aX a) :: (aH a).take 7).length - 1 - i))) q.1 q.2
    rw [rem_len _ _ hl]
    cases i with
    | zero =>
      simp only [List.getElem?_cons_zero, Option.some.injEq] at hq
      subst hq
      have : rw7 s 398 (7827 * ((if (aH a).length = 8 then 8 else (aH a).length + 1) - 1 - 0)) = rw7 σ 396 0 := by
        funext j
        unfold rw7
        split
        · next hj =>
          rw [show (if (aH a).length = 8 then 8 else (aH a).length + 1) - 1 - 0 = if (aH a).length = 8 then 7 else (aH a).length by split <;> omega, e4 j hj, Nat.zero_add]
        · rfl
      rw [this]
      exact c3
    | succ j =>
      rw [List.getElem?_cons_succ] at hq
      have hj : j < 7 := by
        have := (List.getElem?_eq_some_iff.mp hq).1
        simp only [List.length_take] at this
        omega
      rw [List.getElem?_take_of_lt hj] at hq
      have hjl : j < (aH a).length := (List.getElem?_eq_some_iff.mp hq).1
      have : rw7 s 398 (7827 * ((if (aH a).length = 8 then 8 else (aH a).length + 1) - 1 - (j + 1))) = rw7 σ 398 (7827 * ((aH a).length - 1 - j)) := by
        funext k
        unfold rw7
        split
        · next hk =>
          by_cases h8 : (aH a).length = 8
          · rw [if_pos h8, e5 _ (by rw [if_pos h8]; omega), if_pos h8, h8]
            congr 1
            omega
          · rw [if_neg h8, e5 _ (by rw [if_neg h8]; omega), if_neg h8]
            congr 1
            omega
        · rfl
      rw [this]
      exact c5 j q hq
  · exact sm_same c6 (e3 _ _ (by omega) (by omega)) (fun k => e3 _ _ (by omega) (by omega))
end AC
