/-! the bond between class and reference -/
def lc (σ : Sg) (b : Nat) : Nat → Nat → Int32 := fun x k => if x < 33 then gi σ (b + x) k else 0
def rw7 (σ : Sg) (a off : Nat) : Nat → Int32 := fun j => if j < 7827 then gi σ a (off + j) else 0
/-- a state on paper: keys, how many, settings, stage, steps so far -/
abbrev Cu : Type := (Nat → Nat) × Nat × (Nat → Nat) × Nat × Nat
abbrev cF (c : Cu) : Nat → Nat := c.1
abbrev cN (c : Cu) : Nat := c.2.1
abbrev cS (c : Cu) : Nat → Nat := c.2.2.1
abbrev cT (c : Cu) : Nat := c.2.2.2.1
abbrev cI (c : Cu) : Nat := c.2.2.2.2
def insR (f : Nat → Nat) (n : Nat) : List Nat → List Nat
  | [] => [n]
  | a :: l => if f n < f a then n :: a :: l else a :: insR f n l
/-- the records in rising order -/
def rs (f : Nat → Nat) : Nat → List Nat
  | 0 => []
  | n + 1 => insR f n (rs f n)
def gtC (f : Nat → Nat) (k : Nat) : Nat → Nat
  | 0 => 0
  | n + 1 => gtC f k n + (if k < f n then 1 else 0)
/-- how many inversions -/
def inv (f : Nat → Nat) : Nat → Nat
  | 0 => 0
  | n + 1 => inv f n + gtC f (f n) n
def stL (j : Nat) : Nat := match j with
  | 0 => 2 | 1 => 3 | _ => 0
def stH (j : Nat) : Nat := match j with
  | 0 => 16 | 1 => 6 | 2 => 2 | _ => 1
def Wf (c : Cu) : Prop := cN c ≤ 300 ∧ (∀ i, i < cN c → cF c i < 256) ∧ (∀ j, j < 6 → stL j ≤ cS c j ∧ cS c j ≤ stH j) ∧ cT c ≤ 3 ∧ (1 ≤ cT c → 0 < cN c) ∧ (2 ≤ cT c → cS c 2 ≠ 1 ∨ 3 < cS c 1)
/-- the class's state, by the cells of one State; CG, CM: what is grown, what is on the tapes -/
def CS (CG CM : (Nat → Nat → Int32) → Cu → Prop) (l : Nat → Nat → Int32) (c : Cu) : Prop :=
  l 1 2 = nI (cN c) ∧ (∀ i, i < cN c → l 2 i = nI (cF c i)) ∧ (∀ i, i < cN c → l 3 i = nI ((rs (cF c) (cN c)).getD i 0)) ∧ l 1 3 = nI (inv (cF c) (cN c)) ∧ (∀ j, j < 6 → l 4 j = nI (cS c j)) ∧ l 0 2 = nI (cT c) ∧ (1 ≤ cT c → CG l c) ∧ (2 ≤ cT c → CM l c)
/-- the reference's state, by one row of numbers -/
def MR (MG MM : (Nat → Int32) → Cu → Prop) (r : Nat → Int32) (c : Cu) (x : Nat) : Prop :=
  r 0 = nI (cN c) ∧ (∀ i, i < cN c → r (26 + i) = nI (cF c i)) ∧ (∀ j, j < 6 → r (1 + j) = nI (cS c j)) ∧ r 7 = nI (cT c) ∧ r 8 = nI x ∧ (1 ≤ cT c → MG r c) ∧ (2 ≤ cT c → MM r c)
abbrev Ab : Type := (Nat → Nat) × Nat × Cu × Nat × List (Cu × Nat) × (Nat → Option (Cu × Nat))
abbrev aB (a : Ab) : Nat → Nat := a.1
abbrev aN (a : Ab) : Nat := a.2.1
abbrev aC (a : Ab) : Cu := a.2.2.1
abbrev aX (a : Ab) : Nat := a.2.2.2.1
abbrev aH (a : Ab) : List (Cu × Nat) := a.2.2.2.2.1
abbrev aS (a : Ab) : Nat → Option (Cu × Nat) := a.2.2.2.2.2
/-- what can be undone (the last first), the shelves: in the class, in the reference -/
def HC (CG CM : (Nat → Nat → Int32) → Cu → Prop) (σ : Sg) (h : List (Cu × Nat)) : Prop := gi σ 0 6 = nI h.length ∧ ∃ p, p < 8 ∧ gi σ 0 7 = nI p ∧ ∀ i q, h[i]? = some q → CS CG CM (lc σ (65 + 33 * ((p + 15 - i) % 8))) q.1 ∧ gi σ 36 ((p + 15 - i) % 8) = nI q.2
def SC (CG CM : (Nat → Nat → Int32) → Cu → Prop) (σ : Sg) (s : Nat → Option (Cu × Nat)) : Prop := ∀ i, i < 2 → gi σ 38 i = bI (s i).isSome ∧ ∀ q, s i = some q → CS CG CM (lc σ (329 + 33 * i)) q.1
def HM (MG MM : (Nat → Int32) → Cu → Prop) (σ : Sg) (h : List (Cu × Nat)) : Prop := gi σ 395 4 = nI h.length ∧ ∀ i q, h[i]? = some q → MR MG MM (rw7 σ 398 (7827 * (h.length - 1 - i))) q.1 q.2
def SM (MG MM : (Nat → Int32) → Cu → Prop) (σ : Sg) (s : Nat → Option (Cu × Nat)) : Prop := ∃ w : Nat, w < 4 ∧ gi σ 395 5 = nI w ∧ ∀ i, i < 2 → w.testBit i = (s i).isSome ∧ ∀ q, s i = some q → MR MG MM (rw7 σ 399 (7827 * i)) q.1 q.2
def RC (CG CM : (Nat → Nat → Int32) → Cu → Prop) (σ : Sg) (a : Ab) : Prop := gi σ 0 1 = nI (aN a) ∧ (∀ i, i < aN a → gi σ 1 i = nI (aB a i)) ∧ gi σ 0 2 = nI (aX a) ∧ CS CG CM (lc σ 2) (aC a) ∧ HC CG CM σ (aH a) ∧ SC CG CM σ (aS a)
def RM (MG MM : (Nat → Int32) → Cu → Prop) (σ : Sg) (a : Ab) : Prop := gi σ 395 7 = nI (aN a) ∧ (∀ i, i < aN a → gi σ 400 i &&& 255 = nI (aB a i)) ∧ MR MG MM (rw7 σ 396 0) (aC a) (aX a) ∧ HM MG MM σ (aH a) ∧ SM MG MM σ (aS a)
def Wfa (a : Ab) : Prop := aN a ≤ 200 ∧ (∀ i, i < aN a → aB a i < 256) ∧ Wf (aC a) ∧ aX a < 2 ^ 31 ∧ (aH a).length ≤ 8 ∧ (∀ q ∈ aH a, Wf q.1 ∧ q.2 < 2 ^ 31) ∧ ∀ i q, aS a i = some q → Wf q.1
def JJ (CG CM : (Nat → Nat → Int32) → Cu → Prop) (MG MM : (Nat → Int32) → Cu → Prop) (σ : Sg) : Prop := ∃ a, Wfa a ∧ RC CG CM σ a ∧ RM MG MM σ a
/-- a call answers r and leads from a to a' -/
def SpC (CG CM : (Nat → Nat → Int32) → Cu → Prop) (f : Sg → Option (Int32 × Sg)) (r : Int32) (a a' : Ab) : Prop := ∀ σ, RC CG CM σ a → ∃ s, f σ = some (r, s) ∧ RC CG CM s a' ∧ ∀ x k, 395 ≤ x → gi s x k = gi σ x k
def SpM (MG MM : (Nat → Int32) → Cu → Prop) (f : Sg → Option (Int32 × Sg)) (r : Int32) (a a' : Ab) : Prop := ∀ σ, RM MG MM σ a → ∃ s, f σ = some (r, s) ∧ RM MG MM s a' ∧ ∀ x k, x < 395 → gi s x k = gi σ x k
theorem gs_ne {σ : Sg} {a k b j : Nat} {v : Int32} (h : b ≠ a ∨ j ≠ k) : gi (si σ a k v) b j = gi σ b j := by rw [gi_si, if_neg (by omega)]
theorem gs_eq {σ : Sg} {a k : Nat} {v : Int32} : gi (si σ a k v) a k = v := by rw [gi_si, if_pos ⟨rfl, rfl⟩]
theorem lc_same {σ σ' : Sg} {b : Nat} (h : ∀ x k, b ≤ x → x < b + 33 → gi σ' x k = gi σ x k) : lc σ' b = lc σ b := by
  funext x k
  unfold lc
  split
  · exact h _ _ (by omega) (by omega)
  · rfl
theorem rw_same {σ σ' : Sg} {a off : Nat} (h : ∀ k, gi σ' a k = gi σ a k) : rw7 σ' a off = rw7 σ a off := by
  funext k
  unfold rw7
  split
  · exact h _
  · rfl
section BD
variable {CG CM : (Nat → Nat → Int32) → Cu → Prop} {MG MM : (Nat → Int32) → Cu → Prop} {σ σ' : Sg} {h : List (Cu × Nat)} {s : Nat → Option (Cu × Nat)} {a a' : Ab}
theorem hc_same (H : HC CG CM σ h) (h1 : gi σ' 0 6 = gi σ 0 6) (h2 : gi σ' 0 7 = gi σ 0 7) (h4 : ∀ k, gi σ' 36 k = gi σ 36 k) (h5 : ∀ x k, 65 ≤ x → x < 329 → gi σ' x k = gi σ x k) : HC CG CM σ' h := by
  obtain ⟨a2, p, hp, a4, a5⟩ := H
  refine ⟨h1.trans a2, p, hp, h2.trans a4, fun i q hq => ?_⟩
  obtain ⟨b3, b4⟩ := a5 i q hq
  refine ⟨?_, (h4 _).trans b4⟩
  rw [lc_same (fun x k g1 g2 => h5 x k (by omega) (by omega))]
  exact b3
theorem sc_same (H : SC CG CM σ s) (h2 : ∀ k, gi σ' 38 k = gi σ 38 k) (h5 : ∀ x k, 329 ≤ x → x < 395 → gi σ' x k = gi σ x k) : SC CG CM σ' s := by
  intro i hi
  obtain ⟨b1, b3⟩ := H i hi
  refine ⟨(h2 i).trans b1, fun q hq => ?_⟩
  rw [lc_same (fun x k g1 g2 => h5 x k (by omega) (by omega))]
  exact b3 q hq
theorem hm_same (H : HM MG MM σ h) (h3 : gi σ' 395 4 = gi σ 395 4) (h6 : ∀ k, gi σ' 398 k = gi σ 398 k) : HM MG MM σ' h := ⟨h3.trans H.1, fun i q hq => by rw [rw_same h6]; exact H.2 i q hq⟩
theorem sm_same (H : SM MG MM σ s) (h1 : gi σ' 395 5 = gi σ 395 5) (h6 : ∀ k, gi σ' 399 k = gi σ 399 k) : SM MG MM σ' s := by
  obtain ⟨w, hw, a1, a2⟩ := H
  exact ⟨w, hw, h1.trans a1, fun i hi => ⟨(a2 i hi).1, fun q hq => by rw [rw_same h6]; exact (a2 i hi).2 q hq⟩⟩
/-- cells that the bond speaks of -/
def esC (x k : Nat) : Prop := (x = 0 ∧ (k = 1 ∨ k = 2 ∨ k = 6 ∨ k = 7)) ∨ x = 1 ∨ (2 ≤ x ∧ x < 35) ∨ x = 36 ∨ x = 38 ∨ (65 ≤ x ∧ x < 395)
def esM (x k : Nat) : Prop := (x = 395 ∧ (k = 4 ∨ k = 5 ∨ k = 7)) ∨ x = 396 ∨ x = 398 ∨ x = 399 ∨ x = 400
theorem rc_same (H : RC CG CM σ a) (h : ∀ x k, esC x k → gi σ' x k = gi σ x k) : RC CG CM σ' a := by
  obtain ⟨h1, h2, h3, h4, h5, h6⟩ := H
  refine ⟨(h 0 1 (by unfold esC; omega)).trans h1, fun i hi => (h 1 i (by unfold esC; omega)).trans (h2 i hi), (h 0 2 (by unfold esC; omega)).trans h3, ?_, ?_, ?_⟩
  · rw [lc_same (σ := σ) (fun x k g1 g2 => h x k (by unfold esC; omega))]; exact h4
  · exact hc_same h5 (h _ _ (by unfold esC; omega)) (h _ _ (by unfold esC; omega)) (fun k => h _ _ (by unfold esC; omega)) (fun x k g1 g2 => h _ _ (by unfold esC; omega))
  · exact sc_same h6 (fun k => h _ _ (by unfold esC; omega)) (fun x k g1 g2 => h _ _ (by unfold esC; omega))
theorem rm_same (H : RM MG MM σ a) (h : ∀ x k, esM x k → gi σ' x k = gi σ x k) : RM MG MM σ' a := by
  obtain ⟨h1, h2, h3, h4, h5⟩ := H
  refine ⟨(h _ _ (by unfold esM; omega)).trans h1, fun i hi => by rw [h 400 i (by unfold esM; omega)]; exact h2 i hi, ?_, ?_, ?_⟩
  · rw [rw_same (σ := σ) (fun k => h 396 k (by unfold esM; omega))]; exact h3
  · exact hm_same h4 (h _ _ (by unfold esM; omega)) (fun k => h _ _ (by unfold esM; omega))
  · exact sm_same h5 (h _ _ (by unfold esM; omega)) (fun k => h _ _ (by unfold esM; omega))
theorem ok_of {f g : Sg → Option (Int32 × Sg)} (H : ∀ a, Wfa a → ∃ r a', Wfa a' ∧ SpC CG CM f r a a' ∧ SpM MG MM g r a a') : Ok (JJ CG CM MG MM) f g := by
  rintro σ ⟨a, hw, hc, hm⟩
  obtain ⟨r, a', hw', h1, h2⟩ := H a hw
  obtain ⟨s1, e1, c1, f1⟩ := h1 σ hc
  obtain ⟨s2, e2, c2, f2⟩ := h2 s1 (rm_same hm (fun x k he => f1 x k (by unfold esM at he; omega)))
  exact ⟨r, s1, s2, e1, e2, a', hw', rc_same c1 (fun x k he => f2 x k (by unfold esC at he; omega)), c2⟩
/-- a call that only looks, and writes beside -/
theorem spc_q {f : Sg → Option (Int32 × Sg)} {r : Int32} (H : ∀ σ, RC CG CM σ a → ∃ s, f σ = some (r, s) ∧ (∀ x k, esC x k → gi s x k = gi σ x k) ∧ ∀ x k, 395 ≤ x → gi s x k = gi σ x k) : SpC CG CM f r a a := by
  intro σ hc
  obtain ⟨s, e, h1, h2⟩ := H σ hc
  exact ⟨s, e, rc_same hc h1, h2⟩
theorem spm_q {f : Sg → Option (Int32 × Sg)} {r : Int32} (H : ∀ σ, RM MG MM σ a → ∃ s, f σ = some (r, s) ∧ (∀ x k, esM x k → gi s x k = gi σ x k) ∧ ∀ x k, x < 395 → gi s x k = gi σ x k) : SpM MG MM f r a a := by
  intro σ hc
  obtain ⟨s, e, h1, h2⟩ := H σ hc
  exact ⟨s, e, rm_same hc h1, h2⟩
theorem ok_end {E : En} (hR : LRun E) (hM : LMod E) (p0 : Int32) : Ok (JJ CG CM MG MM) (fX6_end E 0 p0) (fX7_end E 395 p0) := by
  refine ok_of (fun a hw => ?_)
  by_cases h1 : p0 < 0
  · refine ⟨-1, a, hw, spc_q (fun σ hc => ⟨σ, ?_, fun _ _ _ => rfl, fun _ _ _ => rfl⟩), spm_q (fun σ hc => ⟨σ, ?_, fun _ _ _ => rfl, fun _ _ _ => rfl⟩)⟩
    · unfold fX6_end; rw [tk_ok hR.1, if_pos h1]
    · unfold fX7_end; rw [tk_ok hM.1, if_pos h1]
  obtain ⟨j, hj, rfl⟩ := nI_of h1
  by_cases h2 : j ≤ aN a
  · have hn := hw.1
    refine ⟨nI j, (aB a, j, a.2.2), ⟨Nat.le_trans h2 hn, fun i hi => hw.2.1 i (Nat.lt_of_lt_of_le hi h2), hw.2.2⟩, fun σ hc => ⟨si σ 0 1 (nI j), ?_, ⟨gs_eq, fun i hi => ?_, ?_, ?_, ?_, ?_⟩, fun x k hx => gs_ne (by omega)⟩, fun σ hc => ⟨si σ 395 7 (nI j), ?_, ⟨gs_eq, fun i hi => ?_, ?_, ?_, ?_⟩, fun x k hx => gs_ne (by omega)⟩⟩
    · unfold fX6_end; rw [tk_ok hR.1, if_neg h1, hc.1, if_pos (nI_le h2 (by omega)), ss_ok]
    · rw [gs_ne (by omega)]; exact hc.2.1 i (Nat.lt_of_lt_of_le hi h2)
    · rw [gs_ne (by omega)]; exact hc.2.2.1
    · rw [lc_same (σ := σ) (fun x k g1 g2 => gs_ne (by omega))]; exact hc.2.2.2.1
    · exact hc_same hc.2.2.2.2.1 (gs_ne (by omega)) (gs_ne (by omega)) (fun k => gs_ne (by omega)) (fun x k g1 g2 => gs_ne (by omega))
    · exact sc_same hc.2.2.2.2.2 (fun k => gs_ne (by omega)) (fun x k g1 g2 => gs_ne (by omega))
    · unfold fX7_end; rw [tk_ok hM.1, if_neg h1, hc.1, if_pos (nI_le h2 (by omega)), ss_ok]
    · rw [gs_ne (by omega)]; exact hc.2.1 i (Nat.lt_of_lt_of_le hi h2)
    · rw [rw_same (σ := σ) (fun k => gs_ne (by omega))]; exact hc.2.2.1
    · exact hm_same hc.2.2.2.1 (gs_ne (by omega)) (fun k => gs_ne (by omega))
    · exact sm_same hc.2.2.2.2 (gs_ne (by omega)) (fun k => gs_ne (by omega))
  · have hn := hw.1
    have h3 : ¬ nI j ≤ nI (aN a) := fun q => h2 ((nI_leI hj (by omega)).mp q)
    refine ⟨-1, a, hw, spc_q (fun σ hc => ⟨σ, ?_, fun _ _ _ => rfl, fun _ _ _ => rfl⟩), spm_q (fun σ hc => ⟨σ, ?_, fun _ _ _ => rfl, fun _ _ _ => rfl⟩)⟩
    · unfold fX6_end; rw [tk_ok hR.1, if_neg h1, hc.1, if_neg h3]
    · unfold fX7_end; rw [tk_ok hM.1, if_neg h1, hc.1, if_neg h3]
theorem ok_draws {E : En} (hR : LRun E) (hM : LMod E) (hM2 : LMo2 E) (hmx : ∀ r r' c, (∀ j, j ≠ 8 → r' j = r j) → (MG r c → MG r' c) ∧ (MM r c → MM r' c)) (p0 : Int32) : Ok (JJ CG CM MG MM) (fX6_draws E 0 p0) (fX7_draws E 395 p0) := by
  refine ok_of (fun a hw => ?_)
  by_cases h1 : 0 ≤ p0
  · obtain ⟨j, hj, rfl⟩ := nI_of (Int32.not_lt.mpr h1)
    refine ⟨nI (aX a), (aB a, aN a, aC a, j, a.2.2.2.2), ⟨hw.1, hw.2.1, hw.2.2.1, hj, hw.2.2.2.2⟩, fun σ hc => ⟨si σ 0 2 (nI j), ?_, ⟨?_, fun i hi => ?_, gs_eq, ?_, ?_, ?_⟩, fun x k hx => gs_ne (by omega)⟩, fun σ hc => ⟨si σ 396 8 (nI j), ?_, ⟨?_, fun i hi => ?_, ?_, ?_, ?_⟩, fun x k hx => gs_ne (by omega)⟩⟩
    · unfold fX6_draws; rw [tk_ok hR.1, if_pos h1, lt_ok, ss_ok, hc.2.2.1]
    · rw [gs_ne (by omega)]; exact hc.1
    · rw [gs_ne (by omega)]; exact hc.2.1 i hi
    · rw [lc_same (σ := σ) (fun x k g1 g2 => gs_ne (by omega))]; exact hc.2.2.2.1
    · exact hc_same hc.2.2.2.2.1 (gs_ne (by omega)) (gs_ne (by omega)) (fun k => gs_ne (by omega)) (fun x k g1 g2 => gs_ne (by omega))
    · exact sc_same hc.2.2.2.2.2 (fun k => gs_ne (by omega)) (fun x k g1 g2 => gs_ne (by omega))
    · have hm8 : gi σ 396 8 = nI (aX a) := by simpa [rw7] using hc.2.2.1.2.2.2.2.1
      unfold fX7_draws
      rw [tk_ok hM.1, if_pos h1, dr_ok hM.2.1 hM2.1.1, hM2.1.2, show (8 : Int32) = nI 8 from rfl, ck_n (by omega) (by omega), lt_ok, ck_n (by omega) (by omega), ss_ok, nI_clamp (by omega), hm8]
    · rw [gs_ne (by omega)]; exact hc.1
    · rw [gs_ne (by omega)]; exact hc.2.1 i hi
    · obtain ⟨m1, m2, m3, m4, m5, m6, m7⟩ := hc.2.2.1
      have e : ∀ i, i ≠ 8 → rw7 (si σ 396 8 (nI j)) 396 0 i = rw7 σ 396 0 i := by
        intro i hi
        unfold rw7
        rw [gs_ne (by omega)]
      refine ⟨(e 0 (by omega)).trans m1, fun i hi => ?_, fun i hi => ?_, (e 7 (by omega)).trans m4, ?_, fun q => (hmx _ _ (aC a) e).1 (m6 q), fun q => (hmx _ _ (aC a) e).2 (m7 q)⟩
      · rw [e _ (by omega)]; exact m2 i hi
      · rw [e _ (by omega)]; exact m3 i hi
      · simp [rw7, gs_eq]
    · exact hm_same hc.2.2.2.1 (gs_ne (by omega)) (fun k => gs_ne (by omega))
    · exact sm_same hc.2.2.2.2 (gs_ne (by omega)) (fun k => gs_ne (by omega))
  · refine ⟨-1, a, hw, spc_q (fun σ hc => ⟨σ, ?_, fun _ _ _ => rfl, fun _ _ _ => rfl⟩), spm_q (fun σ hc => ⟨σ, ?_, fun _ _ _ => rfl, fun _ _ _ => rfl⟩)⟩
    · unfold fX6_draws; rw [tk_ok hR.1, if_neg h1]
    · unfold fX7_draws; rw [tk_ok hM.1, if_neg h1]
end BD
