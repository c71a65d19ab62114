/-! the bond between class and reference -/
def lc (σ : Sg) (b : Nat) : Nat → Nat → Int32 := fun x k => if x < 33 then gi σ (b + x) k else 0
def rw7 (σ : Sg) (a off : Nat) : Nat → Int32 := fun j => if j < 7827 then gi σ a (off + j) else 0
/-- a state on paper: keys, how many, settings, stage, steps so far -/
abbrev Cu : Type := (Nat → Nat) × Nat × (Nat → Nat) × Nat × Nat
abbrev cF (c : Cu) : Nat → Nat := c.1
abbrev cN (c : Cu) : Nat := c.2.1
abbrev cS (c : Cu) : Nat → Nat := c.2.2.1
abbrev cT (c : Cu) : Nat := c.2.2.2.1
abbrev cI (c : Cu) : Nat := c.2.2.2.2
def insR (f : Nat → Nat) (n : Nat) : List Nat → List Nat
  | [] => [n]
  | a :: l => if f n < f a then n :: a :: l else a :: insR f n l
/-- the records in rising order -/
def rs (f : Nat → Nat) : Nat → List Nat
  | 0 => []
  | n + 1 => insR f n (rs f n)
def gtC (f : Nat → Nat) (k : Nat) : Nat → Nat
  | 0 => 0
  | n + 1 => gtC f k n + (if k < f n then 1 else 0)
/-- how many inversions -/
def inv (f : Nat → Nat) : Nat → Nat
  | 0 => 0
  | n + 1 => inv f n + gtC f (f n) n
def stL (j : Nat) : Nat := match j with
  | 0 => 2 | 1 => 3 | _ => 0
def stH (j : Nat) : Nat := match j with
  | 0 => 16 | 1 => 6 | 2 => 2 | _ => 1
def Wf (c : Cu) : Prop := cN c ≤ 300 ∧ (∀ i, i < cN c → cF c i < 256) ∧ (∀ j, j < 6 → stL j ≤ cS c j ∧ cS c j ≤ stH j) ∧ cT c ≤ 3 ∧ (1 ≤ cT c → 0 < cN c) ∧ (2 ≤ cT c → cS c 2 ≠ 1 ∨ 3 < cS c 1)
/-- the class's state, by the cells of one State; CG, CM: what is grown, what is on the tapes -/
def CS (CG CM : (Nat → Nat → Int32) → Cu → Prop) (l : Nat → Nat → Int32) (c : Cu) : Prop :=
  l 1 2 = nI (cN c) ∧ (∀ i, i < cN c → l 2 i = nI (cF c i)) ∧ (∀ i, i < cN c → l 3 i = nI ((rs (cF c) (cN c)).getD i 0)) ∧ l 1 3 = nI (inv (cF c) (cN c)) ∧ (∀ j, j < 6 → l 4 j = nI (cS c j)) ∧ l 0 2 = nI (cT c) ∧ (1 ≤ cT c → CG l c) ∧ (2 ≤ cT c → CM l c)
/-- the reference's state, by one row of numbers -/
def MR (MG MM : (Nat → Int32) → Cu → Prop) (r : Nat → Int32) (c : Cu) (x : Nat) : Prop :=
  r 0 = nI (cN c) ∧ (∀ i, i < cN c → r (26 + i) = nI (cF c i)) ∧ (∀ j, j < 6 → r (1 + j) = nI (cS c j)) ∧ r 7 = nI (cT c) ∧ r 8 = nI x ∧ (1 ≤ cT c → MG r c) ∧ (2 ≤ cT c → MM r c)
/-- the bytes that are not told yet -/
def BB (σ : Sg) (n : Nat) : Prop := n ≤ 200 ∧ gi σ 0 1 = nI n ∧ gi σ 395 7 = nI n ∧ ∀ i, i < n → gi σ 1 i = gi σ 400 i &&& 255
/-- what can be undone: the last first -/
def HH (CG CM : (Nat → Nat → Int32) → Cu → Prop) (MG MM : (Nat → Int32) → Cu → Prop) (σ : Sg) (h : List (Cu × Nat)) : Prop :=
  h.length ≤ 8 ∧ gi σ 0 6 = nI h.length ∧ gi σ 395 4 = nI h.length ∧ ∃ p, p < 8 ∧ gi σ 0 7 = nI p ∧ ∀ i q, h[i]? = some q → Wf q.1 ∧ q.2 < 2 ^ 31 ∧ CS CG CM (lc σ (65 + 33 * ((p + 15 - i) % 8))) q.1 ∧ gi σ 36 ((p + 15 - i) % 8) = nI q.2 ∧ MR MG MM (rw7 σ 398 (7827 * (h.length - 1 - i))) q.1 q.2
/-- the shelves -/
def SH (CG CM : (Nat → Nat → Int32) → Cu → Prop) (MG MM : (Nat → Int32) → Cu → Prop) (σ : Sg) (s : Nat → Option (Cu × Nat)) : Prop :=
  ∃ w : Nat, w < 4 ∧ gi σ 395 5 = nI w ∧ ∀ i, i < 2 → (gi σ 38 i = bI (s i).isSome) ∧ (w.testBit i = (s i).isSome) ∧ ∀ q, s i = some q → Wf q.1 ∧ CS CG CM (lc σ (329 + 33 * i)) q.1 ∧ MR MG MM (rw7 σ 399 (7827 * i)) q.1 q.2
def JJ (CG CM : (Nat → Nat → Int32) → Cu → Prop) (MG MM : (Nat → Int32) → Cu → Prop) (σ : Sg) : Prop :=
  ∃ (n : Nat) (c : Cu) (x : Nat) (h : List (Cu × Nat)) (s : Nat → Option (Cu × Nat)), BB σ n ∧ Wf c ∧ x < 2 ^ 31 ∧ gi σ 0 2 = nI x ∧ CS CG CM (lc σ 2) c ∧ MR MG MM (rw7 σ 396 0) c x ∧ HH CG CM MG MM σ h ∧ SH CG CM MG MM σ s
theorem gs_ne {σ : Sg} {a k b j : Nat} {v : Int32} (h : b ≠ a ∨ j ≠ k) : gi (si σ a k v) b j = gi σ b j := by rw [gi_si, if_neg (by omega)]
theorem gs_eq {σ : Sg} {a k : Nat} {v : Int32} : gi (si σ a k v) a k = v := by rw [gi_si, if_pos ⟨rfl, rfl⟩]
theorem lc_same {σ σ' : Sg} {b : Nat} (h : ∀ x k, b ≤ x → x < b + 33 → gi σ' x k = gi σ x k) : lc σ' b = lc σ b := by
  funext x k
  unfold lc
  split
  · exact h _ _ (by omega) (by omega)
  · rfl
theorem rw_same {σ σ' : Sg} {a off : Nat} (h : ∀ k, gi σ' a k = gi σ a k) : rw7 σ' a off = rw7 σ a off := by
  funext k
  unfold rw7
  split
  · exact h _
  · rfl
theorem hh_same {CG CM : (Nat → Nat → Int32) → Cu → Prop} {MG MM : (Nat → Int32) → Cu → Prop} {σ σ' : Sg} {h : List (Cu × Nat)} (H : HH CG CM MG MM σ h) (h1 : gi σ' 0 6 = gi σ 0 6) (h2 : gi σ' 0 7 = gi σ 0 7) (h3 : gi σ' 395 4 = gi σ 395 4) (h4 : ∀ k, gi σ' 36 k = gi σ 36 k) (h5 : ∀ x k, 65 ≤ x → x < 329 → gi σ' x k = gi σ x k) (h6 : ∀ k, gi σ' 398 k = gi σ 398 k) : HH CG CM MG MM σ' h := by
  obtain ⟨a1, a2, a3, p, hp, a4, a5⟩ := H
  refine ⟨a1, h1.trans a2, h3.trans a3, p, hp, h2.trans a4, fun i q hq => ?_⟩
  obtain ⟨b1, b2, b3, b4, b5⟩ := a5 i q hq
  refine ⟨b1, b2, ?_, (h4 _).trans b4, by rw [rw_same h6]; exact b5⟩
  rw [lc_same (fun x k g1 g2 => h5 x k (by omega) (by omega))]
  exact b3
theorem sh_same {CG CM : (Nat → Nat → Int32) → Cu → Prop} {MG MM : (Nat → Int32) → Cu → Prop} {σ σ' : Sg} {s : Nat → Option (Cu × Nat)} (H : SH CG CM MG MM σ s) (h1 : gi σ' 395 5 = gi σ 395 5) (h2 : ∀ k, gi σ' 38 k = gi σ 38 k) (h5 : ∀ x k, 329 ≤ x → x < 395 → gi σ' x k = gi σ x k) (h6 : ∀ k, gi σ' 399 k = gi σ 399 k) : SH CG CM MG MM σ' s := by
  obtain ⟨w, hw, a1, a2⟩ := H
  refine ⟨w, hw, h1.trans a1, fun i hi => ?_⟩
  obtain ⟨b1, b2, b3⟩ := a2 i hi
  refine ⟨(h2 i).trans b1, b2, fun q hq => ?_⟩
  obtain ⟨c1, c2, c3⟩ := b3 q hq
  refine ⟨c1, ?_, by rw [rw_same h6]; exact c3⟩
  rw [lc_same (fun x k g1 g2 => h5 x k (by omega) (by omega))]
  exact c2
theorem ok_end {CG CM : (Nat → Nat → Int32) → Cu → Prop} {MG MM : (Nat → Int32) → Cu → Prop} {E : En} (hR : LRun E) (hM : LMod E) (p0 : Int32) : Ok (JJ CG CM MG MM) (fX6_end E 0 p0) (fX7_end E 395 p0) := by
  rintro σ ⟨n, c, x, h, s, ⟨b1, b2, b3, b4⟩, hw, hx, hx2, hc, hm, hh, hs⟩
  unfold fX6_end fX7_end
  rw [tk_ok hR.1, b2]
  by_cases h1 : p0 < 0
  · rw [if_pos h1]
    refine ⟨_, σ, σ, rfl, ?_, n, c, x, h, s, ⟨b1, b2, b3, b4⟩, hw, hx, hx2, hc, hm, hh, hs⟩
    rw [tk_ok hM.1, if_pos h1]
  · obtain ⟨j, hj, rfl⟩ := nI_of h1
    rw [if_neg h1]
    by_cases h2 : j ≤ n
    · rw [if_pos (nI_le h2 (by omega)), ss_ok]
      refine ⟨_, _, si (si σ 0 1 (nI j)) 395 7 (nI j), rfl, ?_, j, c, x, h, s, ⟨by omega, ?_, ?_, ?_⟩, hw, hx, ?_, ?_, ?_, ?_, ?_⟩
      · rw [tk_ok hM.1, if_neg h1, gs_ne (by omega), b3, if_pos (nI_le h2 (by omega)), ss_ok]
      · simp [gi_si]
      · simp [gi_si]
      · intro i hi
        simp [gi_si]
        exact b4 i (by omega)
      · simp [gi_si]; exact hx2
      · rw [lc_same (σ := σ) (fun x k g1 g2 => by rw [gi_si, if_neg (by omega), gi_si, if_neg (by omega)])]; exact hc
      · rw [rw_same (σ := σ) (fun k => by rw [gi_si, if_neg (by omega), gi_si, if_neg (by omega)])]; exact hm
      · refine hh_same hh ?_ ?_ ?_ (fun k => ?_) (fun x k g1 g2 => ?_) (fun k => ?_) <;> (rw [gi_si, if_neg (by omega), gi_si, if_neg (by omega)])
      · refine sh_same hs ?_ (fun k => ?_) (fun x k g1 g2 => ?_) (fun k => ?_) <;> (rw [gi_si, if_neg (by omega), gi_si, if_neg (by omega)])
    · rw [if_neg (fun q => h2 ((nI_leI hj (by omega)).mp q))]
      refine ⟨_, σ, σ, rfl, ?_, n, c, x, h, s, ⟨b1, b2, b3, b4⟩, hw, hx, hx2, hc, hm, hh, hs⟩
      rw [tk_ok hM.1, if_neg h1, b3, if_neg (fun q => h2 ((nI_leI hj (by omega)).mp q))]
/-- cells that the bond speaks of -/
def ess (x k : Nat) : Prop := (x = 0 ∧ (k = 1 ∨ k = 2 ∨ k = 6 ∨ k = 7)) ∨ x = 1 ∨ (2 ≤ x ∧ x < 35) ∨ x = 36 ∨ x = 38 ∨ (65 ≤ x ∧ x < 395) ∨ (x = 395 ∧ (k = 4 ∨ k = 5 ∨ k = 7)) ∨ x = 396 ∨ x = 398 ∨ x = 399 ∨ x = 400
theorem jj_same {CG CM : (Nat → Nat → Int32) → Cu → Prop} {MG MM : (Nat → Int32) → Cu → Prop} {σ σ' : Sg} (H : JJ CG CM MG MM σ) (h : ∀ x k, ess x k → gi σ' x k = gi σ x k) : JJ CG CM MG MM σ' := by
  obtain ⟨n, c, x, hi, s, ⟨b1, b2, b3, b4⟩, hw, hx, hx2, hc, hm, hh, hs⟩ := H
  refine ⟨n, c, x, hi, s, ⟨b1, (h 0 1 (by unfold ess; omega)).trans b2, (h 395 7 (by unfold ess; omega)).trans b3, fun i hi => ?_⟩, hw, hx, (h 0 2 (by unfold ess; omega)).trans hx2, ?_, ?_, ?_, ?_⟩
  · rw [h 1 i (by unfold ess; omega), h 400 i (by unfold ess; omega)]
    exact b4 i hi
  · rw [lc_same (σ := σ) (fun x k g1 g2 => h x k (by unfold ess; omega))]; exact hc
  · rw [rw_same (σ := σ) (fun k => h 396 k (by unfold ess; omega))]; exact hm
  · exact hh_same hh (h _ _ (by unfold ess; omega)) (h _ _ (by unfold ess; omega)) (h _ _ (by unfold ess; omega)) (fun k => h _ _ (by unfold ess; omega)) (fun x k g1 g2 => h _ _ (by unfold ess; omega)) (fun k => h _ _ (by unfold ess; omega))
  · exact sh_same hs (h _ _ (by unfold ess; omega)) (fun k => h _ _ (by unfold ess; omega)) (fun x k g1 g2 => h _ _ (by unfold ess; omega)) (fun k => h _ _ (by unfold ess; omega))
theorem ok_draws {CG CM : (Nat → Nat → Int32) → Cu → Prop} {MG MM : (Nat → Int32) → Cu → Prop} {E : En} (hR : LRun E) (hM : LMod E) (hM2 : LMo2 E) (hmx : ∀ r r' c, (∀ j, j ≠ 8 → r' j = r j) → (MG r c → MG r' c) ∧ (MM r c → MM r' c)) (p0 : Int32) : Ok (JJ CG CM MG MM) (fX6_draws E 0 p0) (fX7_draws E 395 p0) := by
  rintro σ ⟨n, c, x, h, s, ⟨b1, b2, b3, b4⟩, hw, hx, hx2, hc, hm, hh, hs⟩
  unfold fX6_draws fX7_draws
  rw [tk_ok hR.1]
  by_cases h1 : 0 ≤ p0
  · obtain ⟨j, hj, rfl⟩ := nI_of (Int32.not_lt.mpr h1)
    rw [if_pos h1, lt_ok, ss_ok]
    have hm8 : gi σ 396 8 = nI x := by
      have := hm.2.2.2.2.1
      simpa [rw7] using this
    refine ⟨_, _, si (si σ 0 2 (nI j)) 396 8 (nI j), rfl, ?_, n, c, j, h, s, ⟨b1, ?_, ?_, ?_⟩, hw, hj, ?_, ?_, ?_, ?_, ?_⟩
    · rw [tk_ok hM.1, if_pos h1, dr_ok hM.2.1 hM2.1.1, hM2.1.2, show (8 : Int32) = nI 8 from rfl, ck_n (by omega) (by omega), lt_ok, ck_n (by omega) (by omega), ss_ok, nI_clamp (by omega), gs_ne (by omega), hm8, hx2]
    · rw [gs_ne (by omega), gs_ne (by omega)]; exact b2
    · rw [gs_ne (by omega), gs_ne (by omega)]; exact b3
    · intro i hi
      rw [gs_ne (by omega), gs_ne (by omega), gs_ne (by omega), gs_ne (by omega)]
      exact b4 i hi
    · rw [gs_ne (by omega), gs_eq]
    · rw [lc_same (σ := σ) (fun x k g1 g2 => by rw [gs_ne (by omega), gs_ne (by omega)])]; exact hc
    · obtain ⟨m1, m2, m3, m4, m5, m6, m7⟩ := hm
      have e : ∀ i, i ≠ 8 → rw7 (si (si σ 0 2 (nI j)) 396 8 (nI j)) 396 0 i = rw7 σ 396 0 i := by
        intro i hi
        unfold rw7
        rw [gs_ne (by omega), gs_ne (by omega)]
      refine ⟨(e 0 (by omega)).trans m1, fun i hi => ?_, fun i hi => ?_, (e 7 (by omega)).trans m4, ?_, fun q => (hmx _ _ c e).1 (m6 q), fun q => (hmx _ _ c e).2 (m7 q)⟩
      · rw [e _ (by omega)]; exact m2 i hi
      · rw [e _ (by omega)]; exact m3 i hi
      · simp [rw7, gs_eq]
    · refine hh_same hh ?_ ?_ ?_ (fun k => ?_) (fun x k g1 g2 => ?_) (fun k => ?_) <;> (rw [gs_ne (by omega), gs_ne (by omega)])
    · refine sh_same hs ?_ (fun k => ?_) (fun x k g1 g2 => ?_) (fun k => ?_) <;> (rw [gs_ne (by omega), gs_ne (by omega)])
  · rw [if_neg h1]
    refine ⟨_, σ, σ, rfl, ?_, n, c, x, h, s, ⟨b1, b2, b3, b4⟩, hw, hx, hx2, hc, hm, hh, hs⟩
    rw [tk_ok hM.1, if_neg h1]
