/-! walking by simp -/
theorem tk_s {β : Type} {c : Nat} {k : Option β} : tk c c k = k := by simp [tk]
theorem dr_s {β : Type} {E : En} {c x : Nat} {f : Nat → Option β} : dr (some x) E c f = tk (cd E x) c (f x) := rfl
theorem i0 : (0 : Int32) = nI 0 := rfl
theorem i1 : (1 : Int32) = nI 1 := rfl
theorem i2 : (2 : Int32) = nI 2 := rfl
theorem i3 : (3 : Int32) = nI 3 := rfl
theorem i4 : (4 : Int32) = nI 4 := rfl
theorem i5 : (5 : Int32) = nI 5 := rfl
theorem i6 : (6 : Int32) = nI 6 := rfl
theorem i7 : (7 : Int32) = nI 7 := rfl
theorem i8 : (8 : Int32) = nI 8 := rfl
theorem mle {a b : Nat} (h : a < 2 ^ 31 ∧ b < 2 ^ 31) : (nI a ≤ nI b) = (a ≤ b) := propext (nI_leI h.1 h.2)
theorem mlt {a b : Nat} (h : a < 2 ^ 31 ∧ b < 2 ^ 31) : (nI a < nI b) = (a < b) := propext (nI_ltI h.1 h.2)
theorem meq {a b : Nat} (h : a < 2 ^ 31 ∧ b < 2 ^ 31) : (nI a = nI b) = (a = b) := propext (nI_eq h.1 h.2)
theorem ck_m {β : Type} {j n : Nat} {k : Option β} (h : j < n ∧ n < 2 ^ 31) : ck (nI j) n k = k := ck_n h.1 (by omega)
/-- a loop that counts up, its state known at each round -/
theorem for_tr {α β : Type} {F : (α → Option β) → α → Option β} {r : β} (n : Nat) (g : Nat → α) {N : Nat} (hN : n < N) (hs : ∀ i rec, i < n → F rec (g i) = rec (g (i + 1))) (he : ∀ rec, F rec (g n) = some r) {a : α} (ha : a = g 0) : fx F N a = some r := by
  subst ha
  have : ∀ k N, k ≤ n → n - k < N → fx F N (g k) = some r := by
    intro k N
    induction N generalizing k with
    | zero => intro h1 h2; omega
    | succ N ih =>
      intro h1 h2
      by_cases h : k = n
      · subst h; exact he _
      · show F (fx F N) (g k) = _
        rw [hs k _ (by omega)]
        exact ih (k + 1) (by omega) (by omega)
  exact this 0 N (by omega) (by omega)
/-- a loop that counts up, with what holds at each round -/
theorem for_in {α β : Type} {F : (α → Option β) → α → Option β} (n : Nat) (I : Nat → α → Prop) (Q : β → Prop) {N : Nat} (hN : n < N) (hs : ∀ i a rec, i < n → I i a → ∃ a', F rec a = rec a' ∧ I (i + 1) a') (he : ∀ a rec, I n a → ∃ b, F rec a = some b ∧ Q b) {a : α} (ha : I 0 a) : ∃ b, fx F N a = some b ∧ Q b := by
  have : ∀ k N a, k ≤ n → n - k < N → I k a → ∃ b, fx F N a = some b ∧ Q b := by
    intro k N
    induction N generalizing k with
    | zero => intro a h1 h2; omega
    | succ N ih =>
      intro a h1 h2 h3
      by_cases h : k = n
      · subst h; exact he a _ h3
      · obtain ⟨a', e, h4⟩ := hs k a (fx F N) (by omega) h3
        show ∃ b, F (fx F N) a = some b ∧ Q b
        rw [e]
        exact ih (k + 1) a' (by omega) (by omega) h4
  exact this 0 N a (by omega) (by omega) ha
theorem bd_tr {α β γ : Type} {F : (α → Option (β × Sg)) → α → Option (β × Sg)} {k : β → Sg → Option γ} (r : β × Sg) (n : Nat) (g : Nat → α) {N : Nat} (hN : n < N) (hs : ∀ i rec, i < n → F rec (g i) = rec (g (i + 1))) (he : ∀ rec, F rec (g n) = some r) {a : α} (ha : a = g 0) : bd (fx F N a) k = k r.1 r.2 := by
  rw [for_tr n g hN hs he ha]; rfl
theorem bd_in {α β γ : Type} {F : (α → Option (β × Sg)) → α → Option (β × Sg)} {k : β → Sg → Option γ} {P : γ → Prop} (n : Nat) (I : Nat → α → Prop) (Q : β × Sg → Prop) {N : Nat} (hN : n < N) {a : α} (ha : I 0 a) (hs : ∀ i a rec, i < n → I i a → ∃ a', F rec a = rec a' ∧ I (i + 1) a') (he : ∀ a rec, I n a → ∃ b, F rec a = some b ∧ Q b) (hk : ∀ v s, Q (v, s) → ∃ r, k v s = some r ∧ P r) : ∃ r, bd (fx F N a) k = some r ∧ P r := by
  obtain ⟨⟨v, s⟩, e, h⟩ := for_in n I Q hN hs he ha
  rw [e]; exact hk v s h
theorem bd_st {β γ : Type} {x : Option (β × Sg)} {k : β → Sg → Option γ} {P : γ → Prop} {Q : β × Sg → Prop} (h : ∃ r, x = some r ∧ Q r) (hk : ∀ v s, Q (v, s) → ∃ r, k v s = some r ∧ P r) : ∃ r, bd x k = some r ∧ P r := by
  obtain ⟨⟨v, s⟩, e, h⟩ := h
  rw [e]; exact hk v s h
theorem bv_st {γ : Type} {x : Option Sg} {k : Sg → Option γ} {P : γ → Prop} {Q : Sg → Prop} (h : ∃ r, x = some r ∧ Q r) (hk : ∀ s, Q s → ∃ r, k s = some r ∧ P r) : ∃ r, bv x k = some r ∧ P r := by
  obtain ⟨s, e, h⟩ := h
  rw [e]; exact hk s h
def oft (F : Nat → Nat) (k : Nat) : Nat → Nat
  | 0 => 0
  | n + 1 => oft F k n + (if F n = k then 1 else 0)
theorem oft_le (F : Nat → Nat) (k : Nat) : ∀ n, oft F k n ≤ n
  | 0 => Nat.le_refl _
  | n + 1 => by have := oft_le F k n; unfold oft; split <;> omega
theorem c_often {E : En} {a n k : Nat} {F : Nat → Nat} {σ : Sg} (hL : LRec E a) (h1 : gi σ a 2 = nI n) (hn : n ≤ 300) (h2 : ∀ i, i < n → gi σ (a + 1) i = nI (F i)) (hF : ∀ i, i < n → F i < 256) (hk : k < 256) : fX3_howOften E a (nI k) σ = some (nI (oft F k n), σ) := by
  obtain ⟨l0, l1, l2, l3, l4⟩ := hL
  unfold fX3_howOften
  rw [tk_ok l0]
  refine bd_tr ((nI (oft F k n), nI n), σ) n (fun i => ((nI (oft F k i), nI i), σ)) (by show n < 1000000; omega) ?_ ?_ rfl
  · intro i rec hi
    have q1 := h2 i hi
    have q2 := hF i hi
    unfold bX3_howOften_4
    simp (disch := omega) only [h1, mle, if_neg, l1, dr_s, l3.1, l3.2, tk_s, ck_m, nI_clamp, q1, meq, lt_ok, ad1]
    by_cases hc : F i = k
    · simp only [hc, not_true, if_false, bd_ok]
      simp only [oft, hc, if_true]
    · simp only [hc, not_false_eq_true, if_true, bd_ok, oft, if_false]
      rfl
  · intro rec
    unfold bX3_howOften_4
    simp (disch := omega) only [h1, mle, if_pos]
theorem m_inT {E : En} {v l h : Int32} {σ : Sg} (q : l ≤ v ∧ v ≤ h) : fX7_in E v l h σ = some (1, σ) := by rw [m_in, if_pos q]
theorem m_inF {E : En} {v l h : Int32} {σ : Sg} (q : ¬ (l ≤ v ∧ v ≤ h)) : fX7_in E v l h σ = some (0, σ) := by rw [m_in, if_neg q]
theorem m_inN {E : En} {v l h : Nat} {σ : Sg} (q : (l ≤ v ∧ v ≤ h) ∧ v < 2 ^ 31 ∧ h < 2 ^ 31) : fX7_in E (nI v) (nI l) (nI h) σ = some (1, σ) := m_inT ⟨nI_le q.1.1 (by omega), nI_le q.1.2 (by omega)⟩
theorem m_inO {E : En} {v l h : Nat} {σ : Sg} (q : (v < l ∨ h < v) ∧ v < 2 ^ 31 ∧ l < 2 ^ 31 ∧ h < 2 ^ 31) : fX7_in E (nI v) (nI l) (nI h) σ = some (0, σ) := m_inF (fun z => by have z1 := (nI_leI (by omega) (by omega)).mp z.1; have z2 := (nI_leI (by omega) (by omega)).mp z.2; omega)
/-- a number lies between two bounds, or not -/
theorem pin (p : Int32) {lo hi : Nat} (hh : hi < 2 ^ 31) (hl : lo < 2 ^ 31) : (∃ n, lo ≤ n ∧ n ≤ hi ∧ p = nI n) ∨ (¬ (nI lo ≤ p ∧ p ≤ nI hi) ∧ (p < nI lo ∨ (¬ p < nI lo ∧ nI hi < p))) := by
  by_cases h1 : p < nI lo
  · exact Or.inr ⟨fun q => absurd q.1 (Int32.not_le.mpr h1), Or.inl h1⟩
  · have h1' := Int32.not_lt.mp h1
    obtain ⟨n, hn, rfl⟩ := nI_of (x := p) (Int32.not_lt.mpr (Int32.le_trans (nI_pos' hl) h1'))
    by_cases h2 : nI hi < nI n
    · exact Or.inr ⟨fun q => absurd q.2 (Int32.not_le.mpr h2), Or.inr ⟨h1, h2⟩⟩
    · exact Or.inl ⟨n, (nI_leI hl hn).mp h1', (nI_leI hn hh).mp (Int32.not_lt.mp h2), rfl⟩
section AC2
variable {CG CM : (Nat → Nat → Int32) → Cu → Prop} {MG MM : (Nat → Int32) → Cu → Prop} {σ σ' : Sg} {a : Ab} {E : En} {c : Cu} {x' : Nat}
/-- an act changes the state that there is now, and x -/
theorem rc_act (h : RC CG CM σ a) (hc : CS CG CM (lc σ' 2) c) (hx : gi σ' 0 2 = nI x') (hf : ∀ x k, x < 2 ∨ 35 ≤ x → ¬ (x = 0 ∧ k = 2) → x < 395 → gi σ' x k = gi σ x k) : RC CG CM σ' (aB a, aN a, c, x', a.2.2.2.2) := by
  obtain ⟨h1, h2, h3, h4, h5, h6⟩ := h
  refine ⟨(hf _ _ (by omega) (by omega) (by omega)).trans h1, fun i hi => (hf _ _ (by omega) (by omega) (by omega)).trans (h2 i hi), hx, hc, ?_, ?_⟩
  · exact hc_same h5 (hf _ _ (by omega) (by omega) (by omega)) (hf _ _ (by omega) (by omega) (by omega)) (fun k => hf _ _ (by omega) (by omega) (by omega)) (fun x k g1 g2 => hf _ _ (by omega) (by omega) (by omega))
  · exact sc_same h6 (fun k => hf _ _ (by omega) (by omega) (by omega)) (fun x k g1 g2 => hf _ _ (by omega) (by omega) (by omega))
theorem rm_act (h : RM MG MM σ a) (hm : MR MG MM (rw7 σ' 396 0) c x') (hf : ∀ x k, (x = 395 ∧ (k = 4 ∨ k = 5 ∨ k = 7)) ∨ (398 ≤ x ∧ x ≤ 400) → gi σ' x k = gi σ x k) : RM MG MM σ' (aB a, aN a, c, x', a.2.2.2.2) := by
  obtain ⟨h1, h2, h3, h4, h5⟩ := h
  refine ⟨(hf _ _ (by omega)).trans h1, fun i hi => by rw [hf _ _ (by omega)]; exact h2 i hi, hm, ?_, ?_⟩
  · exact hm_same h4 (hf _ _ (by omega)) (fun k => hf _ _ (by omega))
  · exact sm_same h5 (hf _ _ (by omega)) (fun k => hf _ _ (by omega))
end AC2
