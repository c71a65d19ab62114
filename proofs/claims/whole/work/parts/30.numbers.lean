/-! perfect numbers in the class -/
def smp (w k l : Nat) : Nat := sumF (fun t => (pfn w k l).getD t 0) k
def NU (σ : Sg) (a k : Nat) (P : List Nat) (l : Nat) : Prop := gi σ a 1 = nI k ∧ gi σ a 2 = nI l ∧ ∀ i, i < k → gi σ (a + 1) i = nI (P.getD i 0)
section NUM
variable {E : En} {a k w l : Nat} {σ : Sg} {P : List Nat}
theorem nu_fr {σ' : Sg} (h : NU σ a k P l) (h1 : ∀ j, gi σ' a j = gi σ a j) (h2 : ∀ j, gi σ' (a + 1) j = gi σ (a + 1) j) : NU σ' a k P l := ⟨(h1 1).trans h.1, (h1 2).trans h.2.1, fun i hi => (h2 i).trans (h.2.2 i hi)⟩
theorem n_ground (hL : LNum E a) (h1 : 1 ≤ k) (h5 : k ≤ 5) : ∃ s, fX2_ground E a (nI k) σ = some s ∧ NU s a k (pfn w k 0) 0 ∧ ∀ x j, x ≠ a → x ≠ a + 1 → gi s x j = gi σ x j := by
  obtain ⟨l0, l1, l2⟩ := hL
  unfold fX2_ground
  rw [tk_ok l0, i5, i1, imin_n (by omega) (by omega), imax_n (by omega) (by omega), show max 1 (min k 5) = k by omega, ss_ok, ss_ok]
  refine bd_in k (fun i b => b.1 = nI i ∧ (∀ j, j < i → gi b.2 (a + 1) j = nI (if j = 0 then 1 else 0)) ∧ ∀ x j, x ≠ a + 1 → gi b.2 x j = gi (si (si σ a 1 (nI k)) a 2 0) x j)
    (fun b => (∀ j, j < k → gi b.2 (a + 1) j = nI (if j = 0 then 1 else 0)) ∧ ∀ x j, x ≠ a + 1 → gi b.2 x j = gi (si (si σ a 1 (nI k)) a 2 0) x j) (by show k < 1000000; omega) ⟨rfl, fun j hj => absurd hj (Nat.not_lt_zero j), fun _ _ _ => rfl⟩ ?_ ?_ ?_
  · rintro i ⟨v, s⟩ rec hi ⟨rfl, f1, f2⟩
    dsimp only at f1 f2 ⊢
    have e1 : gi s a 1 = nI k := by rw [f2 _ _ (by omega), gs_ne (by omega), gs_eq]
    unfold bX2_ground_20
    rw [e1, if_neg (nI_ge hi (by omega)), dr_ok l1 l2.1, l2.2]
    have hw : (if ¬ nI i = 0 then (some ((0 : Int32), s)) else (some ((1 : Int32), s))) = some (nI (if i = 0 then 1 else 0), s) := by
      by_cases hi0 : i = 0
      · subst hi0; rfl
      · rw [if_pos (nI_ne0 (by omega) (by omega)), if_neg hi0]; rfl
    rw [hw, bd_ok, ck_n (by omega) (by omega), nI_clamp (by omega), ss_ok, lt_ok, ad1]
    refine ⟨_, rfl, rfl, fun j hj => ?_, fun x j hx => ?_⟩
    · dsimp only
      by_cases hji : j = i
      · subst hji; rw [gs_eq]
      · rw [gs_ne (by omega)]; exact f1 j (by omega)
    · dsimp only; rw [gs_ne (by omega)]; exact f2 x j hx
  · rintro ⟨v, s⟩ rec ⟨rfl, f1, f2⟩
    dsimp only at f1 f2 ⊢
    unfold bX2_ground_20
    rw [f2 _ _ (by omega), gs_ne (by omega), gs_eq, if_pos (nI_le (Nat.le_refl _) (by omega))]
    exact ⟨_, rfl, f1, f2⟩
  · rintro v s ⟨f1, f2⟩
    dsimp only at f1 f2
    refine ⟨s, rfl, ⟨by rw [f2 _ _ (by omega), gs_ne (by omega), gs_eq], by rw [f2 _ _ (by omega), gs_eq]; rfl, fun i hi => ?_⟩, fun x j h1 h2 => by rw [f2 _ _ h2, gs_ne (by omega), gs_ne (by omega)]⟩
    rw [f1 i hi]; unfold pfn; rw [tab_at hi]
theorem n_cascade (hL : LNum E a) (h1 : 2 ≤ k) (h5 : k ≤ 5) (h : NU σ a k P l) : ∃ s, fX2_climbCascade E a σ = some s ∧ (∀ i, i < k → gi s (a + 1) i = nI (sumF (fun j => P.getD j 0) (k - i))) ∧ ∀ x j, x ≠ a + 1 → gi s x j = gi σ x j := by
  obtain ⟨l0, l1, l2⟩ := hL
  obtain ⟨n1, n2, n3⟩ := h
  unfold fX2_climbCascade
  rw [tk_ok l0]
  refine bd_in (k - 1) (fun i b => b.1 = nI (i + 1) ∧ (∀ j, j < k → gi b.2 (a + 1) j = nI (if j ≤ i then sumF (fun j => P.getD j 0) (j + 1) else P.getD j 0)) ∧ ∀ x j, x ≠ a + 1 → gi b.2 x j = gi σ x j)
    (fun b => (∀ j, j < k → gi b.2 (a + 1) j = nI (sumF (fun j => P.getD j 0) (j + 1))) ∧ ∀ x j, x ≠ a + 1 → gi b.2 x j = gi σ x j) (by show k - 1 < 1000000; omega) ⟨rfl, fun j hj => ?_, fun _ _ _ => rfl⟩ ?_ ?_ ?_
  · rw [n3 j hj]
    by_cases hj0 : j ≤ 0
    · rw [if_pos hj0, show j = 0 by omega]; congr 1; show _ = 0 + P.getD 0 0; omega
    · rw [if_neg hj0]
  · rintro i ⟨v, s⟩ rec hi ⟨rfl, f1, f2⟩
    dsimp only at f1 f2 ⊢
    have e1 : gi s a 1 = nI k := by rw [f2 _ _ (by omega), n1]
    have g1 := f1 (i + 1) (by omega)
    have g2 := f1 i (by omega)
    rw [if_neg (by omega)] at g1
    rw [if_pos (by omega)] at g2
    unfold bX2_climbCascade_2
    rw [e1, if_neg (nI_ge (by omega) (by omega)), dr_ok l1 l2.1, l2.2, ck_n (by omega) (by omega), i1, sub_n (by omega), show i + 1 - 1 = i by omega, ck_n (by omega) (by omega), ck_n (by omega) (by omega), nI_clamp (by omega), nI_clamp (by omega), g1, g2, nI_add, ss_ok, lt_ok, nI_add]
    refine ⟨_, rfl, rfl, fun j hj => ?_, fun x j hx => ?_⟩
    · dsimp only
      by_cases hji : j = i + 1
      · subst hji; rw [gs_eq, if_pos (by omega)]; congr 1; show _ = sumF _ (i + 1) + P.getD (i + 1) 0; omega
      · rw [gs_ne (by omega), f1 j hj, ifc (p := j ≤ i) (q := j ≤ i + 1) ⟨fun q => by omega, fun q => by omega⟩]
    · dsimp only; rw [gs_ne (by omega)]; exact f2 x j hx
  · rintro ⟨v, s⟩ rec ⟨rfl, f1, f2⟩
    dsimp only at f1 f2 ⊢
    unfold bX2_climbCascade_2
    rw [f2 _ _ (by omega), n1, show k - 1 + 1 = k by omega, if_pos (nI_le (Nat.le_refl _) (by omega))]
    exact ⟨_, rfl, fun j hj => by rw [f1 j hj, if_pos (by omega)], f2⟩
  · rintro v s ⟨f1, f2⟩
    dsimp only at f1 f2
    refine bd_in (k / 2) (fun i b => b.1 = nI i ∧ (∀ j, j < k → gi b.2 (a + 1) j = nI (sumF (fun j => P.getD j 0) (if j < i ∨ k - i ≤ j then k - j else j + 1))) ∧ ∀ x j, x ≠ a + 1 → gi b.2 x j = gi σ x j)
      (fun b => (∀ j, j < k → gi b.2 (a + 1) j = nI (sumF (fun j => P.getD j 0) (k - j))) ∧ ∀ x j, x ≠ a + 1 → gi b.2 x j = gi σ x j) (by show k / 2 < 1000000; omega) ⟨rfl, fun j hj => ?_, f2⟩ ?_ ?_ ?_
    · rw [if_neg (by omega)]; exact f1 j hj
    · rintro i ⟨v, s⟩ rec hi ⟨rfl, g1, g2⟩
      dsimp only at g1 g2 ⊢
      have e1 : gi s a 1 = nI k := by rw [g2 _ _ (by omega), n1]
      have q1 := g1 i (by omega)
      have q2 := g1 (k - 1 - i) (by omega)
      rw [if_neg (by omega)] at q1 q2
      unfold bX2_climbCascade_35
      rw [e1, i2, pk_div (by omega) (by omega) (by omega), if_neg (nI_ge hi (by omega)), dr_ok l1 l2.1, l2.2, i1, sub_n (by omega), sub_n (by omega), ck_n (by omega) (by omega), nI_clamp (by omega), lt_ok, ck_n (by omega) (by omega), ck_n (by omega) (by omega), nI_clamp (by omega), ss_ok, ck_n (by omega) (by omega), ss_ok, lt_ok, nI_add, q1, q2]
      refine ⟨_, rfl, rfl, fun j hj => ?_, fun x j hx => ?_⟩
      · dsimp only
        by_cases hji : j = i
        · subst hji; rw [gs_eq, if_pos (by omega), show k - 1 - j + 1 = k - j by omega]
        · rw [gs_ne (by omega)]
          by_cases hjk : j = k - 1 - i
          · subst hjk; rw [gs_eq, if_pos (by omega)]; congr 2; omega
          · rw [gs_ne (by omega), g1 j hj, ifc (p := j < i ∨ k - i ≤ j) (q := j < i + 1 ∨ k - (i + 1) ≤ j) ⟨fun q => by omega, fun q => by omega⟩]
      · dsimp only; rw [gs_ne (by omega), gs_ne (by omega)]; exact g2 x j hx
    · rintro ⟨v, s⟩ rec ⟨rfl, g1, g2⟩
      dsimp only at g1 g2 ⊢
      unfold bX2_climbCascade_35
      rw [g2 _ _ (by omega), n1, i2, pk_div (by omega) (by omega) (by omega), if_pos (nI_le (Nat.le_refl _) (by omega))]
      refine ⟨_, rfl, fun j hj => ?_, g2⟩
      rw [g1 j hj]
      by_cases q : j < k / 2 ∨ k - k / 2 ≤ j
      · rw [if_pos q]
      · rw [if_neg q, show j + 1 = k - j by omega]
    · rintro v s ⟨g1, g2⟩
      exact ⟨s, rfl, g1, g2⟩
theorem n_climb (hL : LNum E a) (h1 : 2 ≤ k) (h5 : k ≤ 5) (hw : w = 0 ∨ w = 2) (h : NU σ a k (pfn w k l) l) : ∃ s, fX2_climb E a (nI w) σ = some s ∧ NU s a k (pfn w k (l + 1)) (l + 1) ∧ ∀ x j, x ≠ a → x ≠ a + 1 → gi s x j = gi σ x j := by
  obtain ⟨l0, l1, l2⟩ := id hL
  obtain ⟨n1, n2, n3⟩ := id h
  unfold fX2_climb
  rw [tk_ok l0, n2, ad1, ss_ok]
  have h' : NU (si σ a 2 (nI (l + 1))) a k (pfn w k l) (l + 1) := ⟨by rw [gs_ne (by omega)]; exact n1, gs_eq, fun i hi => by rw [gs_ne (by omega)]; exact n3 i hi⟩
  rcases hw with rfl | rfl
  · rw [if_pos (by decide), dr_ok l1 l2.1, l2.2, i0, ck_n (by omega) (by omega), nI_clamp (by omega), lt_ok, h'.2.2 0 (by omega)]
    generalize hP : pfn 0 k l = P at *
    refine bd_in (k - 1) (fun i b => b.1 = nI i ∧ (∀ j, j < k → gi b.2 (a + 1) j = nI (if j < i then P.getD 0 0 + P.getD (j + 1) 0 else P.getD j 0)) ∧ ∀ x j, x ≠ a + 1 → gi b.2 x j = gi (si σ a 2 (nI (l + 1))) x j)
      (fun b => (∀ j, j < k → gi b.2 (a + 1) j = nI (if j < k - 1 then P.getD 0 0 + P.getD (j + 1) 0 else P.getD j 0)) ∧ ∀ x j, x ≠ a + 1 → gi b.2 x j = gi (si σ a 2 (nI (l + 1))) x j) (by show k - 1 < 1000000; omega) ⟨rfl, fun j hj => ?_, fun _ _ _ => rfl⟩ ?_ ?_ ?_
    · rw [if_neg (by omega)]; exact h'.2.2 j hj
    · rintro i ⟨v, s⟩ rec hi ⟨rfl, f1, f2⟩
      dsimp only at f1 f2 ⊢
      have e1 : gi s a 1 = nI k := by rw [f2 _ _ (by omega)]; exact h'.1
      have g1 := f1 (i + 1) (by omega)
      rw [if_neg (by omega)] at g1
      unfold bX2_climb_29
      rw [e1, ad1, if_neg (nI_ge (by omega) (by omega)), l2.2, ck_n (by omega) (by omega), ck_n (by omega) (by omega), nI_clamp (by omega), nI_clamp (by omega), g1, nI_add, ss_ok, lt_ok]
      refine ⟨_, rfl, rfl, fun j hj => ?_, fun x j hx => ?_⟩
      · dsimp only
        by_cases hji : j = i
        · subst hji; rw [gs_eq, if_pos (by omega)]
        · rw [gs_ne (by omega), f1 j hj, ifc (p := j < i) (q := j < i + 1) ⟨fun q => by omega, fun q => by omega⟩]
      · dsimp only; rw [gs_ne (by omega)]; exact f2 x j hx
    · rintro ⟨v, s⟩ rec ⟨rfl, f1, f2⟩
      dsimp only at f1 f2 ⊢
      unfold bX2_climb_29
      rw [f2 _ _ (by omega), h'.1, ad1, show k - 1 + 1 = k by omega, if_pos (nI_le (Nat.le_refl _) (by omega))]
      exact ⟨_, rfl, f1, f2⟩
    · rintro v s ⟨f1, f2⟩
      dsimp only at f1 f2
      rw [f2 _ _ (by omega), h'.1, i1, sub_n (by omega), ck_n (by omega) (by omega), nI_clamp (by omega), ss_ok]
      refine ⟨_, rfl, ⟨by rw [gs_ne (by omega), f2 _ _ (by omega)]; exact h'.1, by rw [gs_ne (by omega), f2 _ _ (by omega)]; exact h'.2.1, fun i hi => ?_⟩, fun x j h1 h2 => by rw [gs_ne (by omega), f2 _ _ h2, gs_ne (by omega)]⟩
      have : (pfn 0 k (l + 1)).getD i 0 = P.getD 0 0 + (if i + 1 < k then P.getD (i + 1) 0 else 0) := by
        rw [← hP]; show (if 0 = 0 then _ else _ : List Nat).getD i 0 = _; rw [if_pos rfl, tab_at hi]
      rw [this]
      by_cases hik : i = k - 1
      · subst hik; rw [gs_eq, if_neg (by omega)]; rfl
      · rw [gs_ne (by omega), f1 i hi, if_pos (by omega), if_pos (by omega)]
  · rw [if_neg (by decide)]
    obtain ⟨s, e, f1, f2⟩ := n_cascade hL h1 h5 h'
    rw [e, bv_ok]
    refine ⟨s, rfl, ⟨by rw [f2 _ _ (by omega)]; exact h'.1, by rw [f2 _ _ (by omega)]; exact h'.2.1, fun i hi => ?_⟩, fun x j g1 g2 => by rw [f2 _ _ g2, gs_ne (by omega)]⟩
    rw [f1 i hi]
    show _ = nI ((if 2 = 0 then _ else _ : List Nat).getD i 0)
    rw [if_neg (by decide), tab_at hi]
theorem n_tog (hL : LNum E a) (h5 : k ≤ 5) (h : NU σ a k P l) : fX2_together E a σ = some (nI (sumF (fun t => P.getD t 0) k), σ) := by
  obtain ⟨l0, l1, l2⟩ := hL
  obtain ⟨n1, n2, n3⟩ := h
  unfold fX2_together
  rw [tk_ok l0]
  refine bd_tr ((nI (sumF (fun t => P.getD t 0) k), nI k), σ) k (fun i => ((nI (sumF (fun t => P.getD t 0) i), nI i), σ)) (by show k < 1000000; omega) (fun i rec hi => ?_) (fun rec => ?_) rfl
  · unfold bX2_together_4
    dsimp only
    rw [n1, if_neg (nI_ge hi (by omega)), dr_ok l1 l2.1, l2.2, ck_n (by omega) (by omega), nI_clamp (by omega), n3 i hi, nI_add, lt_ok, lt_ok, ad1]
    rfl
  · unfold bX2_together_4
    dsimp only
    rw [n1, if_pos (nI_le (Nat.le_refl _) (by omega))]
theorem n_climbTo (hL : LNum E a) (h1 : 2 ≤ k) (h5 : k ≤ 5) (hw : w = 0 ∨ w = 2) (hl : l ≤ 100) : ∃ s, fX2_climbTo E a (nI l) (nI w) (nI k) σ = some s ∧ NU s a k (pfn w k l) l ∧ ∀ x j, x ≠ a → x ≠ a + 1 → gi s x j = gi σ x j := by
  unfold fX2_climbTo
  obtain ⟨s0, e0, q0, q1⟩ := n_ground (σ := σ) (w := w) hL (show 1 ≤ k by omega) h5
  rw [tk_ok hL.1, e0, bv_ok]
  refine bd_in l (fun i b => b.1 = nI i ∧ NU b.2 a k (pfn w k i) i ∧ ∀ x j, x ≠ a → x ≠ a + 1 → gi b.2 x j = gi σ x j)
    (fun b => NU b.2 a k (pfn w k l) l ∧ ∀ x j, x ≠ a → x ≠ a + 1 → gi b.2 x j = gi σ x j) (by show l < 1000000; omega) ⟨rfl, q0, q1⟩ ?_ ?_ (fun v s q => ⟨s, rfl, q⟩)
  · rintro i ⟨v, s⟩ rec hi ⟨rfl, f1, f2⟩
    dsimp only at f1 f2 ⊢
    obtain ⟨s3, e3, g1, g2⟩ := n_climb hL h1 h5 hw f1
    unfold bX2_climbTo_8
    rw [if_neg (nI_ge hi (by omega)), e3, bv_ok, lt_ok, ad1]
    exact ⟨_, rfl, rfl, g1, fun x j h1 h2 => by dsimp only; rw [g2 _ _ h1 h2]; exact f2 x j h1 h2⟩
  · rintro ⟨v, s⟩ rec ⟨rfl, f1, f2⟩
    unfold bX2_climbTo_8
    rw [if_pos (nI_le (Nat.le_refl _) (by omega))]
    exact ⟨_, rfl, f1, f2⟩
/-- the least level that has places for so many -/
def lvl (w k n : Nat) : Option Nat := fstF (fun l => decide (n ≤ smp w k l)) 40
theorem n_climbFor (hL : LNum E a) (h1 : 2 ≤ k) (h5 : k ≤ 5) (hw : w = 0 ∨ w = 2) {n : Nat} (hn : n < 2 ^ 31) (hs : ∀ i, i ≤ l → smp w k i < 2 ^ 31) (hl : lvl w k n = some l) : ∃ s, fX2_climbFor E a (nI n) (nI w) (nI k) σ = some s ∧ NU s a k (pfn w k l) l ∧ ∀ x j, x ≠ a → x ≠ a + 1 → gi s x j = gi σ x j := by
  obtain ⟨q1, q2, q3⟩ := fstF_some hl
  simp only [decide_eq_true_eq] at q2
  simp only [decide_eq_false_iff_not] at q3
  unfold fX2_climbFor
  obtain ⟨s0, e0, g0, g1⟩ := n_ground (σ := σ) (w := w) hL (show 1 ≤ k by omega) h5
  rw [tk_ok hL.1, e0, bv_ok]
  refine bd_in l (fun i b => b.1 = nI i ∧ NU b.2 a k (pfn w k i) i ∧ ∀ x j, x ≠ a → x ≠ a + 1 → gi b.2 x j = gi σ x j)
    (fun b => NU b.2 a k (pfn w k l) l ∧ ∀ x j, x ≠ a → x ≠ a + 1 → gi b.2 x j = gi σ x j) (by show l < 1000000; omega) ⟨rfl, g0, g1⟩ ?_ ?_ (fun v s q => ⟨s, rfl, q⟩)
  · rintro i ⟨v, s⟩ rec hi ⟨rfl, f1, f2⟩
    dsimp only at f1 f2 ⊢
    obtain ⟨s3, e3, g1, g2⟩ := n_climb hL h1 h5 hw f1
    have hsm := hs i (by omega)
    have hlt := q3 i hi
    unfold bX2_climbFor_8
    rw [show (700 : Int32) = nI 700 from rfl, if_neg (nI_ge (by omega) (by omega)), n_tog hL h5 f1, bd_ok]
    rw [show sumF (fun t => (pfn w k i).getD t 0) k = smp w k i from rfl, if_neg (nI_ge (by omega) hn), e3, bv_ok, lt_ok, ad1]
    exact ⟨_, rfl, rfl, g1, fun x j h1 h2 => by dsimp only; rw [g2 _ _ h1 h2]; exact f2 x j h1 h2⟩
  · rintro ⟨v, s⟩ rec ⟨rfl, f1, f2⟩
    dsimp only at f1 f2 ⊢
    have hsm := hs l (by omega)
    unfold bX2_climbFor_8
    rw [show (700 : Int32) = nI 700 from rfl, if_neg (nI_ge (by omega) (by omega)), n_tog hL h5 f1, bd_ok]
    rw [show sumF (fun t => (pfn w k l).getD t 0) k = smp w k l from rfl, if_pos (nI_le q2 hsm)]
    exact ⟨_, rfl, f1, f2⟩
end NUM
