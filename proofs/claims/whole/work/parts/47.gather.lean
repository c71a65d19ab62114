/-! pieces of the pool: what is taken, what is left -/
def apt (gl : Nat → Nat) (z y : Dn) : Prop := z.1 ≠ y.1 ∧ (z.2.1 + zz gl z ≤ y.2.1 ∨ y.2.1 + zz gl y ≤ z.2.1)
theorem apt_symm {gl : Nat → Nat} {z y : Dn} (h : apt gl z y) : apt gl y z := ⟨fun q => h.1 q.symm, h.2.symm⟩
def hit (gl : Nat → Nat) (k : Nat) (z : Dn) : Bool := decide (z.2.1 ≤ k ∧ k < z.2.1 + zz gl z)
def inT (gl : Nat → Nat) (H : List Dn) (k : Nat) : Bool := H.any (hit gl k)
def nu (gl : Nat → Nat) (H : List Dn) (k : Nat) : Nat := cntF (fun j => !(inT gl H j)) k
def lsm (f : Dn → Nat) : List Dn → Nat
  | [] => 0
  | z :: l => f z + lsm f l
def lss (gl : Nat → Nat) (H : List Dn) (k : Nat) : Nat := lsm (fun z => if z.2.1 < k then zz gl z else 0) H
theorem lsm_app {f : Dn → Nat} : ∀ {a b : List Dn}, lsm f (a ++ b) = lsm f a + lsm f b
  | [], b => by simp [lsm]
  | z :: a, b => by show f z + lsm f (a ++ b) = f z + lsm f a + lsm f b; rw [lsm_app]; omega
theorem lsm_cat {f : Dn → Nat} {X : Nat → List Dn} : ∀ n, lsm f (catX X n) = sumF (fun t => lsm f (X t)) n
  | 0 => rfl
  | n + 1 => by show lsm f (catX X n ++ X n) = sumF _ n + _; rw [lsm_app, lsm_cat n]
theorem cntF_or {p q : Nat → Bool} (h : ∀ j, ¬ (p j = true ∧ q j = true)) : ∀ n, cntF (fun j => p j || q j) n = cntF p n + cntF q n
  | 0 => rfl
  | n + 1 => by
    unfold cntF
    rw [cntF_or h n]
    have := h n
    cases hp : p n <;> cases hq : q n <;> simp [hp, hq] at this ⊢ <;> omega
theorem cntF_iv {a s : Nat} : ∀ {n : Nat}, (a + s ≤ n ∨ n ≤ a) → cntF (fun j => decide (a ≤ j ∧ j < a + s)) n = if a < n then s else 0 := by
  have base : ∀ n, cntF (fun j => decide (a ≤ j ∧ j < a + s)) n = min (n - a) s := by
    intro n
    induction n with
    | zero => simp [cntF]
    | succ n ih =>
      unfold cntF
      rw [ih]
      by_cases h : a ≤ n ∧ n < a + s
      · rw [decide_eq_true h, if_pos rfl]; omega
      · rw [decide_eq_false h, if_neg (by decide)]; omega
  intro n hn
  rw [base]
  split <;> omega
theorem inT_cnt {gl : Nat → Nat} : ∀ {H : List Dn} {n : Nat}, H.Pairwise (apt gl) → (∀ z, z ∈ H → z.2.1 + zz gl z ≤ n ∨ n ≤ z.2.1) → cntF (inT gl H) n = lss gl H n
  | [], n, _, _ => by
    have : ∀ m, cntF (inT gl []) m = 0 := fun m => by induction m with
      | zero => rfl
      | succ m ih => unfold cntF; rw [ih]; rfl
    rw [this]; rfl
  | z :: H, n, h, hb => by
    obtain ⟨h1, h2⟩ := List.pairwise_cons.mp h
    have ih := inT_cnt h2 (fun y hy => hb y (List.mem_cons_of_mem _ hy))
    have e : inT gl (z :: H) = fun j => hit gl j z || inT gl H j := by funext j; unfold inT; rw [List.any_cons]
    rw [e, cntF_or (p := fun j => hit gl j z) (q := inT gl H), ih, show cntF (fun j => hit gl j z) n = if z.2.1 < n then zz gl z else 0 from cntF_iv (hb z List.mem_cons_self)]
    · rfl
    · rintro j ⟨q1, q2⟩
      unfold hit at q1
      simp only [decide_eq_true_eq] at q1
      unfold inT at q2
      obtain ⟨y, hy, hyj⟩ := List.any_eq_true.mp q2
      unfold hit at hyj
      simp only [decide_eq_true_eq] at hyj
      have := (h1 y hy).2
      omega
theorem cnt_not {p : Nat → Bool} : ∀ n, cntF (fun j => !(p j)) n + cntF p n = n
  | 0 => rfl
  | n + 1 => by
    unfold cntF
    have := cnt_not (p := p) n
    cases p n <;> simp <;> omega
theorem nu_eq {gl : Nat → Nat} {H : List Dn} {n : Nat} (h : H.Pairwise (apt gl)) (hb : ∀ z, z ∈ H → z.2.1 + zz gl z ≤ n ∨ n ≤ z.2.1) : nu gl H n + lss gl H n = n := by
  rw [← inT_cnt h hb]; exact cnt_not n
theorem nu_s {gl : Nat → Nat} {H : List Dn} {k : Nat} : nu gl H (k + 1) = nu gl H k + if inT gl H k then 0 else 1 := by
  unfold nu
  show cntF (fun j => !(inT gl H j)) k + (if (!(inT gl H k)) = true then 1 else 0) = _
  cases inT gl H k <;> rfl
theorem nu_mono {gl : Nat → Nat} {H : List Dn} {a b : Nat} (h : a ≤ b) : nu gl H a ≤ nu gl H b := by
  induction b with
  | zero => rw [show a = 0 by omega]; exact Nat.le_refl _
  | succ b ih =>
    by_cases hq : a = b + 1
    · subst hq; exact Nat.le_refl _
    · rw [nu_s]; have := ih (by omega); omega
theorem nu_le {gl : Nat → Nat} {H : List Dn} (k : Nat) : nu gl H k ≤ k := cntF_le _ k
theorem nu_run {gl : Nat → Nat} {H : List Dn} {f s : Nat} (h : ∀ i, i < s → inT gl H (f + i) = false) : ∀ i, i ≤ s → nu gl H (f + i) = nu gl H f + i
  | 0, _ => rfl
  | i + 1, hi => by
    rw [show f + (i + 1) = f + i + 1 by omega, nu_s, nu_run h i (by omega), h i (by omega)]; simp; omega
theorem nu_inj {gl : Nat → Nat} {H : List Dn} {a b : Nat} (ha : inT gl H a = false) (hab : a < b) : nu gl H a < nu gl H b := by
  have h1 : nu gl H (a + 1) = nu gl H a + 1 := by rw [nu_s, ha]; rfl
  have h2 := nu_mono (gl := gl) (H := H) (show a + 1 ≤ b by omega)
  omega
/-- what is taken, tape by tape -/
def hds (Hd : Nat → Option Dn) : Nat → List Dn := fun t => (Hd t).toList
def tkO : Option Dn → Int32
  | none => -1
  | some z => nI z.1
def any6 (gl : Nat → Nat) (Hd : Nat → Option Dn) (k t : Nat) : Bool := match Hd t with
  | none => false
  | some z => hit gl k z
theorem any_cat {gl : Nat → Nat} {Hd : Nat → Option Dn} {k : Nat} : ∀ n, inT gl (catX (hds Hd) n) k = (fstF (any6 gl Hd k) n).isSome
  | 0 => rfl
  | n + 1 => by
    have e : fstF (any6 gl Hd k) (n + 1) = match fstF (any6 gl Hd k) n with | some x => some x | none => if any6 gl Hd k n then some n else none := rfl
    have ih := any_cat (gl := gl) (Hd := Hd) (k := k) n
    have e2 : inT gl (catX (hds Hd) (n + 1)) k = (inT gl (catX (hds Hd) n) k || inT gl (hds Hd n) k) := by
      show (catX (hds Hd) n ++ hds Hd n).any _ = _
      rw [List.any_append]; rfl
    have e3 : inT gl (hds Hd n) k = any6 gl Hd k n := by
      unfold inT hds any6
      cases Hd n with
      | none => rfl
      | some z => simp
    rw [e2, e3, ih, e]
    cases fstF (any6 gl Hd k) n with
    | some x => simp
    | none => cases any6 gl Hd k n <;> rfl
section GA
variable {E : En} {σ : Sg} {n T : Nat} {gl : Nat → Nat} {Hd : Nat → Option Dn} {C : Dn → List Nat}
/-- what the cells say of what is taken -/
def HC' (σ : Sg) (n : Nat) (gl : Nat → Nat) (C : Dn → List Nat) (Hd : Nat → Option Dn) : Prop := (∀ t, t < 6 → gi σ 407 t = tkO (Hd t)) ∧ ∀ t z, t < 6 → Hd t = some z → z.1 < 700 ∧ gi σ 396 (1227 + z.1) = nI z.2.1 ∧ gi σ 396 (1927 + z.1) = nI (zz gl z) ∧ z.2.1 + zz gl z ≤ n ∧ (C z).length = zz gl z ∧ ∀ i, i < zz gl z → gi σ 396 (7527 + z.2.1 + i) = nI ((C z).getD i 0)
theorem m_inIv {k a s : Nat} (hk : k < 2 ^ 30) (ha : a + s < 2 ^ 30) : fX7_in E (nI k) (nI a) (nI a + nI s - 1) σ = some (bI (decide (a ≤ k ∧ k < a + s)), σ) := by
  rw [m_in, nI_add]
  by_cases h0 : a + s = 0
  · rw [h0, show nI 0 - 1 = -1 from by decide, if_neg (fun q => absurd (Int32.lt_of_le_of_lt q.2 (by decide : (-1 : Int32) < 0)) (nI_pos (by omega))), decide_eq_false (by omega)]; rfl
  · rw [i1, sub_n (by omega)]
    by_cases h : a ≤ k ∧ k < a + s
    · rw [if_pos ⟨nI_le h.1 (by omega), nI_le (by omega) (by omega)⟩, decide_eq_true h]; rfl
    · rw [if_neg (fun q => h ⟨(nI_leI (by omega) (by omega)).mp q.1, by have := (nI_leI (by omega) (by omega)).mp q.2; omega⟩), decide_eq_false h]; rfl
theorem m_isInT (hM : LMod E) (hM2 : LMo2 E) (hn : n ≤ 300) (hh : HC' σ n gl C Hd) {k : Nat} (hk : k < n) : fX7_isInTaken E 395 (nI k) σ = some (bI (inT gl (catX (hds Hd) 6) k), σ) := by
  obtain ⟨m0, m1, m2, m3, m4, m5, m6, m7, m8, m9, m10, m11, m12, mz⟩ := id hM
  obtain ⟨n1, n2, n3, n4, n5, n6, n7, n8, n9, n10, n11, n12, nz⟩ := id hM2
  have body : ∀ i rec, i < 6 → bX7_isInTaken_2 E 395 (nI k) rec (nI i) σ = if any6 gl Hd k i = true then some (.inr (1 : Int32), σ) else rec (nI (i + 1)) σ := by
    intro i rec hi
    unfold bX7_isInTaken_2
    rw [i6, if_neg (nI_ge hi (by omega)), dr_ok m12 n12.1, n12.2, ck_n (by omega) (by omega), nI_clamp (by omega), hh.1 i hi]
    cases hq : Hd i with
    | none => rw [if_pos (by rfl), lt_ok, ad1]; unfold any6; rw [hq]; rfl
    | some z =>
      obtain ⟨z1, z2, z3, z4, z5, z6⟩ := hh.2 i z hi hq
      rw [show tkO (some z) = nI z.1 from rfl, if_neg (nI_nm1 (by omega)), dr_ok m1 n1.1, n1.2, show (1227 : Int32) = nI 1227 from rfl, show (1927 : Int32) = nI 1927 from rfl, nI_add, nI_add, ck_n (by omega) (by omega), ck_n (by omega) (by omega), ck_n (by omega) (by omega), ck_n (by omega) (by omega), ck_n (by omega) (by omega), ck_n (by omega) (by omega), nI_clamp (by omega), nI_clamp (by omega), z2, z3, m_inIv (by omega) (by omega), bd_ok]
      have ea : any6 gl Hd k i = decide (z.2.1 ≤ k ∧ k < z.2.1 + zz gl z) := by unfold any6 hit; rw [hq]
      rw [ea]
      by_cases hd : z.2.1 ≤ k ∧ k < z.2.1 + zz gl z
      · rw [decide_eq_true hd, if_neg (by decide), if_pos rfl]
      · rw [decide_eq_false hd, if_pos (by rfl), lt_ok, ad1, if_neg (by decide)]
  unfold fX7_isInTaken
  rw [tk_ok m0, any_cat]
  cases hf : fstF (any6 gl Hd k) 6 with
  | some e =>
    obtain ⟨q1, q2, q3⟩ := fstF_some hf
    refine bd_tr (Sum.inr (1 : Int32), σ) e (fun i => (nI i, σ)) (by show e < 1000000; omega) (fun i rec hi => ?_) (fun rec => ?_) rfl
    · dsimp only; rw [body i _ (by omega), if_neg (by rw [q3 i hi]; decide)]
    · dsimp only; rw [body e _ q1, if_pos q2]
  | none =>
    have q3 := fstF_none hf
    refine bd_tr (Sum.inl (nI 6), σ) 6 (fun i => (nI i, σ)) (by show 6 < 1000000; omega) (fun i rec hi => ?_) (fun rec => ?_) rfl
    · dsimp only; rw [body i _ (by omega), if_neg (by rw [q3 i hi]; decide)]
    · unfold bX7_isInTaken_2
      dsimp only
      rw [i6, if_pos (nI_le (Nat.le_refl _) (by omega))]
theorem hc_fr {σ' : Sg} (h : HC' σ n gl C Hd) (h1 : ∀ t, t < 6 → gi σ' 407 t = gi σ 407 t) (h2 : ∀ k, 1227 ≤ k → gi σ' 396 k = gi σ 396 k) : HC' σ' n gl C Hd := by
  refine ⟨fun t ht => by rw [h1 t ht]; exact h.1 t ht, fun t z ht hz => ?_⟩
  obtain ⟨z1, z2, z3, z4, z5, z6⟩ := h.2 t z ht hz
  exact ⟨z1, by rw [h2 _ (by omega)]; exact z2, by rw [h2 _ (by omega)]; exact z3, z4, z5, fun i hi => by rw [h2 _ (by omega)]; exact z6 i hi⟩
/-- what isn't taken comes ahead -/
theorem m_gath1 (hM : LMod E) (hM2 : LMo2 E) (hn : n ≤ 300) (h0 : gi σ 396 0 = nI n) (hh : HC' σ n gl C Hd) :
    ∃ b, fx (fun rec a => bX7_gathers_6 E 395 (fun u0 u1 u2 t => rec ((u0, u1, u2), t)) a.1.1 a.1.2.1 a.1.2.2 a.2) FU (((0 : Int32), (0 : Int32), (0 : Int32)), σ) = some b ∧ (b.1.2.1 = nI (nu gl (catX (hds Hd) 6) n) ∧ (∀ j, j < n → inT gl (catX (hds Hd) 6) j = false → gi b.2 408 (nu gl (catX (hds Hd) 6) j) = gi σ 396 (7527 + j)) ∧ ∀ x k, x ≠ 408 → gi b.2 x k = gi σ x k) := by
  obtain ⟨m0, m1, m2, m3, m4, m5, m6, m7, m8, m9, m10, m11, m12, m13, mz⟩ := id hM
  obtain ⟨n1, n2, n3, n4, n5, n6, n7, n8, n9, n10, n11, n12, n13, nz⟩ := id hM2
  generalize hH : catX (hds Hd) 6 = H
  refine for_in n (fun i b => b.1.2.1 = nI (nu gl H i) ∧ b.1.2.2 = nI i ∧ (∀ j, j < i → inT gl H j = false → gi b.2 408 (nu gl H j) = gi σ 396 (7527 + j)) ∧ ∀ x k, x ≠ 408 → gi b.2 x k = gi σ x k) _ (by show n < 1000000; omega) ?_ ?_ ⟨rfl, rfl, fun j hj => absurd hj (Nat.not_lt_zero j), fun _ _ _ => rfl⟩
  · rintro i ⟨⟨u, v, y⟩, s⟩ rec hi ⟨q1, q2, q3, q4⟩
    dsimp only at q1 q2 q3 q4 ⊢
    subst q1; subst q2
    have hin := m_isInT (σ := s) hM hM2 hn (hc_fr hh (fun t _ => q4 _ _ (by omega)) (fun k _ => q4 _ _ (by omega))) hi
    rw [hH] at hin
    have hnl := nu_le (gl := gl) (H := H) i
    unfold bX7_gathers_6
    rw [m_many hM hM2, bd_ok, q4 _ _ (by omega), h0, if_neg (nI_ge hi (by omega)), hin, bd_ok]
    cases hz : inT gl H i with
    | true =>
      rw [if_pos (by decide), lt_ok, bd_ok, lt_ok, ad1]
      refine ⟨_, rfl, ?_, rfl, fun j hj hj2 => ?_, q4⟩
      · dsimp only; rw [nu_s, hz]; rfl
      · by_cases hji : j = i
        · subst hji; rw [hz] at hj2; cases hj2
        · exact q3 j (by omega) hj2
    | false =>
      rw [if_neg (by decide), dr_ok m13 n13.1, dr_ok m1 n1.1, n1.2, n13.2, show (7527 : Int32) = nI 7527 from rfl, nI_add, ck_n (by omega) (by omega), ck_n (by omega) (by omega), nI_clamp (by omega), nI_clamp (by omega), ss_ok, lt_ok, ad1, bd_ok, lt_ok, ad1, q4 396 _ (by omega)]
      refine ⟨_, rfl, ?_, rfl, fun j hj hj2 => ?_, fun x k hx => ?_⟩
      · dsimp only; rw [nu_s, hz]; rfl
      · dsimp only
        by_cases hji : j = i
        · subst hji; rw [gs_eq]
        · have := nu_inj (gl := gl) (H := H) hj2 (show j < i by omega)
          rw [gs_ne (by omega)]; exact q3 j (by omega) hj2
      · dsimp only; rw [gs_ne (by omega)]; exact q4 x k hx
  · rintro ⟨⟨u, v, y⟩, s⟩ rec ⟨q1, q2, q3, q4⟩
    dsimp only at q1 q2 q3 q4 ⊢
    subst q1; subst q2
    unfold bX7_gathers_6
    rw [m_many hM hM2, bd_ok, q4 _ _ (by omega), h0, if_pos (nI_le (Nat.le_refl _) (by omega))]
    exact ⟨_, rfl, rfl, q3, q4⟩
/-- the contents of what is taken, one behind the other -/
def cnts (C : Dn → List Nat) (Hd : Nat → Option Dn) : Nat → List Nat := fun t => match Hd t with
  | none => []
  | some z => C z
theorem m_gath2 (hM : LMod E) (hM2 : LMo2 E) (hn : n ≤ 300) (hh : HC' σ n gl C Hd) {left : Nat} (hl : left + (catX (cnts C Hd) 6).length ≤ 300) :
    ∃ b, fx (fun rec a => bX7_gathers_58 E 395 (fun u0 u1 t => rec ((u0, u1), t)) a.1.1 a.1.2 a.2) FU ((nI left, (0 : Int32)), σ) = some b ∧ ((∀ i, i < (catX (cnts C Hd) 6).length → gi b.2 408 (left + i) = nI ((catX (cnts C Hd) 6).getD i 0)) ∧ ∀ x k, ¬ (x = 408 ∧ left ≤ k) → gi b.2 x k = gi σ x k) := by
  obtain ⟨m0, m1, m2, m3, m4, m5, m6, m7, m8, m9, m10, m11, m12, m13, mz⟩ := id hM
  obtain ⟨n1, n2, n3, n4, n5, n6, n7, n8, n9, n10, n11, n12, n13, nz⟩ := id hM2
  have hmon : ∀ i, i ≤ 6 → (catX (cnts C Hd) i).length ≤ (catX (cnts C Hd) 6).length := by
    have : ∀ j i, (catX (cnts C Hd) i).length ≤ (catX (cnts C Hd) (i + j)).length := by
      intro j
      induction j with
      | zero => intro i; exact Nat.le_refl _
      | succ j ih => intro i; refine Nat.le_trans (ih i) ?_; show _ ≤ (catX (cnts C Hd) (i + j) ++ _).length; rw [List.length_append]; omega
    intro i hi
    have h := this (6 - i) i
    rw [show i + (6 - i) = 6 by omega] at h
    exact h
  refine for_in 6 (fun i b => b.1.1 = nI (left + (catX (cnts C Hd) i).length) ∧ b.1.2 = nI i ∧ (∀ j, j < (catX (cnts C Hd) i).length → gi b.2 408 (left + j) = nI ((catX (cnts C Hd) i).getD j 0)) ∧ ∀ x k, ¬ (x = 408 ∧ left ≤ k) → gi b.2 x k = gi σ x k) _ (by show 6 < 1000000; omega) ?_ ?_ ⟨rfl, rfl, fun j hj => absurd hj (Nat.not_lt_zero j), fun _ _ _ => rfl⟩
  · rintro i ⟨⟨u, v⟩, s⟩ rec hi ⟨q1, q2, q3, q4⟩
    dsimp only at q1 q2 q3 q4 ⊢
    subst q1; subst q2
    have hm1 := hmon (i + 1) (by omega)
    have ec : catX (cnts C Hd) (i + 1) = catX (cnts C Hd) i ++ cnts C Hd i := rfl
    unfold bX7_gathers_58
    rw [i6, if_neg (nI_ge hi (by omega)), dr_ok m12 n12.1, n12.2, ck_n (by omega) (by omega), nI_clamp (by omega), q4 407 i (by omega), hh.1 i hi]
    cases hq : Hd i with
    | none =>
      have en : cnts C Hd i = [] := by unfold cnts; rw [hq]
      rw [if_pos (by rfl), bd_ok, lt_ok, ad1]
      refine ⟨_, rfl, ?_, rfl, ?_, q4⟩
      · dsimp only; rw [ec, en, List.append_nil]
      · rw [ec, en, List.append_nil]; exact q3
    | some z =>
      obtain ⟨z1, z2, z3, z4, z5, z6⟩ := hh.2 i z hi hq
      have en : cnts C Hd i = C z := by unfold cnts; rw [hq]
      rw [ec, en, List.length_append] at hm1
      rw [show tkO (some z) = nI z.1 from rfl, if_neg (nI_nm1 (by omega))]
      generalize hP : catX (cnts C Hd) i = P at *
      obtain ⟨⟨⟨u, v⟩, s2⟩, e2, g1, g2, g3⟩ := for_in (F := fun (rec : (Int32 × Int32) × Sg → Option ((Int32 × Int32) × Sg)) (a : (Int32 × Int32) × Sg) => bX7_gathers_79 E 395 (nI i) 407 (fun u0 u1 t => rec ((u0, u1), t)) a.1.1 a.1.2 a.2) (zz gl z)
        (fun j b => b.1 = (nI (left + P.length + j), nI j) ∧ (∀ k, k < P.length + j → gi b.2 408 (left + k) = nI ((P ++ C z).getD k 0)) ∧ ∀ x k, ¬ (x = 408 ∧ left ≤ k) → gi b.2 x k = gi σ x k)
        (fun b => b.1.1 = nI (left + P.length + zz gl z) ∧ (∀ k, k < P.length + zz gl z → gi b.2 408 (left + k) = nI ((P ++ C z).getD k 0)) ∧ ∀ x k, ¬ (x = 408 ∧ left ≤ k) → gi b.2 x k = gi σ x k) (N := FU) (by show zz gl z < 1000000; omega)
        (by
          rintro j ⟨⟨u, v⟩, s2⟩ rec hj ⟨g1, g2, g3⟩
          dsimp only at g1 g2 g3 ⊢
          injection g1 with g1 g1'
          subst g1; subst g1'
          unfold bX7_gathers_79
          rw [dr_ok m1 n1.1, n1.2, n12.2, ck_n (by omega) (by omega), nI_clamp (by omega), g3 407 i (by omega), hh.1 i hi, hq, show tkO (some z) = nI z.1 from rfl, show (1927 : Int32) = nI 1927 from rfl, nI_add, ck_n (by omega) (by omega), nI_clamp (by omega), g3 396 _ (by omega), z3, if_neg (nI_ge hj (by omega)), dr_ok m13 n13.1, n13.2, ck_n (by omega) (by omega), show (1227 : Int32) = nI 1227 from rfl, nI_add, ck_n (by omega) (by omega), nI_clamp (by omega), g3 396 _ (by omega), z2, show (7527 : Int32) = nI 7527 from rfl, nI_add, nI_add, ck_n (by omega) (by omega), ck_n (by omega) (by omega), nI_clamp (by omega), nI_clamp (by omega), g3 396 _ (by omega), z6 j hj, ss_ok, lt_ok, lt_ok, ad1, ad1]
          refine ⟨_, rfl, rfl, fun k hk => ?_, fun x k q => ?_⟩
          · dsimp only
            by_cases hkj : k = P.length + j
            · subst hkj
              rw [show left + (P.length + j) = left + P.length + j by omega, gs_eq, List.getD_eq_getElem?_getD, List.getD_eq_getElem?_getD, List.getElem?_append_right (by omega), show P.length + j - P.length = j by omega]
            · rw [gs_ne (by omega)]; exact g2 k (by omega)
          · dsimp only; rw [gs_ne (by omega)]; exact g3 x k q)
        (by
          rintro ⟨⟨u, v⟩, s2⟩ rec ⟨g1, g2, g3⟩
          dsimp only at g1 g2 g3 ⊢
          injection g1 with g1 g1'
          subst g1; subst g1'
          unfold bX7_gathers_79
          rw [dr_ok m1 n1.1, n1.2, n12.2, ck_n (by omega) (by omega), nI_clamp (by omega), g3 407 i (by omega), hh.1 i hi, hq, show tkO (some z) = nI z.1 from rfl, show (1927 : Int32) = nI 1927 from rfl, nI_add, ck_n (by omega) (by omega), nI_clamp (by omega), g3 396 _ (by omega), z3, if_pos (nI_le (Nat.le_refl _) (by omega))]
          exact ⟨_, rfl, rfl, g2, g3⟩)
        (a := ((nI (left + P.length), (0 : Int32)), s)) ⟨rfl, fun k hk => by
          dsimp only
          rw [q3 k (by omega), List.getD_eq_getElem?_getD, List.getD_eq_getElem?_getD, List.getElem?_append_left (by omega)], q4⟩
      dsimp only at g1 g2 g3
      subst g1
      rw [e2, bd_ok, bd_ok, lt_ok, ad1]
      refine ⟨_, rfl, ?_, rfl, fun j hj => ?_, g3⟩
      · dsimp only; rw [ec, en, List.length_append, z5]; congr 1; omega
      · dsimp only; rw [ec, en, List.length_append] at hj; rw [ec, en]; exact g2 j (by omega)
  · rintro ⟨⟨u, v⟩, s⟩ rec ⟨q1, q2, q3, q4⟩
    dsimp only at q1 q2 q3 q4 ⊢
    subst q2
    unfold bX7_gathers_58
    rw [i6, if_pos (nI_le (Nat.le_refl _) (by omega))]
    exact ⟨_, rfl, q3, q4⟩
end GA
