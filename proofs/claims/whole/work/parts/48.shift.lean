/-! what is left of the pool moves ahead -/
theorem catX_sub {α : Type} {X : Nat → List α} : ∀ {n m : Nat}, m ≤ n → (catX X m).Sublist (catX X n)
  | 0, m, h => by rw [show m = 0 by omega]; exact List.Sublist.refl _
  | n + 1, m, h => by
    by_cases hq : m = n + 1
    · rw [hq]; exact List.Sublist.refl _
    · exact (catX_sub (n := n) (by omega)).trans (List.sublist_append_left _ _)
theorem catX_mem {α : Type} {X : Nat → List α} {z : α} : ∀ {n : Nat}, z ∈ catX X n ↔ ∃ t, t < n ∧ z ∈ X t
  | 0 => ⟨fun h => absurd h List.not_mem_nil, fun ⟨t, h, _⟩ => absurd h (Nat.not_lt_zero t)⟩
  | n + 1 => by
    show z ∈ catX X n ++ X n ↔ _
    rw [List.mem_append, catX_mem]
    constructor
    · rintro (⟨t, h1, h2⟩ | h)
      · exact ⟨t, by omega, h2⟩
      · exact ⟨n, by omega, h⟩
    · rintro ⟨t, h1, h2⟩
      by_cases hq : t = n
      · subst hq; exact Or.inr h2
      · exact Or.inl ⟨t, by omega, h2⟩
theorem take_s {l : List Dn} {k : Nat} (h : k < l.length) : l.take (k + 1) = l.take k ++ [l.getD k d0] := by
  rw [List.take_succ_eq_append_getElem h, List.getD_eq_getElem?_getD, List.getElem?_eq_getElem h]; rfl
theorem getDn_mem {l : List Dn} {k : Nat} (h : k < l.length) : l.getD k d0 ∈ l := by
  rw [List.getD_eq_getElem?_getD, List.getElem?_eq_getElem h]; exact List.getElem_mem _
section SH
variable {E : En} {σ : Sg} {n T : Nat} {gl : Nat → Nat} {Hd : Nat → Option Dn} {C : Dn → List Nat} {Y : Nat → List Dn}
theorem m_less (hM : LMod E) (hM2 : LMo2 E) (hn : n ≤ 300) (hh : HC' σ n gl C Hd) {z : Dn} (hz1 : z.1 < 700) (hzF : gi σ 396 (1227 + z.1) = nI z.2.1) (hzn : z.2.1 ≤ n) (hne : ∀ t y, t < 6 → Hd t = some y → y.1 ≠ z.1) : fx (fun rec a => bX7_shiftsRuns_38 E 395 (nI z.1) 396 (fun u0 u1 t => rec ((u0, u1), t)) a.1.1 a.1.2 a.2) FU (((0 : Int32), (0 : Int32)), σ) = some ((nI (lss gl (catX (hds Hd) 6) z.2.1), nI 6), σ) := by
  obtain ⟨m0, m1, m2, m3, m4, m5, m6, m7, m8, m9, m10, m11, m12, m13, mz⟩ := id hM
  obtain ⟨n1, n2, n3, n4, n5, n6, n7, n8, n9, n10, n11, n12, n13, nz⟩ := id hM2
  refine for_tr 6 (fun i => ((nI (lss gl (catX (hds Hd) i) z.2.1), nI i), σ)) (by show 6 < 1000000; omega) (fun i rec hi => ?_) (fun rec => ?_) rfl
  · have e : lss gl (catX (hds Hd) (i + 1)) z.2.1 = lss gl (catX (hds Hd) i) z.2.1 + lss gl (hds Hd i) z.2.1 := lsm_app
    dsimp only
    rw [e]
    unfold bX7_shiftsRuns_38
    rw [i6, if_neg (nI_ge hi (by omega)), dr_ok m12 n12.1, n12.2, ck_n (by omega) (by omega), nI_clamp (by omega), hh.1 i hi]
    cases hq : Hd i with
    | none =>
      have eh : lss gl (hds Hd i) z.2.1 = 0 := by unfold hds lss; rw [hq]; rfl
      rw [if_pos (by rfl), bd_ok, lt_ok, lt_ok, ad1, i0, nI_add, eh]
    | some y =>
      obtain ⟨y1, y2, y3, y4, y5, y6⟩ := hh.2 i y hi hq
      have hyz := hne i y hi hq
      have eh : lss gl (hds Hd i) z.2.1 = if y.2.1 < z.2.1 then zz gl y else 0 := by unfold hds lss; rw [hq]; show _ + 0 = _; rw [Nat.add_zero]
      rw [show tkO (some y) = nI y.1 from rfl, if_neg (nI_nm1 (by omega)), ck_n (by omega) (by omega), if_neg (fun q => hyz ((nI_eq (by omega) (by omega)).mp q)), ck_n (by omega) (by omega), n1.2, show (1227 : Int32) = nI 1227 from rfl, nI_add, nI_add, ck_n (by omega) (by omega), ck_n (by omega) (by omega), nI_clamp (by omega), nI_clamp (by omega), hzF, y2, show (1927 : Int32) = nI 1927 from rfl, nI_add, nI_clamp (by omega), y3, eh]
      by_cases hc : z.2.1 ≤ y.2.1
      · rw [if_pos (nI_le hc (by omega)), bd_ok, lt_ok, lt_ok, ad1, i0, nI_add, if_neg (by omega)]
      · rw [if_neg (nI_ge (by omega) (by omega)), ck_n (by omega) (by omega), ck_n (by omega) (by omega), bd_ok, lt_ok, lt_ok, ad1, nI_add, if_pos (by omega)]
  · unfold bX7_shiftsRuns_38
    dsimp only
    rw [i6, if_pos (nI_le (Nat.le_refl _) (by omega))]
/-- what the cells say of what is left -/
def YC (σ : Sg) (n T : Nat) (Y : Nat → List Dn) : Prop := ∀ z, z ∈ catX Y T → z.1 < 700 ∧ gi σ 396 (1227 + z.1) = nI z.2.1 ∧ z.2.1 ≤ n
theorem m_shift (hM : LMod E) (hM2 : LMo2 E) (hn : n ≤ 300) (hT : T ≤ 6) (h2 : gi σ 396 2 = nI T) (hh : HC' σ n gl C Hd) (hx : XT σ Y) (hy : YC σ n T Y) (hp : (catX (hds Hd) 6 ++ catX Y T).Pairwise (apt gl)) :
    ∃ s, fX7_shiftsRuns E 395 σ = some s ∧ (∀ z, z ∈ catX Y T → gi s 396 (1227 + z.1) = nI (nu gl (catX (hds Hd) 6) z.2.1)) ∧ (∀ x k, ¬ (x = 396 ∧ 1227 ≤ k ∧ k < 1927) → x ≠ 409 → gi s x k = gi σ x k) ∧ ∀ j, (∀ z, z ∈ catX Y T → z.1 ≠ j) → gi s 396 (1227 + j) = gi σ 396 (1227 + j) := by
  obtain ⟨m0, m1, m2, m3, m4, m5, m6, m7, m8, m9, m10, m11, m12, m13, m14, mz⟩ := id hM
  obtain ⟨n1, n2, n3, n4, n5, n6, n7, n8, n9, n10, n11, n12, n13, n14, nz⟩ := id hM2
  obtain ⟨hp1, hp2, hp3⟩ := List.pairwise_append.mp hp
  have hne : ∀ z, z ∈ catX Y T → ∀ t y, t < 6 → Hd t = some y → y.1 ≠ z.1 := fun z hz t y ht hq => (hp3 y (catX_mem.mpr ⟨t, ht, by unfold hds; rw [hq]; simp⟩) z hz).1
  have hle : ∀ z, z ∈ catX Y T → nu gl (catX (hds Hd) 6) z.2.1 + lss gl (catX (hds Hd) 6) z.2.1 = z.2.1 := fun z hz => nu_eq hp1 (fun y hy' => by have := (hp3 y hy' z hz).2; unfold zz at this ⊢; omega)
  generalize hH : catX (hds Hd) 6 = H at *
  have hsub : ∀ t k, t < T → (catX Y t ++ (Y t).take k).Sublist (catX Y T) := fun t k ht => (List.Sublist.append_left (List.take_sublist _ _) _).trans (catX_sub (show t + 1 ≤ T by omega))
  have hnew : ∀ t k, t < T → k < (Y t).length → ∀ z, z ∈ catX Y t ++ (Y t).take k → z.1 ≠ ((Y t).getD k d0).1 := fun t k ht hk z hz => by
    have := hp2.sublist (hsub t (k + 1) ht)
    rw [take_s hk, ← List.append_assoc] at this
    exact ((List.pairwise_append.mp this).2.2 z hz _ (by simp)).1
  have hmemT : ∀ t k, t < T → k < (Y t).length → (Y t).getD k d0 ∈ catX Y T := fun t k ht hk => catX_mem.mpr ⟨t, ht, getDn_mem hk⟩
  unfold fX7_shiftsRuns
  rw [tk_ok m0]
  refine bd_in T (fun t b => b.1 = nI t ∧ (∀ z, z ∈ catX Y t → gi b.2 409 z.1 = nI (lss gl H z.2.1)) ∧ ∀ x k, x ≠ 409 → gi b.2 x k = gi σ x k)
    (fun b => (∀ z, z ∈ catX Y T → gi b.2 409 z.1 = nI (lss gl H z.2.1)) ∧ ∀ x k, x ≠ 409 → gi b.2 x k = gi σ x k) (by show T < 1000000; omega) ⟨rfl, fun z hz => absurd hz List.not_mem_nil, fun _ _ _ => rfl⟩ ?_ ?_ ?_
  · rintro t ⟨v, s⟩ rec ht ⟨rfl, q1, q2⟩
    dsimp only at q1 q2 ⊢
    obtain ⟨x1, x2, x3⟩ := hx t (by omega)
    unfold bX7_shiftsRuns_2
    rw [m_tapes hM hM2, bd_ok, q2 _ _ (by omega), h2, if_neg (nI_ge ht (by omega))]
    obtain ⟨⟨v, s2⟩, e2, g1, g2⟩ := for_in (F := fun (rec : Int32 × Sg → Option (Int32 × Sg)) (a : Int32 × Sg) => bX7_shiftsRuns_12 E 395 (nI t) (fun u0 t => rec (u0, t)) a.1 a.2) (Y t).length
      (fun k b => b.1 = nI k ∧ (∀ z, z ∈ catX Y t ++ (Y t).take k → gi b.2 409 z.1 = nI (lss gl H z.2.1)) ∧ ∀ x k, x ≠ 409 → gi b.2 x k = gi σ x k)
      (fun b => (∀ z, z ∈ catX Y (t + 1) → gi b.2 409 z.1 = nI (lss gl H z.2.1)) ∧ ∀ x k, x ≠ 409 → gi b.2 x k = gi σ x k) (N := FU) (by show (Y t).length < 1000000; omega)
      (by
        rintro k ⟨v, s2⟩ rec hk ⟨rfl, g1, g2⟩
        dsimp only at g1 g2 ⊢
        obtain ⟨y1, y2, y3⟩ := hy _ (hmemT t k ht hk)
        have hl := m_less (σ := s2) (z := (Y t).getD k d0) hM hM2 hn (hc_fr hh (fun t _ => g2 _ _ (by omega)) (fun k _ => g2 _ _ (by omega))) y1 (by rw [g2 _ _ (by omega)]; exact y2) y3 (hne _ (hmemT t k ht hk))
        rw [hH] at hl
        unfold bX7_shiftsRuns_12
        rw [dr_ok m1 n1.1, n1.2, show (20 : Int32) = nI 20 from rfl, nI_add, ck_n (by omega) (by omega), nI_clamp (by omega), g2 _ _ (by omega), x1, if_neg (nI_ge hk (by omega)), m_runAt hM hM2 (by omega) (by omega), bd_ok, g2 _ _ (by omega), x3 k hk, hl, bd_ok, dr_ok m14 n14.1, n14.2, ck_n (by omega) (by omega), nI_clamp (by omega), ss_ok, lt_ok, ad1]
        refine ⟨_, rfl, rfl, fun z hz => ?_, fun x k hx' => ?_⟩
        · dsimp only
          rw [take_s hk, ← List.append_assoc] at hz
          rcases List.mem_append.mp hz with hz | hz
          · rw [gs_ne (Or.inr (hnew t k ht hk z hz))]; exact g1 z hz
          · rw [List.mem_singleton.mp hz, gs_eq]
        · dsimp only; rw [gs_ne (by omega)]; exact g2 x k hx')
      (by
        rintro ⟨v, s2⟩ rec ⟨rfl, g1, g2⟩
        dsimp only at g1 g2 ⊢
        unfold bX7_shiftsRuns_12
        rw [dr_ok m1 n1.1, n1.2, show (20 : Int32) = nI 20 from rfl, nI_add, ck_n (by omega) (by omega), nI_clamp (by omega), g2 _ _ (by omega), x1, if_pos (nI_le (Nat.le_refl _) (by omega))]
        rw [List.take_length] at g1
        exact ⟨_, rfl, g1, g2⟩)
      (a := ((0 : Int32), s)) ⟨rfl, fun z hz => by rw [List.take_zero, List.append_nil] at hz; exact q1 z hz, q2⟩
    dsimp only at g1 g2
    rw [e2, bd_ok, lt_ok, ad1]
    exact ⟨_, rfl, rfl, g1, g2⟩
  · rintro ⟨v, s⟩ rec ⟨rfl, q1, q2⟩
    dsimp only at q1 q2 ⊢
    unfold bX7_shiftsRuns_2
    rw [m_tapes hM hM2, bd_ok, q2 _ _ (by omega), h2, if_pos (nI_le (Nat.le_refl _) (by omega))]
    exact ⟨_, rfl, q1, q2⟩
  · rintro v s1 ⟨q1, q2⟩
    dsimp only at q1 q2
    refine bd_in T (fun t b => b.1 = nI t ∧ (∀ z, z ∈ catX Y t → gi b.2 396 (1227 + z.1) = nI (nu gl H z.2.1)) ∧ (∀ x k, ¬ (x = 396 ∧ 1227 ≤ k ∧ k < 1927) → gi b.2 x k = gi s1 x k) ∧ ∀ j, (∀ z, z ∈ catX Y t → z.1 ≠ j) → gi b.2 396 (1227 + j) = gi σ 396 (1227 + j))
      (fun b => (∀ z, z ∈ catX Y T → gi b.2 396 (1227 + z.1) = nI (nu gl H z.2.1)) ∧ (∀ x k, ¬ (x = 396 ∧ 1227 ≤ k ∧ k < 1927) → gi b.2 x k = gi s1 x k) ∧ ∀ j, (∀ z, z ∈ catX Y T → z.1 ≠ j) → gi b.2 396 (1227 + j) = gi σ 396 (1227 + j)) (by show T < 1000000; omega) ⟨rfl, fun z hz => absurd hz List.not_mem_nil, fun _ _ _ => rfl, fun j _ => q2 _ _ (by omega)⟩ ?_ ?_ (fun v s q => ⟨s, rfl, q.1, fun x k z1 z2 => by rw [q.2.1 x k z1]; exact q2 x k z2, q.2.2⟩)
    · rintro t ⟨v, s⟩ rec ht ⟨rfl, w1, w2, w3⟩
      dsimp only at w1 w2 w3 ⊢
      obtain ⟨x1, x2, x3⟩ := hx t (by omega)
      unfold bX7_shiftsRuns_149
      rw [m_tapes hM hM2, bd_ok, w2 _ _ (by omega), q2 _ _ (by omega), h2, if_neg (nI_ge ht (by omega))]
      obtain ⟨⟨v, s2⟩, e2, g1, g2, g3⟩ := for_in (F := fun (rec : Int32 × Sg → Option (Int32 × Sg)) (a : Int32 × Sg) => bX7_shiftsRuns_159 E 395 (nI t) (fun u0 t => rec (u0, t)) a.1 a.2) (Y t).length
        (fun k b => b.1 = nI k ∧ (∀ z, z ∈ catX Y t ++ (Y t).take k → gi b.2 396 (1227 + z.1) = nI (nu gl H z.2.1)) ∧ (∀ x k, ¬ (x = 396 ∧ 1227 ≤ k ∧ k < 1927) → gi b.2 x k = gi s1 x k) ∧ ∀ j, (∀ z, z ∈ catX Y t ++ (Y t).take k → z.1 ≠ j) → gi b.2 396 (1227 + j) = gi σ 396 (1227 + j))
        (fun b => (∀ z, z ∈ catX Y (t + 1) → gi b.2 396 (1227 + z.1) = nI (nu gl H z.2.1)) ∧ (∀ x k, ¬ (x = 396 ∧ 1227 ≤ k ∧ k < 1927) → gi b.2 x k = gi s1 x k) ∧ ∀ j, (∀ z, z ∈ catX Y (t + 1) → z.1 ≠ j) → gi b.2 396 (1227 + j) = gi σ 396 (1227 + j)) (N := FU) (by show (Y t).length < 1000000; omega)
        (by
          rintro k ⟨v, s2⟩ rec hk ⟨rfl, g1, g2, g3⟩
          dsimp only at g1 g2 g3 ⊢
          obtain ⟨y1, y2, y3⟩ := hy _ (hmemT t k ht hk)
          have hz9 := q1 _ (hmemT t k ht hk)
          have hzl := hle _ (hmemT t k ht hk)
          have hzf := g3 ((Y t).getD k d0).1 (hnew t k ht hk)
          rw [y2] at hzf
          unfold bX7_shiftsRuns_159
          rw [dr_ok m1 n1.1, n1.2, show (20 : Int32) = nI 20 from rfl, nI_add, ck_n (by omega) (by omega), nI_clamp (by omega), g2 _ _ (by omega), q2 _ _ (by omega), x1, if_neg (nI_ge hk (by omega)), m_runAt hM hM2 (by omega) (by omega), bd_ok, g2 _ _ (by omega), q2 _ _ (by omega), x3 k hk, show (1227 : Int32) = nI 1227 from rfl, nI_add, ck_n (by omega) (by omega), dr_ok m14 n14.1, n14.2, m_runAt hM hM2 (by omega) (by omega), bd_ok, g2 396 (3327 + 700 * t + k) (by omega), q2 396 (3327 + 700 * t + k) (by omega), x3 k hk, ck_n (by omega) (by omega), ck_n (by omega) (by omega), nI_clamp (by omega), nI_clamp (by omega), hzf, g2 409 _ (by omega), hz9, sub_n (by omega), show ((Y t).getD k d0).2.1 - lss gl H ((Y t).getD k d0).2.1 = nu gl H ((Y t).getD k d0).2.1 by omega, ss_ok, lt_ok, ad1]
          refine ⟨_, rfl, rfl, fun z hz => ?_, fun x k hx' => ?_, fun j hj => ?_⟩
          · dsimp only
            rw [take_s hk, ← List.append_assoc] at hz
            rcases List.mem_append.mp hz with hz | hz
            · have := hnew t k ht hk z hz
              rw [gs_ne (by omega)]; exact g1 z hz
            · rw [List.mem_singleton.mp hz, gs_eq]
          · dsimp only; rw [gs_ne (by omega)]; exact g2 x k hx'
          · dsimp only
            rw [take_s hk, ← List.append_assoc] at hj
            have h1 := hj _ (List.mem_append.mpr (Or.inr (List.mem_singleton.mpr rfl)))
            rw [gs_ne (by omega)]; exact g3 j (fun z hz => hj z (List.mem_append.mpr (Or.inl hz))))
        (by
          rintro ⟨v, s2⟩ rec ⟨rfl, g1, g2, g3⟩
          dsimp only at g1 g2 g3 ⊢
          unfold bX7_shiftsRuns_159
          rw [dr_ok m1 n1.1, n1.2, show (20 : Int32) = nI 20 from rfl, nI_add, ck_n (by omega) (by omega), nI_clamp (by omega), g2 _ _ (by omega), q2 _ _ (by omega), x1, if_pos (nI_le (Nat.le_refl _) (by omega))]
          rw [List.take_length] at g1 g3
          exact ⟨_, rfl, g1, g2, g3⟩)
        (a := ((0 : Int32), s)) ⟨rfl, fun z hz => by rw [List.take_zero, List.append_nil] at hz; exact w1 z hz, w2, fun j hj => by rw [List.take_zero, List.append_nil] at hj; exact w3 j hj⟩
      dsimp only at g1 g2 g3
      rw [e2, bd_ok, lt_ok, ad1]
      exact ⟨_, rfl, rfl, g1, g2, g3⟩
    · rintro ⟨v, s⟩ rec ⟨rfl, w1, w2, w3⟩
      dsimp only at w1 w2 w3 ⊢
      unfold bX7_shiftsRuns_149
      rw [m_tapes hM hM2, bd_ok, w2 _ _ (by omega), q2 _ _ (by omega), h2, if_pos (nI_le (Nat.le_refl _) (by omega))]
      exact ⟨_, rfl, w1, w2, w3⟩
theorem lsm_len {gl : Nat → Nat} : ∀ m, (∀ t z, t < m → Hd t = some z → (C z).length = zz gl z) → lsm (zz gl) (catX (hds Hd) m) = (catX (cnts C Hd) m).length
  | 0, _ => rfl
  | m + 1, h => by
    show lsm _ (catX (hds Hd) m ++ hds Hd m) = (catX (cnts C Hd) m ++ cnts C Hd m).length
    rw [lsm_app, List.length_append, lsm_len m (fun t z ht => h t z (by omega))]
    congr 1
    unfold hds cnts
    cases hq : Hd m with
    | none => rfl
    | some z => show zz gl z + 0 = _; have := h m z (by omega) hq; dsimp only; omega
theorem lss_all {gl : Nat → Nat} : ∀ {H : List Dn}, (∀ z, z ∈ H → z.2.1 + zz gl z ≤ n) → lss gl H n = lsm (zz gl) H
  | [], _ => rfl
  | z :: H, h => by
    show (if z.2.1 < n then zz gl z else 0) + lss gl H n = zz gl z + lsm (zz gl) H
    rw [lss_all (fun y hy => h y (List.mem_cons_of_mem _ hy))]
    have := h z List.mem_cons_self
    split <;> omega
theorem m_gathers (hM : LMod E) (hM2 : LMo2 E) (hn : n ≤ 300) (hT : T ≤ 6) (h0 : gi σ 396 0 = nI n) (h2 : gi σ 396 2 = nI T) (hh : HC' σ n gl C Hd) (hx : XT σ Y) (hy : YC σ n T Y) (hp : (catX (hds Hd) 6 ++ catX Y T).Pairwise (apt gl)) :
    ∃ s, fX7_gathers E 395 σ = some (nI (nu gl (catX (hds Hd) 6) n), s) ∧ nu gl (catX (hds Hd) 6) n + (catX (cnts C Hd) 6).length = n ∧ (∀ z, z ∈ catX Y T → gi s 396 (1227 + z.1) = nI (nu gl (catX (hds Hd) 6) z.2.1)) ∧
      (∀ j, j < n → inT gl (catX (hds Hd) 6) j = false → gi s 396 (7527 + nu gl (catX (hds Hd) 6) j) = gi σ 396 (7527 + j)) ∧ (∀ i, i < (catX (cnts C Hd) 6).length → gi s 396 (7527 + nu gl (catX (hds Hd) 6) n + i) = nI ((catX (cnts C Hd) 6).getD i 0)) ∧
      (∀ x k, ¬ (x = 396 ∧ 1227 ≤ k ∧ k < 1927) → ¬ (x = 396 ∧ 7527 ≤ k ∧ k < 7827) → x ≠ 408 → x ≠ 409 → gi s x k = gi σ x k) ∧ ∀ j, j < 700 → (∀ z, z ∈ catX Y T → z.1 ≠ j) → gi s 396 (1227 + j) = gi σ 396 (1227 + j) := by
  obtain ⟨m0, m1, m2, m3, m4, m5, m6, m7, m8, m9, m10, m11, m12, m13, m14, mz⟩ := id hM
  obtain ⟨n1, n2, n3, n4, n5, n6, n7, n8, n9, n10, n11, n12, n13, n14, nz⟩ := id hM2
  have hall : ∀ z, z ∈ catX (hds Hd) 6 → z.2.1 + zz gl z ≤ n := fun z hz => by
    obtain ⟨t, ht, hzt⟩ := catX_mem.mp hz
    unfold hds at hzt
    cases hq : Hd t with
    | none => rw [hq] at hzt; simp at hzt
    | some y => rw [hq] at hzt; simp at hzt; subst hzt; exact (hh.2 t z ht hq).2.2.2.1
  have hsum := nu_eq (gl := gl) (List.pairwise_append.mp hp).1 (n := n) (fun z hz => Or.inl (hall z hz))
  rw [lss_all hall, lsm_len (C := C) 6 (fun t z ht hq => (hh.2 t z ht hq).2.2.2.2.1)] at hsum
  obtain ⟨⟨⟨u, v, y⟩, s1⟩, e1, g1, g2, g3⟩ := m_gath1 hM hM2 hn h0 hh
  dsimp only at g1 g2 g3
  subst g1
  have hh1 : HC' s1 n gl C Hd := hc_fr hh (fun t _ => g3 _ _ (by omega)) (fun k _ => g3 _ _ (by omega))
  obtain ⟨⟨uv, s2⟩, e2, p1, p2⟩ := m_gath2 (left := nu gl (catX (hds Hd) 6) n) hM hM2 hn hh1 (by omega)
  dsimp only at p1 p2
  have f2 : ∀ x k, x ≠ 408 → gi s2 x k = gi σ x k := fun x k q => by rw [p2 x k (by omega)]; exact g3 x k q
  have hh2 : HC' s2 n gl C Hd := hc_fr hh (fun t _ => f2 _ _ (by omega)) (fun k _ => f2 _ _ (by omega))
  obtain ⟨s3, e3, w1, w2, w3⟩ := m_shift (σ := s2) hM hM2 hn hT (by rw [f2 _ _ (by omega)]; exact h2) hh2 (xt_fr hx (fun k _ => f2 _ _ (by omega))) (fun z hz => by obtain ⟨a, b, c⟩ := hy z hz; exact ⟨a, by rw [f2 _ _ (by omega)]; exact b, c⟩) hp
  unfold fX7_gathers
  rw [tk_ok m0, e1, bd_ok, lt_ok]
  dsimp only
  rw [e2, bd_ok, e3, bv_ok]
  obtain ⟨⟨v, s4⟩, e4, z1, z2⟩ := for_in (F := fun (rec : Int32 × Sg → Option (Int32 × Sg)) (a : Int32 × Sg) => bX7_gathers_156 E 395 (fun u0 t => rec (u0, t)) a.1 a.2) n
    (fun k b => b.1 = nI k ∧ (∀ j, j < k → gi b.2 396 (7527 + j) = gi s3 408 j) ∧ ∀ x j, ¬ (x = 396 ∧ 7527 ≤ j ∧ j < 7827) → gi b.2 x j = gi s3 x j)
    (fun b => (∀ j, j < n → gi b.2 396 (7527 + j) = gi s3 408 j) ∧ ∀ x j, ¬ (x = 396 ∧ 7527 ≤ j ∧ j < 7827) → gi b.2 x j = gi s3 x j) (N := FU) (by show n < 1000000; omega)
    (by
      rintro k ⟨v, s4⟩ rec hk ⟨rfl, z1, z2⟩
      dsimp only at z1 z2 ⊢
      unfold bX7_gathers_156
      rw [m_many hM hM2, bd_ok, z2 _ _ (by omega), w2 _ _ (by omega) (by omega), f2 _ _ (by omega), h0, if_neg (nI_ge hk (by omega)), dr_ok m1 n1.1, dr_ok m13 n13.1, n13.2, n1.2, ck_n (by omega) (by omega), show (7527 : Int32) = nI 7527 from rfl, nI_add, ck_n (by omega) (by omega), nI_clamp (by omega), nI_clamp (by omega), z2 408 k (by omega), ss_ok, lt_ok, ad1]
      refine ⟨_, rfl, rfl, fun j hj => ?_, fun x j q => ?_⟩
      · dsimp only
        by_cases hjk : j = k
        · subst hjk; rw [gs_eq]
        · rw [gs_ne (by omega)]; exact z1 j (by omega)
      · dsimp only; rw [gs_ne (by omega)]; exact z2 x j q)
    (by
      rintro ⟨v, s4⟩ rec ⟨rfl, z1, z2⟩
      dsimp only at z1 z2 ⊢
      unfold bX7_gathers_156
      rw [m_many hM hM2, bd_ok, z2 _ _ (by omega), w2 _ _ (by omega) (by omega), f2 _ _ (by omega), h0, if_pos (nI_le (Nat.le_refl _) (by omega))]
      exact ⟨_, rfl, z1, z2⟩)
    (a := ((0 : Int32), s3)) ⟨rfl, fun j hj => absurd hj (Nat.not_lt_zero j), fun _ _ _ => rfl⟩
  dsimp only at z1 z2
  rw [e4, bd_ok]
  refine ⟨s4, rfl, by omega, fun z hz => ?_, fun j hj hj2 => ?_, fun i hi => ?_, fun x k q1 q2 q3 q4 => ?_, fun j hj hj2 => ?_⟩
  · obtain ⟨a, _, _⟩ := hy z hz
    rw [z2 _ _ (by omega)]; exact w1 z hz
  · have h1 := nu_inj (gl := gl) (H := catX (hds Hd) 6) hj2 hj
    rw [z1 _ (by omega), w2 _ _ (by omega) (by omega), p2 _ _ (by omega)]; exact g2 j hj hj2
  · rw [show 7527 + nu gl (catX (hds Hd) 6) n + i = 7527 + (nu gl (catX (hds Hd) 6) n + i) by omega, z1 _ (by omega), w2 _ _ (by omega) (by omega)]; exact p1 i hi
  · rw [z2 _ _ q2, w2 _ _ q1 q4, f2 _ _ q3]
  · rw [z2 _ _ (by omega), w3 j hj2, f2 _ _ (by omega)]
end SH
