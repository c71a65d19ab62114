/-! perfect numbers in the reference; runs are made -/
section PF
variable {E : En} {σ : Sg} {w k l : Nat}
theorem m_layP (hM : LMod E) (hM2 : LMo2 E) (h1 : 2 ≤ k) (h5 : k ≤ 5) (hw : w = 0 ∨ w = 2) (hl : l ≤ 100) : ∃ s, fX7_laysPerfect E 395 (nI l) (nI w) (nI k) σ = some s ∧ (∀ i, i < k → gi s 403 i = nI ((pfn w k l).getD i 0)) ∧ ∀ x j, x ≠ 403 → x ≠ 404 → gi s x j = gi σ x j := by
  obtain ⟨m0, m1, m2, m3, m4, m5, m6, m7, m8, m9, mz⟩ := id hM
  obtain ⟨n1, n2, n3, n4, n5, n6, n7, n8, n9, nz⟩ := id hM2
  unfold fX7_laysPerfect
  rw [tk_ok m0]
  refine bd_in k (fun i b => b.1 = nI i ∧ (∀ j, j < i → gi b.2 403 j = nI (if j = 0 then 1 else 0)) ∧ ∀ x j, x ≠ 403 → gi b.2 x j = gi σ x j)
    (fun b => (∀ j, j < k → gi b.2 403 j = nI (if j = 0 then 1 else 0)) ∧ ∀ x j, x ≠ 403 → gi b.2 x j = gi σ x j) (by show k < 1000000; omega) ⟨rfl, fun j hj => absurd hj (Nat.not_lt_zero j), fun _ _ _ => rfl⟩ ?_ ?_ ?_
  · rintro i ⟨v, s⟩ rec hi ⟨rfl, q1, q2⟩
    dsimp only at q1 q2 ⊢
    unfold bX7_laysPerfect_3
    have hw' : (if ¬ nI i = 0 then (some ((0 : Int32), s)) else (some ((1 : Int32), s))) = some (bI (decide (i = 0)), s) := by
      by_cases h0 : i = 0
      · subst h0; rfl
      · rw [if_pos (nI_ne0 (by omega) (by omega)), decide_eq_false h0]; rfl
    rw [if_neg (nI_ge hi (by omega)), dr_ok m8 n8.1, hw', bd_ok, m_truth, bd_ok, n8.2, ck_n (by omega) (by omega), nI_clamp (by omega), ss_ok, lt_ok, ad1]
    refine ⟨_, rfl, rfl, fun j hj => ?_, fun x j hx => by dsimp only; rw [gs_ne (by omega)]; exact q2 x j hx⟩
    dsimp only
    by_cases hji : j = i
    · subst hji; rw [gs_eq]
      by_cases h0 : j = 0
      · subst h0; rfl
      · rw [decide_eq_false h0, if_neg h0]; rfl
    · rw [gs_ne (by omega)]; exact q1 j (by omega)
  · rintro ⟨v, s⟩ rec ⟨rfl, q⟩
    unfold bX7_laysPerfect_3
    rw [if_pos (nI_le (Nat.le_refl _) (by omega))]
    exact ⟨_, rfl, q⟩
  · rintro v s0 ⟨q1, q2⟩
    dsimp only at q1 q2
    refine bd_in l (fun i b => b.1 = nI i ∧ (∀ j, j < k → gi b.2 403 j = nI ((pfn w k i).getD j 0)) ∧ ∀ x j, x ≠ 403 → x ≠ 404 → gi b.2 x j = gi σ x j)
      (fun b => (∀ j, j < k → gi b.2 403 j = nI ((pfn w k l).getD j 0)) ∧ ∀ x j, x ≠ 403 → x ≠ 404 → gi b.2 x j = gi σ x j) (by show l < 1000000; omega) ⟨rfl, fun j hj => ?_, fun x j h1 _ => q2 x j h1⟩ ?_ ?_ (fun v s q => ⟨s, rfl, q⟩)
    · rw [q1 j hj]; unfold pfn; rw [tab_at hj]
    · rintro i ⟨v, s⟩ rec hi ⟨rfl, g1, g2⟩
      dsimp only at g1 g2 ⊢
      unfold bX7_laysPerfect_38
      rw [if_neg (nI_ge hi (by omega))]
      have hsc : ∀ m, m < k → (pfn w k (i + 1)).getD m 0 = if w = 0 then (pfn w k i).getD 0 0 + (if m + 1 < k then (pfn w k i).getD (m + 1) 0 else 0) else sumF (fun j => (pfn w k i).getD j 0) (k - m) := fun m hm => by
        show (if w = 0 then _ else _ : List Nat).getD m 0 = _
        split
        · rw [tab_at hm]
        · rw [tab_at hm]
      generalize hP : pfn w k i = P at *
      obtain ⟨⟨⟨u, v⟩, s2⟩, e2, p1, p2⟩ := for_in (F := fun (rec : (Int32 × Int32) × Sg → Option ((Int32 × Int32) × Sg)) (a : (Int32 × Int32) × Sg) => bX7_laysPerfect_50 E (nI k) 395 (nI w) (fun u0 u1 t => rec ((u0, u1), t)) a.1.1 a.1.2 a.2) k
        (fun m b => b.1 = (nI (sumF (fun j => P.getD j 0) m), nI m) ∧ (∀ j, j < k → (if w = 0 then j < m else k - m ≤ j) → gi b.2 404 j = nI ((pfn w k (i + 1)).getD j 0)) ∧ ∀ x j, x ≠ 404 → gi b.2 x j = gi s x j)
        (fun b => (∀ j, j < k → gi b.2 404 j = nI ((pfn w k (i + 1)).getD j 0)) ∧ ∀ x j, x ≠ 404 → gi b.2 x j = gi s x j) (N := FU) (by show k < 1000000; omega)
        (by
          rintro m ⟨⟨u, v⟩, s2⟩ rec hm ⟨p0, p1, p2⟩
          dsimp only at p0 p1 p2 ⊢
          injection p0 with p0 p0'
          subst p0; subst p0'
          unfold bX7_laysPerfect_50
          rw [if_neg (nI_ge hm (by omega)), dr_ok m8 n8.1, n8.2, ck_n (by omega) (by omega), nI_clamp (by omega), p2 403 m (by omega), g1 m hm, nI_add, lt_ok]
          rcases hw with rfl | rfl
          · have hw41 : (if nI k ≤ nI m + (1 : Int32) then (some ((0 : Int32), s2)) else (ck (nI m + (1 : Int32)) 6 (some ((gi s2 403 (nI m + (1 : Int32)).toNatClampNeg), s2)))) = some (nI (if m + 1 < k then P.getD (m + 1) 0 else 0), s2) := by
              rw [ad1]
              by_cases hq : k ≤ m + 1
              · rw [if_pos (nI_le hq (by omega)), if_neg (by omega)]; rfl
              · rw [if_neg (nI_ge (by omega) (by omega)), ck_n (by omega) (by omega), nI_clamp (by omega), p2 403 _ (by omega), g1 _ (by omega), if_pos (by omega)]
            rw [if_neg (by simp; rfl), dr_ok m9 n9.1, n9.2, i0, ck_n (by omega) (by omega), show nI 0 = (0 : Int32) from rfl, hw41, bd_ok, ck_n (by omega) (by omega), p2 403 _ (by omega), cl0_, g1 0 (by omega), nI_add, ss_ok, bd_ok, lt_ok, ad1]
            refine ⟨_, rfl, rfl, fun j hj hq => ?_, fun x j hx => by dsimp only; rw [gs_ne (by omega)]; exact p2 x j hx⟩
            dsimp only
            rw [if_pos rfl] at hq
            by_cases hjm : j = m
            · subst hjm; rw [gs_eq, hsc j hj, if_pos rfl]
            · rw [gs_ne (by omega)]; exact p1 j hj (by rw [if_pos rfl]; omega)
          · rw [if_pos (by decide), dr_ok m9 n9.1, n9.2, i1, sub_n (by omega), sub_n (by omega), ck_n (by omega) (by omega), nI_clamp (by omega), ss_ok, bd_ok, lt_ok, nI_add]
            refine ⟨_, rfl, rfl, fun j hj hq => ?_, fun x j hx => by dsimp only; rw [gs_ne (by omega)]; exact p2 x j hx⟩
            dsimp only
            rw [if_neg (by decide)] at hq
            by_cases hjm : j = k - 1 - m
            · subst hjm; rw [gs_eq, hsc _ hj, if_neg (by decide), show k - (k - 1 - m) = m + 1 by omega]; rfl
            · rw [gs_ne (by omega)]; exact p1 j hj (by rw [if_neg (by decide)]; omega))
        (by
          rintro ⟨⟨u, v⟩, s2⟩ rec ⟨p0, p1, p2⟩
          dsimp only at p0 p1 p2 ⊢
          injection p0 with p0 p0'
          subst p0; subst p0'
          unfold bX7_laysPerfect_50
          rw [if_pos (nI_le (Nat.le_refl _) (by omega))]
          exact ⟨_, rfl, fun j hj => p1 j hj (by split <;> omega), p2⟩)
        (a := (((0 : Int32), (0 : Int32)), s)) ⟨rfl, fun j hj hq => by split at hq <;> omega, fun _ _ _ => rfl⟩
      dsimp only at p1 p2
      rw [e2, bd_ok]
      obtain ⟨⟨v, s3⟩, e3, z1, z2⟩ := for_in (F := fun (rec : Int32 × Sg → Option (Int32 × Sg)) (a : Int32 × Sg) => bX7_laysPerfect_132 E (nI k) 395 (fun u0 t => rec (u0, t)) a.1 a.2) k
        (fun m b => b.1 = nI m ∧ (∀ j, j < m → gi b.2 403 j = nI ((pfn w k (i + 1)).getD j 0)) ∧ ∀ x j, x ≠ 403 → gi b.2 x j = gi s2 x j)
        (fun b => (∀ j, j < k → gi b.2 403 j = nI ((pfn w k (i + 1)).getD j 0)) ∧ ∀ x j, x ≠ 403 → gi b.2 x j = gi s2 x j) (N := FU) (by show k < 1000000; omega)
        (by
          rintro m ⟨v, s3⟩ rec hm ⟨rfl, z1, z2⟩
          dsimp only at z1 z2 ⊢
          unfold bX7_laysPerfect_132
          rw [if_neg (nI_ge hm (by omega)), dr_ok m8 n8.1, dr_ok m9 n9.1, n9.2, n8.2, ck_n (by omega) (by omega), ck_n (by omega) (by omega), nI_clamp (by omega), z2 404 m (by omega), p1 m hm, ss_ok, lt_ok, ad1]
          refine ⟨_, rfl, rfl, fun j hj => ?_, fun x j hx => by dsimp only; rw [gs_ne (by omega)]; exact z2 x j hx⟩
          dsimp only
          by_cases hjm : j = m
          · subst hjm; rw [gs_eq]
          · rw [gs_ne (by omega)]; exact z1 j (by omega))
        (by
          rintro ⟨v, s3⟩ rec ⟨rfl, z1, z2⟩
          unfold bX7_laysPerfect_132
          rw [if_pos (nI_le (Nat.le_refl _) (by omega))]
          exact ⟨_, rfl, z1, z2⟩)
        (a := ((0 : Int32), s2)) ⟨rfl, fun j hj => absurd hj (Nat.not_lt_zero j), fun _ _ _ => rfl⟩
      dsimp only at z1 z2
      rw [e3, bd_ok, lt_ok, ad1]
      exact ⟨_, rfl, rfl, z1, fun x j h1 h2 => by dsimp only; rw [z2 _ _ h1, p2 _ _ h2]; exact g2 x j h1 h2⟩
    · rintro ⟨v, s⟩ rec ⟨rfl, q⟩
      unfold bX7_laysPerfect_38
      rw [if_pos (nI_le (Nat.le_refl _) (by omega))]
      exact ⟨_, rfl, q⟩
theorem m_allP (hM : LMod E) (hM2 : LMo2 E) (h5 : k ≤ 5) {P : Nat → Nat} (hp : ∀ i, i < k → gi σ 403 i = nI (P i)) : fX7_allPerfect E 395 (nI k) σ = some (nI (sumF P k), σ) := by
  obtain ⟨m0, m1, m2, m3, m4, m5, m6, m7, m8, m9, mz⟩ := id hM
  obtain ⟨n1, n2, n3, n4, n5, n6, n7, n8, n9, nz⟩ := id hM2
  unfold fX7_allPerfect
  rw [tk_ok m0]
  refine bd_tr ((nI (sumF P k), nI k), σ) k (fun i => ((nI (sumF P i), nI i), σ)) (by show k < 1000000; omega) (fun i rec hi => ?_) (fun rec => ?_) rfl
  · dsimp only
    unfold bX7_allPerfect_4
    rw [if_neg (nI_ge hi (by omega)), dr_ok m8 n8.1, n8.2, ck_n (by omega) (by omega), nI_clamp (by omega), hp i hi, nI_add, lt_ok, lt_ok, ad1]
    rfl
  · unfold bX7_allPerfect_4
    dsimp only
    rw [if_pos (nI_le (Nat.le_refl _) (by omega))]
theorem m_makes (hM : LMod E) (hM2 : LMo2 E) {m : Nat} {a b : Int32} (h : gi σ 395 15 = nI m) (hm : m < 700) : fX7_makesRun E 395 a b σ = some (nI m, si (si (si (si σ 396 (1227 + m) a) 396 (1927 + m) b) 396 (2627 + m) 0) 395 15 (nI (m + 1))) := by
  unfold fX7_makesRun
  rw [tk_ok hM.1, dr_ok hM.2.1 hM2.1.1, hM2.1.2, h, show (1227 : Int32) = nI 1227 from rfl, nI_add, ck_n (by omega) (by omega), nI_clamp (by omega), ss_ok, gs_ne (by omega), h, show (1927 : Int32) = nI 1927 from rfl, nI_add, ck_n (by omega) (by omega), nI_clamp (by omega), ss_ok, gs_ne (by omega), gs_ne (by omega), h, show (2627 : Int32) = nI 2627 from rfl, nI_add, ck_n (by omega) (by omega), nI_clamp (by omega), ss_ok, ss_ok]
  have e : gi (si (si (si σ 396 (1227 + m) a) 396 (1927 + m) b) 396 (2627 + m) 0) 395 15 = nI m := by rw [gs_ne (by omega), gs_ne (by omega), gs_ne (by omega), h]
  rw [e, ad1, gs_eq, i1, sub_n (by omega), show m + 1 - 1 = m by omega]
def insX (d : Nat) (z : Dn) (l : List Dn) : List Dn := l.take d ++ z :: l.drop d
theorem insX_get {d : Nat} {z : Dn} {P : List Dn} (hp : d ≤ P.length) (i : Nat) : (insX d z P).getD i d0 = if i < d then P.getD i d0 else if i = d then z else P.getD (i - 1) d0 := by
  unfold insX
  simp only [List.getD_eq_getElem?_getD]
  by_cases h1 : i < d
  · rw [if_pos h1, List.getElem?_append_left (by rw [List.length_take]; omega), List.getElem?_take_of_lt h1]
  · rw [if_neg h1, List.getElem?_append_right (by rw [List.length_take]; omega), List.length_take, Nat.min_eq_left hp]
    by_cases h2 : i = d
    · rw [if_pos h2, h2, Nat.sub_self]; rfl
    · rw [if_neg h2, show i - d = (i - d - 1) + 1 by omega, List.getElem?_cons_succ, List.getElem?_drop, show d + (i - d - 1) = i - 1 by omega]
theorem insX_len {d : Nat} {z : Dn} {P : List Dn} : (insX d z P).length = P.length + 1 := by
  unfold insX; rw [List.length_append, List.length_cons, List.length_take, List.length_drop]; omega
/-- a run comes into the midst of a tape -/
theorem m_insert (hM : LMod E) (hM2 : LMo2 E) {X : Nat → List Dn} {t d : Nat} (h : XT σ X) (ht : t < 6) (z : Dn) (hl : (X t).length < 256) (hd : d ≤ (X t).length) : ∃ s, bd (fx (fun rec a => bX7_dealsRun_83 E (nI d) (nI t) 396 (fun u0 t => rec (u0, t)) a.1 a.2) FU (nI (X t).length, σ)) (fun o39 s40 => ck (((3327 : Int32) + ((700 : Int32) * nI t)) + nI d) 7827 (ss (si s40 396 (((3327 : Int32) + ((700 : Int32) * nI t)) + nI d).toNatClampNeg (nI z.1)) (fun s42 => ck ((20 : Int32) + nI t) 7827 (ck ((20 : Int32) + nI t) 7827 (ss (si s42 396 ((20 : Int32) + nI t).toNatClampNeg ((gi s42 396 ((20 : Int32) + nI t).toNatClampNeg) + (1 : Int32))) (fun s45 => some s45)))))) = some s ∧ XT s (upX X t (insX d z (X t))) ∧ ∀ x k, ¬ (x = 396 ∧ (k = 20 + t ∨ (3327 + 700 * t ≤ k ∧ k < 3327 + 700 * t + 700))) → gi s x k = gi σ x k := by
  obtain ⟨h1, h2, h3⟩ := h t ht
  have key := fx_ok (F := fun (rec : Int32 × Sg → Option (Int32 × Sg)) (b : Int32 × Sg) => bX7_dealsRun_83 E (nI d) (nI t) 396 (fun u0 t => rec (u0, t)) b.1 b.2)
    (fun j b => b.1 = nI (d + j) ∧ d + j ≤ (X t).length ∧ (∀ k, k < d + j → gi b.2 396 (3327 + 700 * t + k) = nI ((X t).getD k d0).1) ∧ (∀ k, d + j ≤ k → k < (X t).length → gi b.2 396 (3327 + 700 * t + k + 1) = nI ((X t).getD k d0).1) ∧ ∀ x k, ¬ (x = 396 ∧ (3327 + 700 * t ≤ k ∧ k < 3327 + 700 * t + 700)) → gi b.2 x k = gi σ x k)
    (fun b => (∀ k, k < d → gi b.2 396 (3327 + 700 * t + k) = nI ((X t).getD k d0).1) ∧ (∀ k, d ≤ k → k < (X t).length → gi b.2 396 (3327 + 700 * t + k + 1) = nI ((X t).getD k d0).1) ∧ ∀ x k, ¬ (x = 396 ∧ (3327 + 700 * t ≤ k ∧ k < 3327 + 700 * t + 700)) → gi b.2 x k = gi σ x k)
    ?_ FU ((X t).length - d) (nI (X t).length, σ) (by show (X t).length - d < 1000000; omega) ⟨by dsimp only; congr 1; omega, by omega, fun k hk => h3 k (by omega), fun k g1 g2 => by omega, fun _ _ _ => rfl⟩
  · obtain ⟨⟨v, s⟩, e, q0, q1, q2⟩ := key
    dsimp only at q0 q1 q2
    rw [e, bd_ok, show (3327 : Int32) = nI 3327 from rfl, show (700 : Int32) = nI 700 from rfl, pk_mul, nI_add, nI_add, ck_n (by omega) (by omega), nI_clamp (by omega), ss_ok, show (20 : Int32) = nI 20 from rfl, nI_add, ck_n (by omega) (by omega), ck_n (by omega) (by omega), nI_clamp (by omega), gs_ne (by omega), q2 _ _ (by omega), h1, ad1, ss_ok]
    refine ⟨_, rfl, fun u hu => ?_, fun x k q => by rw [gs_ne (by omega), gs_ne (by omega)]; exact q2 x k (by omega)⟩
    unfold upX
    by_cases hut : u = t
    · subst hut
      rw [if_pos rfl]
      refine ⟨by rw [gs_eq, insX_len], by rw [insX_len]; omega, fun k hk => ?_⟩
      rw [insX_len] at hk
      rw [gs_ne (by omega), insX_get hd]
      by_cases c1 : k < d
      · rw [if_pos c1, gs_ne (by omega)]; exact q0 k c1
      · rw [if_neg c1]
        by_cases c2 : k = d
        · rw [if_pos c2, c2, gs_eq]
        · rw [if_neg c2, gs_ne (by omega)]
          have := q1 (k - 1) (by omega) (by omega)
          rw [show 3327 + 700 * u + (k - 1) + 1 = 3327 + 700 * u + k by omega] at this
          exact this
    · rw [if_neg hut]
      obtain ⟨g1, g2, g3⟩ := h u hu
      exact ⟨by rw [gs_ne (by omega), gs_ne (by omega), q2 _ _ (by omega)]; exact g1, g2, fun k hk => by rw [gs_ne (by omega), gs_ne (by omega), q2 _ _ (by omega)]; exact g3 k hk⟩
  · rintro j ⟨v, s⟩ rec ⟨g0, g1, g2, g3, g4⟩ IH
    dsimp only at g0 g2 g3 g4 ⊢
    subst g0
    unfold bX7_dealsRun_83
    by_cases hj : j = 0
    · subst hj
      rw [if_pos (nI_le (by omega) (by omega))]
      exact ⟨_, rfl, g2, fun k z1 z2 => g3 k (by omega) z2, g4⟩
    · rw [if_neg (nI_ge (by omega) (by omega)), hM2.1.2, show (3327 : Int32) = nI 3327 from rfl, show (700 : Int32) = nI 700 from rfl, pk_mul, nI_add, nI_add, i1, sub_n (by omega), ck_n (by omega) (by omega), ck_n (by omega) (by omega), nI_clamp (by omega), nI_clamp (by omega), show 3327 + 700 * t + (d + j) - 1 = 3327 + 700 * t + (d + (j - 1)) by omega, g2 (d + (j - 1)) (by omega), ss_ok, lt_ok, show nI (d + j) + -nI 1 = nI (d + j - 1) from sb_m1 (by omega), show d + j - 1 = d + (j - 1) by omega]
      refine IH (j - 1) _ (by omega) ⟨rfl, by omega, fun k hk => ?_, fun k z1 z2 => ?_, fun x k q => ?_⟩
      · dsimp only; rw [gs_ne (by omega)]; exact g2 k (by omega)
      · dsimp only
        by_cases hkj : k = d + (j - 1)
        · subst hkj; rw [show 3327 + 700 * t + (d + (j - 1)) + 1 = 3327 + 700 * t + (d + j) by omega, gs_eq]
        · rw [gs_ne (by omega)]; exact g3 k (by omega) z2
      · dsimp only; rw [gs_ne (by omega)]; exact g4 x k q
end PF
