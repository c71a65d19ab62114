/-! the reference's tapes: runs with their numbers and places; sorting -/
abbrev Dn : Type := Nat × Nat × Rn
def d0 : Dn := (0, 0, dum)
def zz (gl : Nat → Nat) (z : Dn) : Nat := szl gl z.2.2.1
def catX {α : Type} (X : Nat → List α) : Nat → List α
  | 0 => []
  | n + 1 => catX X n ++ X n
def upX {α : Type} (X : Nat → List α) (t : Nat) (l : List α) : Nat → List α := fun u => if u = t then l else X u
def psX {α : Type} (bk : Bool) (z : α) (l : List α) : List α := if bk then z :: l else l ++ [z]
def XT (σ : Sg) (X : Nat → List Dn) : Prop := ∀ t, t < 6 → gi σ 396 (20 + t) = nI (X t).length ∧ (X t).length ≤ 256 ∧ ∀ k, k < (X t).length → gi σ 396 (3327 + 700 * t + k) = nI ((X t).getD k d0).1
section XX
variable {E : En} {σ : Sg} {X : Nat → List Dn} {t : Nat}
theorem xt_fr {σ' : Sg} (h : XT σ X) (hf : ∀ k, (20 ≤ k ∧ k < 26) ∨ (3327 ≤ k ∧ k < 7527) → gi σ' 396 k = gi σ 396 k) : XT σ' X := fun t ht => by
  obtain ⟨h1, h2, h3⟩ := h t ht
  exact ⟨by rw [hf _ (by omega)]; exact h1, h2, fun k hk => by rw [hf _ (by omega)]; exact h3 k hk⟩
theorem m_runAt (hM : LMod E) (hM2 : LMo2 E) {k : Nat} (ht : t < 6) (hk : k < 700) : fX7_runAt E 395 (nI t) (nI k) σ = some (gi σ 396 (3327 + 700 * t + k), σ) := by
  unfold fX7_runAt
  rw [tk_ok hM.1, dr_ok hM.2.1 hM2.1.1, hM2.1.2, show (3327 : Int32) = nI 3327 from rfl, show (700 : Int32) = nI 700 from rfl, pk_mul, nI_add, nI_add, ck_n (by omega) (by omega), nI_clamp (by omega)]
theorem m_takes (hM : LMod E) (hM2 : LMo2 E) (h : XT σ X) (ht : t < 6) {z : Dn} {l : List Dn} (hz : X t = z :: l) : ∃ s, fX7_takesFirst E 395 (nI t) σ = some (nI z.1, s) ∧ XT s (upX X t l) ∧ ∀ x k, ¬ (x = 396 ∧ (k = 20 + t ∨ (3327 + 700 * t ≤ k ∧ k < 3327 + 700 * t + 700))) → gi s x k = gi σ x k := by
  obtain ⟨h1, h2, h3⟩ := h t ht
  rw [hz] at h1 h2 h3
  have h30 := h3 0 (by simp)
  simp only [List.length_cons] at h1 h2 h3
  unfold fX7_takesFirst
  rw [tk_ok hM.1, i0, m_runAt hM hM2 ht (by omega), bd_ok, dr_ok hM.2.1 hM2.1.1, hM2.1.2, show (20 : Int32) = nI 20 from rfl, nI_add, ck_n (by omega) (by omega), ck_n (by omega) (by omega), nI_clamp (by omega), h1, i1, sub_n (by omega), show l.length + 1 - 1 = l.length by omega, ss_ok, h30]
  obtain ⟨⟨v, s⟩, e, q1, q2⟩ := for_in (F := fun (rec : Int32 × Sg → Option (Int32 × Sg)) (a : Int32 × Sg) => bX7_takesFirst_22 E (nI t) 396 (fun u0 t => rec (u0, t)) a.1 a.2) l.length (fun i b => b.1 = nI i ∧ (∀ k, k < l.length + 1 → gi b.2 396 (3327 + 700 * t + k) = nI ((if k < i then l.getD k d0 else (z :: l).getD k d0) : Dn).1) ∧ ∀ x k, ¬ (x = 396 ∧ (3327 + 700 * t ≤ k ∧ k < 3327 + 700 * t + 700)) → gi b.2 x k = gi (si σ 396 (20 + t) (nI l.length)) x k)
    (fun b => (∀ k, k < l.length → gi b.2 396 (3327 + 700 * t + k) = nI (l.getD k d0).1) ∧ ∀ x k, ¬ (x = 396 ∧ (3327 + 700 * t ≤ k ∧ k < 3327 + 700 * t + 700)) → gi b.2 x k = gi (si σ 396 (20 + t) (nI l.length)) x k) (N := FU) (by show l.length < 1000000; omega)
    (by
      rintro i ⟨v, s⟩ rec hi ⟨rfl, q1, q2⟩
      dsimp only at q1 q2 ⊢
      have g20 : gi s 396 (20 + t) = nI l.length := by rw [q2 _ _ (by omega), gs_eq]
      have gn := q1 (i + 1) (by omega)
      rw [if_neg (by omega)] at gn
      unfold bX7_takesFirst_22
      rw [hM2.1.2, show (20 : Int32) = nI 20 from rfl, nI_add, ck_n (by omega) (by omega), nI_clamp (by omega), g20, if_neg (nI_ge hi (by omega)), show (3327 : Int32) = nI 3327 from rfl, show (700 : Int32) = nI 700 from rfl, pk_mul, nI_add, nI_add, ad1, ck_n (by omega) (by omega), ck_n (by omega) (by omega), nI_clamp (by omega), nI_clamp (by omega), show 3327 + 700 * t + i + 1 = 3327 + 700 * t + (i + 1) by omega, gn, ss_ok, lt_ok, ad1]
      refine ⟨_, rfl, rfl, fun k hk => ?_, fun x k q => ?_⟩
      · dsimp only
        by_cases hki : k = i
        · subst hki; rw [gs_eq, if_pos (by omega)]; rfl
        · rw [gs_ne (by omega), q1 k hk, ifc (p := k < i) (q := k < i + 1) ⟨fun q => by omega, fun q => by omega⟩]
      · dsimp only; rw [gs_ne (by omega)]; exact q2 x k q)
    (by
      rintro ⟨v, s⟩ rec ⟨rfl, q1, q2⟩
      dsimp only at q1 q2 ⊢
      unfold bX7_takesFirst_22
      rw [hM2.1.2, show (20 : Int32) = nI 20 from rfl, nI_add, ck_n (by omega) (by omega), nI_clamp (by omega), q2 _ _ (by omega), gs_eq, if_pos (nI_le (Nat.le_refl _) (by omega))]
      exact ⟨_, rfl, fun k hk => by have := q1 k (by omega); rw [if_pos hk] at this; exact this, q2⟩)
    (a := (nI 0, si σ 396 (20 + t) (nI l.length))) ⟨rfl, fun k hk => by dsimp only; rw [if_neg (by omega), gs_ne (by omega)]; exact h3 k hk, fun _ _ _ => rfl⟩
  dsimp only at q1 q2
  rw [e, bd_ok]
  refine ⟨s, rfl, fun u hu => ?_, fun x k q => by rw [q2 _ _ (by omega), gs_ne (by omega)]⟩
  unfold upX
  by_cases hut : u = t
  · subst hut
    rw [if_pos rfl]
    exact ⟨by rw [q2 _ _ (by omega), gs_eq], by omega, q1⟩
  · rw [if_neg hut]
    obtain ⟨g1, g2, g3⟩ := h u hu
    exact ⟨by rw [q2 _ _ (by omega), gs_ne (by omega)]; exact g1, g2, fun k hk => by rw [q2 _ _ (by omega), gs_ne (by omega)]; exact g3 k hk⟩
theorem m_last (hM : LMod E) (hM2 : LMo2 E) (h : XT σ X) (ht : t < 6) (z : Dn) (hl : (X t).length < 256) : ∃ s, fX7_comesLast E 395 (nI t) (nI z.1) σ = some s ∧ XT s (upX X t (X t ++ [z])) ∧ ∀ x k, ¬ (x = 396 ∧ (k = 20 + t ∨ (3327 + 700 * t ≤ k ∧ k < 3327 + 700 * t + 700))) → gi s x k = gi σ x k := by
  obtain ⟨h1, h2, h3⟩ := h t ht
  unfold fX7_comesLast
  rw [tk_ok hM.1, dr_ok hM.2.1 hM2.1.1, hM2.1.2, show (20 : Int32) = nI 20 from rfl, nI_add, ck_n (by omega) (by omega), nI_clamp (by omega), h1, show (3327 : Int32) = nI 3327 from rfl, show (700 : Int32) = nI 700 from rfl, pk_mul, nI_add, nI_add, ck_n (by omega) (by omega), nI_clamp (by omega), ss_ok, ck_n (by omega) (by omega), ck_n (by omega) (by omega), gs_ne (by omega), h1, ad1, ss_ok]
  refine ⟨_, rfl, fun u hu => ?_, fun x k q => by rw [gs_ne (by omega), gs_ne (by omega)]⟩
  unfold upX
  by_cases hut : u = t
  · subst hut
    rw [if_pos rfl]
    refine ⟨by rw [gs_eq, List.length_append]; rfl, by rw [List.length_append]; simp; omega, fun k hk => ?_⟩
    rw [List.length_append] at hk
    simp only [List.length_singleton] at hk
    rw [gs_ne (by omega), List.getD_eq_getElem?_getD]
    by_cases hkl : k = (X u).length
    · subst hkl; rw [gs_eq, List.getElem?_append_right (Nat.le_refl _), Nat.sub_self]; rfl
    · rw [gs_ne (by omega), List.getElem?_append_left (by omega), ← List.getD_eq_getElem?_getD]; exact h3 k (by omega)
  · rw [if_neg hut]
    obtain ⟨g1, g2, g3⟩ := h u hu
    exact ⟨by rw [gs_ne (by omega), gs_ne (by omega)]; exact g1, g2, fun k hk => by rw [gs_ne (by omega), gs_ne (by omega)]; exact g3 k hk⟩
theorem m_first (hM : LMod E) (hM2 : LMo2 E) (h : XT σ X) (ht : t < 6) (z : Dn) (hl : (X t).length < 256) : ∃ s, fX7_comesFirst E 395 (nI t) (nI z.1) σ = some s ∧ XT s (upX X t (z :: X t)) ∧ ∀ x k, ¬ (x = 396 ∧ (k = 20 + t ∨ (3327 + 700 * t ≤ k ∧ k < 3327 + 700 * t + 700))) → gi s x k = gi σ x k := by
  obtain ⟨h1, h2, h3⟩ := h t ht
  unfold fX7_comesFirst
  rw [tk_ok hM.1, dr_ok hM.2.1 hM2.1.1, hM2.1.2, show (20 : Int32) = nI 20 from rfl, nI_add, ck_n (by omega) (by omega), nI_clamp (by omega), h1, lt_ok]
  have key := fx_ok (F := fun (rec : Int32 × Sg → Option (Int32 × Sg)) (b : Int32 × Sg) => bX7_comesFirst_10 E (nI t) 396 (fun u0 t => rec (u0, t)) b.1 b.2)
    (fun j b => b.1 = nI j ∧ j ≤ (X t).length ∧ (∀ k, k < j → gi b.2 396 (3327 + 700 * t + k) = nI ((X t).getD k d0).1) ∧ (∀ k, j ≤ k → k < (X t).length → gi b.2 396 (3327 + 700 * t + k + 1) = nI ((X t).getD k d0).1) ∧ ∀ x k, ¬ (x = 396 ∧ (3327 + 700 * t ≤ k ∧ k < 3327 + 700 * t + 700)) → gi b.2 x k = gi σ x k)
    (fun b => (∀ k, k < (X t).length → gi b.2 396 (3327 + 700 * t + k + 1) = nI ((X t).getD k d0).1) ∧ ∀ x k, ¬ (x = 396 ∧ (3327 + 700 * t ≤ k ∧ k < 3327 + 700 * t + 700)) → gi b.2 x k = gi σ x k)
    ?_ FU (X t).length (nI (X t).length, σ) (by show (X t).length < 1000000; omega) ⟨rfl, Nat.le_refl _, h3, fun k g1 g2 => by omega, fun _ _ _ => rfl⟩
  · obtain ⟨⟨v, s⟩, e, q1, q2⟩ := key
    dsimp only at q1 q2
    rw [e, bd_ok, show (3327 : Int32) = nI 3327 from rfl, show (700 : Int32) = nI 700 from rfl, pk_mul, nI_add, ck_n (by omega) (by omega), nI_clamp (by omega), ss_ok, ck_n (by omega) (by omega), ck_n (by omega) (by omega), gs_ne (by omega), q2 _ _ (by omega), h1, ad1, ss_ok]
    refine ⟨_, rfl, fun u hu => ?_, fun x k q => by rw [gs_ne (by omega), gs_ne (by omega)]; exact q2 x k (by omega)⟩
    unfold upX
    by_cases hut : u = t
    · subst hut
      rw [if_pos rfl]
      refine ⟨by rw [gs_eq, List.length_cons], by rw [List.length_cons]; omega, fun k hk => ?_⟩
      rw [List.length_cons] at hk
      rw [gs_ne (by omega)]
      cases k with
      | zero => rw [Nat.add_zero, gs_eq]; rfl
      | succ k => rw [gs_ne (by omega)]; exact q1 k (by omega)
    · rw [if_neg hut]
      obtain ⟨g1, g2, g3⟩ := h u hu
      exact ⟨by rw [gs_ne (by omega), gs_ne (by omega), q2 _ _ (by omega)]; exact g1, g2, fun k hk => by rw [gs_ne (by omega), gs_ne (by omega), q2 _ _ (by omega)]; exact g3 k hk⟩
  · rintro j ⟨v, s⟩ rec ⟨g0, g1, g2, g3, g4⟩ IH
    dsimp only at g0 g2 g3 g4 ⊢
    subst g0
    unfold bX7_comesFirst_10
    by_cases hj : j = 0
    · subst hj
      rw [if_pos (by decide)]
      exact ⟨_, rfl, fun k hk => g3 k (Nat.zero_le _) hk, g4⟩
    · rw [if_neg (nI_nle (by omega) (by omega)), hM2.1.2, show (3327 : Int32) = nI 3327 from rfl, show (700 : Int32) = nI 700 from rfl, pk_mul, nI_add, nI_add, i1, sub_n (by omega), ck_n (by omega) (by omega), ck_n (by omega) (by omega), nI_clamp (by omega), nI_clamp (by omega), show 3327 + 700 * t + j - 1 = 3327 + 700 * t + (j - 1) by omega, g2 (j - 1) (by omega), ss_ok, lt_ok, show nI j + -nI 1 = nI (j - 1) from sb_m1 (by omega)]
      refine IH (j - 1) _ (by omega) ⟨rfl, by omega, fun k hk => ?_, fun k z1 z2 => ?_, fun x k q => ?_⟩
      · dsimp only; rw [gs_ne (by omega)]; exact g2 k (by omega)
      · dsimp only
        by_cases hkj : k = j - 1
        · subst hkj; rw [show 3327 + 700 * t + (j - 1) + 1 = 3327 + 700 * t + j by omega, gs_eq]
        · rw [gs_ne (by omega)]; exact g3 k (by omega) z2
      · dsimp only; rw [gs_ne (by omega)]; exact g4 x k q
theorem ins_get {P : List Nat} {p y : Nat} (hp : p ≤ P.length) (i : Nat) : (P.take p ++ y :: P.drop p).getD i 0 = if i < p then P.getD i 0 else if i = p then y else P.getD (i - 1) 0 := by
  simp only [List.getD_eq_getElem?_getD]
  by_cases h1 : i < p
  · rw [if_pos h1, List.getElem?_append_left (by rw [List.length_take]; omega), List.getElem?_take_of_lt h1]
  · rw [if_neg h1, List.getElem?_append_right (by rw [List.length_take]; omega), List.length_take, Nat.min_eq_left hp]
    by_cases h2 : i = p
    · rw [if_pos h2, h2, Nat.sub_self]; rfl
    · rw [if_neg h2, show i - p = (i - p - 1) + 1 by omega, List.getElem?_cons_succ, List.getElem?_drop, show p + (i - p - 1) = i - 1 by omega]
theorem pw_at {R : Nat → Nat → Prop} {P : List Nat} (h : P.Pairwise R) {i j : Nat} (hij : i < j) (hj : j < P.length) : R (P.getD i 0) (P.getD j 0) := by
  rw [List.getD_eq_getElem?_getD, List.getD_eq_getElem?_getD, List.getElem?_eq_getElem (by omega), List.getElem?_eq_getElem hj]
  exact List.pairwise_iff_getElem.mp h i j (by omega) hj hij
theorem getD_mem {P : List Nat} {i : Nat} (h : i < P.length) : P.getD i 0 ∈ P := by
  rw [List.getD_eq_getElem?_getD, List.getElem?_eq_getElem h]
  exact List.getElem_mem _
theorem mem_getD {P : List Nat} {x : Nat} (h : x ∈ P) : ∃ i, i < P.length ∧ P.getD i 0 = x := by
  obtain ⟨i, hi, e⟩ := List.getElem_of_mem h
  exact ⟨i, hi, by rw [List.getD_eq_getElem?_getD, List.getElem?_eq_getElem hi]; exact e⟩
theorem m_sorts (hM : LMod E) (hM2 : LMo2 E) {n first : Nat} {F : Nat → Nat} {rising : Bool} (hn : n ≤ 300) (hk : ∀ i, i < n → gi σ 396 (26 + i) = nI (F i)) (hF : ∀ i, i < n → F i < 256) {L : List Nat} (hin : ∀ x, x ∈ L → x < n) (hnd : L.Nodup) (hfs : first + L.length ≤ 300) (hcell : ∀ i, i < L.length → gi σ 396 (7527 + first + i) = nI (L.getD i 0)) :
    ∃ s, fX7_sorts E 395 (nI first) (nI L.length) (bI rising) σ = some s ∧ (∃ L' : List Nat, L'.Perm L ∧ L'.Pairwise (bet F (!rising)) ∧ ∀ i, i < L.length → gi s 396 (7527 + first + i) = nI (L'.getD i 0)) ∧ ∀ x k, ¬ (x = 396 ∧ (7527 + first ≤ k ∧ k < 7527 + first + L.length)) → gi s x k = gi σ x k := by
  unfold fX7_sorts
  rw [tk_ok hM.1, lt_ok, ad1]
  by_cases h0 : L.length = 0
  · have hLn : L = [] := List.eq_nil_of_length_eq_zero h0
    refine ⟨σ, ?_, ⟨[], by rw [hLn], List.Pairwise.nil, fun i hi => by omega⟩, fun _ _ _ => rfl⟩
    rw [show FU = 999999 + 1 from rfl, fx_1]
    dsimp only
    unfold bX7_sorts_5
    rw [nI_add, if_pos (nI_le (by omega) (by omega)), bd_ok]
  refine bd_in (L.length - 1) (fun i b => b.1 = nI (first + (i + 1)) ∧ (∃ P : List Nat, P.Perm (L.take (i + 1)) ∧ P.Pairwise (bet F (!rising)) ∧ ∀ k, k < i + 1 → gi b.2 396 (7527 + first + k) = nI (P.getD k 0)) ∧ (∀ k, i + 1 ≤ k → k < L.length → gi b.2 396 (7527 + first + k) = nI (L.getD k 0)) ∧ ∀ x k, ¬ (x = 396 ∧ (7527 + first ≤ k ∧ k < 7527 + first + L.length)) → gi b.2 x k = gi σ x k)
    (fun b => (∃ L' : List Nat, L'.Perm L ∧ L'.Pairwise (bet F (!rising)) ∧ ∀ i, i < L.length → gi b.2 396 (7527 + first + i) = nI (L'.getD i 0)) ∧ ∀ x k, ¬ (x = 396 ∧ (7527 + first ≤ k ∧ k < 7527 + first + L.length)) → gi b.2 x k = gi σ x k) (by show L.length - 1 < 1000000; omega) ⟨rfl, ⟨L.take 1, List.Perm.refl _, ?_, fun k hk => ?_⟩, fun k _ h2 => hcell k h2, fun _ _ _ => rfl⟩ ?_ ?_ (fun v s q => ⟨s, rfl, q⟩)
  · cases L with
    | nil => simp at h0
    | cons a l => simp
  · rw [show k = 0 by omega]
    cases L with
    | nil => simp at h0
    | cons a l => exact hcell 0 (by simp)
  · rintro i ⟨v, s⟩ rec hi ⟨rfl, ⟨P, p1, p2, p3⟩, q2, q3⟩
    dsimp only at p3 q2 q3 ⊢
    have hPl : P.length = i + 1 := by rw [p1.length_eq, List.length_take]; omega
    have hPm : ∀ x, x ∈ P → x ∈ L.take (i + 1) := fun x hx => p1.mem_iff.mp hx
    have hPn : ∀ x, x ∈ P → x < n := fun x hx => hin x (List.mem_of_mem_take (hPm x hx))
    have hits : gi s 396 (7527 + first + (i + 1)) = nI (L.getD (i + 1) 0) := q2 (i + 1) (Nat.le_refl _) (by omega)
    have hin1 : L.getD (i + 1) 0 ∈ L := getD_mem (by omega)
    have hy := hin _ hin1
    have hyP : L.getD (i + 1) 0 ∉ P := fun hm => by
      obtain ⟨j, hj, e⟩ := mem_getD (hPm _ hm)
      rw [List.length_take] at hj
      have e2 : (L.take (i + 1)).getD j 0 = L.getD j 0 := by rw [List.getD_eq_getElem?_getD, List.getD_eq_getElem?_getD, List.getElem?_take_of_lt (by omega)]
      rw [e2] at e
      exact pw_at (R := fun a b => a ≠ b) hnd (i := j) (j := i + 1) (by omega) (by omega) e
    generalize hyd : L.getD (i + 1) 0 = y at *
    have hks : ∀ s' : Sg, (∀ x k, ¬ (x = 396 ∧ 7527 ≤ k) → gi s' x k = gi s x k) → ∀ j, j < n → gi s' 396 (26 + j) = nI (F j) := fun s' hs j hj => by rw [hs _ _ (by omega), q3 _ _ (by omega)]; exact hk j hj
    unfold bX7_sorts_5
    rw [nI_add, if_neg (nI_ge (by omega) (by omega)), dr_ok hM.2.1 hM2.1.1, hM2.1.2, show (7527 : Int32) = nI 7527 from rfl, nI_add, ck_n (by omega) (by omega), nI_clamp (by omega), lt_ok, show 7527 + (first + (i + 1)) = 7527 + first + (i + 1) by omega, hits]
    have key := fx_ok (F := fun (rec : Int32 × Sg → Option (Int32 × Sg)) (b : Int32 × Sg) => bX7_sorts_30 E (nI first) 396 395 (nI y) (bI rising) (fun u0 t => rec (u0, t)) b.1 b.2)
      (fun j b => b.1 = nI (first + j) ∧ j ≤ i + 1 ∧ (∀ k, k < j → gi b.2 396 (7527 + first + k) = nI (P.getD k 0)) ∧ (∀ k, j ≤ k → k < i + 1 → gi b.2 396 (7527 + first + k + 1) = nI (P.getD k 0) ∧ bet F (!rising) y (P.getD k 0)) ∧ (∀ x k, ¬ (x = 396 ∧ (7527 + first ≤ k ∧ k < 7527 + first + (i + 2))) → gi b.2 x k = gi s x k))
      (fun b => ∃ j, b.1 = nI (first + j) ∧ j ≤ i + 1 ∧ (∀ k, k < j → gi b.2 396 (7527 + first + k) = nI (P.getD k 0)) ∧ (∀ k, j ≤ k → k < i + 1 → gi b.2 396 (7527 + first + k + 1) = nI (P.getD k 0) ∧ bet F (!rising) y (P.getD k 0)) ∧ (∀ x k, ¬ (x = 396 ∧ (7527 + first ≤ k ∧ k < 7527 + first + (i + 2))) → gi b.2 x k = gi s x k) ∧ (0 < j → bet F (!rising) (P.getD (j - 1) 0) y))
      ?_ FU (i + 1) (nI (first + (i + 1)), s) (by show i + 1 < 1000000; omega) ⟨rfl, Nat.le_refl _, fun k hk => p3 k hk, fun k z1 z2 => by omega, fun _ _ _ => rfl⟩
    · obtain ⟨⟨u, s2⟩, e, j, g0, g1, g2, g3, g4, g5⟩ := key
      dsimp only at g0 g2 g3 g4
      subst g0
      rw [e, bd_ok, nI_add, ck_n (by omega) (by omega), nI_clamp (by omega), ss_ok, lt_ok, ad1]
      refine ⟨_, rfl, rfl, ⟨P.take j ++ y :: P.drop j, ?_, ?_, fun k hk => ?_⟩, fun k z1 z2 => ?_, fun x k q => ?_⟩
      · have h1 : (P.take j ++ y :: P.drop j).Perm (y :: P) := by
          have := List.perm_middle (a := y) (l₁ := P.take j) (l₂ := P.drop j)
          rw [List.take_append_drop] at this; exact this
        refine h1.trans ?_
        have h2 : L.take (i + 1 + 1) = L.take (i + 1) ++ [y] := by
          have hil : i + 1 < L.length := by omega
          have ey : L[i + 1] = y := by
            have := hyd
            rw [List.getD_eq_getElem?_getD, List.getElem?_eq_getElem hil] at this
            exact this
          rw [List.take_succ_eq_append_getElem hil, ey]
        rw [h2]
        exact ((List.Perm.cons y p1).trans (List.perm_append_singleton y _).symm)
      · have hlow : ∀ k, k < j → bet F (!rising) (P.getD k 0) y := fun k hk => by
          by_cases hq : k = j - 1
          · subst hq; exact g5 (by omega)
          · exact bet_trans (pw_at p2 (show k < j - 1 by omega) (by omega)) (g5 (by omega))
        rw [List.pairwise_append]
        refine ⟨p2.sublist (List.take_sublist _ _), List.pairwise_cons.mpr ⟨fun b hb => ?_, p2.sublist (List.drop_sublist _ _)⟩, fun a ha b hb => ?_⟩
        · obtain ⟨k, hk', e'⟩ := mem_getD hb
          rw [List.length_drop] at hk'
          rw [List.getD_eq_getElem?_getD, List.getElem?_drop, ← List.getD_eq_getElem?_getD] at e'
          rw [← e']
          exact (g3 (j + k) (by omega) (by omega)).2
        · obtain ⟨k, hk', e'⟩ := mem_getD ha
          rw [List.length_take] at hk'
          rw [List.getD_eq_getElem?_getD, List.getElem?_take_of_lt (by omega), ← List.getD_eq_getElem?_getD] at e'
          rcases List.mem_cons.mp hb with rfl | hb
          · rw [← e']; exact hlow k (by omega)
          · obtain ⟨k2, hk2, e2⟩ := mem_getD hb
            rw [List.length_drop] at hk2
            rw [List.getD_eq_getElem?_getD, List.getElem?_drop, ← List.getD_eq_getElem?_getD] at e2
            rw [← e', ← e2]
            exact pw_at p2 (by omega) (by omega)
      · dsimp only
        rw [ins_get (by omega)]
        by_cases c1 : k < j
        · rw [if_pos c1, gs_ne (by omega)]; exact g2 k c1
        · rw [if_neg c1]
          by_cases c2 : k = j
          · rw [if_pos c2, c2, show 7527 + first + j = 7527 + (first + j) by omega, gs_eq]
          · rw [if_neg c2, gs_ne (by omega)]
            have := (g3 (k - 1) (by omega) (by omega)).1
            rw [show 7527 + first + (k - 1) + 1 = 7527 + first + k by omega] at this
            exact this
      · dsimp only; rw [gs_ne (by omega), g4 _ _ (by omega)]; exact q2 k (by omega) z2
      · dsimp only; rw [gs_ne (by omega), g4 _ _ (by omega)]; exact q3 x k q
    · rintro j ⟨u, s2⟩ rec2 ⟨g0, g1, g2, g3, g4⟩ IH
      dsimp only at g0 g2 g3 g4 ⊢
      subst g0
      unfold bX7_sorts_30
      by_cases hj : j = 0
      · subst hj
        rw [if_pos (nI_le (by omega) (by omega))]
        exact ⟨_, rfl, 0, rfl, by omega, g2, g3, g4, fun h => by omega⟩
      · have hpj : P.getD (j - 1) 0 ∈ P := getD_mem (by omega)
        have hpn := hPn _ hpj
        have hne : y ≠ P.getD (j - 1) 0 := fun q => hyP (q ▸ hpj)
        rw [if_neg (nI_ge (by omega) (by omega)), hM2.1.2, show (7527 : Int32) = nI 7527 from rfl, nI_add, i1, sub_n (by omega), ck_n (by omega) (by omega), nI_clamp (by omega), show 7527 + (first + j) - 1 = 7527 + first + (j - 1) by omega, g2 (j - 1) (by omega), m_isLess hM hM2 hy hpn hn (fun j hj => hks s2 (fun x k q => g4 x k (by omega)) j hj) hF, bd_ok]
        by_cases hc : lsB F y (P.getD (j - 1) 0) = rising
        · have hb : bet F (!rising) y (P.getD (j - 1) 0) := (bet_ls hne).mp (by rw [hc]; cases rising <;> rfl)
          rw [if_neg (fun q => q (by rw [hc])), ck_n (by omega) (by omega), ck_n (by omega) (by omega), nI_clamp (by omega), ss_ok, lt_ok, show nI (first + j) + -nI 1 = nI (first + j - 1) from sb_m1 (by omega), show first + j - 1 = first + (j - 1) by omega]
          refine IH (j - 1) _ (by omega) ⟨rfl, by omega, fun k hk => ?_, fun k z1 z2 => ?_, fun x k q => ?_⟩
          · dsimp only; rw [gs_ne (by omega)]; exact g2 k (by omega)
          · dsimp only
            by_cases hkj : k = j - 1
            · subst hkj; rw [show 7527 + first + (j - 1) + 1 = 7527 + (first + j) by omega, gs_eq]; exact ⟨g2 (j - 1) (by omega), hb⟩
            · rw [gs_ne (by omega)]; exact g3 k (by omega) z2
          · dsimp only; rw [gs_ne (by omega)]; exact g4 x k q
        · rw [if_pos (by rw [bI_e]; exact hc)]
          refine ⟨_, rfl, j, rfl, g1, g2, g3, g4, fun _ => ?_⟩
          rcases bet_tot (F := F) (f := !rising) hne with z | z
          · have := (bet_ls hne).mpr z
            exfalso; apply hc
            revert this
            cases lsB F y (P.getD (j - 1) 0) <;> cases rising <;> simp
          · exact z
  · rintro ⟨v, s⟩ rec ⟨rfl, ⟨P, p1, p2, p3⟩, q2, q3⟩
    dsimp only at p3 q2 q3 ⊢
    unfold bX7_sorts_5
    rw [nI_add, if_pos (nI_le (by omega) (by omega))]
    refine ⟨_, rfl, ⟨P, ?_, p2, fun i hi => p3 i (by omega)⟩, q3⟩
    rw [show L.length - 1 + 1 = L.length by omega, List.take_length] at p1
    exact p1
end XX
