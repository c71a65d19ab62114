/-! least: the lightest first -/
def insS (s : Nat) : List Nat → List Nat
  | [] => [s]
  | x :: l => if s ≤ x then s :: x :: l else x :: insS s l
theorem insS_len (s : Nat) : ∀ l, (insS s l).length = l.length + 1
  | [] => rfl
  | x :: l => by unfold insS; split <;> simp [insS_len s l]
theorem insS_cnt (s v : Nat) : ∀ l, (insS s l).count v = l.count v + (if (s == v) = true then 1 else 0)
  | [] => by simp [insS, List.count_cons]
  | x :: l => by
    unfold insS
    split
    · rw [List.count_cons]
    · rw [List.count_cons, List.count_cons, insS_cnt s v l]; omega
theorem insS_mem {s y : Nat} : ∀ {l}, y ∈ insS s l → y = s ∨ y ∈ l
  | [], h => by simp [insS] at h; exact Or.inl h
  | x :: l, h => by
    unfold insS at h
    split at h
    · rcases List.mem_cons.mp h with h | h
      · exact Or.inl h
      · exact Or.inr h
    · rcases List.mem_cons.mp h with h | h
      · exact Or.inr (by rw [h]; simp)
      · rcases insS_mem h with h | h
        · exact Or.inl h
        · exact Or.inr (List.mem_cons_of_mem _ h)
theorem insS_srt {s : Nat} : ∀ {l : List Nat}, l.Pairwise (· ≤ ·) → (insS s l).Pairwise (· ≤ ·)
  | [], _ => by simp [insS]
  | x :: l, h => by
    obtain ⟨h1, h2⟩ := List.pairwise_cons.mp h
    unfold insS
    split
    · next hc =>
      refine List.pairwise_cons.mpr ⟨fun y hy => ?_, h⟩
      rcases List.mem_cons.mp hy with rfl | hy
      · exact hc
      · exact Nat.le_trans hc (h1 y hy)
    · next hc =>
      refine List.pairwise_cons.mpr ⟨fun y hy => ?_, insS_srt h2⟩
      rcases insS_mem hy with rfl | hy
      · omega
      · exact h1 y hy
def smL : List Nat → Nat
  | [] => 0
  | x :: l => x + smL l
theorem smL_ins (s : Nat) : ∀ l, smL (insS s l) = smL l + s
  | [] => by simp [insS, smL]
  | x :: l => by unfold insS; split <;> simp only [smL, smL_ins s l] <;> omega
theorem smL_td : ∀ (k : Nat) (l : List Nat), smL (l.take k) + smL (l.drop k) = smL l
  | 0, l => by simp [smL]
  | k + 1, [] => by simp [smL]
  | k + 1, x :: l => by
    have := smL_td k l
    simp only [List.take_succ_cons, List.drop_succ_cons, smL]
    omega
theorem smL_mem {x : Nat} : ∀ {l : List Nat}, x ∈ l → x ≤ smL l
  | [], h => by cases h
  | y :: l, h => by
    unfold smL
    rcases List.mem_cons.mp h with rfl | h
    · omega
    · have := smL_mem h; omega
/-- the weights in a row of cells, as a rising list -/
def WS (σ : Sg) (c : Nat) (S : List Nat) : Prop := ∃ W : Nat → Nat, (∀ i, i < S.length → gi σ c i = nI (W i)) ∧ ∀ v, cnP (fun i => W i == v) S.length = S.count v
theorem cnP_pos {p : Nat → Bool} : ∀ {n : Nat}, 0 < cnP p n → ∃ i, i < n ∧ p i = true
  | 0, h => by simp [cnP] at h
  | n + 1, h => by
    unfold cnP at h
    by_cases hp : p n = true
    · exact ⟨n, by omega, hp⟩
    · rw [if_neg hp] at h
      obtain ⟨i, h1, h2⟩ := cnP_pos (show 0 < cnP p n by omega)
      exact ⟨i, by omega, h2⟩
theorem cnP_ge1 {p : Nat → Bool} {i : Nat} : ∀ {n : Nat}, i < n → p i = true → 0 < cnP p n
  | 0, h, _ => by omega
  | n + 1, h, hp => by
    unfold cnP
    rcases Nat.lt_or_ge i n with z | z
    · have := cnP_ge1 z hp; omega
    · rw [show n = i by omega, if_pos hp]; omega
theorem cnP_rp {W : Nat → Nat} {b y v : Nat} : ∀ {k : Nat}, b < k → cnP (fun i => (if i = b then y else W i) == v) k + (if (W b == v) = true then 1 else 0) = cnP (fun i => W i == v) k + (if (y == v) = true then 1 else 0)
  | 0, h => by omega
  | k + 1, h => by
    show cnP (fun i => (if i = b then y else W i) == v) k + (if ((if k = b then y else W k) == v) = true then 1 else 0) + _ = cnP (fun i => W i == v) k + (if (W k == v) = true then 1 else 0) + _
    rcases Nat.lt_or_ge b k with z | z
    · have := cnP_rp (W := W) (y := y) (v := v) z
      rw [if_neg (show ¬ k = b by omega)]
      omega
    · have e : k = b := by omega
      subst e
      rw [if_pos rfl, cnP_congr (q := fun i => W i == v) (fun i hi => by rw [if_neg (by omega)])]
      omega
theorem cnP_mv {W : Nat → Nat} {b m v : Nat} (hb : b ≤ m) : cnP (fun i => (if i = b then W m else W i) == v) m + (if (W b == v) = true then 1 else 0) = cnP (fun i => W i == v) (m + 1) := by
  show _ = cnP (fun i => W i == v) m + (if (W m == v) = true then 1 else 0)
  rcases Nat.lt_or_ge b m with z | z
  · exact cnP_rp z
  · have e : b = m := by omega
    subst e
    rw [cnP_congr (q := fun i => W i == v) (fun i hi => by rw [if_neg (by omega)])]
def srtW (W : Nat → Nat) : Nat → List Nat
  | 0 => []
  | m + 1 => insS (W m) (srtW W m)
theorem srtW_len (W : Nat → Nat) : ∀ m, (srtW W m).length = m
  | 0 => rfl
  | m + 1 => by unfold srtW; rw [insS_len, srtW_len W m]
theorem srtW_srt (W : Nat → Nat) : ∀ m, (srtW W m).Pairwise (· ≤ ·)
  | 0 => List.Pairwise.nil
  | m + 1 => insS_srt (srtW_srt W m)
theorem srtW_cnt (W : Nat → Nat) (v : Nat) : ∀ m, cnP (fun i => W i == v) m = (srtW W m).count v
  | 0 => rfl
  | m + 1 => by unfold srtW cnP; rw [insS_cnt, srtW_cnt W v m]
theorem srtW_sm (W : Nat → Nat) : ∀ m, smL (srtW W m) = sumF W m
  | 0 => rfl
  | m + 1 => by unfold srtW sumF; rw [smL_ins, srtW_sm W m]
theorem ws_srt {σ : Sg} {c m : Nat} {W : Nat → Nat} (h : ∀ i, i < m → gi σ c i = nI (W i)) : WS σ c (srtW W m) := ⟨W, by rw [srtW_len]; exact h, fun v => by rw [srtW_len]; exact srtW_cnt W v m⟩
theorem ws_push {σ : Sg} {c s : Nat} {S : List Nat} (h : WS σ c S) : WS (si σ c S.length (nI s)) c (insS s S) := by
  obtain ⟨W, h1, h2⟩ := h
  refine ⟨fun i => if i = S.length then s else W i, fun i hi => ?_, fun v => ?_⟩
  · rw [insS_len] at hi
    dsimp only
    by_cases e : i = S.length
    · subst e; rw [gs_eq, if_pos rfl]
    · rw [gs_ne (by omega), if_neg e]; exact h1 i (by omega)
  · rw [insS_len, insS_cnt, ← h2 v]
    show cnP (fun i => (if i = S.length then s else W i) == v) S.length + (if ((if S.length = S.length then s else W S.length) == v) = true then 1 else 0) = _
    rw [if_pos rfl, cnP_congr (q := fun i => W i == v) (fun i hi => by rw [if_neg (by omega)])]
/-- the sum of what is merged, k at a time -/
def leaS (k : Nat) : Nat → List Nat → Nat
  | 0, _ => 0
  | f + 1, S => if S.length ≤ 1 then 0 else smL (S.take k) + leaS k f (insS (smL (S.take k)) (S.drop k))
section LE
variable {E : En}
theorem c6_take {σ : Sg} {x : Nat} {S : List Nat} (h0 : cd E 0 = 6) (hc : rf E 0 12 = some 63) (hl : LArr E 63 100 300) (hlen : S.length < 300) (hs : (x :: S).Pairwise (· ≤ ·)) (hsm : smL (x :: S) ≤ 300) (h : WS σ 63 (x :: S)) : ∃ s, fX6_takeLightest E 0 (nI (S.length + 1)) σ = some (nI x, s) ∧ WS s 63 S ∧ ∀ y k, y ≠ 63 → gi s y k = gi σ y k := by
  obtain ⟨W, h1, h2⟩ := h
  rw [List.length_cons] at h1
  have hW : ∀ i, i < S.length + 1 → W i ∈ x :: S := fun i hi => by
    have : 0 < (x :: S).count (W i) := by rw [← h2 (W i)]; exact cnP_ge1 (p := fun j => W j == W i) hi (by simp)
    exact List.count_pos_iff.mp this
  have hWb : ∀ i, i < S.length + 1 → W i ≤ 300 := fun i hi => by have := smL_mem (hW i hi); omega
  obtain ⟨⟨v, s⟩, e, e1, b, e2, e3, e4⟩ := for_in (F := fun (rec : (Int32 × Int32) × Sg → Option ((Int32 × Int32) × Sg)) a => bX6_takeLightest_4 E (nI (S.length + 1)) 0 (fun u0 u1 t => rec ((u0, u1), t)) a.1.1 a.1.2 a.2) S.length
    (fun i b => b.2 = σ ∧ b.1.2 = nI (i + 1) ∧ ∃ m, m < i + 1 ∧ b.1.1 = nI m ∧ ∀ j, j < i + 1 → W m ≤ W j)
    (fun b => b.2 = σ ∧ ∃ m, m < S.length + 1 ∧ b.1.1 = nI m ∧ ∀ j, j < S.length + 1 → W m ≤ W j) (N := FU) (by show S.length < 1000000; omega)
    (by
      rintro i ⟨⟨v1, v2⟩, s⟩ rec hi ⟨rfl, e2, m, hm, e3, hmin⟩
      dsimp only at e2 e3 ⊢
      subst e2 e3
      have b1 := hWb m (by omega)
      have b2 := hWb (i + 1) (by omega)
      unfold bX6_takeLightest_4
      rw [if_neg (nI_ge (by omega) (by omega)), hc, dr_s, hl.1, hl.2, tk_s, ck_m (by omega), ck_m (by omega), nI_clamp (by omega), nI_clamp (by omega), h1 m (by omega), h1 (i + 1) (by omega)]
      by_cases q : W m ≤ W (i + 1)
      · rw [if_pos (nI_le q (by omega)), bd_ok, lt_ok, i1, nI_add]
        refine ⟨_, rfl, rfl, rfl, m, by omega, rfl, fun j hj => ?_⟩
        rcases Nat.lt_or_ge j (i + 1) with z | z
        · exact hmin j z
        · rw [show j = i + 1 by omega]; exact q
      · rw [if_neg (nI_ge (by omega) (by omega)), bd_ok, lt_ok, i1, nI_add]
        refine ⟨_, rfl, rfl, rfl, i + 1, by omega, rfl, fun j hj => ?_⟩
        rcases Nat.lt_or_ge j (i + 1) with z | z
        · have := hmin j z; omega
        · rw [show j = i + 1 by omega]; exact Nat.le_refl _)
    (by
      rintro ⟨⟨v1, v2⟩, s⟩ rec ⟨rfl, e2, hb⟩
      dsimp only at e2
      subst e2
      unfold bX6_takeLightest_4
      rw [if_pos (nI_le (by omega) (by omega))]
      exact ⟨_, rfl, rfl, hb⟩)
    (a := (((0 : Int32), (1 : Int32)), σ)) ⟨rfl, rfl, 0, by omega, rfl, fun j hj => by rw [show j = 0 by omega]; exact Nat.le_refl _⟩
  dsimp only at e1 e3
  subst e1
  have hbx : W b = x := by
    obtain ⟨q1, q2⟩ := List.pairwise_cons.mp hs
    have l1 : x ≤ W b := by
      rcases List.mem_cons.mp (hW b e2) with z | z
      · omega
      · exact q1 _ z
    obtain ⟨i, hi, hi2⟩ := cnP_pos (p := fun j => W j == x) (n := S.length + 1) (by rw [show S.length + 1 = (x :: S).length from rfl, h2 x]; exact List.count_pos_iff.mpr (by simp))
    have hi2 : W i = x := by simpa using hi2
    have := e4 i hi
    omega
  unfold fX6_takeLightest
  rw [tk_ok h0, e, bd_ok, hc, dr_s, hl.1, hl.2, tk_s, e3, ck_m (by omega), nI_clamp (by omega), lt_ok, i1, sub_n (by omega), show S.length + 1 - 1 = S.length from rfl, ck_m (by omega), ck_m (by omega), nI_clamp (by omega), ss_ok, h1 b e2, h1 S.length (by omega), hbx]
  refine ⟨_, rfl, ⟨fun i => if i = b then W S.length else W i, fun i hi => ?_, fun v => ?_⟩, fun y k hy => gs_ne (by omega)⟩
  · dsimp only
    by_cases z : i = b
    · subst z; rw [gs_eq, if_pos rfl]
    · rw [gs_ne (by omega), if_neg z]; exact h1 i (by omega)
  · have q := h2 v
    rw [List.length_cons, ← cnP_mv (b := b) (by omega), hbx, List.count_cons] at q
    show cnP (fun i => (if i = b then W S.length else W i) == v) S.length = _
    omega
theorem m7_take {σ : Sg} {x : Nat} {S : List Nat} (h0 : cd E 395 = 7) (hc : rf E 395 26 = some 413) (hl : LArr E 413 100 306) (hlen : S.length < 300) (hs : (x :: S).Pairwise (· ≤ ·)) (hsm : smL (x :: S) ≤ 300) (h : WS σ 413 (x :: S)) : ∃ s, fX7_takesLeast E 395 (nI (S.length + 1)) σ = some (nI x, s) ∧ WS s 413 S ∧ ∀ y k, y ≠ 413 → gi s y k = gi σ y k := by
  obtain ⟨W, h1, h2⟩ := h
  rw [List.length_cons] at h1
  have hW : ∀ i, i < S.length + 1 → W i ∈ x :: S := fun i hi => by
    have : 0 < (x :: S).count (W i) := by rw [← h2 (W i)]; exact cnP_ge1 (p := fun j => W j == W i) hi (by simp)
    exact List.count_pos_iff.mp this
  have hWb : ∀ i, i < S.length + 1 → W i ≤ 300 := fun i hi => by have := smL_mem (hW i hi); omega
  obtain ⟨⟨v, s⟩, e, e1, b, e2, e3, e4⟩ := for_in (F := fun (rec : (Int32 × Int32) × Sg → Option ((Int32 × Int32) × Sg)) a => bX7_takesLeast_4 E (nI (S.length + 1)) 395 (fun u0 u1 t => rec ((u0, u1), t)) a.1.1 a.1.2 a.2) S.length
    (fun i b => b.2 = σ ∧ b.1.2 = nI (i + 1) ∧ ∃ m, m < i + 1 ∧ b.1.1 = nI m ∧ ∀ j, j < i + 1 → W m ≤ W j)
    (fun b => b.2 = σ ∧ ∃ m, m < S.length + 1 ∧ b.1.1 = nI m ∧ ∀ j, j < S.length + 1 → W m ≤ W j) (N := FU) (by show S.length < 1000000; omega)
    (by
      rintro i ⟨⟨v1, v2⟩, s⟩ rec hi ⟨rfl, e2, m, hm, e3, hmin⟩
      dsimp only at e2 e3 ⊢
      subst e2 e3
      have b1 := hWb m (by omega)
      have b2 := hWb (i + 1) (by omega)
      unfold bX7_takesLeast_4
      rw [if_neg (nI_ge (by omega) (by omega)), hc, dr_s, hl.1, hl.2, tk_s, ck_m (by omega), ck_m (by omega), nI_clamp (by omega), nI_clamp (by omega), h1 m (by omega), h1 (i + 1) (by omega)]
      by_cases q : W m ≤ W (i + 1)
      · rw [if_pos (nI_le q (by omega)), bd_ok, lt_ok, i1, nI_add]
        refine ⟨_, rfl, rfl, rfl, m, by omega, rfl, fun j hj => ?_⟩
        rcases Nat.lt_or_ge j (i + 1) with z | z
        · exact hmin j z
        · rw [show j = i + 1 by omega]; exact q
      · rw [if_neg (nI_ge (by omega) (by omega)), bd_ok, lt_ok, i1, nI_add]
        refine ⟨_, rfl, rfl, rfl, i + 1, by omega, rfl, fun j hj => ?_⟩
        rcases Nat.lt_or_ge j (i + 1) with z | z
        · have := hmin j z; omega
        · rw [show j = i + 1 by omega]; exact Nat.le_refl _)
    (by
      rintro ⟨⟨v1, v2⟩, s⟩ rec ⟨rfl, e2, hb⟩
      dsimp only at e2
      subst e2
      unfold bX7_takesLeast_4
      rw [if_pos (nI_le (by omega) (by omega))]
      exact ⟨_, rfl, rfl, hb⟩)
    (a := (((0 : Int32), (1 : Int32)), σ)) ⟨rfl, rfl, 0, by omega, rfl, fun j hj => by rw [show j = 0 by omega]; exact Nat.le_refl _⟩
  dsimp only at e1 e3
  subst e1
  have hbx : W b = x := by
    obtain ⟨q1, q2⟩ := List.pairwise_cons.mp hs
    have l1 : x ≤ W b := by
      rcases List.mem_cons.mp (hW b e2) with z | z
      · omega
      · exact q1 _ z
    obtain ⟨i, hi, hi2⟩ := cnP_pos (p := fun j => W j == x) (n := S.length + 1) (by rw [show S.length + 1 = (x :: S).length from rfl, h2 x]; exact List.count_pos_iff.mpr (by simp))
    have hi2 : W i = x := by simpa using hi2
    have := e4 i hi
    omega
  unfold fX7_takesLeast
  rw [tk_ok h0, e, bd_ok, hc, dr_s, hl.1, hl.2, tk_s, e3, ck_m (by omega), nI_clamp (by omega), lt_ok, i1, sub_n (by omega), show S.length + 1 - 1 = S.length from rfl, ck_m (by omega), ck_m (by omega), nI_clamp (by omega), ss_ok, h1 b e2, h1 S.length (by omega), hbx]
  refine ⟨_, rfl, ⟨fun i => if i = b then W S.length else W i, fun i hi => ?_, fun v => ?_⟩, fun y k hy => gs_ne (by omega)⟩
  · dsimp only
    by_cases z : i = b
    · subst z; rw [gs_eq, if_pos rfl]
    · rw [gs_ne (by omega), if_neg z]; exact h1 i (by omega)
  · have q := h2 v
    rw [List.length_cons, ← cnP_mv (b := b) (by omega), hbx, List.count_cons] at q
    show cnP (fun i => (if i = b then W S.length else W i) == v) S.length = _
    omega
end LE
