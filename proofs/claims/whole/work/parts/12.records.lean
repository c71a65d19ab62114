/-! records in rising order -/
theorem insR_len (f : Nat → Nat) (n : Nat) : ∀ l : List Nat, (insR f n l).length = l.length + 1
  | [] => rfl
  | a :: l => by
    unfold insR
    split
    · rfl
    · simp [insR_len f n l]
theorem rs_len (f : Nat → Nat) : ∀ n, (rs f n).length = n
  | 0 => rfl
  | n + 1 => by unfold rs; rw [insR_len, rs_len f n]
theorem insR_mem {f : Nat → Nat} {n x : Nat} : ∀ {l : List Nat}, x ∈ insR f n l ↔ x = n ∨ x ∈ l
  | [] => by simp [insR]
  | a :: l => by
    unfold insR
    split
    · simp
    · simp only [List.mem_cons, insR_mem]
      constructor
      · rintro (h | h | h)
        · exact Or.inr (Or.inl h)
        · exact Or.inl h
        · exact Or.inr (Or.inr h)
      · rintro (h | h | h)
        · exact Or.inr (Or.inl h)
        · exact Or.inl h
        · exact Or.inr (Or.inr h)
theorem rs_mem {f : Nat → Nat} {x : Nat} : ∀ {n : Nat}, x ∈ rs f n ↔ x < n
  | 0 => by simp [rs]
  | n + 1 => by
    unfold rs
    rw [insR_mem, rs_mem]
    omega
theorem insR_srt {f : Nat → Nat} {n : Nat} : ∀ {l : List Nat}, l.Pairwise (fun a b => f a ≤ f b) → (insR f n l).Pairwise (fun a b => f a ≤ f b)
  | [], _ => by simp [insR]
  | a :: l, h => by
    obtain ⟨h1, h2⟩ := List.pairwise_cons.mp h
    unfold insR
    split
    · next hc =>
      refine List.pairwise_cons.mpr ⟨fun b hb => ?_, h⟩
      rcases List.mem_cons.mp hb with rfl | hb
      · omega
      · have := h1 b hb; omega
    · next hc =>
      refine List.pairwise_cons.mpr ⟨fun b hb => ?_, insR_srt h2⟩
      rcases insR_mem.mp hb with rfl | hb
      · omega
      · exact h1 b hb
theorem rs_srt (f : Nat → Nat) : ∀ n, (rs f n).Pairwise (fun a b => f a ≤ f b)
  | 0 => List.Pairwise.nil
  | n + 1 => insR_srt (rs_srt f n)
theorem insR_cnt {f : Nat → Nat} {n : Nat} {p : Nat → Bool} : ∀ {l : List Nat}, (insR f n l).countP p = l.countP p + (if p n then 1 else 0)
  | [] => by simp [insR, List.countP_cons]
  | a :: l => by
    unfold insR
    split
    · simp only [List.countP_cons]
    · simp only [List.countP_cons, insR_cnt]
      omega
theorem rs_gt (f : Nat → Nat) (k : Nat) : ∀ n, (rs f n).countP (fun i => decide (k < f i)) = gtC f k n
  | 0 => rfl
  | n + 1 => by
    unfold rs gtC
    rw [insR_cnt, rs_gt f k n]
    simp
theorem insR_congr {f g : Nat → Nat} {n : Nat} : ∀ {l : List Nat}, f n = g n → (∀ x ∈ l, f x = g x) → insR f n l = insR g n l
  | [], _, _ => rfl
  | a :: l, h, h2 => by
    unfold insR
    rw [h, h2 a List.mem_cons_self, insR_congr h (fun x hx => h2 x (List.mem_cons_of_mem _ hx))]
theorem rs_congr {f g : Nat → Nat} : ∀ {n : Nat}, (∀ i, i < n → f i = g i) → rs f n = rs g n
  | 0, _ => rfl
  | n + 1, h => by
    unfold rs
    rw [rs_congr (n := n) (fun i hi => h i (by omega)), insR_congr (h n (by omega)) (fun x hx => h x (by have := rs_mem.mp hx; omega))]
theorem gtC_congr {f g : Nat → Nat} {k : Nat} : ∀ {n : Nat}, (∀ i, i < n → f i = g i) → gtC f k n = gtC g k n
  | 0, _ => rfl
  | n + 1, h => by
    unfold gtC
    rw [gtC_congr (n := n) (fun i hi => h i (by omega)), h n (by omega)]
theorem inv_congr {f g : Nat → Nat} : ∀ {n : Nat}, (∀ i, i < n → f i = g i) → inv f n = inv g n
  | 0, _ => rfl
  | n + 1, h => by
    unfold inv
    rw [inv_congr (n := n) (fun i hi => h i (by omega)), h n (by omega), gtC_congr (n := n) (fun i hi => h i (by omega))]
theorem ins_at {f : Nat → Nat} {n : Nat} : ∀ {l : List Nat} {p : Nat}, p ≤ l.length → (∀ i, i < p → f (l.getD i 0) ≤ f n) → (p < l.length → f n < f (l.getD p 0)) → ∀ j, (insR f n l).getD j 0 = if j < p then l.getD j 0 else if j = p then n else l.getD (j - 1) 0
  | [], p, hp, _, _, j => by
    have : p = 0 := by simpa using hp
    subst this
    cases j with
    | zero => simp [insR]
    | succ j => simp [insR]
  | a :: l, 0, _, _, h2, j => by
    have h3 : f n < f a := by simpa using h2 (by simp)
    unfold insR
    rw [if_pos h3]
    cases j with
    | zero => simp
    | succ j => simp
  | a :: l, p + 1, hp, h1, h2, j => by
    have h3 : ¬ f n < f a := by have := h1 0 (by omega); simp at this; omega
    unfold insR
    rw [if_neg h3]
    cases j with
    | zero => simp
    | succ j =>
      have ih := ins_at (f := f) (n := n) (l := l) (p := p) (by simpa using hp) (fun i hi => by have := h1 (i + 1) (by omega); simpa using this) (fun hq => by have := h2 (by simp; omega); simpa using this) j
      simp only [List.getD_cons_succ]
      rw [ih]
      by_cases c1 : j < p
      · rw [if_pos c1, if_pos (show j + 1 < p + 1 by omega)]
      · rw [if_neg c1, if_neg (show ¬ j + 1 < p + 1 by omega)]
        by_cases c2 : j = p
        · rw [if_pos c2, if_pos (show j + 1 = p + 1 by omega)]
        · rw [if_neg c2, if_neg (show ¬ j + 1 = p + 1 by omega)]
          cases j with
          | zero => omega
          | succ j => simp
theorem srt_at {f : Nat → Nat} {l : List Nat} (h : l.Pairwise (fun a b => f a ≤ f b)) {i j : Nat} (hij : i ≤ j) (hj : j < l.length) : f (l.getD i 0) ≤ f (l.getD j 0) := by
  have hi : i < l.length := by omega
  rw [List.getD_eq_getElem?_getD, List.getD_eq_getElem?_getD, List.getElem?_eq_getElem hi, List.getElem?_eq_getElem hj]
  simp only [Option.getD_some]
  by_cases he : i = j
  · subst he; exact Nat.le_refl _
  · exact List.pairwise_iff_getElem.mp h i j hi hj (by omega)
theorem cnt_at {p : Nat → Bool} : ∀ {l : List Nat} {q : Nat}, q ≤ l.length → (∀ i, i < q → p (l.getD i 0) = false) → (∀ i, q ≤ i → i < l.length → p (l.getD i 0) = true) → l.countP p = l.length - q
  | [], q, _, _, _ => by simp
  | a :: l, 0, _, _, h2 => by
    have h0 : p a = true := by simpa using h2 0 (by omega) (by simp)
    have ih := cnt_at (p := p) (l := l) (q := 0) (by omega) (fun i hi => absurd hi (Nat.not_lt_zero i)) (fun i h3 h4 => by have := h2 (i + 1) (by omega) (by simpa using h4); simpa using this)
    rw [List.countP_cons, ih, if_pos h0]
    simp
  | a :: l, q + 1, hq, h1, h2 => by
    have h0 : p a = false := by simpa using h1 0 (by omega)
    have ih := cnt_at (p := p) (l := l) (q := q) (by simpa using hq) (fun i hi => by have := h1 (i + 1) (by omega); simpa using this) (fun i h3 h4 => by have := h2 (i + 1) (by omega) (by simpa using h4); simpa using this)
    rw [List.countP_cons, ih, h0]
    simp
def RR (σ : Sg) (F : Nat → Nat) (m : Nat) : Prop := gi σ 3 2 = nI m ∧ (∀ i, i < m → gi σ 4 i = nI (F i)) ∧ (∀ i, i < m → gi σ 5 i = nI ((rs F m).getD i 0)) ∧ gi σ 3 3 = nI (inv F m)
theorem rr_congr {σ : Sg} {F G : Nat → Nat} {m : Nat} (h : RR σ F m) (hg : ∀ i, i < m → F i = G i) : RR σ G m := by
  obtain ⟨h1, h2, h3, h4⟩ := h
  refine ⟨h1, fun i hi => by rw [h2 i hi, hg i hi], fun i hi => by rw [h3 i hi, rs_congr hg], by rw [h4, inv_congr hg]⟩
set_option maxHeartbeats 1000000 in
theorem c_add {E : En} (hL : LRec E 3) {σ : Sg} {F : Nat → Nat} {m : Nat} (hm : m < 300) (hF : ∀ i, i ≤ m → F i < 256) (h : RR σ F m) : ∃ s, fX3_add E 3 (nI (F m)) σ = some s ∧ RR s F (m + 1) ∧ ∀ x k, x ≠ 4 → x ≠ 5 → ¬ (x = 3 ∧ (k = 2 ∨ k = 3)) → gi s x k = gi σ x k := by
  obtain ⟨h1, h2, h3, h4⟩ := h
  obtain ⟨l0, l1, l2, l3, l4⟩ := hL
  have hlen := rs_len F m
  have hsrt := rs_srt F m
  have hlt : ∀ i, i < m → (rs F m).getD i 0 < m := by
    intro i hi
    have : (rs F m).getD i 0 ∈ rs F m := by
      rw [List.getD_eq_getElem?_getD, List.getElem?_eq_getElem (by omega)]
      exact List.getElem_mem _
    exact rs_mem.mp this
  unfold fX3_add
  rw [tk_ok l0, h1, show (300 : Int32) = nI 300 from rfl, if_pos (nI_lt hm (by omega)), lt_ok]
  have key := fx_ok (F := fun (rec : Int32 × Sg → Option (Int32 × Sg)) (b : Int32 × Sg) => bX3_add_16 E 3 (nI (F m)) (fun u0 t => rec (u0, t)) b.1 b.2)
    (fun k b => b.1 = nI k ∧ k ≤ m ∧ (∀ x j, x ≠ 5 → gi b.2 x j = gi σ x j) ∧ (∀ j, j < k → gi b.2 5 j = gi σ 5 j) ∧ (∀ j, k < j → j ≤ m → gi b.2 5 j = gi σ 5 (j - 1)) ∧ ∀ j, k ≤ j → j < m → F m < F ((rs F m).getD j 0))
    (fun b => ∃ p, b.1 = nI p ∧ p ≤ m ∧ (∀ x j, x ≠ 5 → gi b.2 x j = gi σ x j) ∧ (∀ j, j < p → gi b.2 5 j = gi σ 5 j) ∧ (∀ j, p < j → j ≤ m → gi b.2 5 j = gi σ 5 (j - 1)) ∧ (∀ j, p ≤ j → j < m → F m < F ((rs F m).getD j 0)) ∧ (0 < p → F ((rs F m).getD (p - 1) 0) ≤ F m))
    ?_ FU m (nI m, σ) (by show m < 1000000; omega) ⟨rfl, Nat.le_refl _, fun _ _ _ => rfl, fun _ _ => rfl, fun j g1 g2 => by omega, fun j g1 g2 => by omega⟩
  · obtain ⟨⟨v, s⟩, e, p, g0, g1, g2, g3, g4, g5, g6⟩ := key
    dsimp only at g0 g2 g3 g4
    subst g0
    have hle : ∀ i, i < p → F ((rs F m).getD i 0) ≤ F m := fun i hi => Nat.le_trans (srt_at hsrt (i := i) (j := p - 1) (by omega) (by omega)) (g6 (by omega))
    have hins := ins_at (f := F) (n := m) (l := rs F m) (p := p) (by omega) hle (fun hq => g5 p (Nat.le_refl _) (by omega))
    have hcnt : gtC F (F m) m = m - p := by
      rw [← rs_gt, cnt_at (q := p) (by omega) (fun i hi => decide_eq_false (by have := hle i hi; omega)) (fun i a b => decide_eq_true (g5 i a (by omega))), hlen]
    rw [e, bd_ok, dr_ok l2 l4.1, l4.2, ck_n (by omega) (by omega), nI_clamp (by omega), ss_ok, ss_ok, dr_ok l1 l3.1, l3.2]
    have q2 : gi s 3 2 = nI m := by rw [g2 _ _ (by omega)]; exact h1
    have q3 : gi s 3 3 = nI (inv F m) := by rw [g2 _ _ (by omega)]; exact h4
    rw [gs_ne (show (3 : Nat) ≠ 3 ∨ 2 ≠ 3 by omega), gs_ne (show (3 : Nat) ≠ 5 ∨ 2 ≠ p by omega), gs_ne (show (3 : Nat) ≠ 5 ∨ 3 ≠ p by omega), q2, q3, sub_n g1, nI_add, ck_n hm (by omega), nI_clamp (by omega), ss_ok, gs_ne (by omega), gs_ne (by omega), gs_ne (by omega), q2, ad1, ss_ok]
    refine ⟨_, rfl, ⟨gs_eq, fun i hi => ?_, fun i hi => ?_, ?_⟩, fun x k a b c => ?_⟩
    · rw [gs_ne (by omega)]
      by_cases hc : i = m
      · subst hc; exact gs_eq
      · rw [gs_ne (by omega), gs_ne (by omega), gs_ne (by omega), g2 _ _ (by omega)]; exact h2 i (by omega)
    · rw [gs_ne (by omega), gs_ne (by omega), gs_ne (by omega)]
      unfold rs
      rw [hins]
      by_cases c1 : i < p
      · rw [if_pos c1, gs_ne (by omega), g3 i c1]; exact h3 i (by omega)
      · rw [if_neg c1]
        by_cases c2 : i = p
        · rw [if_pos c2, c2, gs_eq]
        · rw [if_neg c2, gs_ne (by omega), g4 i (by omega) (by omega)]; exact h3 (i - 1) (by omega)
    · rw [gs_ne (by omega), gs_ne (by omega), gs_eq]
      show _ = nI (inv F m + gtC F (F m) m)
      rw [hcnt]
    · rw [gs_ne (by omega), gs_ne (by omega), gs_ne (by omega), gs_ne (by omega), g2 _ _ (by omega)]
  · rintro k ⟨v, s⟩ rec ⟨g0, g1, g2, g3, g4, g5⟩ IH
    dsimp only at g0 g2 g3 g4 ⊢
    subst g0
    unfold bX3_add_16
    by_cases hk : k = 0
    · subst hk
      rw [if_pos (by decide)]
      exact ⟨_, rfl, 0, rfl, by omega, g2, g3, g4, g5, fun h => by omega⟩
    · have r5 : gi s 5 (k - 1) = nI ((rs F m).getD (k - 1) 0) := by rw [g3 _ (by omega)]; exact h3 _ (by omega)
      have hl := hlt (k - 1) (by omega)
      have r4 : gi s 4 ((rs F m).getD (k - 1) 0) = nI (F ((rs F m).getD (k - 1) 0)) := by rw [g2 _ _ (by omega)]; exact h2 _ hl
      have b1 := hF m (Nat.le_refl _)
      have b2 := hF _ (Nat.le_of_lt hl)
      rw [if_neg (nI_nle (by omega) (by omega)), dr_ok l1 l3.1, dr_ok l2 l4.1, l3.2, l4.2, show (1 : Int32) = nI 1 from rfl, sub_n (by omega), ck_n (by omega) (by omega), nI_clamp (n := k - 1) (by omega), r5, ck_n (by omega) (by omega), nI_clamp (by omega), r4]
      by_cases hc : F ((rs F m).getD (k - 1) 0) ≤ F m
      · rw [if_pos (nI_le hc (by omega))]
        exact ⟨_, rfl, k, rfl, g1, g2, g3, g4, g5, fun _ => hc⟩
      · rw [if_neg (nI_ge (by omega) (by omega)), ck_n (by omega) (by omega), ck_n (by omega) (by omega), nI_clamp (by omega), ss_ok, lt_ok, show nI k + -nI 1 = nI (k - 1) from sb_m1 (by omega)]
        refine IH (k - 1) _ (by omega) ⟨rfl, by omega, fun x j hx => ?_, fun j hj => ?_, fun j a b => ?_, fun j a b => ?_⟩
        · dsimp only; rw [gs_ne (by omega)]; exact g2 x j hx
        · dsimp only; rw [gs_ne (by omega)]; exact g3 j (by omega)
        · dsimp only
          by_cases hj : j = k
          · subst hj; rw [gs_eq, h3 (j - 1) (by omega)]
          · rw [gs_ne (by omega)]; exact g4 j (by omega) b
        · by_cases hj : j = k - 1
          · subst hj; omega
          · exact g5 j (by omega) b
