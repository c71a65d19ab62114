theorem gi_si {σ : Sg} {a k b j : Nat} {v : Int32} : gi (si σ a k v) b j = if b = a ∧ j = k then v else gi σ b j := by
  unfold gi si
  by_cases h : b = a
  · subst h
    by_cases h2 : j = k <;> simp [upd, h2]
  · simp [h]
theorem gi_sl {σ : Sg} {a k b j : Nat} {v : Int64} : gi (sl σ a k v) b j = gi σ b j := rfl
theorem gl_si {σ : Sg} {a k b j : Nat} {v : Int32} : gl (si σ a k v) b j = gl σ b j := rfl
theorem gl_sl {σ : Sg} {a k b j : Nat} {v : Int64} : gl (sl σ a k v) b j = if b = a ∧ j = k then v else gl σ b j := by
  unfold gl sl
  by_cases h : b = a
  · subst h
    by_cases h2 : j = k <;> simp [vp_updL, h2]
  · simp [h]
theorem gi_sc {σ : Sg} {a b sp dp n x j : Nat} : gi (sc σ a b sp dp n) x j = if x = b ∧ dp ≤ j ∧ j < dp + n then gi σ a (sp + (j - dp)) else gi σ x j := by
  unfold gi sc
  by_cases h : x = b
  · subst h
    by_cases h2 : dp ≤ j ∧ j < dp + n <;> simp [va_cpy, h2]
  · simp [h]
theorem gl_sc {σ : Sg} {a b sp dp n x j : Nat} : gl (sc σ a b sp dp n) x j = gl σ x j := rfl
theorem tk_ok {β : Type} {x c : Nat} {k : Option β} (h : x = c) : tk x c k = k := by simp [tk, h]
theorem dr_ok {β : Type} {r : Option Nat} {E : En} {c x : Nat} {f : Nat → Option β} (h : r = some x) (h2 : cd E x = c) : dr r E c f = f x := by simp [dr, h, tk, h2]
theorem ck_n {β : Type} {j n : Nat} {k : Option β} (h : j < n) (hn : n ≤ 2 ^ 31) : ck (nI j) n k = k := by
  unfold ck
  rw [if_pos]
  exact ⟨nI_pos' (by omega), by rw [nI_clamp (by omega)]; exact h⟩
theorem kb_0 {β : Type} {k : Option β} : kb 0 k = k := by simp [kb]
theorem kb_1 {β : Type} {k : Option β} : kb 1 k = k := by simp [kb]
theorem bd_ok {α β : Type} {v : α} {σ : Sg} {f : α → Sg → Option β} : bd (some (v, σ)) f = f v σ := rfl
theorem bv_ok {β : Type} {σ : Sg} {f : Sg → Option β} : bv (some σ) f = f σ := rfl
theorem fx_ok {α β : Type} {F : (α → Option β) → α → Option β} (I : Nat → α → Prop) (Q : β → Prop) (step : ∀ k a rec, I k a → (∀ j a', j < k → I j a' → ∃ b, rec a' = some b ∧ Q b) → ∃ b, F rec a = some b ∧ Q b) : ∀ n k a, k < n → I k a → ∃ b, fx F n a = some b ∧ Q b := by
  intro n
  induction n with
  | zero => intro k a h; omega
  | succ n ih => intro k a h hI; exact step k a (fx F n) hI (fun j a' hj hI' => ih j a' (by omega) hI')
theorem ad1 (i : Nat) : nI i + (1 : Int32) = nI (i + 1) := nI_add i 1
theorem ad2 (i : Nat) : nI i + (2 : Int32) = nI (i + 2) := nI_add i 2
theorem ad3 (i : Nat) : nI i + (3 : Int32) = nI (i + 3) := nI_add i 3
theorem ad4 (i : Nat) : nI i + (4 : Int32) = nI (i + 4) := nI_add i 4
theorem ad5 (i : Nat) : nI i + (5 : Int32) = nI (i + 5) := nI_add i 5
theorem ad6 (i : Nat) : nI i + (6 : Int32) = nI (i + 6) := nI_add i 6
theorem ad7 (i : Nat) : nI i + (7 : Int32) = nI (i + 7) := nI_add i 7
/-- class and reference answer alike, and the bond between them stays -/
def Ok (J : Sg → Prop) (f g : Sg → Option (Int32 × Sg)) : Prop := ∀ σ, J σ → ∃ r s1 s2, f σ = some (r, s1) ∧ g s1 = some (r, s2) ∧ J s2
set_option maxHeartbeats 4000000 in
theorem law_ok {E : En} {J : Sg → Prop} (hc6 : cd E 0 = 6) (hc7 : cd E 395 = 7) (H_feed : ∀ p0 p1 p2 p3 p4 : Int32, Ok J (fX6_feed E 0 p0 p1 p2 p3 p4) (fX7_feed E 395 p0 p1 p2 p3 p4)) (H_end : ∀ p0 : Int32, Ok J (fX6_end E 0 p0) (fX7_end E 395 p0)) (H_tell : Ok J (fX6_tell E 0) (fX7_tell E 395)) (H_drawn : ∀ p0 p1 : Int32, Ok J (fX6_drawn E 0 p0 p1) (fX7_drawn E 395 p0 p1)) (H_draws : ∀ p0 : Int32, Ok J (fX6_draws E 0 p0) (fX7_draws E 395 p0)) (H_clear : Ok J (fX6_clear E 0) (fX7_clear E 395)) (H_settle : ∀ p0 p1 : Int32, Ok J (fX6_settle E 0 p0 p1) (fX7_settle E 395 p0 p1)) (H_grow : Ok J (fX6_grow E 0) (fX7_grow E 395)) (H_spread : Ok J (fX6_spread E 0) (fX7_spread E 395)) (H_step : Ok J (fX6_step E 0) (fX7_step E 395)) (H_phase : Ok J (fX6_phase E 0) (fX7_phase E 395)) (H_all : Ok J (fX6_all E 0) (fX7_all E 395)) (H_record : ∀ p0 p1 : Int32, Ok J (fX6_record E 0 p0 p1) (fX7_record E 395 p0 p1)) (H_run : ∀ p0 p1 : Int32, Ok J (fX6_run E 0 p0 p1) (fX7_run E 395 p0 p1)) (H_tape : ∀ p0 p1 : Int32, Ok J (fX6_tape E 0 p0 p1) (fX7_tape E 395 p0 p1)) (H_on : ∀ p0 p1 p2 : Int32, Ok J (fX6_on E 0 p0 p1 p2) (fX7_on E 395 p0 p1 p2)) (H_sorted : ∀ p0 : Int32, Ok J (fX6_sorted E 0 p0) (fX7_sorted E 395 p0)) (H_perfect : ∀ p0 p1 : Int32, Ok J (fX6_perfect E 0 p0 p1) (fX7_perfect E 395 p0 p1)) (H_plan : ∀ p0 : Int32, Ok J (fX6_plan E 0 p0) (fX7_plan E 395 p0)) (H_planned : ∀ p0 p1 p2 : Int32, Ok J (fX6_planned E 0 p0 p1 p2) (fX7_planned E 395 p0 p1 p2)) (H_least : ∀ p0 : Int32, Ok J (fX6_least E 0 p0) (fX7_least E 395 p0)) (H_depth : ∀ p0 : Int32, Ok J (fX6_depth E 0 p0) (fX7_depth E 395 p0)) (H_units : ∀ p0 : Int32, Ok J (fX6_units E 0 p0) (fX7_units E 395 p0)) (H_stands : Ok J (fX6_stands E 0) (fX7_stands E 395)) (H_key : ∀ p0 p1 : Int32, Ok J (fX6_key E 0 p0 p1) (fX7_key E 395 p0 p1)) (H_keys : ∀ p0 : Int32, Ok J (fX6_keys E 0 p0) (fX7_keys E 395 p0)) (H_about : ∀ p0 : Int32, Ok J (fX6_about E 0 p0) (fX7_about E 395 p0)) (H_forecast : ∀ p0 p1 : Int32, Ok J (fX6_forecast E 0 p0 p1) (fX7_forecast E 395 p0 p1)) (H_needs : ∀ p0 : Int32, Ok J (fX6_needs E 0 p0) (fX7_needs E 395 p0)) (H_undo : Ok J (fX6_undo E 0) (fX7_undo E 395)) (H_keep : ∀ p0 : Int32, Ok J (fX6_keep E 0 p0) (fX7_keep E 395 p0)) (H_back : ∀ p0 : Int32, Ok J (fX6_back E 0 p0) (fX7_back E 395 p0)) (H_count : ∀ p0 : Int32, Ok J (fX6_count E 0 p0) (fX7_count E 395 p0))
    {L : Nat} (hL : L ≤ 3072) (xs : Nat → Int32) {σ : Sg} (hJ : J σ) : ∃ σ', fL_law L xs E 0 395 σ = some (1, σ') := by
  unfold fL_law
  rw [tk_ok hc6, tk_ok hc7]
  have key := fx_ok (F := fun (rec : Int32 × Sg → Option ((Int32 ⊕ Int32) × Sg)) (a : Int32 × Sg) => bL_law_18 L xs E 0 395 (fun u0 t => rec (u0, t)) a.1 a.2) (fun k a => ∃ i, a.1 = nI i ∧ i ≤ L + 6 ∧ k = L + 7 - i ∧ J a.2) (fun b => ∃ v, b.1 = .inl v) ?_ FU (L + 7) ((0 : Int32), σ) (by show L + 7 < 1000000; omega) ⟨0, rfl, by omega, by omega, hJ⟩
  · obtain ⟨⟨o, s⟩, e, v, hv⟩ := key
    cases hv
    rw [e]
    exact ⟨s, rfl⟩
  · rintro k ⟨v1, s2⟩ rec ⟨i, hi, hi2, rfl, hJ⟩ IH
    dsimp only at hi hJ ⊢
    subst hi
    unfold bL_law_18
    have hlt : ((nI L) - (6 : Int32)) < nI i ↔ L < i + 6 := by
      rw [Int32.lt_iff_toInt_lt, show (6 : Int32) = nI 6 from rfl, pk_sub_toInt (by omega) (by omega), nI_toInt (by omega)]
      omega
    by_cases hx : L < i + 6
    · rw [if_pos (hlt.mpr hx)]
      exact ⟨_, rfl, _, rfl⟩
    · rw [if_neg (fun h => hx (hlt.mp h)), ck_n (by omega) (by omega)]
      simp only [ad1, ad2, ad3, ad4, ad5]
      rw [nI_clamp (n := i) (by omega), nI_clamp (n := i + 1) (by omega), nI_clamp (n := i + 2) (by omega), nI_clamp (n := i + 3) (by omega), nI_clamp (n := i + 4) (by omega), nI_clamp (n := i + 5) (by omega)]
      have go : ∀ s, J s → ∃ b, lt (nI i + (6 : Int32)) (fun v => rec (v, s)) = some b ∧ ∃ v, b.1 = .inl v := by
        intro s hs
        unfold lt
        rw [ad6]
        exact IH (L + 7 - (i + 6)) _ (by omega) ⟨i + 6, rfl, by omega, rfl, hs⟩
      have k1 : ∀ {k : Option ((Int32 ⊕ Int32) × Sg)}, ck (nI (i + 1)) L k = k := fun {_} => ck_n (by omega) (by omega)
      have k2 : ∀ {k : Option ((Int32 ⊕ Int32) × Sg)}, ck (nI (i + 2)) L k = k := fun {_} => ck_n (by omega) (by omega)
      have k3 : ∀ {k : Option ((Int32 ⊕ Int32) × Sg)}, ck (nI (i + 3)) L k = k := fun {_} => ck_n (by omega) (by omega)
      have k4 : ∀ {k : Option ((Int32 ⊕ Int32) × Sg)}, ck (nI (i + 4)) L k = k := fun {_} => ck_n (by omega) (by omega)
      have k5 : ∀ {k : Option ((Int32 ⊕ Int32) × Sg)}, ck (nI (i + 5)) L k = k := fun {_} => ck_n (by omega) (by omega)
      simp only [k1, k2, k3, k4, k5]
      generalize xs i &&& 63 = w
      by_cases h0 : w = (0 : Int32)
      · rw [if_pos h0]
        obtain ⟨r, s1, s3, e1, e2, hJ2⟩ := H_feed _ _ _ _ _ s2 hJ
        rw [e1]
        simp only [bd_ok]
        rw [e2]
        simp only [bd_ok, if_true]
        exact go s3 hJ2
      rw [if_neg h0]
      by_cases h1 : w = (1 : Int32)
      · rw [if_pos h1]
        obtain ⟨r, s1, s3, e1, e2, hJ2⟩ := H_end _ s2 hJ
        rw [e1]
        simp only [bd_ok]
        rw [e2]
        simp only [bd_ok, if_true]
        exact go s3 hJ2
      rw [if_neg h1]
      by_cases h2 : w = (2 : Int32)
      · rw [if_pos h2]
        obtain ⟨r, s1, s3, e1, e2, hJ2⟩ := H_tell s2 hJ
        rw [e1]
        simp only [bd_ok]
        rw [e2]
        simp only [bd_ok, if_true]
        exact go s3 hJ2
      rw [if_neg h2]
      by_cases h3 : w = (3 : Int32)
      · rw [if_pos h3]
        obtain ⟨r, s1, s3, e1, e2, hJ2⟩ := H_drawn _ _ s2 hJ
        rw [e1]
        simp only [bd_ok]
        rw [e2]
        simp only [bd_ok, if_true]
        exact go s3 hJ2
      rw [if_neg h3]
      by_cases h4 : w = (4 : Int32)
      · rw [if_pos h4]
        obtain ⟨r, s1, s3, e1, e2, hJ2⟩ := H_draws _ s2 hJ
        rw [e1]
        simp only [bd_ok]
        rw [e2]
        simp only [bd_ok, if_true]
        exact go s3 hJ2
      rw [if_neg h4]
      by_cases h5 : w = (5 : Int32)
      · rw [if_pos h5]
        obtain ⟨r, s1, s3, e1, e2, hJ2⟩ := H_clear s2 hJ
        rw [e1]
        simp only [bd_ok]
        rw [e2]
        simp only [bd_ok, if_true]
        exact go s3 hJ2
      rw [if_neg h5]
      by_cases h6 : w = (6 : Int32)
      · rw [if_pos h6]
        obtain ⟨r, s1, s3, e1, e2, hJ2⟩ := H_settle _ _ s2 hJ
        rw [e1]
        simp only [bd_ok]
        rw [e2]
        simp only [bd_ok, if_true]
        exact go s3 hJ2
      rw [if_neg h6]
      by_cases h7 : w = (7 : Int32)
      · rw [if_pos h7]
        obtain ⟨r, s1, s3, e1, e2, hJ2⟩ := H_grow s2 hJ
        rw [e1]
        simp only [bd_ok]
        rw [e2]
        simp only [bd_ok, if_true]
        exact go s3 hJ2
      rw [if_neg h7]
      by_cases h8 : w = (8 : Int32)
      · rw [if_pos h8]
        obtain ⟨r, s1, s3, e1, e2, hJ2⟩ := H_spread s2 hJ
        rw [e1]
        simp only [bd_ok]
        rw [e2]
        simp only [bd_ok, if_true]
        exact go s3 hJ2
      rw [if_neg h8]
      by_cases h9 : w = (9 : Int32)
      · rw [if_pos h9]
        obtain ⟨r, s1, s3, e1, e2, hJ2⟩ := H_step s2 hJ
        rw [e1]
        simp only [bd_ok]
        rw [e2]
        simp only [bd_ok, if_true]
        exact go s3 hJ2
      rw [if_neg h9]
      by_cases h10 : w = (10 : Int32)
      · rw [if_pos h10]
        obtain ⟨r, s1, s3, e1, e2, hJ2⟩ := H_phase s2 hJ
        rw [e1]
        simp only [bd_ok]
        rw [e2]
        simp only [bd_ok, if_true]
        exact go s3 hJ2
      rw [if_neg h10]
      by_cases h11 : w = (11 : Int32)
      · rw [if_pos h11]
        obtain ⟨r, s1, s3, e1, e2, hJ2⟩ := H_all s2 hJ
        rw [e1]
        simp only [bd_ok]
        rw [e2]
        simp only [bd_ok, if_true]
        exact go s3 hJ2
      rw [if_neg h11]
      by_cases h12 : w = (12 : Int32)
      · rw [if_pos h12]
        obtain ⟨r, s1, s3, e1, e2, hJ2⟩ := H_record _ _ s2 hJ
        rw [e1]
        simp only [bd_ok]
        rw [e2]
        simp only [bd_ok, if_true]
        exact go s3 hJ2
      rw [if_neg h12]
      by_cases h13 : w = (13 : Int32)
      · rw [if_pos h13]
        obtain ⟨r, s1, s3, e1, e2, hJ2⟩ := H_run _ _ s2 hJ
        rw [e1]
        simp only [bd_ok]
        rw [e2]
        simp only [bd_ok, if_true]
        exact go s3 hJ2
      rw [if_neg h13]
      by_cases h14 : w = (14 : Int32)
      · rw [if_pos h14]
        obtain ⟨r, s1, s3, e1, e2, hJ2⟩ := H_tape _ _ s2 hJ
        rw [e1]
        simp only [bd_ok]
        rw [e2]
        simp only [bd_ok, if_true]
        exact go s3 hJ2
      rw [if_neg h14]
      by_cases h15 : w = (15 : Int32)
      · rw [if_pos h15]
        obtain ⟨r, s1, s3, e1, e2, hJ2⟩ := H_on _ _ _ s2 hJ
        rw [e1]
        simp only [bd_ok]
        rw [e2]
        simp only [bd_ok, if_true]
        exact go s3 hJ2
      rw [if_neg h15]
      by_cases h16 : w = (16 : Int32)
      · rw [if_pos h16]
        obtain ⟨r, s1, s3, e1, e2, hJ2⟩ := H_sorted _ s2 hJ
        rw [e1]
        simp only [bd_ok]
        rw [e2]
        simp only [bd_ok, if_true]
        exact go s3 hJ2
      rw [if_neg h16]
      by_cases h17 : w = (17 : Int32)
      · rw [if_pos h17]
        obtain ⟨r, s1, s3, e1, e2, hJ2⟩ := H_perfect _ _ s2 hJ
        rw [e1]
        simp only [bd_ok]
        rw [e2]
        simp only [bd_ok, if_true]
        exact go s3 hJ2
      rw [if_neg h17]
      by_cases h18 : w = (18 : Int32)
      · rw [if_pos h18]
        obtain ⟨r, s1, s3, e1, e2, hJ2⟩ := H_plan _ s2 hJ
        rw [e1]
        simp only [bd_ok]
        rw [e2]
        simp only [bd_ok, if_true]
        exact go s3 hJ2
      rw [if_neg h18]
      by_cases h19 : w = (19 : Int32)
      · rw [if_pos h19]
        obtain ⟨r, s1, s3, e1, e2, hJ2⟩ := H_planned _ _ _ s2 hJ
        rw [e1]
        simp only [bd_ok]
        rw [e2]
        simp only [bd_ok, if_true]
        exact go s3 hJ2
      rw [if_neg h19]
      by_cases h20 : w = (20 : Int32)
      · rw [if_pos h20]
        obtain ⟨r, s1, s3, e1, e2, hJ2⟩ := H_least _ s2 hJ
        rw [e1]
        simp only [bd_ok]
        rw [e2]
        simp only [bd_ok, if_true]
        exact go s3 hJ2
      rw [if_neg h20]
      by_cases h21 : w = (21 : Int32)
      · rw [if_pos h21]
        obtain ⟨r, s1, s3, e1, e2, hJ2⟩ := H_depth _ s2 hJ
        rw [e1]
        simp only [bd_ok]
        rw [e2]
        simp only [bd_ok, if_true]
        exact go s3 hJ2
      rw [if_neg h21]
      by_cases h22 : w = (22 : Int32)
      · rw [if_pos h22]
        obtain ⟨r, s1, s3, e1, e2, hJ2⟩ := H_units _ s2 hJ
        rw [e1]
        simp only [bd_ok]
        rw [e2]
        simp only [bd_ok, if_true]
        exact go s3 hJ2
      rw [if_neg h22]
      by_cases h23 : w = (23 : Int32)
      · rw [if_pos h23]
        obtain ⟨r, s1, s3, e1, e2, hJ2⟩ := H_stands s2 hJ
        rw [e1]
        simp only [bd_ok]
        rw [e2]
        simp only [bd_ok, if_true]
        exact go s3 hJ2
      rw [if_neg h23]
      by_cases h24 : w = (24 : Int32)
      · rw [if_pos h24]
        obtain ⟨r, s1, s3, e1, e2, hJ2⟩ := H_key _ _ s2 hJ
        rw [e1]
        simp only [bd_ok]
        rw [e2]
        simp only [bd_ok, if_true]
        exact go s3 hJ2
      rw [if_neg h24]
      by_cases h25 : w = (25 : Int32)
      · rw [if_pos h25]
        obtain ⟨r, s1, s3, e1, e2, hJ2⟩ := H_keys _ s2 hJ
        rw [e1]
        simp only [bd_ok]
        rw [e2]
        simp only [bd_ok, if_true]
        exact go s3 hJ2
      rw [if_neg h25]
      by_cases h26 : w = (26 : Int32)
      · rw [if_pos h26]
        obtain ⟨r, s1, s3, e1, e2, hJ2⟩ := H_about _ s2 hJ
        rw [e1]
        simp only [bd_ok]
        rw [e2]
        simp only [bd_ok, if_true]
        exact go s3 hJ2
      rw [if_neg h26]
      by_cases h27 : w = (27 : Int32)
      · rw [if_pos h27]
        obtain ⟨r, s1, s3, e1, e2, hJ2⟩ := H_forecast _ _ s2 hJ
        rw [e1]
        simp only [bd_ok]
        rw [e2]
        simp only [bd_ok, if_true]
        exact go s3 hJ2
      rw [if_neg h27]
      by_cases h28 : w = (28 : Int32)
      · rw [if_pos h28]
        obtain ⟨r, s1, s3, e1, e2, hJ2⟩ := H_needs _ s2 hJ
        rw [e1]
        simp only [bd_ok]
        rw [e2]
        simp only [bd_ok, if_true]
        exact go s3 hJ2
      rw [if_neg h28]
      by_cases h29 : w = (29 : Int32)
      · rw [if_pos h29]
        obtain ⟨r, s1, s3, e1, e2, hJ2⟩ := H_undo s2 hJ
        rw [e1]
        simp only [bd_ok]
        rw [e2]
        simp only [bd_ok, if_true]
        exact go s3 hJ2
      rw [if_neg h29]
      by_cases h30 : w = (30 : Int32)
      · rw [if_pos h30]
        obtain ⟨r, s1, s3, e1, e2, hJ2⟩ := H_keep _ s2 hJ
        rw [e1]
        simp only [bd_ok]
        rw [e2]
        simp only [bd_ok, if_true]
        exact go s3 hJ2
      rw [if_neg h30]
      by_cases h31 : w = (31 : Int32)
      · rw [if_pos h31]
        obtain ⟨r, s1, s3, e1, e2, hJ2⟩ := H_back _ s2 hJ
        rw [e1]
        simp only [bd_ok]
        rw [e2]
        simp only [bd_ok, if_true]
        exact go s3 hJ2
      rw [if_neg h31]
      by_cases h32 : w = (32 : Int32)
      · rw [if_pos h32]
        obtain ⟨r, s1, s3, e1, e2, hJ2⟩ := H_count _ s2 hJ
        rw [e1]
        simp only [bd_ok]
        rw [e2]
        simp only [bd_ok, if_true]
        exact go s3 hJ2
      rw [if_neg h32]
      exact go s2 hJ
