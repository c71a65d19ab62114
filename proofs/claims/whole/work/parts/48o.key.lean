/-! key, about -/
theorem fstF_is {p : Nat → Bool} {n k : Nat} (hk : k < n) (h : p k = true) (h2 : ∀ j, j < k → p j = false) : fstF p n = some k := by
  cases hq : fstF p n with
  | none => exact absurd (fstF_none hq k hk) (by rw [h]; simp)
  | some e =>
    obtain ⟨a1, a2, a3⟩ := fstF_some hq
    rcases Nat.lt_trichotomy e k with q | q | q
    · exact absurd (h2 e q) (by rw [a2]; simp)
    · rw [q]
    · exact absurd (a3 k q) (by rw [h]; simp)
theorem fstF_no {p : Nat → Bool} {n : Nat} (h : ∀ j, j < n → p j = false) : fstF p n = none := by
  cases hq : fstF p n with
  | none => rfl
  | some e =>
    obtain ⟨a1, a2, a3⟩ := fstF_some hq
    exact absurd (h e a1) (by rw [a2]; simp)
/-- a loop that looks for the first -/
theorem for_fst {α β : Type} {F : (α → Option β) → α → Option β} (n : Nat) (g : Nat → α) (p : Nat → Bool) (r : Nat → β) (e : β) {N : Nat} (hN : n < N) (hs : ∀ i rec, i < n → F rec (g i) = if p i = true then some (r i) else rec (g (i + 1))) (he : ∀ rec, F rec (g n) = some e) {a : α} (ha : a = g 0) : fx F N a = some (match fstF p n with | some i => r i | none => e) := by
  subst ha
  have : ∀ k N, k ≤ n → n - k < N → (∀ j, j < k → p j = false) → fx F N (g k) = some (match fstF p n with | some i => r i | none => e) := by
    intro k N
    induction N generalizing k with
    | zero => intro h1 h2; omega
    | succ N ih =>
      intro h1 h2 h3
      by_cases h : k = n
      · subst h; rw [fstF_no h3]; exact he _
      · show F (fx F N) (g k) = _
        rw [hs k _ (by omega)]
        by_cases hp : p k = true
        · rw [if_pos hp, fstF_is (by omega) hp h3]
        · rw [if_neg hp]
          exact ih (k + 1) (by omega) (by omega) (fun j hj => by
            rcases Nat.lt_or_ge j k with q | q
            · exact h3 j q
            · rw [show j = k by omega]; simpa using hp)
  exact this 0 N (by omega) (by omega) (fun j hj => by omega)
def lasF (p : Nat → Bool) : Nat → Option Nat
  | 0 => none
  | n + 1 => if p n = true then some n else lasF p n
theorem nI_m2 {j : Nat} (hj : j < 2 ^ 31) : ¬ nI j = (-2 : Int32) := fun h => by
  have := nI_pos hj
  rw [h] at this
  exact this (by decide)
section KY
variable {E : En} {σ : Sg} {n k : Nat} {F : Nat → Nat}
theorem c_firstOf {a : Nat} (hL : LRec E a) (h1 : gi σ a 2 = nI n) (hn : n ≤ 300) (h2 : ∀ i, i < n → gi σ (a + 1) i = nI (F i)) (hF : ∀ i, i < n → F i < 256) (hk : k < 256) : fX3_firstOf E a (nI k) σ = some ((match fstF (fun i => F i == k) n with | some i => nI i | none => -2), σ) := by
  obtain ⟨l0, l1, l2, l3, l4⟩ := hL
  unfold fX3_firstOf
  rw [tk_ok l0, for_fst n (fun i => (nI i, σ)) (fun i => F i == k) (fun i => (.inr (nI i), σ)) (.inl (nI n), σ) (by show n < 1000000; omega) ?_ ?_ (a := ((0 : Int32), σ)) rfl]
  · cases fstF (fun i => F i == k) n <;> rfl
  · intro i rec hi
    have q1 := h2 i hi
    have q2 := hF i hi
    unfold bX3_firstOf_2
    simp (disch := omega) only [h1, mle, if_neg, l1, dr_s, l3.1, l3.2, tk_s, ck_m, nI_clamp, q1, meq, lt_ok, ad1]
    by_cases hc : F i = k
    · rw [if_neg (by simpa using hc), if_pos (by simpa using hc)]
    · rw [if_pos hc, if_neg (by simpa using hc)]
  · intro rec
    unfold bX3_firstOf_2
    simp (disch := omega) only [h1, mle, if_pos]
theorem c_lastOf {a : Nat} (hL : LRec E a) (h1 : gi σ a 2 = nI n) (hn : n ≤ 300) (h2 : ∀ i, i < n → gi σ (a + 1) i = nI (F i)) (hF : ∀ i, i < n → F i < 256) (hk : k < 256) : fX3_lastOf E a (nI k) σ = some ((match lasF (fun i => F i == k) n with | some i => nI i | none => -2), σ) := by
  obtain ⟨l0, l1, l2, l3, l4⟩ := hL
  have st : ∀ m rec, m < n → bX3_lastOf_7 E a (nI k) rec (nI m) σ = if F m = k then some (.inr (nI m), σ) else rec (nI m - 1) σ := by
    intro m rec hm
    have q1 := h2 m (by omega)
    have q2 := hF m (by omega)
    unfold bX3_lastOf_7
    rw [if_neg (nI_pos (by omega)), l1, dr_s, l3.1, l3.2, tk_s, ck_m (by omega), nI_clamp (by omega), q1, lt_ok]
    by_cases hc : F m = k
    · rw [if_neg (by rw [hc]; simp), if_pos hc]
    · rw [if_pos (fun q => hc ((nI_eq (by omega) (by omega)).mp q)), if_neg hc, show nI m + (-1 : Int32) = nI m - 1 from (Int32.sub_eq_add_neg _ _).symm]
  have key : ∀ m N, m ≤ n → m < N → fx (fun (rec : Int32 × Sg → Option (((Int32) ⊕ Int32) × Sg)) (b : Int32 × Sg) => bX3_lastOf_7 E a (nI k) (fun u0 t => rec (u0, t)) b.1 b.2) N (nI m - 1, σ) = some ((match lasF (fun i => F i == k) m with | some i => .inr (nI i) | none => .inl (-1)), σ) := by
    intro m
    induction m with
    | zero =>
      intro N _ hN
      obtain ⟨N', rfl⟩ : ∃ N', N = N' + 1 := ⟨N - 1, by omega⟩
      rw [fx_1]
      show bX3_lastOf_7 E a (nI k) _ (-1) σ = _
      unfold bX3_lastOf_7
      rw [if_pos (by decide)]
      rfl
    | succ m ih =>
      intro N hm hN
      obtain ⟨N', rfl⟩ : ∃ N', N = N' + 1 := ⟨N - 1, by omega⟩
      rw [fx_1]
      show bX3_lastOf_7 E a (nI k) _ (nI (m + 1) - nI 1) σ = _
      rw [sub_n (by omega), show m + 1 - 1 = m from rfl, st m _ (by omega)]
      unfold lasF
      by_cases hc : F m = k
      · rw [if_pos hc, if_pos (by simpa using hc)]
      · rw [if_neg hc, if_neg (by simpa using hc)]
        exact ih N' (by omega) (by omega)
  unfold fX3_lastOf
  rw [tk_ok l0, lt_ok, h1, key n FU (Nat.le_refl _) (by show n < 1000000; omega), bd_ok]
  cases lasF (fun i => F i == k) n <;> rfl
theorem m_oftenOf (hM : LMod E) (hM2 : LMo2 E) (h1 : gi σ 396 0 = nI n) (hn : n ≤ 300) (h2 : ∀ i, i < n → gi σ 396 (26 + i) = nI (F i)) (hF : ∀ i, i < n → F i < 256) (hk : k < 256) : fX7_oftenOf E 395 (nI k) σ = some (nI (oft F k n), σ) := by
  unfold fX7_oftenOf
  rw [tk_ok hM.1]
  refine bd_tr ((nI (oft F k n), nI n), σ) n (fun i => ((nI (oft F k i), nI i), σ)) (by show n < 1000000; omega) ?_ ?_ rfl
  · intro i rec hi
    have q1 := h2 i hi
    have q2 := hF i hi
    unfold bX7_oftenOf_4
    rw [m_many hM hM2, bd_ok, h1, if_neg (nI_ge hi (by omega)), dr_ok hM.2.1 hM2.1.1, hM2.1.2, show (26 : Int32) = nI 26 from rfl, nI_add, ck_n (by omega) (by omega), nI_clamp (by omega), q1]
    by_cases hc : F i = k
    · rw [if_neg (by rw [hc]; simp), bd_ok, m_truth, bd_ok, if_neg (by decide), lt_ok, lt_ok, i1, nI_add, nI_add]
      show rec _ = rec _
      simp only [oft, hc, if_true]
    · rw [if_pos (fun q => hc ((nI_eq (by omega) (by omega)).mp q)), bd_ok, m_truth, bd_ok, if_pos rfl, lt_ok, lt_ok, i0, i1, nI_add, nI_add]
      show rec _ = rec _
      simp only [oft, hc, if_false]
  · intro rec
    unfold bX7_oftenOf_4
    rw [m_many hM hM2, bd_ok, h1, if_pos (nI_le (Nat.le_refl _) (by omega))]
theorem m_firLas (hM : LMod E) (hM2 : LMo2 E) (h1 : gi σ 396 0 = nI n) (hn : n ≤ 300) (h2 : ∀ i, i < n → gi σ 396 (26 + i) = nI (F i)) (hF : ∀ i, i < n → F i < 256) (hk : k < 256) :
    fx (fun (rec : (Int32 × Int32 × Int32) × Sg → Option ((Int32 × Int32 × Int32) × Sg)) a => bX7_key_32 E 395 (nI k) (fun u0 u1 u2 t => rec ((u0, u1, u2), t)) a.1.1 a.1.2.1 a.1.2.2 a.2) FU (((-2 : Int32), (-2 : Int32), (0 : Int32)), σ) = some (((match fstF (fun i => F i == k) n with | some i => nI i | none => -2), (match lasF (fun i => F i == k) n with | some i => nI i | none => -2), nI n), σ) := by
  refine for_tr n (fun m => (((match fstF (fun i => F i == k) m with | some i => nI i | none => -2), (match lasF (fun i => F i == k) m with | some i => nI i | none => -2), nI m), σ)) (by show n < 1000000; omega) ?_ ?_ rfl
  · intro i rec hi
    have q1 := h2 i hi
    have q2 := hF i hi
    unfold bX7_key_32
    rw [m_many hM hM2, bd_ok, h1, if_neg (nI_ge hi (by omega)), dr_ok hM.2.1 hM2.1.1, hM2.1.2, show (26 : Int32) = nI 26 from rfl, nI_add, ck_n (by omega) (by omega), nI_clamp (by omega), q1]
    by_cases hc : F i = k
    · have hb : (F i == k) = true := by simpa using hc
      rw [if_neg (by rw [hc]; simp)]
      cases hf : fstF (fun i => F i == k) i with
      | none =>
        have e1 : fstF (fun i => F i == k) (i + 1) = some i := fstF_is (by omega) hb (fstF_none hf)
        simp only [e1, lasF, hb, if_true]
        rw [if_neg (by simp), bd_ok, bd_ok, lt_ok, i1, nI_add]
      | some j =>
        obtain ⟨a1, a2, a3⟩ := fstF_some hf
        have e1 : fstF (fun i => F i == k) (i + 1) = some j := fstF_is (by omega) a2 a3
        simp only [e1, lasF, hb, if_true]
        rw [if_pos (nI_m2 (by omega)), bd_ok, bd_ok, lt_ok, i1, nI_add]
    · have hb : (F i == k) = false := by simpa using hc
      have e1 : fstF (fun i => F i == k) (i + 1) = fstF (fun i => F i == k) i := by
        cases hf : fstF (fun i => F i == k) i with
        | none => exact fstF_no (fun j hj => by
            rcases Nat.lt_or_ge j i with q | q
            · exact fstF_none hf j q
            · rw [show j = i by omega]; exact hb)
        | some j =>
          obtain ⟨a1, a2, a3⟩ := fstF_some hf
          exact fstF_is (by omega) a2 a3
      rw [if_pos (fun q => hc ((nI_eq (by omega) (by omega)).mp q)), bd_ok, lt_ok, i1, nI_add]
      simp only [e1, lasF, hb, Bool.false_eq_true, if_false]
  · intro rec
    unfold bX7_key_32
    rw [m_many hM hM2, bd_ok, h1, if_pos (nI_le (Nat.le_refl _) (by omega))]
end KY
section KY2
variable {E : En}
theorem ok_key (hR : LRun E) (hM : LMod E) (hM2 : LMo2 E) (p0 p1 : Int32) : Ok (JJ CG' CM' MG' MM') (fX6_key E 0 p0 p1) (fX7_key E 395 p0 p1) := by
  refine ok_of (fun a hw => ?_)
  obtain ⟨r0, r1, r3, r4, r5, r8, r9, r10, r11, r12, r13, l1, l2, lx⟩ := id hR
  obtain ⟨b0, rb0, rb1, rb3, rb4, rb5, rb6, lr, la4, lg, lm, la31, la32⟩ := id l2
  have m0 := hM.1
  have hwc := hw.2.2.1
  have hn := hwc.1
  have hF := hwc.2.1
  rcases below p0 (n := 256) (by omega) with ⟨k, hk, rfl⟩ | ⟨hq, hq2⟩
  · have hin : ∀ σ, fX7_in E (nI k) (0 : Int32) (255 : Int32) σ = some (1, σ) := fun σ => m_inN (l := 0) (h := 255) (by omega)
    by_cases h0 : p1 = 0
    · subst h0
      refine ⟨nI (oft (cF (aC a)) k (cN (aC a))), a, hw, spc_q (fun σ hc => ⟨σ, ?_, fun _ _ _ => rfl, fun _ _ _ => rfl⟩), spm_q (fun σ hc => ⟨σ, ?_, fun _ _ _ => rfl, fun _ _ _ => rfl⟩)⟩
      · obtain ⟨k1, k2, k3⟩ := cs_rr hc.2.2.2.1
        unfold fX6_key
        rw [tk_ok r0, if_neg (nI_pos (by omega)), show (256 : Int32) = nI 256 from rfl, if_pos (nI_lt hk (by omega)), if_pos rfl, dr_ok r3 l2.1, dr_ok rb0 lr.1, c_often lr k1.1 hn k1.2.1 hF hk, bd_ok]
      · obtain ⟨k1, k2, k3, k4, k5⟩ := mr_g hn hc.2.2.1
        unfold fX7_key
        rw [tk_ok m0, hin, bd_ok, if_neg (by decide), show fX7_in E (0 : Int32) (0 : Int32) (2 : Int32) σ = some (1, σ) from m_inN (v := 0) (l := 0) (h := 2) (by omega), bd_ok, if_pos (by decide), m_firLas hM hM2 k1 hn k2 hF hk, bd_ok, if_neg (by simp), m_oftenOf hM hM2 k1 hn k2 hF hk, bd_ok, bd_ok]
    · by_cases h1 : p1 = 1
      · subst h1
        refine ⟨(match fstF (fun i => cF (aC a) i == k) (cN (aC a)) with | some i => nI i | none => -2), a, hw, spc_q (fun σ hc => ⟨σ, ?_, fun _ _ _ => rfl, fun _ _ _ => rfl⟩), spm_q (fun σ hc => ⟨σ, ?_, fun _ _ _ => rfl, fun _ _ _ => rfl⟩)⟩
        · obtain ⟨k1, k2, k3⟩ := cs_rr hc.2.2.2.1
          unfold fX6_key
          rw [tk_ok r0, if_neg (nI_pos (by omega)), show (256 : Int32) = nI 256 from rfl, if_pos (nI_lt hk (by omega)), if_neg (by decide), if_pos rfl, dr_ok r3 l2.1, dr_ok rb0 lr.1, c_firstOf lr k1.1 hn k1.2.1 hF hk, bd_ok]
        · obtain ⟨k1, k2, k3, k4, k5⟩ := mr_g hn hc.2.2.1
          unfold fX7_key
          rw [tk_ok m0, hin, bd_ok, if_neg (by decide), show fX7_in E (1 : Int32) (0 : Int32) (2 : Int32) σ = some (1, σ) from m_inN (v := 1) (l := 0) (h := 2) (by omega), bd_ok, if_pos (by decide), m_firLas hM hM2 k1 hn k2 hF hk, bd_ok, if_pos (by decide), if_neg (by simp), bd_ok]
      · by_cases h2 : p1 = 2
        · subst h2
          refine ⟨(match lasF (fun i => cF (aC a) i == k) (cN (aC a)) with | some i => nI i | none => -2), a, hw, spc_q (fun σ hc => ⟨σ, ?_, fun _ _ _ => rfl, fun _ _ _ => rfl⟩), spm_q (fun σ hc => ⟨σ, ?_, fun _ _ _ => rfl, fun _ _ _ => rfl⟩)⟩
          · obtain ⟨k1, k2, k3⟩ := cs_rr hc.2.2.2.1
            unfold fX6_key
            rw [tk_ok r0, if_neg (nI_pos (by omega)), show (256 : Int32) = nI 256 from rfl, if_pos (nI_lt hk (by omega)), if_neg (by decide), if_neg (by decide), if_pos rfl, dr_ok r3 l2.1, dr_ok rb0 lr.1, c_lastOf lr k1.1 hn k1.2.1 hF hk, bd_ok]
          · obtain ⟨k1, k2, k3, k4, k5⟩ := mr_g hn hc.2.2.1
            unfold fX7_key
            rw [tk_ok m0, hin, bd_ok, if_neg (by decide), show fX7_in E (2 : Int32) (0 : Int32) (2 : Int32) σ = some (1, σ) from m_inN (v := 2) (l := 0) (h := 2) (by omega), bd_ok, if_pos (by decide), m_firLas hM hM2 k1 hn k2 hF hk, bd_ok, if_pos (by decide), if_pos (by decide), bd_ok]
        · refine ⟨-1, a, hw, spc_q (fun σ hc => ⟨σ, ?_, fun _ _ _ => rfl, fun _ _ _ => rfl⟩), spm_q (fun σ hc => ⟨σ, ?_, fun _ _ _ => rfl, fun _ _ _ => rfl⟩)⟩
          · unfold fX6_key
            rw [tk_ok r0, if_neg (nI_pos (by omega)), show (256 : Int32) = nI 256 from rfl, if_pos (nI_lt hk (by omega)), if_neg h0, if_neg h1, if_neg h2]
          · have hno : ¬ ((0 : Int32) ≤ p1 ∧ p1 ≤ 2) := fun q => by
              obtain ⟨m, hm, rfl⟩ := nI_of (x := p1) (Int32.not_lt.mpr q.1)
              have q2 : nI m ≤ nI 2 := q.2
              have := (nI_leI hm (by omega)).mp q2
              rcases (show m = 0 ∨ m = 1 ∨ m = 2 by omega) with rfl | rfl | rfl
              · exact h0 rfl
              · exact h1 rfl
              · exact h2 rfl
            unfold fX7_key
            rw [tk_ok m0, hin, bd_ok, if_neg (by decide), m_inF hno, bd_ok, if_neg (by simp)]
  · refine ⟨-1, a, hw, spc_q (fun σ hc => ⟨σ, ?_, fun _ _ _ => rfl, fun _ _ _ => rfl⟩), spm_q (fun σ hc => ⟨σ, ?_, fun _ _ _ => rfl, fun _ _ _ => rfl⟩)⟩
    · unfold fX6_key
      rw [tk_ok r0]
      rcases hq with h | ⟨h1, h2⟩
      · rw [if_pos h]
      · rw [if_neg h1, show (256 : Int32) = nI 256 from rfl, if_neg h2]
    · unfold fX7_key
      rw [tk_ok m0, show fX7_in E p0 (0 : Int32) (255 : Int32) σ = some (0, σ) from m_inF hq2, bd_ok, if_pos rfl]
end KY2
