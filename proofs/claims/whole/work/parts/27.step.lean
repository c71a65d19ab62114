/-! a whole step of the class's mill -/
theorem sum_one {f : Nat → Nat} : ∀ {n : Nat}, sumF f n = 1 → ∃ t, t < n ∧ f t = 1 ∧ ∀ j, j < n → j ≠ t → f j = 0
  | 0, h => by simp [sumF] at h
  | n + 1, h => by
    unfold sumF at h
    by_cases hz : f n = 0
    · obtain ⟨t, h1, h2, h3⟩ := sum_one (f := f) (n := n) (by omega)
      refine ⟨t, by omega, h2, fun j hj hne => ?_⟩
      by_cases hjn : j = n
      · subst hjn; exact hz
      · exact h3 j (by omega) hne
    · refine ⟨n, by omega, by omega, fun j hj hne => ?_⟩
      have := sumF_pos (f := f) (n := n) (t := j) (by omega)
      omega
theorem ld_cat (g : Nat → Bool) (tp : Nat → List Rn) : ∀ n, ldI g tp n = idI (catF g tp n) ∧ (ldF g tp n = none ↔ catF g tp n = []) ∧ ∀ t, ldF g tp n = some t → ∃ i l r, (hdr (tp t)).1 = i :: l ∧ catF g tp n = i :: r
  | 0 => ⟨rfl, ⟨fun _ => rfl, fun _ => rfl⟩, fun t h => by cases h⟩
  | n + 1 => by
    obtain ⟨h1, h2, h3⟩ := ld_cat g tp n
    have hl1 : ldF g tp (n + 1) = match ldF g tp n with | some x => some x | none => if (g n && !(hdr (tp n)).1.isEmpty) = true then some n else none := rfl
    have hc1 : catF g tp (n + 1) = catF g tp n ++ (if g n then (hdr (tp n)).1 else []) := rfl
    cases hl : ldF g tp n with
    | some t =>
      obtain ⟨i, l, r, q1, q2⟩ := h3 t hl
      rw [hl] at hl1
      have hid : ldI g tp (n + 1) = nI i := by unfold ldI; rw [hl1]; show idI (hdr (tp t)).1 = _; rw [q1]; rfl
      rw [q2] at hc1
      refine ⟨by rw [hid, hc1]; rfl, ⟨fun q => (by rw [hl1] at q; cases q), fun q => (by rw [hc1] at q; cases q)⟩, fun t' q => ?_⟩
      rw [hl1] at q
      simp only [Option.some.injEq] at q
      subst q
      exact ⟨i, l, _, q1, hc1⟩
    | none =>
      have hcn := h2.mp hl
      rw [hl] at hl1
      rw [hcn, List.nil_append] at hc1
      dsimp only at hl1
      by_cases hg : g n = true
      · rw [if_pos hg] at hc1
        cases hz : (hdr (tp n)).1 with
        | nil =>
          rw [hz] at hl1 hc1
          have hl2 : ldF g tp (n + 1) = none := by rw [hl1]; simp
          refine ⟨by unfold ldI; rw [hl2, hc1]; rfl, ⟨fun _ => hc1, fun _ => hl2⟩, fun t q => by rw [hl2] at q; cases q⟩
        | cons i l =>
          rw [hz] at hl1 hc1
          have hl2 : ldF g tp (n + 1) = some n := by rw [hl1, hg]; simp
          refine ⟨by unfold ldI; rw [hl2, hc1]; show idI (hdr (tp n)).1 = _; rw [hz], ⟨fun q => (by rw [hl2] at q; cases q), fun q => (by rw [hc1] at q; cases q)⟩, fun t q => ?_⟩
          rw [hl2] at q
          simp only [Option.some.injEq] at q
          subst q
          exact ⟨i, l, l, hz, hc1⟩
      · rw [if_neg hg] at hc1
        have hg' : g n = false := by simpa using hg
        have hl2 : ldF g tp (n + 1) = none := by rw [hl1, hg']; simp
        refine ⟨by unfold ldI; rw [hl2, hc1]; rfl, ⟨fun _ => hc1, fun _ => hl2⟩, fun t q => by rw [hl2] at q; cases q⟩
def RMl (σ : Sg) (m w T : Nat) (bk : Bool) (gl : Nat → Nat) (nr : Nat) (A : Mi) : Prop := ∃ L H, MS σ m w T bk nr (mK A) (mT A) L H ∧ (∀ t, t < 6 → L t = 0 ∨ (t < T ∧ flg w (T / 2) (mK A) t = true ∧ 0 < (mT A t).length)) ∧ (∀ t, t < T → ∀ r ∈ mT A t, RD σ m gl nr r) ∧ gi σ m 8 = nI (lef T (mK A)) ∧ gi σ (m + 3) 0 = nI (mMo A) ∧ gi σ (m + 3) 1 = nI (mSt A) ∧ gi σ (m + 3) 2 = nI (mPh A) ∧ gi σ (m + 3) 3 = nI (mTu A)
theorem lef_lt {T : Nat} {s : Sk} {c : Nat} (h : ∀ t, t < T → kc s t ≤ c) : lef T s ≤ c * T := by
  have : ∀ n, n ≤ T → sumF (kc s) n ≤ c * n := by
    intro n
    induction n with
    | zero => intro _; exact Nat.zero_le _
    | succ n ih => intro hn; have := ih (by omega); have := h n (by omega); show sumF (kc s) n + kc s n ≤ _; rw [Nat.mul_succ]; omega
  exact this T (Nat.le_refl _)
theorem ms_kc {σ : Sg} {m w T nr : Nat} {bk : Bool} {s : Sk} {tp : Nat → List Rn} {L H : Nat → Nat} (hT : T ≤ 6) (hms : MS σ m w T bk nr s tp L H) {t : Nat} (ht : t < T) : kc s t ≤ 256 := by
  have h1 := hms.2.2.2 t ht
  obtain ⟨p1, p2, p3, p4, p5, p6⟩ := hms.2.2.1 t (by omega)
  omega
theorem ms_lef {σ : Sg} {m w T nr : Nat} {bk : Bool} {s : Sk} {tp : Nat → List Rn} {L H : Nat → Nat} (hT : T ≤ 6) (hms : MS σ m w T bk nr s tp L H) : lef T s ≤ 1536 := by
  have := lef_lt (T := T) (s := s) (c := 256) (fun t ht => ms_kc hT hms ht)
  omega
theorem hdr_upr (l : List Rn) : (hdr (upr l)).1 = (hdr l).1 := by cases l <;> rfl
section TL2
variable {E : En} {m N w T nr : Nat} {σ : Sg} {bk : Bool} {gl : Nat → Nat} {A : Mi}
/-- the last run stands up -/
theorem c_turn (hL : LMill E m N) (h : RMl σ m w T bk gl nr A) (hT : T ≤ 6) (hn : nr ≤ N) (hN : N ≤ 700) : ∃ s', fX1_turnLast E m σ = some s' ∧ RMl s' m w T bk gl nr (tul gl T A) ∧ ∀ x k, ¬ (x = m + 3 ∧ k = 3) → x ≠ m + 9 → gi s' x k = gi σ x k := by
  obtain ⟨L, H, hms, hl0, hD, h8, t0, t1, t2, t3⟩ := h
  obtain ⟨l0, l4, l10, l12, l13, l17, l18, l5, l6, a1, a2, a3, a4, a5, a7, a8, a9, ltp⟩ := id hL
  have hle := ms_lef hT hms
  unfold fX1_turnLast
  rw [tk_ok l0, h8]
  by_cases h1 : lef T (mK A) = 1
  · rw [if_pos (by rw [h1]; rfl)]
    obtain ⟨e, q1, q2, q3⟩ := sum_one h1
    have hlen := hms.2.2.2 e q1
    rw [q2] at hlen
    obtain ⟨r, hr⟩ : ∃ r, mT A e = [r] := by
      cases hq : mT A e with
      | nil => rw [hq] at hlen; simp at hlen
      | cons r l => rw [hq] at hlen; cases l with
        | nil => exact ⟨r, rfl⟩
        | cons _ _ => simp at hlen
    have hoth : ∀ t, t < T → t ≠ e → mT A t = [] := by
      intro t ht hne
      have := hms.2.2.2 t ht
      rw [q3 t ht hne] at this
      exact List.eq_nil_of_length_eq_zero this.symm
    have hRD : RD σ m gl nr r := hD e q1 r (by rw [hr]; simp)
    have hb1 := hms.1.2.1
    have hb3 := hms.1.2.2.2.1
    have h7 := hms.1.2.2.2.2
    have hsum : sumF (fun t => if (hdr (mT A t)).2 then szl gl (hdr (mT A t)).1 else 0) T = if r.2 then szl gl r.1 else 0 := by
      have : ∀ n, n ≤ T → sumF (fun t => if (hdr (mT A t)).2 then szl gl (hdr (mT A t)).1 else 0) n = if e < n then (if r.2 then szl gl r.1 else 0) else 0 := by
        intro n
        induction n with
        | zero => intro _; rfl
        | succ n ih =>
          intro hn'
          show sumF _ n + _ = _
          rw [ih (by omega)]
          dsimp only
          by_cases hne : n = e
          · subst hne; rw [hr, if_neg (show ¬ n < n by omega), if_pos (show n < n + 1 by omega)]; simp
          · rw [hoth n (by omega) hne]
            by_cases hen : e < n
            · rw [if_pos hen, if_pos (show e < n + 1 by omega)]; simp
            · rw [if_neg hen, if_neg (show ¬ e < n + 1 by omega)]; simp
      rw [this T (Nat.le_refl _), if_pos q1]
    have fin : ∀ s2 : Sg, (∀ x k, ¬ (x = m + 3 ∧ k = 3) → x ≠ m + 9 → gi s2 x k = gi σ x k) → gi s2 (m + 3) 3 = nI (mTu A + if r.2 then szl gl r.1 else 0) → (∀ i l, r.1 = i :: l → gi s2 (m + 9) i = bI false) → RMl s2 m w T bk gl nr (tul gl T A) := by
      intro s2 f1 f2 f3
      unfold tul
      rw [if_pos h1]
      refine ⟨L, H, ⟨?_, ?_, fun t ht => ?_, fun t ht => ?_⟩, fun t ht => ?_, fun t ht r' hr' => ?_, ?_, ?_, ?_, ?_, ?_⟩
      · exact (ms_fr hms (fun x k he => f1 x k (by unfold esS at he; omega) (by unfold esS at he; omega))).1
      · exact (ms_fr hms (fun x k he => f1 x k (by unfold esS at he; omega) (by unfold esS at he; omega))).2.1
      · obtain ⟨p1, p2, p3, p4, p5, p6⟩ := hms.2.2.1 t ht
        refine ⟨by rw [f1 _ _ (by omega) (by omega)]; exact p1, by rw [f1 _ _ (by omega) (by omega)]; exact p2, p3, p4, by dsimp only [mT, upr]; rw [List.length_map]; exact p5, fun k hk => ?_⟩
        dsimp only [mT, upr] at hk ⊢
        rw [List.length_map] at hk
        rw [f1 _ _ (by omega) (by omega), p6 k hk]
        congr 1
        rw [List.getD_eq_getElem?_getD, List.getD_eq_getElem?_getD, List.getElem?_map]
        cases hq : (A.1 t)[k]? with
        | none => rfl
        | some _ => rfl
      · show _ = (upr _).length
        unfold upr
        rw [List.length_map]
        exact hms.2.2.2 t ht
      · have := hl0 t ht
        show _ ∨ _ ∧ _ ∧ 0 < (upr _).length
        unfold upr
        rw [List.length_map]
        exact this
      · have hr' : r' ∈ upr (mT A t) := hr'
        have hte : t = e := Decidable.byContradiction (fun hne => by rw [hoth t ht hne] at hr'; simp [upr] at hr')
        subst hte
        rw [hr] at hr'
        have hr' : r' = (r.1, false) := by simpa [upr] using hr'
        subst hr'
        refine ⟨fun _ => rfl, fun i l hz => ?_⟩
        obtain ⟨g1, g2, g3⟩ := hRD.2 i l hz
        exact ⟨g1, by rw [f1 _ _ (by omega) (by omega)]; exact g2, f3 i l hz⟩
      · rw [f1 _ _ (by omega) (by omega)]; exact h8
      · rw [f1 _ _ (by omega) (by omega)]; exact t0
      · rw [f1 _ _ (by omega) (by omega)]; exact t1
      · rw [f1 _ _ (by omega) (by omega)]; exact t2
      · rw [f2]; show _ = nI (mTu A + sumF _ T); rw [hsum]
    have body0 : ∀ i rec, i < T → i ≠ e → ∀ s2 : Sg, (∀ x k, ¬ (x = m + 3 ∧ k = 3) → x ≠ m + 9 → gi s2 x k = gi σ x k) → bX1_turnLast_11 E m rec (nI i) s2 = rec (nI (i + 1)) s2 := by
      intro i rec hi hne s2 f1
      obtain ⟨lt1, lt2⟩ := ltp i (by omega)
      have hms2 := ms_fr hms (fun x k he => f1 x k (by unfold esS at he; omega) (by unfold esS at he; omega))
      have hat := ms_at0 (t := i) hL hms2 (by omega)
      rw [hoth i hi hne] at hat
      unfold bX1_turnLast_11
      rw [hms2.1.2.1, if_neg (nI_ge hi (by omega)), dr_ok l4 a1.1, a1.2, ck_n (by omega) (by omega), nI_clamp (by omega), dr_ok lt1 lt2.1, hms2.1.2.2.2.1, hat, bd_ok, if_neg (by simp), c_isDownA hL, bd_ok, if_pos (by decide), bd_ok, lt_ok, ad1]
    have hend : ∀ rec s2, (∀ x k, ¬ (x = m + 3 ∧ k = 3) → x ≠ m + 9 → gi s2 x k = gi σ x k) → bX1_turnLast_11 E m rec (nI T) s2 = some (nI T, s2) := by
      intro rec s2 f1
      unfold bX1_turnLast_11
      rw [f1 _ _ (by omega) (by omega), hb1, if_pos (nI_le (Nat.le_refl _) (by omega))]
    obtain ⟨lt1, lt2⟩ := ltp e (by omega)
    have hat := ms_at0 (t := e) hL hms (by omega)
    rw [hr] at hat
    cases hd : r.2 with
    | false =>
      refine ⟨σ, bd_tr (nI T, σ) T (fun i => (nI i, σ)) (by show T < 1000000; omega) (fun i rec hi => ?_) (fun rec => hend _ _ (fun _ _ _ _ => rfl)) rfl, fin σ (fun _ _ _ _ => rfl) (by rw [hd]; exact t3) (fun i l hz => by rw [(hRD.2 i l hz).2.2, hd]), fun _ _ _ _ => rfl⟩
      by_cases hie : i = e
      · subst hie
        dsimp only
        unfold bX1_turnLast_11
        rw [hb1, if_neg (nI_ge hi (by omega)), dr_ok l4 a1.1, a1.2, ck_n (by omega) (by omega), nI_clamp (by omega), dr_ok lt1 lt2.1, hb3, hat, bd_ok, if_pos (by simp)]
        show bd (fX1_isDown E m (idI r.1) σ) _ = _
        rw [c_isDown hL h7 hn hN hRD, bd_ok, hd, if_pos (by decide), bd_ok, lt_ok, ad1]
      · exact body0 i _ hi hie σ (fun _ _ _ _ => rfl)
    | true =>
      obtain ⟨i0, l0', hz⟩ : ∃ i l, r.1 = i :: l := by
        cases hq : r.1 with
        | nil => have := hRD.1 hq; rw [hd] at this; cases this
        | cons i l => exact ⟨i, l, rfl⟩
      obtain ⟨g1, g2, g3⟩ := hRD.2 i0 l0' hz
      have f1 : ∀ x k, ¬ (x = m + 3 ∧ k = 3) → x ≠ m + 9 → gi (si (si σ (m + 3) 3 (nI (mTu A + szl gl r.1))) (m + 9) i0 (bI false)) x k = gi σ x k := fun x k h1 h2 => by rw [gs_ne (by omega), gs_ne (by omega)]
      refine ⟨si (si σ (m + 3) 3 (nI (mTu A + szl gl r.1))) (m + 9) i0 (bI false), bd_tr (nI T, si (si σ (m + 3) 3 (nI (mTu A + szl gl r.1))) (m + 9) i0 (bI false)) T (fun i => (nI i, if i ≤ e then σ else si (si σ (m + 3) 3 (nI (mTu A + szl gl r.1))) (m + 9) i0 (bI false))) (by show T < 1000000; omega) (fun i rec hi => ?_) (fun rec => ?_) ?_, fin _ f1 ?_ (fun i l hz' => ?_), f1⟩
      · by_cases hie : i = e
        · subst hie
          dsimp only
          rw [if_pos (Nat.le_refl _), if_neg (show ¬ i + 1 ≤ i by omega)]
          unfold bX1_turnLast_11
          rw [hb1, if_neg (nI_ge hi (by omega)), dr_ok l4 a1.1, a1.2, ck_n (by omega) (by omega), nI_clamp (by omega), dr_ok lt1 lt2.1, hb3, hat, bd_ok, if_pos (by simp)]
          show bd (fX1_isDown E m (idI r.1) σ) _ = _
          rw [c_isDown hL h7 hn hN hRD, bd_ok, hd, if_neg (by decide)]
          show bd (dr _ E 100 (fun x18 => ck 3 (ln E x18) (dr _ E 100 (fun x20 => ck (idI r.1) _ (ck 3 _ (ss (si σ x18 _ (_ + gi σ x20 (idI r.1).toNatClampNeg)) (fun s23 => dr _ E 101 (fun x24 => ck (idI r.1) _ (ss (si s23 x24 (idI r.1).toNatClampNeg _) _))))))))) _ = _
          rw [hz, show idI (i0 :: l0') = nI i0 from rfl, dr_ok l12 a3.1, a3.2, i3, ck_n (by omega) (by omega), dr_ok l5 a8.1, a8.2, ck_n (by omega) (by omega), ck_n (by omega) (by omega), nI_clamp (n := 3) (by omega), nI_clamp (n := i0) (by omega), t3, g2, nI_add, ss_ok, dr_ok l6 a9.1, a9.2, ck_n (by omega) (by omega), show vp_nar .boolean (0 : Int32) = bI false by decide, ss_ok, bd_ok, lt_ok, ad1, hz]
        · dsimp only
          by_cases hlt : i ≤ e
          · rw [if_pos hlt, if_pos (show i + 1 ≤ e by omega)]
            exact body0 i _ hi hie σ (fun _ _ _ _ => rfl)
          · rw [if_neg hlt, if_neg (show ¬ i + 1 ≤ e by omega)]
            exact body0 i _ hi hie _ f1
      · dsimp only; rw [if_neg (show ¬ T ≤ e by omega)]; exact hend _ _ f1
      · rw [if_pos (Nat.zero_le _)]; rfl
      · rw [gs_ne (by omega), gs_eq, hd]; rfl
      · rw [hz] at hz'
        injection hz' with h1 h2
        subst h1
        rw [gs_eq]
  · rw [i1, if_neg (fun q => h1 ((nI_eq (by omega) (by omega)).mp q))]
    refine ⟨σ, rfl, ?_, fun _ _ _ _ => rfl⟩
    unfold tul
    rw [if_neg h1]
    exact ⟨L, H, hms, hl0, hD, h8, t0, t1, t2, t3⟩
end TL2
