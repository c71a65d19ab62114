/-! growth in the reference -/
section MG
variable {E : En} {n R i m : Nat} {σ : Sg} {F W : Nat → Nat} {tu : Bool} {g : Gr}
theorem m_isLess (hM : LMod E) (hM2 : LMo2 E) {x y : Nat} (hx : x < n) (hy : y < n) (hn : n ≤ 300) (hk : ∀ i, i < n → gi σ 396 (26 + i) = nI (F i)) (hF : ∀ i, i < n → F i < 256) : fX7_isLess E 395 (nI x) (nI y) σ = some (bI (lsB F x y), σ) := by
  have f1 := hF x hx
  have f2 := hF y hy
  unfold fX7_isLess lsB
  rw [tk_ok hM.1, dr_ok hM.2.1 hM2.1.1, hM2.1.2, show (26 : Int32) = nI 26 from rfl, nI_add, nI_add, ck_n (by omega) (by omega), ck_n (by omega) (by omega), nI_clamp (by omega), nI_clamp (by omega), hk x hx, hk y hy]
  by_cases h1 : F x = F y
  · rw [if_pos (by rw [h1])]
    by_cases h3 : y ≤ x
    · rw [if_pos (nI_le h3 (by omega)), bd_ok, kb_0, decide_eq_false (by omega)]; rfl
    · rw [if_neg (nI_ge (by omega) (by omega)), bd_ok, kb_1, decide_eq_true (by omega)]; rfl
  · rw [if_neg (fun q => h1 ((nI_eq (by omega) (by omega)).mp q)), ck_n (by omega) (by omega), ck_n (by omega) (by omega)]
    by_cases h2 : F y ≤ F x
    · rw [if_pos (nI_le h2 (by omega)), bd_ok, kb_0, decide_eq_false (by omega)]; rfl
    · rw [if_neg (nI_ge (by omega) (by omega)), bd_ok, kb_1, decide_eq_true (by omega)]; rfl
theorem m_doesFall (hM : LMod E) (hM2 : LMo2 E) {r s5 : Nat} (h6 : gi σ 396 6 = nI s5) (hs : s5 ≤ 1) (hr : r < 2 ^ 31) : fX7_doesFall E 395 (nI r) σ = some (bI (fal (s5 == 1) r), σ) := by
  unfold fX7_doesFall fal
  rw [tk_ok hM.1, dr_ok hM.2.1 hM2.1.1, hM2.1.2, i6, ck_n (by omega) (by omega), nI_clamp (by omega), h6, i2, im_n hr (by omega) (by omega), i1]
  by_cases h1 : s5 = 1
  · rw [if_neg (by rw [h1]; simp), h1]
    by_cases h : r % 2 = 1
    · rw [h, if_neg (by simp), bd_ok, kb_n1]; rfl
    · rw [if_pos (fun q => h ((nI_eq (by omega) (by omega)).mp q)), bd_ok]
      have : (r % 2 == 1) = false := by simpa using h
      rw [this]; exact kb_0
  · rw [if_pos (fun q => h1 ((nI_eq (by omega) (by omega)).mp q)), bd_ok]
    have : (s5 == 1) = false := by simpa using h1
    rw [this]; exact kb_0
theorem m_firstOf (hM : LMod E) (hM2 : LMo2 E) {r s5 : Nat} (h6 : gi σ 396 6 = nI s5) (hs : s5 ≤ 1) (hr : r < 2 ^ 31) (hn : n ≤ 300) (hk : ∀ i, i < n → gi σ 396 (26 + i) = nI (F i)) (hF : ∀ i, i < n → F i < 256) (h5 : gi σ 395 10 = nI m) (hm : m ≤ 16) (hw : ∀ j, j < m → gi σ 401 j = nI (W j) ∧ W j < n) (hro : ∀ j, j < m → gi σ 402 j = nI (gR g (W j)) ∧ gR g (W j) < 2 ^ 31) : fX7_firstOf E 395 (nI r) σ = some (optI (abst F W (fun x => gR g x == r) (fal (s5 == 1) r) m), σ) := by
  obtain ⟨m0, m1, m2, m3, m4, m5, m6, m7, mz⟩ := id hM
  obtain ⟨n1, n2, n3, n4, n5, n6, n7, nz⟩ := id hM2
  unfold fX7_firstOf
  rw [tk_ok m0]
  refine bd_tr ((optI (abst F W (fun x => gR g x == r) (fal (s5 == 1) r) m), nI m), σ) m (fun j => ((optI (abst F W (fun x => gR g x == r) (fal (s5 == 1) r) j), nI j), σ)) (by show m < 1000000; omega) (fun j rec hj => ?_) (fun rec => ?_) rfl
  · obtain ⟨w1, w2⟩ := hw j hj
    obtain ⟨o1, o2⟩ := hro j hj
    dsimp only
    unfold bX7_firstOf_4
    rw [h5, if_neg (nI_ge hj (by omega)), dr_ok m7 n7.1, n7.2, ck_n (by omega) (by omega), nI_clamp (by omega), o1]
    have hab : abst F W (fun x => gR g x == r) (fal (s5 == 1) r) (j + 1) = match abst F W (fun x => gR g x == r) (fal (s5 == 1) r) j with | none => if gR g (W j) == r then some j else none | some b => if (gR g (W j) == r) && (lsB F (W j) (W b) != fal (s5 == 1) r) then some j else some b := rfl
    rw [hab]
    by_cases hq : gR g (W j) = r
    · rw [if_neg (fun q => q (by rw [hq]))]
      have hq' : (gR g (W j) == r) = true := by simpa using hq
      cases hs : abst F W (fun x => gR g x == r) (fal (s5 == 1) r) j with
      | none =>
        rw [if_pos (by rfl), bd_ok, lt_ok, ad1]
        dsimp only
        rw [if_pos hq']; rfl
      | some b =>
        obtain ⟨b1, b2⟩ := abst_lt hs
        obtain ⟨w3, w4⟩ := hw b (by omega)
        rw [show optI (some b) = nI b from rfl, if_neg (nI_nm1 (by omega)), dr_ok m6 n6.1, n6.2, ck_n (by omega) (by omega), ck_n (by omega) (by omega), nI_clamp (by omega), w1, w3, m_isLess hM hM2 w2 w4 hn hk hF, bd_ok, m_doesFall hM hM2 h6 (by assumption) hr, bd_ok]
        dsimp only
        rw [hq', Bool.true_and]
        by_cases hz : lsB F (W j) (W b) = fal (s5 == 1) r
        · rw [if_pos (by rw [hz]), bd_ok, lt_ok, ad1, hz, if_neg (by simp)]; rfl
        · rw [if_neg (by rw [bI_e]; exact hz), bd_ok, lt_ok, ad1, if_pos (by simpa using hz)]; rfl
    · rw [if_pos (fun q => hq ((nI_eq o2 hr).mp q)), bd_ok, lt_ok, ad1]
      have hq' : (gR g (W j) == r) = false := by simpa using hq
      cases hs : abst F W (fun x => gR g x == r) (fal (s5 == 1) r) j with
      | none => dsimp only; rw [hq', if_neg (by decide)]
      | some b => dsimp only; rw [hq', Bool.false_and, if_neg (by decide)]
  · unfold bX7_firstOf_4
    dsimp only
    rw [h5, if_pos (nI_le (Nat.le_refl _) (by omega))]
theorem m_comesIn (hM : LMod E) (hM2 : LMo2 E) {u v : Int32} (h : gi σ 395 10 = nI m) (hm : m < 16) : fX7_comesIn E 395 u v σ = some (si (si (si σ 401 m u) 402 m v) 395 10 (nI (m + 1))) := by
  obtain ⟨m0, m1, m2, m3, m4, m5, m6, m7, mz⟩ := id hM
  obtain ⟨n1, n2, n3, n4, n5, n6, n7, nz⟩ := id hM2
  unfold fX7_comesIn
  rw [tk_ok m0, dr_ok m6 n6.1, n6.2, h, ck_n (by omega) (by omega), nI_clamp (by omega), ss_ok, dr_ok m7 n7.1, n7.2, gs_ne (by omega), h, ck_n (by omega) (by omega), nI_clamp (by omega), ss_ok, gs_ne (by omega), gs_ne (by omega), h, ad1, ss_ok]
/-- the reference, while runs grow -/
def GM (σ : Sg) (n R i : Nat) (g : Gr) : Prop := ∃ W, Rs (inr R n i g) W (nxt R n i - i) ∧ gi σ 395 10 = nI (nxt R n i - i) ∧ (∀ j, j < nxt R n i - i → gi σ 401 j = nI (W j)) ∧ (∀ j, j < nxt R n i - i → gi σ 402 j = nI (gR g (W j))) ∧ (∀ p, p < i → gi σ 396 (626 + p) = nI ((gO g).getD p 0)) ∧ (∀ x, x ∈ gO g → gi σ 396 (326 + x) = nI (gR g x)) ∧ ∀ r, r ≤ gC g → gi σ 396 (926 + r) = nI (gB g r)
def esG (x k : Nat) : Prop := (x ≠ 396 ∨ k < 326 ∨ 1227 ≤ k) ∧ x ≠ 401 ∧ x ≠ 402 ∧ ¬ (x = 395 ∧ k = 10)
theorem m_gstep (hM : LMod E) (hM2 : LMo2 E) {s5 : Nat} (h6 : gi σ 396 6 = nI s5) (hs : s5 ≤ 1) (htu : tu = (s5 == 1)) (hn : n ≤ 300) (hR : 2 ≤ R) (hR2 : R ≤ 16) (h2 : gi σ 396 0 = nI n) (hk : ∀ i, i < n → gi σ 396 (26 + i) = nI (F i)) (hF : ∀ i, i < n → F i < 256) (hi : i < n) (hgi : GI F n R tu i g) (h : GM σ n R i g) (rec : Int32 → Int32 → Int32 → Sg → Option ((Int32 × Int32 × Int32) × Sg)) :
    ∃ s, bX7_laysRuns_51 E 395 396 rec (nI (nxt R n i)) (nI (gC g)) (nI i) σ = rec (nI (nxt R n (i + 1))) (nI (gC (gstp F n R tu i g))) (nI (i + 1)) s ∧ GM s n R (i + 1) (gstp F n R tu i g) ∧ ∀ x k, esG x k → gi s x k = gi σ x k := by
  obtain ⟨W, r1, r2, r3, r4, r5, r6, r7⟩ := h
  obtain ⟨m0, m1, m2, m3, m4, m5, m6, m7, mz⟩ := id hM
  obtain ⟨n1, n2, n3, n4, n5, n6, n7, nz⟩ := id hM2
  obtain ⟨x1, x2, x3, x4, x5, x6, x7⟩ := nxt_s hR hi
  obtain ⟨hp, hc⟩ := gi_pick hR hi hgi
  have hci := gi_s hR hi hgi
  have hcl := gC_lt (by omega) hci
  have e3 : gC (gstp F n R tu i g) = gcu F n R tu i g := rfl
  rw [e3] at hcl
  have e4 : ∀ r, gB (gstp F n R tu i g) r = if r = gcu F n R tu i g ∧ gcu F n R tu i g ≠ gC g then i else gB g r := fun r => rfl
  have e1 : gO (gstp F n R tu i g) = gO g ++ [gkk F n R tu i g] := rfl
  have hroom : nxt R n i - i ≤ 16 := by unfold nxt; omega
  have hwn : ∀ j, j < nxt R n i - i → gi σ 401 j = nI (W j) ∧ W j < n := fun j hj => ⟨r3 j hj, by have := (r1.1 j hj).1; omega⟩
  have hro : ∀ j, j < nxt R n i - i → gi σ 402 j = nI (gR g (W j)) ∧ gR g (W j) < 2 ^ 31 := fun j hj => ⟨r4 j hj, gR_lt hn (by omega) hgi (r1.1 j hj).1⟩
  obtain ⟨⟨k1, k2, k3⟩, k4⟩ := gpk_some hp
  rw [abst_pk r1] at hp
  rw [e3]
  generalize hcd : gcu F n R tu i g = c at *
  generalize hkd : gkk F n R tu i g = k at *
  obtain ⟨b, hb, hWb⟩ : ∃ b, abst F W (fun x => gR g x == c) (fal tu c) (nxt R n i - i) = some b ∧ W b = k := by
    cases hs : abst F W (fun x => gR g x == c) (fal tu c) (nxt R n i - i) with
    | none => rw [hs] at hp; cases hp
    | some b => rw [hs] at hp; injection hp with hp; exact ⟨b, rfl, hp⟩
  obtain ⟨hb1, hb2⟩ := abst_lt hb
  have hbn : nI b ≠ -1 := nI_nm1 (by omega)
  have hW := hwn b hb1
  rw [hWb] at hW
  have hgc : gC g < 2 ^ 31 := by rcases hc with q | ⟨q, _⟩ <;> omega
  have nO : ∀ (s : Sg) (r : Nat), r < 2 ^ 31 → (∀ x k, ¬ (x = 396 ∧ 926 ≤ k) → gi s x k = gi σ x k) → fX7_firstOf E 395 (nI r) s = some (optI (abst F W (fun x => gR g x == r) (fal tu r) (nxt R n i - i)), s) := fun s r hr hf => by
    rw [htu]
    exact m_firstOf hM hM2 (by rw [hf _ _ (by omega)]; exact h6) hs hr hn (fun i hi => by rw [hf _ _ (by omega)]; exact hk i hi) hF (by rw [hf _ _ (by omega)]; exact r2) hroom (fun j hj => by rw [hf _ _ (by omega)]; exact hwn j hj) (fun j hj => by rw [hf _ _ (by omega)]; exact hro j hj)
  have sel : ∃ s37, (bd (fX7_firstOf E 395 (nI (gC g)) σ) (fun r35 s33 => if ¬ r35 = (-1 : Int32) then (some ((nI (gC g), r35), s33)) else (lt (nI (gC g) + (1 : Int32)) (fun v38 => ck ((926 : Int32) + v38) 7827 (ss (si s33 396 ((926 : Int32) + v38).toNatClampNeg (nI i)) (fun s40 => bd (fX7_firstOf E 395 v38 s40) (fun r43 s41 => some ((v38, r43), s41)))))))) = some ((nI c, nI b), s37) ∧ (∀ r, r ≤ c → gi s37 396 (926 + r) = nI (gB (gstp F n R tu i g) r)) ∧ ∀ x k, ¬ (x = 396 ∧ 926 ≤ k ∧ k < 1227) → gi s37 x k = gi σ x k := by
    rw [nO σ (gC g) hgc (fun _ _ _ => rfl), bd_ok]
    rcases hc with q | ⟨q, q', q3⟩
    · rw [← q, hb, show optI (some b) = nI b from rfl, if_pos hbn]
      refine ⟨σ, rfl, fun r hr => ?_, fun _ _ _ => rfl⟩
      rw [e4, if_neg (show ¬ (r = c ∧ c ≠ gC g) by omega)]
      exact r7 r (by omega)
    · rw [abst_pk r1] at q'
      have : abst F W (fun x => gR g x == gC g) (fal tu (gC g)) (nxt R n i - i) = none := by
        cases hs : abst F W (fun x => gR g x == gC g) (fal tu (gC g)) (nxt R n i - i) with
        | none => rfl
        | some b => rw [hs] at q'; cases q'
      rw [this, show optI none = -1 from rfl, if_neg (by simp), lt_ok, ad1, ← q, show (926 : Int32) = nI 926 from rfl, nI_add, ck_n (by omega) (by omega), nI_clamp (by omega), ss_ok, nO _ c (by omega) (fun x k z => gs_ne (by omega)), hb, bd_ok]
      refine ⟨_, rfl, fun r hr => ?_, fun x k z => gs_ne (by omega)⟩
      rw [e4]
      by_cases hrc : r = c
      · rw [if_pos (by omega), hrc, gs_eq]
      · rw [if_neg (by omega), gs_ne (by omega)]; exact r7 r (by omega)
  obtain ⟨s37, e37, t7, f37⟩ := sel
  unfold bX7_laysRuns_51
  rw [m_many hM hM2, bd_ok, h2, if_neg (nI_ge hi (by omega)), n1.2]
  have hnest : ∀ (k : Int32 × Int32 → Sg → Option ((Int32 × Int32 × Int32) × Sg)), bd (fX7_firstOf E 395 (nI (gC g)) σ) (fun r35 s33 => bd (if ¬ r35 = (-1 : Int32) then (some ((nI (gC g), r35), s33)) else (lt (nI (gC g) + (1 : Int32)) (fun v38 => ck ((926 : Int32) + v38) 7827 (ss (si s33 396 ((926 : Int32) + v38).toNatClampNeg (nI i)) (fun s40 => bd (fX7_firstOf E 395 v38 s40) (fun r43 s41 => some ((v38, r43), s41))))))) k) = k (nI c, nI b) s37 := by
    intro k
    generalize fX7_firstOf E 395 (nI (gC g)) σ = X at e37 ⊢
    cases X with
    | none => cases e37
    | some r => obtain ⟨v, s⟩ := r; rw [bd_ok] at e37 ⊢; rw [e37, bd_ok]
  rw [hnest]
  dsimp only
  have hko : ∀ j, j < nxt R n i - i → gi s37 401 j = nI (W j) := fun j hj => by rw [f37 _ _ (by omega)]; exact r3 j hj
  have hkr : ∀ j, j < nxt R n i - i → gi s37 402 j = nI (gR g (W j)) := fun j hj => by rw [f37 _ _ (by omega)]; exact r4 j hj
  have h10 : gi s37 395 10 = nI (nxt R n i - i) := by rw [f37 _ _ (by omega)]; exact r2
  have hkn : k < n := hW.2
  rw [dr_ok m6 n6.1, n6.2, ck_n (by omega) (by omega), nI_clamp (by omega), lt_ok, hko b hb1, hWb, show (626 : Int32) = nI 626 from rfl, nI_add, ck_n (by omega) (by omega), nI_clamp (by omega), ss_ok, show (326 : Int32) = nI 326 from rfl, nI_add, ck_n (by omega) (by omega), nI_clamp (by omega), ss_ok]
  have e10 : gi (si (si s37 396 (626 + i) (nI k)) 396 (326 + k) (nI c)) 395 10 = nI (nxt R n i - i) := by rw [gs_ne (by omega), gs_ne (by omega), h10]
  rw [e10, i1, sub_n (by omega), ss_ok, gs_eq, ck_n (by omega) (by omega), ck_n (by omega) (by omega), nI_clamp (n := nxt R n i - i - 1) (by omega), ss_ok, dr_ok m7 n7.1, n7.2, gs_ne (show (395 : Nat) ≠ 401 ∨ 10 ≠ b by omega), gs_eq, ck_n (by omega) (by omega), ck_n (by omega) (by omega), nI_clamp (by omega), ss_ok, m_many hM hM2, bd_ok]
  generalize hs8 : si (si (si (si (si s37 396 (626 + i) (nI k)) 396 (326 + k) (nI c)) 395 10 (nI (nxt R n i - i - 1))) 401 b _) 402 b _ = s8
  have f8 : ∀ x k', ¬ (x = 396 ∧ (k' = 626 + i ∨ k' = 326 + k)) → ¬ (x = 395 ∧ k' = 10) → ¬ (x = 401 ∧ k' = b) → ¬ (x = 402 ∧ k' = b) → gi s8 x k' = gi s37 x k' := fun x k' q1 q2 q3 q4 => by rw [← hs8]; simp (disch := omega) only [i0, i1, i2, i3, i4, i5, i6, i7, i8, mle, mlt, meq, if_pos, if_neg, dr_s, tk_s, ck_m, nI_clamp, lt_ok, ss_ok, nI_add, pk_mul, sub_n, bd_ok, bv_ok, gs_ne, gs_eq]
  have g10 : gi s8 395 10 = nI (nxt R n i - i - 1) := by rw [← hs8]; simp (disch := omega) only [i0, i1, i2, i3, i4, i5, i6, i7, i8, mle, mlt, meq, if_pos, if_neg, dr_s, tk_s, ck_m, nI_clamp, lt_ok, ss_ok, nI_add, pk_mul, sub_n, bd_ok, bv_ok, gs_ne, gs_eq]
  have g1i : gi s8 396 (626 + i) = nI k := by rw [← hs8]; simp (disch := omega) only [i0, i1, i2, i3, i4, i5, i6, i7, i8, mle, mlt, meq, if_pos, if_neg, dr_s, tk_s, ck_m, nI_clamp, lt_ok, ss_ok, nI_add, pk_mul, sub_n, bd_ok, bv_ok, gs_ne, gs_eq]
  have g1k : gi s8 396 (326 + k) = nI c := by rw [← hs8]; simp (disch := omega) only [i0, i1, i2, i3, i4, i5, i6, i7, i8, mle, mlt, meq, if_pos, if_neg, dr_s, tk_s, ck_m, nI_clamp, lt_ok, ss_ok, nI_add, pk_mul, sub_n, bd_ok, bv_ok, gs_ne, gs_eq]
  have g401 : gi s8 401 b = nI (W (nxt R n i - i - 1)) := by rw [← hs8]; simp (disch := omega) only [i0, i1, i2, i3, i4, i5, i6, i7, i8, mle, mlt, meq, if_pos, if_neg, dr_s, tk_s, ck_m, nI_clamp, lt_ok, ss_ok, nI_add, pk_mul, sub_n, bd_ok, bv_ok, gs_ne, gs_eq]; exact hko _ (by omega)
  have g402 : gi s8 402 b = nI (gR g (W (nxt R n i - i - 1))) := by rw [← hs8]; simp (disch := omega) only [i0, i1, i2, i3, i4, i5, i6, i7, i8, mle, mlt, meq, if_pos, if_neg, dr_s, tk_s, ck_m, nI_clamp, lt_ok, ss_ok, nI_add, pk_mul, sub_n, bd_ok, bv_ok, gs_ne, gs_eq]; exact hkr _ (by omega)
  have hdel := rs_del r1 hb1
  have hro1 : ∀ x, x < nxt R n i → gR (gstp F n R tu i g) x = gR g x := fun x hx => by
    show (if x = nxt R n i ∧ nxt R n i < n then _ else gR g x) = _
    rw [if_neg (by omega)]
  have w401 : ∀ j, j < nxt R n i - i - 1 → gi s8 401 j = nI ((fun j => if j = b then W (nxt R n i - i - 1) else W j) j) := fun j hj => by
    dsimp only
    by_cases hjb : j = b
    · rw [if_pos hjb, hjb]; exact g401
    · rw [if_neg hjb, f8 _ _ (by omega) (by omega) (by omega) (by omega)]; exact hko j (by omega)
  have w402 : ∀ j, j < nxt R n i - i - 1 → gi s8 402 j = nI (gR (gstp F n R tu i g) ((fun j => if j = b then W (nxt R n i - i - 1) else W j) j)) := fun j hj => by
    dsimp only
    by_cases hjb : j = b
    · rw [if_pos hjb, hjb, hro1 _ (r1.1 _ (by omega)).1]; exact g402
    · rw [if_neg hjb, f8 _ _ (by omega) (by omega) (by omega) (by omega), hro1 _ (r1.1 _ (by omega)).1]; exact hkr j (by omega)
  have mk : ∀ (s : Sg) (W' : Nat → Nat), Rs (inr R n (i + 1) (gstp F n R tu i g)) W' (nxt R n (i + 1) - (i + 1)) → gi s 395 10 = nI (nxt R n (i + 1) - (i + 1)) → (∀ j, j < nxt R n (i + 1) - (i + 1) → gi s 401 j = nI (W' j)) → (∀ j, j < nxt R n (i + 1) - (i + 1) → gi s 402 j = nI (gR (gstp F n R tu i g) (W' j))) → (∀ k, gi s 396 k = gi s8 396 k) → GM s n R (i + 1) (gstp F n R tu i g) := by
    intro s W' z1 z2 z3 z4 z5
    refine ⟨W', z1, z2, z3, z4, fun p hp => ?_, fun x hx => ?_, fun r hr => ?_⟩
    · rw [z5, e1]
      by_cases hpi : p = i
      · rw [hpi, g1i, List.getD_eq_getElem?_getD, List.getElem?_append_right (by rw [hgi.1]; exact Nat.le_refl _), hgi.1, Nat.sub_self]; rfl
      · rw [f8 _ _ (by omega) (by omega) (by omega) (by omega), f37 _ _ (by omega), r5 p (by omega), List.getD_eq_getElem?_getD, List.getD_eq_getElem?_getD, List.getElem?_append_left (by rw [hgi.1]; omega)]
    · rw [z5]
      rw [e1] at hx
      by_cases hxk : x = k
      · rw [hxk, g1k, hro1 k k1, k3]
      · have hxo : x ∈ gO g := by
          rcases List.mem_append.mp hx with q | q
          · exact q
          · exact absurd (List.mem_singleton.mp q) hxk
        have hxn := hgi.2.2.1 x hxo
        rw [f8 _ _ (by omega) (by omega) (by omega) (by omega), f37 _ _ (by omega), hro1 x hxn]; exact r6 x hxo
    · rw [e3] at hr
      rw [z5, f8 _ _ (by omega) (by omega) (by omega) (by omega)]; exact t7 r hr
  have hfr : ∀ x k', esG x k' → gi s8 x k' = gi σ x k' := fun x k' he => by
    unfold esG at he
    rw [f8 _ _ (by omega) (by omega) (by omega) (by omega), f37 _ _ (by omega)]
  rw [hfr 396 0 (by unfold esG; omega), h2]
  have hSn : ¬ inr R n i g (nxt R n i) := fun z => by have := z.1; omega
  by_cases hlast : n ≤ nxt R n i
  · have hS : ∀ x, (inr R n i g x ∧ x ≠ W b) ↔ inr R n (i + 1) (gstp F n R tu i g) x := fun x => by
      rw [inr_s hR hi, hkd, hWb]
      constructor
      · exact Or.inl
      · rintro (z | z)
        · exact z
        · omega
    rw [if_pos (nI_le hlast (by omega)), bd_ok, lt_ok, nI_add, x7 (by omega)]
    have e : nxt R n (i + 1) - (i + 1) = nxt R n i - i - 1 := by rw [x7 (by omega)]; omega
    refine ⟨s8, rfl, mk s8 _ (by rw [e]; exact rs_congr' hdel hS) (by rw [e]; exact g10) (by rw [e]; exact w401) (by rw [e]; exact w402) (fun _ => rfl), hfr⟩
  · have hS : ∀ x, ((inr R n i g x ∧ x ≠ W b) ∨ x = nxt R n i) ↔ inr R n (i + 1) (gstp F n R tu i g) x := fun x => by
      rw [inr_s hR hi, hkd, hWb]
      constructor
      · rintro (z | z)
        · exact Or.inl z
        · refine Or.inr ⟨z, by omega, fun q => ?_, by omega⟩
          have := hgi.2.2.1 x q; omega
      · rintro (z | z)
        · exact Or.inl z
        · exact Or.inr z.1
    have e : nxt R n (i + 1) - (i + 1) = nxt R n i - i - 1 + 1 := by rw [x6 (by omega)]; omega
    rw [if_neg (nI_ge (by omega) (by omega)), m_isLess hM hM2 (n := n) (F := F) (by omega) hkn hn (fun j hj => by rw [hfr _ _ (by unfold esG; omega)]; exact hk j hj) hF, bd_ok, m_doesFall hM hM2 (by rw [hfr _ _ (by unfold esG; omega)]; exact h6) hs (by omega), bd_ok, ← htu]
    have hw70 : (if ¬ bI (lsB F (nxt R n i) k) = bI (fal tu c) then (some ((nI c + nI 1), s8)) else (some (nI c, s8))) = some (nI (if lsB F (nxt R n i) k == fal tu c then c else c + 1), s8) := by
      by_cases hz : lsB F (nxt R n i) k = fal tu c
      · rw [if_neg (fun q => q (by rw [hz])), hz]; simp
      · have : (lsB F (nxt R n i) k == fal tu c) = false := by simpa using hz
        rw [if_pos (by rw [bI_e]; exact hz), this, nI_add]; rfl
    rw [hw70, bd_ok, m_comesIn hM hM2 g10 (by omega), bv_ok, lt_ok, nI_add, bd_ok, lt_ok, nI_add, x6 (by omega)]
    refine ⟨_, rfl, mk _ (fun j => if j = nxt R n i - i - 1 then nxt R n i else (fun j => if j = b then W (nxt R n i - i - 1) else W j) j) (by rw [e]; exact rs_congr' (rs_add hdel (fun z => hSn z.1)) hS) ?_ (fun j hj => ?_) (fun j hj => ?_) (fun k => ?_), fun x k' he => ?_⟩
    · rw [gs_eq, e]
    · rw [e] at hj
      by_cases hjm : j = nxt R n i - i - 1
      · rw [if_pos hjm, hjm, gs_ne (by omega), gs_ne (by omega), gs_eq]
      · rw [if_neg hjm, gs_ne (by omega), gs_ne (by omega), gs_ne (by omega)]; exact w401 j (by omega)
    · rw [e] at hj
      by_cases hjm : j = nxt R n i - i - 1
      · rw [if_pos hjm, hjm, gs_ne (by omega), gs_eq]
        congr 1
        show _ = (if nxt R n i = nxt R n i ∧ nxt R n i < n then (if lsB F (nxt R n i) (gkk F n R tu i g) == fal tu (gcu F n R tu i g) then gcu F n R tu i g else gcu F n R tu i g + 1) else _)
        rw [if_pos (show nxt R n i = nxt R n i ∧ nxt R n i < n from ⟨rfl, by omega⟩), hkd, hcd]
      · rw [if_neg hjm, gs_ne (by omega), gs_ne (by omega), gs_ne (by omega)]; exact w402 j (by omega)
    · rw [gs_ne (by omega), gs_ne (by omega), gs_ne (by omega)]
    · unfold esG at he
      rw [gs_ne (by omega), gs_ne (by omega), gs_ne (by omega)]; exact hfr x k' (by unfold esG; omega)
theorem m_laysRuns (hM : LMod E) (hM2 : LMo2 E) {s5 : Nat} (h6 : gi σ 396 6 = nI s5) (hs : s5 ≤ 1) (htu : tu = (s5 == 1)) (hn0 : 0 < n) (hn : n ≤ 300) (hR : 2 ≤ R) (hR2 : R ≤ 16) (h1 : gi σ 396 1 = nI R) (h2 : gi σ 396 0 = nI n) (hk : ∀ i, i < n → gi σ 396 (26 + i) = nI (F i)) (hF : ∀ i, i < n → F i < 256) :
    ∃ s, fX7_laysRuns E 395 σ = some s ∧ gi s 396 14 = nI (nrG (gst F n R tu n)) ∧ (∀ x, x < n → gi s 396 (326 + x) = nI (gR (gst F n R tu n) x)) ∧ (∀ p, p < n → gi s 396 (626 + p) = nI ((gO (gst F n R tu n)).getD p 0)) ∧ (∀ r, r ≤ nrG (gst F n R tu n) → gi s 396 (926 + r) = nI (bgG n (gst F n R tu n) r)) ∧ ∀ x k, esG x k → ¬ (x = 396 ∧ k = 14) → gi s x k = gi σ x k := by
  obtain ⟨m0, m1, m2, m3, m4, m5, m6, m7, mz⟩ := id hM
  obtain ⟨n1, n2, n3, n4, n5, n6, n7, nz⟩ := id hM2
  have hnx : nxt R n 0 ≤ 16 ∧ nxt R n 0 ≤ n ∧ nxt R n 0 = min R n := by unfold nxt; omega
  unfold fX7_laysRuns
  rw [tk_ok m0, ss_ok]
  refine bd_in (nxt R n 0) (fun i b => b.1 = nI i ∧ gi b.2 395 10 = nI i ∧ (∀ j, j < i → gi b.2 401 j = nI j) ∧ (∀ j, j < i → gi b.2 402 j = nI 0) ∧ ∀ x k, x ≠ 401 → x ≠ 402 → ¬ (x = 395 ∧ k = 10) → gi b.2 x k = gi σ x k)
    (fun b => b.1 = nI (nxt R n 0) ∧ gi b.2 395 10 = nI (nxt R n 0) ∧ (∀ j, j < nxt R n 0 → gi b.2 401 j = nI j) ∧ (∀ j, j < nxt R n 0 → gi b.2 402 j = nI 0) ∧ ∀ x k, x ≠ 401 → x ≠ 402 → ¬ (x = 395 ∧ k = 10) → gi b.2 x k = gi σ x k) (by show nxt R n 0 < 1000000; omega) ⟨rfl, gs_eq, fun j hj => absurd hj (Nat.not_lt_zero j), fun j hj => absurd hj (Nat.not_lt_zero j), fun x k q1 q2 q3 => gs_ne (by omega)⟩ ?_ ?_ ?_
  · rintro i ⟨v, s⟩ rec hi ⟨rfl, q1, q2, q3, q4⟩
    dsimp only at q1 q2 q3 q4 ⊢
    unfold bX7_laysRuns_7
    rw [m_many hM hM2, bd_ok, q4 396 0 (by omega) (by omega) (by omega), h2, if_neg (nI_ge (by omega) (by omega)), m_room hM hM2, bd_ok, q4 396 1 (by omega) (by omega) (by omega), h1, q1, if_neg (nI_ge (by omega) (by omega)), m_comesIn hM hM2 q1 (by omega), bv_ok, lt_ok, ad1]
    refine ⟨_, rfl, rfl, gs_eq, fun j hj => ?_, fun j hj => ?_, fun x k z1 z2 z3 => ?_⟩
    · dsimp only
      by_cases hji : j = i
      · subst hji; simp (disch := omega) only [i0, i1, i2, i3, i4, i5, i6, i7, i8, mle, mlt, meq, if_pos, if_neg, dr_s, tk_s, ck_m, nI_clamp, lt_ok, ss_ok, nI_add, pk_mul, sub_n, bd_ok, bv_ok, gs_ne, gs_eq]
      · simp (disch := omega) only [i0, i1, i2, i3, i4, i5, i6, i7, i8, mle, mlt, meq, if_pos, if_neg, dr_s, tk_s, ck_m, nI_clamp, lt_ok, ss_ok, nI_add, pk_mul, sub_n, bd_ok, bv_ok, gs_ne, gs_eq]; exact q2 j (by omega)
    · dsimp only
      by_cases hji : j = i
      · subst hji; simp (disch := omega) only [i0, i1, i2, i3, i4, i5, i6, i7, i8, mle, mlt, meq, if_pos, if_neg, dr_s, tk_s, ck_m, nI_clamp, lt_ok, ss_ok, nI_add, pk_mul, sub_n, bd_ok, bv_ok, gs_ne, gs_eq]
      · simp (disch := omega) only [i0, i1, i2, i3, i4, i5, i6, i7, i8, mle, mlt, meq, if_pos, if_neg, dr_s, tk_s, ck_m, nI_clamp, lt_ok, ss_ok, nI_add, pk_mul, sub_n, bd_ok, bv_ok, gs_ne, gs_eq]; exact q3 j (by omega)
    · dsimp only; simp (disch := omega) only [i0, i1, i2, i3, i4, i5, i6, i7, i8, mle, mlt, meq, if_pos, if_neg, dr_s, tk_s, ck_m, nI_clamp, lt_ok, ss_ok, nI_add, pk_mul, sub_n, bd_ok, bv_ok, gs_ne, gs_eq]; exact q4 x k z1 z2 z3
  · rintro ⟨v, s⟩ rec ⟨rfl, q1, q2, q3, q4⟩
    dsimp only at q1 q2 q3 q4 ⊢
    unfold bX7_laysRuns_7
    rw [m_many hM hM2, bd_ok, q4 396 0 (by omega) (by omega) (by omega), h2]
    by_cases hq : n ≤ nxt R n 0
    · rw [if_pos (nI_le hq (by omega))]
      exact ⟨_, rfl, rfl, q1, q2, q3, q4⟩
    · rw [if_neg (nI_ge (by omega) (by omega)), m_room hM hM2, bd_ok, q4 396 1 (by omega) (by omega) (by omega), h1, q1, if_pos (nI_le (by omega) (by omega))]
      exact ⟨_, rfl, rfl, q1, q2, q3, q4⟩
  · rintro v s ⟨q0, q1, q2, q3, q4⟩
    dsimp only at q0 q1 q2 q3 q4
    subst q0
    rw [dr_ok m1 n1.1, n1.2, show (926 : Int32) = nI 926 from rfl, ck_n (by omega) (by omega), nI_clamp (by omega), ss_ok]
    refine bd_in n (fun i b => b.1 = (nI (nxt R n i), nI (gC (gst F n R tu i)), nI i) ∧ GM b.2 n R i (gst F n R tu i) ∧ ∀ x k, esG x k → gi b.2 x k = gi σ x k)
      (fun b => b.1.2.1 = nI (gC (gst F n R tu n)) ∧ GM b.2 n R n (gst F n R tu n) ∧ ∀ x k, esG x k → gi b.2 x k = gi σ x k) (by show n < 1000000; omega) ⟨rfl, ?_, fun x k z => ?_⟩ ?_ ?_ ?_
    · refine ⟨fun j => j, ⟨fun j hj => ⟨by omega, List.not_mem_nil⟩, fun a b _ _ e => e, fun x hx => ⟨x, by have := hx.1; omega, rfl⟩⟩, ?_, fun j hj => ?_, fun j hj => ?_, fun p hp => absurd hp (Nat.not_lt_zero p), fun x hx => absurd hx List.not_mem_nil, fun r hr => ?_⟩
      · dsimp only; rw [gs_ne (by omega), q1]; rfl
      · dsimp only; rw [gs_ne (by omega)]; exact q2 j (by omega)
      · dsimp only; rw [gs_ne (by omega)]; exact q3 j (by omega)
      · have hr : r ≤ 0 := hr
        rw [show r = 0 by omega]; dsimp only; rw [gs_eq]; rfl
    · unfold esG at z
      dsimp only; rw [gs_ne (by omega), q4 _ _ (by omega) (by omega) (by omega)]
    · rintro i ⟨⟨v, u, y⟩, s2⟩ rec hi ⟨z1, z2, z3⟩
      dsimp only at z1 z2 z3 ⊢
      injection z1 with z1 z1'
      injection z1' with z1' z1''
      subst z1; subst z1'; subst z1''
      obtain ⟨s3, e3, g3, f3⟩ := m_gstep hM hM2 (by rw [z3 _ _ (by unfold esG; omega)]; exact h6) hs htu hn hR hR2 (by rw [z3 _ _ (by unfold esG; omega)]; exact h2) (fun j hj => by rw [z3 _ _ (by unfold esG; omega)]; exact hk j hj) hF hi (gi_all hR (by omega)) z2 (fun u0 u1 u2 t => rec ((u0, u1, u2), t))
      exact ⟨_, e3, rfl, g3, fun x k q => by dsimp only; rw [f3 x k q]; exact z3 x k q⟩
    · rintro ⟨⟨v, u, y⟩, s2⟩ rec ⟨z1, z2, z3⟩
      dsimp only at z1 z2 z3 ⊢
      injection z1 with z1 z1'
      injection z1' with z1' z1''
      subst z1; subst z1'; subst z1''
      unfold bX7_laysRuns_51
      rw [m_many hM hM2, bd_ok, z3 _ _ (by unfold esG; omega), h2, if_pos (nI_le (Nat.le_refl _) (by omega))]
      exact ⟨_, rfl, rfl, z2, z3⟩
    · rintro ⟨v, u, y⟩ s2 ⟨z1, ⟨W, r1, r2, r3, r4, r5, r6, r7⟩, z3⟩
      dsimp only at z1 r2 r3 r4 r5 r6 r7 z3 ⊢
      subst z1
      have hgi := gi_all (F := F) (tu := tu) hR (Nat.le_refl n)
      obtain ⟨nr1, nr2⟩ := gf_nr hn0 hgi hn
      unfold nrG at nr1 nr2
      rw [show (14 : Int32) = nI 14 from rfl, ck_n (by omega) (by omega), nI_clamp (by omega), ss_ok, m_many hM hM2, bd_ok, nI_add, i1, nI_add, nI_add, ck_n (by omega) (by omega), nI_clamp (by omega), ss_ok]
      rw [gs_ne (show (396 : Nat) ≠ 396 ∨ 0 ≠ 14 by omega), z3 396 0 (by unfold esG; omega), h2]
      refine ⟨_, rfl, ?_, fun x hx => ?_, fun p hp => ?_, fun r hr => ?_, fun x k he hq => ?_⟩
      · rw [gs_ne (by omega), gs_eq]; rfl
      · rw [gs_ne (by omega), gs_ne (by omega)]; exact r6 x ((gf_all hgi).mpr hx)
      · rw [gs_ne (by omega), gs_ne (by omega)]; exact r5 p hp
      · unfold nrG at hr
        unfold bgG
        by_cases hrc : r ≤ gC (gst F n R tu n)
        · rw [if_pos hrc, gs_ne (by omega), gs_ne (by omega)]; exact r7 r hrc
        · rw [if_neg hrc, show 926 + r = 926 + gC (gst F n R tu n) + 1 by omega, gs_eq]
      · unfold esG at he
        rw [gs_ne (by omega), gs_ne (by omega)]; exact z3 x k (by unfold esG; omega)
end MG
