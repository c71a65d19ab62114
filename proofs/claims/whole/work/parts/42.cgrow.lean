/-! growth in the class -/
section CG
variable {E : En} {a d n R i m : Nat} {σ : Sg} {F W : Nat → Nat} {tu : Bool} {g : Gr}
theorem nI_b255 {x y : Nat} (hx : x < 256) (hy : y < 256) : (nI x < nI y ↔ x < y) ∧ (nI x = nI y ↔ x = y) := ⟨nI_ltI (by omega) (by omega), nI_eq (by omega) (by omega)⟩
theorem c_isLess (hL : LRec E d) {x y : Nat} (hx : x < n) (hy : y < n) (hn : n ≤ 300) (hk : ∀ i, i < n → gi σ (d + 1) i = nI (F i)) (hF : ∀ i, i < n → F i < 256) : fX3_isLess E d (nI x) (nI y) σ = some (bI (lsB F x y), σ) := by
  obtain ⟨l0, l1, l2, l3, l4⟩ := hL
  have f1 := hF x hx
  have f2 := hF y hy
  unfold fX3_isLess lsB
  rw [tk_ok l0, dr_ok l1 l3.1, l3.2, ck_n (by omega) (by omega), ck_n (by omega) (by omega), nI_clamp (by omega), nI_clamp (by omega), hk x hx, hk y hy]
  by_cases h1 : F x < F y
  · rw [if_pos (nI_lt h1 (by omega)), bd_ok, kb_1, decide_eq_true (Or.inl h1)]; rfl
  · rw [if_neg (nI_nlt (by omega) (by omega)), ck_n (by omega) (by omega), ck_n (by omega) (by omega)]
    by_cases h2 : F x = F y
    · rw [if_neg (fun q => q (by rw [h2]))]
      by_cases h3 : y ≤ x
      · rw [if_pos (nI_le h3 (by omega)), bd_ok, kb_0, decide_eq_false (by omega)]; rfl
      · rw [if_neg (nI_ge (by omega) (by omega)), bd_ok, kb_1, decide_eq_true (by omega)]; rfl
    · rw [if_pos (fun q => h2 ((nI_eq (by omega) (by omega)).mp q)), bd_ok, kb_0, decide_eq_false (by omega)]; rfl
theorem c_falls (hG : LGro E a) {r : Nat} (h3 : gi σ a 3 = bI tu) (hr : r < 2 ^ 31) : fX0_falls E a (nI r) σ = some (bI (fal tu r), σ) := by
  unfold fX0_falls fal
  rw [tk_ok hG.1, h3, i2, im_n hr (by omega) (by omega)]
  cases tu with
  | false => rw [if_pos (by rfl), bd_ok, kb_0]; rfl
  | true =>
    rw [if_neg (by decide)]
    by_cases h : r % 2 = 1
    · rw [h, if_neg (by simp; rfl), bd_ok, kb_1]; rfl
    · rw [i1, if_pos (fun q => h ((nI_eq (by omega) (by omega)).mp q)), bd_ok]
      have : (r % 2 == 1) = false := by simpa using h
      rw [this]; exact kb_0
theorem c_nextOut (hG : LGro E a) (hL : LRec E d) {r : Nat} (h3 : gi σ a 3 = bI tu) (hr : r < 2 ^ 31) (hn : n ≤ 300) (hk : ∀ i, i < n → gi σ (d + 1) i = nI (F i)) (hF : ∀ i, i < n → F i < 256) (h5 : gi σ a 5 = nI m) (hm : m ≤ 16) (hw : ∀ j, j < m → gi σ (a + 3) j = nI (W j) ∧ W j < n) (hro : ∀ j, j < m → gi σ (a + 1) (W j) = nI (gR g (W j)) ∧ gR g (W j) < 2 ^ 31) : fX0_nextOut E a d (nI r) σ = some (optI (abst F W (fun x => gR g x == r) (fal tu r) m), σ) := by
  obtain ⟨l0, l1, l2, l3, l4, l5, l6⟩ := id hG
  unfold fX0_nextOut
  rw [tk_ok l0, tk_ok hL.1]
  refine bd_tr ((optI (abst F W (fun x => gR g x == r) (fal tu r) m), nI m), σ) m (fun j => ((optI (abst F W (fun x => gR g x == r) (fal tu r) j), nI j), σ)) (by show m < 1000000; omega) (fun j rec hj => ?_) (fun rec => ?_) rfl
  · obtain ⟨w1, w2⟩ := hw j hj
    obtain ⟨o1, o2⟩ := hro j hj
    dsimp only
    unfold bX0_nextOut_5
    rw [h5, if_neg (nI_ge hj (by omega)), dr_ok l1 l4.1, dr_ok l3 l6.1, l6.2, l4.2, ck_n (by omega) (by omega), nI_clamp (by omega), w1, ck_n (by omega) (by omega), nI_clamp (by omega), o1]
    have hab : abst F W (fun x => gR g x == r) (fal tu r) (j + 1) = match abst F W (fun x => gR g x == r) (fal tu r) j with | none => if gR g (W j) == r then some j else none | some b => if (gR g (W j) == r) && (lsB F (W j) (W b) != fal tu r) then some j else some b := rfl
    rw [hab]
    by_cases hq : gR g (W j) = r
    · rw [if_pos (by rw [hq])]
      have hq' : (gR g (W j) == r) = true := by simpa using hq
      cases hs : abst F W (fun x => gR g x == r) (fal tu r) j with
      | none =>
        rw [if_pos (by rfl), bd_ok, lt_ok, ad1]
        dsimp only
        rw [if_pos hq']; rfl
      | some b =>
        obtain ⟨b1, b2⟩ := abst_lt hs
        obtain ⟨w3, w4⟩ := hw b (by omega)
        rw [show optI (some b) = nI b from rfl, if_neg (nI_nm1 (by omega)), ck_n (by omega) (by omega), ck_n (by omega) (by omega), nI_clamp (by omega), w3, c_isLess hL w2 w4 hn hk hF, bd_ok, c_falls hG h3 hr, bd_ok]
        dsimp only
        rw [hq', Bool.true_and]
        by_cases hz : lsB F (W j) (W b) = fal tu r
        · rw [if_pos (by rw [hz]), bd_ok, lt_ok, ad1, hz, if_neg (by simp)]; rfl
        · rw [if_neg (by rw [bI_e]; exact hz), bd_ok, lt_ok, ad1, if_pos (by simpa using hz)]; rfl
    · rw [if_neg (fun q => hq ((nI_eq o2 hr).mp q)), bd_ok, lt_ok, ad1]
      have hq' : (gR g (W j) == r) = false := by simpa using hq
      cases hs : abst F W (fun x => gR g x == r) (fal tu r) j with
      | none => dsimp only; rw [hq', if_neg (by decide)]
      | some b => dsimp only; rw [hq', Bool.false_and, if_neg (by decide)]
  · unfold bX0_nextOut_5
    dsimp only
    rw [h5, if_pos (nI_le (Nat.le_refl _) (by omega))]
/-- the class, while runs grow -/
def GC (σ : Sg) (a n R i : Nat) (tu : Bool) (g : Gr) : Prop := ∃ W, Rs (inr R n i g) W (nxt R n i - i) ∧ gi σ a 5 = nI (nxt R n i - i) ∧ (∀ j, j < nxt R n i - i → gi σ (a + 3) j = nI (W j)) ∧ (∀ x, x < nxt R n i → gi σ (a + 1) x = nI (gR g x)) ∧ gi σ a 2 = nI (if i = 0 then 0 else gC g + 1) ∧ (0 < i → ∀ r, r ≤ gC g → gi σ (a + 2) r = nI (if r = gC g then i - gB g r else gB g (r + 1) - gB g r)) ∧ gi σ a 3 = bI tu
theorem gR_lt (hn : n ≤ 300) (hi0 : i ≤ n) (h : GI F n R tu i g) {x : Nat} (hx : x < nxt R n i) : gR g x < 2 ^ 31 := by
  by_cases hin : x ∈ gO g
  · have h1 := h.2.2.2.2.1 x hin
    by_cases h0 : 0 < i
    · have := gC_lt h0 h; omega
    · have := h.2.2.2.2.2.2.2.2.2.2.1 (by omega); omega
  · have h1 := h.2.2.2.1 x hx hin
    by_cases h0 : 0 < i
    · have := gC_lt h0 h; omega
    · have := h.2.2.2.2.2.2.2.2.2.2.1 (by omega); omega
theorem c_gstep (hG : LGro E a) (hL : LRec E d) (had : a = d + 4) (hn : n ≤ 300) (hR : 2 ≤ R) (hR2 : R ≤ 16) (h2 : gi σ d 2 = nI n) (hk : ∀ i, i < n → gi σ (d + 1) i = nI (F i)) (hF : ∀ i, i < n → F i < 256) (hi : i < n) (hgi : GI F n R tu i g) (h : GC σ a n R i tu g) (rec : Int32 → Int32 → Sg → Option (((Int32 × Int32) ⊕ Unit) × Sg)) :
    ∃ s, bX0_growFrom_78 E d a rec (nI (nxt R n i)) (nI i) σ = rec (nI (nxt R n (i + 1))) (nI (i + 1)) s ∧ GC s a n R (i + 1) tu (gstp F n R tu i g) ∧ ∀ x k, (x < a ∨ a + 4 ≤ x) → gi s x k = gi σ x k := by
  obtain ⟨W, r1, r2, r3, r4, r5, r6, r7⟩ := h
  obtain ⟨l0, l1, l2, l3, l4, l5, l6⟩ := id hG
  obtain ⟨x1, x2, x3, x4, x5, x6, x7⟩ := nxt_s hR hi
  obtain ⟨hp, hc⟩ := gi_pick hR hi hgi
  have hci := gi_s hR hi hgi
  have hcl := gC_lt (by omega) hci
  have e3 : gC (gstp F n R tu i g) = gcu F n R tu i g := rfl
  rw [e3] at hcl
  have e4 : ∀ r, gB (gstp F n R tu i g) r = if r = gcu F n R tu i g ∧ gcu F n R tu i g ≠ gC g then i else gB g r := fun r => rfl
  have hroom : nxt R n i - i ≤ 16 := by unfold nxt; omega
  have hwn : ∀ j, j < nxt R n i - i → gi σ (a + 3) j = nI (W j) ∧ W j < n := fun j hj => ⟨r3 j hj, by have := (r1.1 j hj).1; omega⟩
  have hro : ∀ j, j < nxt R n i - i → gi σ (a + 1) (W j) = nI (gR g (W j)) ∧ gR g (W j) < 2 ^ 31 := fun j hj => ⟨r4 _ (r1.1 j hj).1, gR_lt hn (by omega) hgi (r1.1 j hj).1⟩
  rw [abst_pk r1] at hp
  generalize hcd : gcu F n R tu i g = c at *
  generalize hkd : gkk F n R tu i g = k at *
  -- the first half: which one
  obtain ⟨b, hb, hWb⟩ : ∃ b, abst F W (fun x => gR g x == c) (fal tu c) (nxt R n i - i) = some b ∧ W b = k := by
    cases hs : abst F W (fun x => gR g x == c) (fal tu c) (nxt R n i - i) with
    | none => rw [hs] at hp; cases hp
    | some b => rw [hs] at hp; injection hp with hp; exact ⟨b, rfl, hp⟩
  obtain ⟨hb1, hb2⟩ := abst_lt hb
  have hbn : nI b ≠ -1 := nI_nm1 (by omega)
  have hW := hwn b hb1
  rw [hWb] at hW
  have nO : ∀ (s : Sg) (r : Nat), r < 2 ^ 31 → (∀ x k, x ≠ a + 2 → ¬ (x = a ∧ k = 2) → gi s x k = gi σ x k) → fX0_nextOut E a d (nI r) s = some (optI (abst F W (fun x => gR g x == r) (fal tu r) (nxt R n i - i)), s) := fun s r hr hf => c_nextOut hG hL (by rw [hf _ _ (by omega) (by omega)]; exact r7) hr hn (fun i hi => by rw [hf _ _ (by omega) (by omega)]; exact hk i hi) hF (by rw [hf _ _ (by omega) (by omega)]; exact r2) hroom (fun j hj => by rw [hf _ _ (by omega) (by omega)]; exact hwn j hj) (fun j hj => by rw [hf _ _ (by omega) (by omega)]; exact hro j hj)
  have sel : ∃ s33, bd (if ¬ (gi σ a 2) = 0 then (bd (fX0_nextOut E a d ((gi σ a 2) - (1 : Int32)) σ) (fun r31 s29 => some (r31, s29))) else (some ((-1 : Int32), σ))) (fun w27 s28 => if ¬ w27 = (-1 : Int32) then (some (w27, s28)) else (dr (rf E a 1) E 100 (fun x34 => ck (gi s28 a 2) (ln E x34) (ss (si s28 x34 (gi s28 a 2).toNatClampNeg (0 : Int32)) (fun s36 => bd (fX0_nextOut E a d (gi s36 a 2) s36) (fun r39 s37 => ss (si s37 a 2 ((gi s37 a 2) + (1 : Int32))) (fun s40 => some (r39, s40)))))))) = some (nI b, s33) ∧ gi s33 a 2 = nI (c + 1) ∧ (∀ r, r ≤ c → gi s33 (a + 2) r = nI (if r = c then i - gB (gstp F n R tu i g) r else gB (gstp F n R tu i g) (r + 1) - gB (gstp F n R tu i g) r)) ∧ ∀ x k, x ≠ a + 2 → ¬ (x = a ∧ k = 2) → gi s33 x k = gi σ x k := by
    have fresh : ∀ z, z = c → gi σ a 2 = nI z → (∀ r, r < c → gi σ (a + 2) r = nI (gB (gstp F n R tu i g) (r + 1) - gB (gstp F n R tu i g) r)) → i - gB (gstp F n R tu i g) c = 0 → ∃ s33, dr (rf E a 1) E 100 (fun x34 => ck (gi σ a 2) (ln E x34) (ss (si σ x34 (gi σ a 2).toNatClampNeg (0 : Int32)) (fun s36 => bd (fX0_nextOut E a d (gi s36 a 2) s36) (fun r39 s37 => ss (si s37 a 2 ((gi s37 a 2) + (1 : Int32))) (fun s40 => some (r39, s40)))))) = some (nI b, s33) ∧ gi s33 a 2 = nI (c + 1) ∧ (∀ r, r ≤ c → gi s33 (a + 2) r = nI (if r = c then i - gB (gstp F n R tu i g) r else gB (gstp F n R tu i g) (r + 1) - gB (gstp F n R tu i g) r)) ∧ ∀ x k, x ≠ a + 2 → ¬ (x = a ∧ k = 2) → gi s33 x k = gi σ x k := by
      intro z hz h1 h2 h3
      subst hz
      rw [dr_ok l2 l5.1, l5.2, h1, ck_n (by omega) (by omega), nI_clamp (by omega), ss_ok, gs_ne (by omega), h1, nO _ z (by omega) (fun x k q1 q2 => gs_ne (by omega)), hb, bd_ok, ss_ok, gs_ne (by omega), h1, ad1]
      refine ⟨_, rfl, gs_eq, fun r hr => ?_, fun x k q1 q2 => by rw [gs_ne (by omega), gs_ne (by omega)]⟩
      by_cases hrz : r = z
      · subst hrz; rw [if_pos rfl, h3, gs_ne (by omega), gs_eq]; rfl
      · rw [if_neg hrz, gs_ne (by omega), gs_ne (by omega)]; exact h2 r (by omega)
    by_cases hi0 : i = 0
    · have hz := hgi.2.2.2.2.2.2.2.2.2.2.1 hi0
      have hc0 : c = 0 := by rcases hc with q | ⟨_, _, q⟩ <;> omega
      rw [if_pos hi0] at r5
      rw [r5, if_neg (by simp; rfl), bd_ok, if_neg (by simp)]
      refine fresh 0 hc0.symm r5 (fun r hr => by omega) (by omega)
    · rw [if_neg hi0] at r5
      have hsub : nI (gC g + 1) - (1 : Int32) = nI (gC g) := by rw [i1, sub_n (by omega), show gC g + 1 - 1 = gC g by omega]
      rw [r5, if_pos (nI_ne0 (by omega) (by have := gC_lt (by omega) hgi; omega)), hsub, nO σ (gC g) (by have := gC_lt (by omega) hgi; omega) (fun _ _ _ _ => rfl), bd_ok, bd_ok]
      rcases hc with q | ⟨q, q', _⟩
      · rw [← q, hb, show optI (some b) = nI b from rfl, if_pos hbn]
        refine ⟨σ, rfl, by rw [r5, q], fun r hr => ?_, fun _ _ _ _ => rfl⟩
        rw [e4, e4, if_neg (show ¬ (r = c ∧ c ≠ gC g) by omega), if_neg (show ¬ (r + 1 = c ∧ c ≠ gC g) by omega)]
        have := r6 (by omega) r (by omega)
        rw [this, q]
      · rw [abst_pk r1] at q'
        have : abst F W (fun x => gR g x == gC g) (fal tu (gC g)) (nxt R n i - i) = none := by
          cases hs : abst F W (fun x => gR g x == gC g) (fal tu (gC g)) (nxt R n i - i) with
          | none => rfl
          | some b => rw [hs] at q'; cases q'
        rw [this, show optI none = -1 from rfl, if_neg (by simp)]
        refine fresh (gC g + 1) q.symm r5 (fun r hr => ?_) (by rw [e4, if_pos (by omega)]; omega)
        rw [e4, e4, if_neg (show ¬ (r = c ∧ _) by omega)]
        have := r6 (by omega) r (by omega)
        rw [this]
        by_cases hrg : r = gC g
        · rw [if_pos hrg, if_pos (by omega)]
        · rw [if_neg hrg, if_neg (by omega)]
  obtain ⟨s33, e33, t2, t3, f33⟩ := sel
  unfold bX0_growFrom_78
  rw [h2, if_neg (nI_ge hi (by omega))]
  -- the two choices stand one in the other
  have hnest : ∀ (k : Int32 → Sg → Option (((Int32 × Int32) ⊕ Unit) × Sg)), bd (if ¬ (gi σ a 2) = 0 then (bd (fX0_nextOut E a d ((gi σ a 2) - (1 : Int32)) σ) (fun r31 s29 => some (r31, s29))) else (some ((-1 : Int32), σ))) (fun w27 s28 => bd (if ¬ w27 = (-1 : Int32) then (some (w27, s28)) else (dr (rf E a 1) E 100 (fun x34 => ck (gi s28 a 2) (ln E x34) (ss (si s28 x34 (gi s28 a 2).toNatClampNeg (0 : Int32)) (fun s36 => bd (fX0_nextOut E a d (gi s36 a 2) s36) (fun r39 s37 => ss (si s37 a 2 ((gi s37 a 2) + (1 : Int32))) (fun s40 => some (r39, s40)))))))) k) = k (nI b) s33 := by
    intro k
    generalize (if ¬ (gi σ a 2) = 0 then (bd (fX0_nextOut E a d ((gi σ a 2) - (1 : Int32)) σ) (fun r31 s29 => some (r31, s29))) else (some ((-1 : Int32), σ))) = X at e33 ⊢
    cases X with
    | none => cases e33
    | some r => obtain ⟨v, s⟩ := r; rw [bd_ok] at e33 ⊢; rw [e33, bd_ok]
  rw [hnest, if_pos hbn]
  have t3c := t3 c (Nat.le_refl _)
  rw [if_pos rfl] at t3c
  rw [dr_ok l2 l5.1, l5.2, t2, i1, sub_n (by omega), show c + 1 - 1 = c by omega, ck_n (by omega) (by omega), ck_n (by omega) (by omega), nI_clamp (by omega), t3c, nI_add, ss_ok]
  generalize hs4 : si s33 (a + 2) c (nI (i - gB (gstp F n R tu i g) c + 1)) = s4
  have f4 : ∀ x k, x ≠ a + 2 → ¬ (x = a ∧ k = 2) → gi s4 x k = gi σ x k := fun x k q1 q2 => by rw [← hs4, gs_ne (by omega), f33 _ _ q1 q2]
  have g2 : gi s4 a 2 = nI (c + 1) := by rw [← hs4, gs_ne (by omega)]; exact t2
  have hgb : gB (gstp F n R tu i g) c ≤ i := by
    have := hci.2.2.2.2.2.2.2.2.2.2.2.1 (by omega)
    rw [e3] at this; omega
  have g3 : ∀ r, r ≤ c → gi s4 (a + 2) r = nI (if r = c then i + 1 - gB (gstp F n R tu i g) r else gB (gstp F n R tu i g) (r + 1) - gB (gstp F n R tu i g) r) := fun r hr => by
    rw [← hs4]
    by_cases hrc : r = c
    · subst hrc; rw [gs_eq, if_pos rfl]; congr 1; omega
    · rw [gs_ne (by omega), t3 r hr, if_neg hrc, if_neg hrc]
  have hSn : ¬ inr R n i g (nxt R n i) := fun z => by have := z.1; omega
  have hko : ∀ j, j < nxt R n i - i → gi s4 (a + 3) j = nI (W j) := fun j hj => by rw [f4 _ _ (by omega) (by omega)]; exact r3 j hj
  have mk : ∀ (s : Sg) (W' : Nat → Nat), Rs (inr R n (i + 1) (gstp F n R tu i g)) W' (nxt R n (i + 1) - (i + 1)) → gi s a 5 = nI (nxt R n (i + 1) - (i + 1)) → (∀ j, j < nxt R n (i + 1) - (i + 1) → gi s (a + 3) j = nI (W' j)) → (∀ x, x < nxt R n (i + 1) → gi s (a + 1) x = nI (gR (gstp F n R tu i g) x)) → (∀ x k, x ≠ a + 1 → x ≠ a + 3 → ¬ (x = a ∧ k = 5) → gi s x k = gi s4 x k) → GC s a n R (i + 1) tu (gstp F n R tu i g) := by
    intro s W' z1 z2 z3 z4 z5
    refine ⟨W', z1, z2, z3, z4, ?_, fun _ r hr => ?_, ?_⟩
    · rw [z5 _ _ (by omega) (by omega) (by omega), g2, if_neg (by omega), e3]
    · rw [z5 _ _ (by omega) (by omega) (by omega)]; rw [e3] at hr ⊢; exact g3 r hr
    · rw [z5 _ _ (by omega) (by omega) (by omega), f4 _ _ (by omega) (by omega)]; exact r7
  have hro1 : ∀ x, x < nxt R n i → gR (gstp F n R tu i g) x = gR g x := fun x hx => by
    show (if x = nxt R n i ∧ nxt R n i < n then _ else gR g x) = _
    rw [if_neg (by omega)]
  have hkin : k < nxt R n i := by rw [← hWb]; exact (r1.1 b hb1).1
  rw [f4 d 2 (by omega) (by omega), h2]
  by_cases hlast : n ≤ nxt R n i
  · have hS : ∀ x, (inr R n i g x ∧ x ≠ W b) ↔ inr R n (i + 1) (gstp F n R tu i g) x := fun x => by
      rw [inr_s hR hi, hkd, hWb]
      constructor
      · exact Or.inl
      · rintro (z | z)
        · exact z
        · omega
    rw [if_pos (nI_le hlast (by omega)), ss_ok, dr_ok l3 l6.1, l6.2, f4 a 5 (by omega) (by omega), r2, sub_n (by omega), gs_eq, ck_n (by omega) (by omega), ck_n (by omega) (by omega), nI_clamp (by omega), nI_clamp (by omega), ss_ok, bd_ok, lt_ok, nI_add, gs_ne (by omega), hko _ (by omega), x7 (by omega)]
    refine ⟨_, rfl, mk _ (fun j => if j = b then W (nxt R n i - i - 1) else W j) ?_ ?_ (fun j hj => ?_) (fun x hx => ?_) (fun x k q1 q2 q3 => ?_), fun x k q => ?_⟩
    · rw [x7 (by omega), show nxt R n i - (i + 1) = nxt R n i - i - 1 by omega]
      exact rs_congr' (rs_del r1 hb1) hS
    · rw [gs_ne (by omega), gs_eq, x7 (by omega)]; congr 1
    · rw [x7 (by omega)] at hj
      by_cases hjb : j = b
      · rw [if_pos hjb, hjb, gs_eq]
      · rw [if_neg hjb, gs_ne (by omega), gs_ne (by omega)]; exact hko j (by omega)
    · rw [x7 (by omega)] at hx
      rw [gs_ne (by omega), gs_ne (by omega), f4 _ _ (by omega) (by omega), hro1 x hx]; exact r4 x hx
    · rw [gs_ne (by omega), gs_ne (by omega)]
    · rw [gs_ne (by omega), gs_ne (by omega), f4 _ _ (by omega) (by omega)]
  · have hS : ∀ x, ((inr R n i g x ∧ x ≠ W b) ∨ x = nxt R n i) ↔ inr R n (i + 1) (gstp F n R tu i g) x := fun x => by
      rw [inr_s hR hi, hkd, hWb]
      constructor
      · rintro (z | z)
        · exact Or.inl z
        · refine Or.inr ⟨z, by omega, fun q => ?_, by omega⟩
          have := hgi.2.2.1 x q; omega
      · rintro (z | z)
        · exact Or.inl z
        · exact Or.inr z.1
    have hgo : fX0_goesOn E a d (nI (nxt R n i)) (nI k) s4 = some (bI (lsB F (nxt R n i) k == fal tu c), s4) := by
      unfold fX0_goesOn
      rw [tk_ok l0, tk_ok hL.1, c_isLess hL (n := n) (F := F) (by omega) (by omega) hn (fun i hi => by rw [f4 _ _ (by omega) (by omega)]; exact hk i hi) hF, bd_ok, g2, i1, sub_n (by omega), show c + 1 - 1 = c by omega, c_falls hG (tu := tu) (by rw [f4 _ _ (by omega) (by omega)]; exact r7) (by omega), bd_ok]
      by_cases hz : lsB F (nxt R n i) k = fal tu c
      · rw [if_neg (fun q => q (by rw [hz])), bd_ok, hz, kb_n1]; simp; rfl
      · rw [if_pos (by rw [bI_e]; exact hz), bd_ok, kb_0]
        have : (lsB F (nxt R n i) k == fal tu c) = false := by simpa using hz
        rw [this]; rfl
    rw [if_neg (nI_ge (by omega) (by omega)), dr_ok l1 l4.1, dr_ok l3 l6.1, l6.2, l4.2, ck_n (by omega) (by omega), nI_clamp (by omega), hko b hb1, hWb, hgo, bd_ok]
    have hw58 : (if bI (lsB F (nxt R n i) k == fal tu c) = 0 then (some ((gi s4 a 2), s4)) else (some (((gi s4 a 2) - (nI 1)), s4))) = some (nI (if lsB F (nxt R n i) k == fal tu c then c else c + 1), s4) := by
      rw [g2, sub_n (by omega), show c + 1 - 1 = c by omega]
      cases (lsB F (nxt R n i) k == fal tu c) <;> rfl
    rw [hw58, bd_ok, ck_n (by omega) (by omega), nI_clamp (by omega), ss_ok, ck_n (by omega) (by omega), ss_ok, lt_ok, nI_add, bd_ok, lt_ok, nI_add, x6 (by omega)]
    refine ⟨_, rfl, mk _ (fun j => if j = b then nxt R n i else W j) ?_ ?_ (fun j hj => ?_) (fun x hx => ?_) (fun x k q1 q2 q3 => ?_), fun x k q => ?_⟩
    · rw [x6 (by omega), show nxt R n i + 1 - (i + 1) = nxt R n i - i by omega]
      exact rs_congr' (rs_rep r1 hb1 hSn) hS
    · rw [gs_ne (by omega), gs_ne (by omega), f4 _ _ (by omega) (by omega), r2, x6 (by omega)]; congr 1; omega
    · rw [x6 (by omega)] at hj
      by_cases hjb : j = b
      · rw [if_pos hjb, hjb, gs_eq]
      · rw [if_neg hjb, gs_ne (by omega), gs_ne (by omega)]; exact hko j (by omega)
    · rw [x6 (by omega)] at hx
      rw [gs_ne (by omega)]
      by_cases hxn : x = nxt R n i
      · subst hxn
        rw [gs_eq]
        show _ = nI (if nxt R n i = nxt R n i ∧ nxt R n i < n then (if lsB F (nxt R n i) (gkk F n R tu i g) == fal tu (gcu F n R tu i g) then gcu F n R tu i g else gcu F n R tu i g + 1) else _)
        rw [if_pos (show nxt R n i = nxt R n i ∧ nxt R n i < n from ⟨rfl, by omega⟩), hkd, hcd]
      · rw [gs_ne (by omega), f4 _ _ (by omega) (by omega), hro1 x (by omega)]; exact r4 x (by omega)
    · rw [gs_ne (by omega), gs_ne (by omega)]
    · rw [gs_ne (by omega), gs_ne (by omega), f4 _ _ (by omega) (by omega)]
theorem c_growFrom (hG : LGro E a) (hL : LRec E d) (had : a = d + 4) (hn0 : 0 < n) (hn : n ≤ 300) (hR : 2 ≤ R) (hR2 : R ≤ 16) (h2 : gi σ d 2 = nI n) (hk : ∀ i, i < n → gi σ (d + 1) i = nI (F i)) (hF : ∀ i, i < n → F i < 256) :
    ∃ s, fX0_growFrom E a d (nI R) (bI tu) σ = some s ∧ gi s a 2 = nI (nrG (gst F n R tu n)) ∧ gi s a 3 = bI tu ∧ (∀ x, x < n → gi s (a + 1) x = nI (gR (gst F n R tu n) x)) ∧ (∀ r, r < nrG (gst F n R tu n) → gi s (a + 2) r = nI (glG n (gst F n R tu n) r)) ∧ ∀ x k, (x < a ∨ a + 4 ≤ x) → gi s x k = gi σ x k := by
  obtain ⟨l0, l1, l2, l3, l4, l5, l6⟩ := id hG
  unfold fX0_growFrom
  rw [tk_ok l0, tk_ok hL.1, kb_b, ss_ok, lt_ok, ss_ok, gs_ne (by omega), h2, show (16 : Int32) = nI 16 from rfl, imin_n (by omega) (by omega), imin_n (by omega) (by omega), show min (min R 16) n = nxt R n 0 by unfold nxt; omega]
  have hnx : nxt R n 0 ≤ 16 ∧ nxt R n 0 ≤ n := by unfold nxt; omega
  refine bd_in (nxt R n 0) (fun i b => gi b.2 a 5 = nI i ∧ (∀ j, j < i → gi b.2 (a + 3) j = nI j) ∧ (∀ j, j < i → gi b.2 (a + 1) j = nI 0) ∧ ∀ x k, x ≠ a + 3 → x ≠ a + 1 → ¬ (x = a ∧ k = 5) → gi b.2 x k = gi (si σ a 3 (bI tu)) x k)
    (fun b => gi b.2 a 5 = nI (nxt R n 0) ∧ (∀ j, j < nxt R n 0 → gi b.2 (a + 3) j = nI j) ∧ (∀ j, j < nxt R n 0 → gi b.2 (a + 1) j = nI 0) ∧ ∀ x k, x ≠ a + 3 → x ≠ a + 1 → ¬ (x = a ∧ k = 5) → gi b.2 x k = gi (si σ a 3 (bI tu)) x k) (by show nxt R n 0 < 1000000; omega) ⟨gs_eq, fun j hj => absurd hj (Nat.not_lt_zero j), fun j hj => absurd hj (Nat.not_lt_zero j), fun x k q1 q2 q3 => gs_ne (by omega)⟩ ?_ ?_ ?_
  · rintro i ⟨v, s⟩ rec hi ⟨q1, q2, q3, q4⟩
    dsimp only at q1 q2 q3 q4 ⊢
    unfold bX0_growFrom_25
    rw [q1, if_neg (nI_ge hi (by omega)), dr_ok l3 l6.1, l6.2, ck_n (by omega) (by omega), nI_clamp (by omega), ss_ok, dr_ok l1 l4.1, l4.2, gs_ne (by omega), q1, ck_n (by omega) (by omega), nI_clamp (by omega), ss_ok, gs_ne (by omega), gs_ne (by omega), q1, ad1, ss_ok]
    refine ⟨_, rfl, gs_eq, fun j hj => ?_, fun j hj => ?_, fun x k z1 z2 z3 => ?_⟩
    · dsimp only
      by_cases hji : j = i
      · subst hji; simp (disch := omega) only [i0, i1, i2, i3, i4, i5, i6, i7, i8, mle, mlt, meq, if_pos, if_neg, dr_s, tk_s, ck_m, nI_clamp, lt_ok, ss_ok, nI_add, pk_mul, sub_n, bd_ok, bv_ok, gs_ne, gs_eq]
      · simp (disch := omega) only [i0, i1, i2, i3, i4, i5, i6, i7, i8, mle, mlt, meq, if_pos, if_neg, dr_s, tk_s, ck_m, nI_clamp, lt_ok, ss_ok, nI_add, pk_mul, sub_n, bd_ok, bv_ok, gs_ne, gs_eq]; exact q2 j (by omega)
    · dsimp only
      by_cases hji : j = i
      · subst hji; simp (disch := omega) only [i0, i1, i2, i3, i4, i5, i6, i7, i8, mle, mlt, meq, if_pos, if_neg, dr_s, tk_s, ck_m, nI_clamp, lt_ok, ss_ok, nI_add, pk_mul, sub_n, bd_ok, bv_ok, gs_ne, gs_eq]
      · simp (disch := omega) only [i0, i1, i2, i3, i4, i5, i6, i7, i8, mle, mlt, meq, if_pos, if_neg, dr_s, tk_s, ck_m, nI_clamp, lt_ok, ss_ok, nI_add, pk_mul, sub_n, bd_ok, bv_ok, gs_ne, gs_eq]; exact q3 j (by omega)
    · dsimp only; simp (disch := omega) only [i0, i1, i2, i3, i4, i5, i6, i7, i8, mle, mlt, meq, if_pos, if_neg, dr_s, tk_s, ck_m, nI_clamp, lt_ok, ss_ok, nI_add, pk_mul, sub_n, bd_ok, bv_ok, gs_ne, gs_eq]; exact q4 x k z1 z2 z3
  · rintro ⟨v, s⟩ rec ⟨q1, q2, q3, q4⟩
    dsimp only at q1 q2 q3 q4 ⊢
    unfold bX0_growFrom_25
    rw [q1, if_pos (nI_le (Nat.le_refl _) (by omega))]
    exact ⟨_, rfl, q1, q2, q3, q4⟩
  · rintro v s ⟨q1, q2, q3, q4⟩
    dsimp only at q1 q2 q3 q4
    rw [ss_ok]
    refine bd_in n (fun i b => b.1 = (nI (nxt R n i), nI i) ∧ GC b.2 a n R i tu (gst F n R tu i) ∧ ∀ x k, (x < a ∨ a + 4 ≤ x) → gi b.2 x k = gi σ x k)
      (fun b => (∃ v, b.1 = .inl v) ∧ GC b.2 a n R n tu (gst F n R tu n) ∧ ∀ x k, (x < a ∨ a + 4 ≤ x) → gi b.2 x k = gi σ x k) (by show n < 1000000; omega) ⟨rfl, ?_, fun x k z => ?_⟩ ?_ ?_ ?_
    · refine ⟨fun j => j, ⟨fun j hj => ⟨by omega, List.not_mem_nil⟩, fun a b _ _ e => e, fun x hx => ⟨x, by have := hx.1; omega, rfl⟩⟩, ?_, fun j hj => ?_, fun x hx => ?_, ?_, fun z => absurd z (Nat.lt_irrefl 0), ?_⟩
      · dsimp only; rw [gs_ne (by omega), q1]; rfl
      · dsimp only; rw [gs_ne (by omega)]; exact q2 j (by omega)
      · dsimp only; rw [gs_ne (by omega)]; exact q3 x hx
      · dsimp only; rw [gs_eq]; rfl
      · dsimp only; rw [gs_ne (by omega), q4 _ _ (by omega) (by omega) (by omega), gs_eq]
    · dsimp only; rw [gs_ne (by omega), q4 _ _ (by omega) (by omega) (by omega), gs_ne (by omega)]
    · rintro i ⟨⟨v, u⟩, s2⟩ rec hi ⟨z1, z2, z3⟩
      dsimp only at z1 z2 z3 ⊢
      injection z1 with z1 z1'
      subst z1; subst z1'
      obtain ⟨s3, e3, g3, f3⟩ := c_gstep hG hL had hn hR hR2 (by rw [z3 _ _ (by omega)]; exact h2) (fun j hj => by rw [z3 _ _ (by omega)]; exact hk j hj) hF hi (gi_all hR (by omega)) z2 (fun u0 u1 t => rec ((u0, u1), t))
      exact ⟨_, e3, rfl, g3, fun x k q => by dsimp only; rw [f3 x k q]; exact z3 x k q⟩
    · rintro ⟨⟨v, u⟩, s2⟩ rec ⟨z1, z2, z3⟩
      dsimp only at z1 z2 z3 ⊢
      injection z1 with z1 z1'
      subst z1; subst z1'
      unfold bX0_growFrom_78
      rw [z3 _ _ (by omega), h2, if_pos (nI_le (Nat.le_refl _) (by omega))]
      exact ⟨_, rfl, ⟨_, rfl⟩, z2, z3⟩
    · rintro v s2 ⟨⟨u, z1⟩, ⟨W, r1, r2, r3, r4, r5, r6, r7⟩, z3⟩
      dsimp only at z1 r2 r3 r4 r5 r6 r7 z3
      subst z1
      rw [if_neg (by omega)] at r5
      refine ⟨s2, rfl, r5, r7, fun x hx => r4 x (by unfold nxt; omega), fun r hr => ?_, z3⟩
      unfold nrG at hr
      rw [r6 hn0 r (by omega)]
      unfold glG bgG
      rw [if_pos (show r ≤ gC (gst F n R tu n) by omega)]
      by_cases hq : r = gC (gst F n R tu n)
      · rw [if_pos hq, if_neg (by omega)]
      · rw [if_neg hq, if_pos (by omega)]
end CG
