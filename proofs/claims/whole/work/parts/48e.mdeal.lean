/-! the reference deals -/
theorem cat_up {X : Nat → List Dn} {t : Nat} {z : Dn} {l : List Dn} (hl : l.Perm (z :: X t)) : ∀ {n : Nat}, t < n → (catX (upX X t l) n).Perm (z :: catX X n)
  | 0, h => by omega
  | n + 1, h => by
    show (catX (upX X t l) n ++ upX X t l n).Perm (z :: (catX X n ++ X n))
    by_cases hq : n = t
    · subst hq
      have : ∀ m, m ≤ n → catX (upX X n l) m = catX X m := by
        intro m
        induction m with
        | zero => intro _; rfl
        | succ m ih => intro hm; show catX _ m ++ upX X n l m = _; rw [ih (by omega)]; unfold upX; rw [if_neg (by omega)]; rfl
      rw [this n (Nat.le_refl _)]
      unfold upX
      rw [if_pos rfl]
      exact (hl.append_left _).trans List.perm_middle
    · unfold upX at *
      rw [if_neg hq]
      exact (cat_up hl (n := n) (by omega)).append_right _
theorem insX_perm {d : Nat} {z : Dn} {l : List Dn} : (insX d z l).Perm (z :: l) := by
  unfold insX
  have := List.perm_middle (a := z) (l₁ := l.take d) (l₂ := l.drop d)
  rw [List.take_append_drop] at this; exact this
/-- runs dealt so far: m are made, none reaches beyond bnd -/
def DLr (σ : Sg) (F : Nat → Nat) (n : Nat) (ro gl : Nat → Nat) (X : Nat → List Dn) (m bnd : Nat) : Prop := XT σ X ∧ gi σ 395 15 = nI m ∧ (∀ z, z ∈ catX X 6 → z.1 < m ∧ DD σ F n ro gl z ∧ z.2.1 + zz gl z ≤ bnd) ∧ (catX X 6).Pairwise (apt gl)
def esR (x k : Nat) : Prop := ¬ (x = 396 ∧ ((20 ≤ k ∧ k < 26) ∨ (1227 ≤ k ∧ k < 7527))) ∧ ¬ (x = 395 ∧ k = 15)
section DE
variable {E : En} {σ : Sg} {F : Nat → Nat} {n nr w T m bnd : Nat} {ro gl bg : Nat → Nat} {bk tu fr : Bool} {X : Nat → List Dn}
theorem dl_add {s : Sg} {t : Nat} {z : Dn} {l : List Dn} (h : DLr σ F n ro gl X m bnd) (ht : t < 6) (hm : m < 700) (hz : z.1 = m) (hl : l.Perm (z :: X t)) (hx : XT s (upX X t l)) (h15 : gi s 395 15 = nI (m + 1)) (hzd : DD s F n ro gl z) (hb : bnd ≤ z.2.1) (hf : ∀ k, (1227 ≤ k ∧ k < 3327 ∧ k ≠ 1227 + m ∧ k ≠ 1927 + m ∧ k ≠ 2627 + m) ∨ 7527 ≤ k → gi s 396 k = gi σ 396 k) : DLr s F n ro gl (upX X t l) (m + 1) (z.2.1 + zz gl z) := by
  obtain ⟨h1, h2, h3, h4⟩ := h
  have hp := cat_up (X := X) hl (n := 6) ht
  refine ⟨hx, h15, fun y hy => ?_, ?_⟩
  · rcases List.mem_cons.mp (hp.mem_iff.mp hy) with rfl | hy
    · exact ⟨by omega, hzd, Nat.le_refl _⟩
    · obtain ⟨y1, y2, y3⟩ := h3 y hy
      have := y2.1
      exact ⟨by omega, dd_fr y2 (hf _ (by omega)) (hf _ (by omega)) (hf _ (by omega)) (fun i _ => hf _ (by omega)), by omega⟩
  · refine hp.symm.pairwise ?_ (fun {x y} q => apt_symm q)
    refine List.pairwise_cons.mpr ⟨fun y hy => ?_, h4⟩
    obtain ⟨y1, y2, y3⟩ := h3 y hy
    exact ⟨by omega, Or.inr (by omega)⟩
/-- what growth has left in the reference's row -/
def GRm (σ : Sg) (F : Nat → Nat) (n : Nat) (ro gl bg : Nat → Nat) (tu : Bool) (nr : Nat) : Prop := gi σ 396 14 = nI nr ∧ (∃ s5, gi σ 396 6 = nI s5 ∧ s5 ≤ 1 ∧ tu = (s5 == 1)) ∧ (∀ r, r ≤ nr → gi σ 396 (926 + r) = nI (bg r)) ∧ (∀ r, r < nr → bg r + gl r = bg (r + 1) ∧ bg (r + 1) ≤ n) ∧ ∀ r, r < nr → ∀ i, i < gl r → gi σ 396 (7527 + bg r + i) = nI ((cnt F n ro (rnj tu r)).getD i 0)
theorem gr_fr {s : Sg} (h : GRm σ F n ro gl bg tu nr) (hnr : nr ≤ 300) (hf : ∀ k, k = 14 ∨ k = 6 ∨ (926 ≤ k ∧ k < 1227) ∨ 7527 ≤ k → gi s 396 k = gi σ 396 k) : GRm s F n ro gl bg tu nr := by
  obtain ⟨h1, ⟨s5, h2, h3, h4⟩, h5, h6, h7⟩ := h
  exact ⟨by rw [hf _ (by omega)]; exact h1, ⟨s5, by rw [hf _ (by omega)]; exact h2, h3, h4⟩, fun r hr => by rw [hf _ (by omega)]; exact h5 r hr, h6, fun r hr i hi => by rw [hf _ (by omega)]; exact h7 r hr i hi⟩
theorem m_runSize (hM : LMod E) (hM2 : LMo2 E) (h : GRm σ F n ro gl bg tu nr) (hnr : nr ≤ 300) {r : Nat} (hr : r < nr) : fX7_runSize E 395 (nI r) σ = some (nI (gl r), σ) := by
  obtain ⟨h1, h2, h5, h6, h7⟩ := h
  unfold fX7_runSize
  rw [tk_ok hM.1, dr_ok hM.2.1 hM2.1.1, hM2.1.2, show (926 : Int32) = nI 926 from rfl, nI_add, ad1, ck_n (by omega) (by omega), ck_n (by omega) (by omega), nI_clamp (by omega), nI_clamp (by omega), show 926 + r + 1 = 926 + (r + 1) by omega, h5 _ (by omega), h5 _ (by omega), sub_n (by have := (h6 r hr).1; omega), show bg (r + 1) - bg r = gl r by have := (h6 r hr).1; omega]
theorem m_dealRun (hM : LMod E) (hM2 : LMo2 E) (hn : n ≤ 300) (hnr : nr ≤ 300) (hs : SR σ F n w T bk) (hg : GRm σ F n ro gl bg tu nr) {t r d : Nat} (hd : DLr σ F n ro gl X m (bg r)) (hm : m < 700) (ht : t < 6) (hl : (X t).length < 256) (hr : r < nr) (hw : w ≤ 2) (hdl : d ≤ (X t).length) (hdc : bk = true → if w = 1 then d = 0 else gi σ 405 t = nI d) :
    ∃ s, fX7_dealsRun E 395 (nI t) (nI r) σ = some s ∧ DLr s F n ro gl (upX X t (if bk then insX d (m, bg r, rnj tu r) (X t) else X t ++ [(m, bg r, rnj tu r)])) (m + 1) (bg (r + 1)) ∧ ∀ x k, esR x k → gi s x k = gi σ x k := by
  obtain ⟨m0, m1, m2, m3, m4, m5, m6, m7, m8, m9, m10, mz⟩ := id hM
  obtain ⟨n1, n2, n3, n4, n5, n6, n7, n8, n9, n10, nz⟩ := id hM2
  obtain ⟨h1, ⟨s5, h6, hs5, htu⟩, h26, hbg, hct⟩ := id hg
  obtain ⟨b1, b2⟩ := hbg r hr
  have hx := hd.1
  have h15 := hd.2.1
  unfold fX7_dealsRun
  rw [tk_ok m0, dr_ok m1 n1.1, n1.2, show (926 : Int32) = nI 926 from rfl, nI_add, ck_n (by omega) (by omega), nI_clamp (by omega), m_runSize hM hM2 hg hnr hr, bd_ok, h26 r (by omega), m_makes hM hM2 h15 hm, bd_ok]
  generalize hs1 : si (si (si (si σ 396 (1227 + m) (nI (bg r))) 396 (1927 + m) (nI (gl r))) 396 (2627 + m) 0) 395 15 (nI (m + 1)) = s1
  have f1 : ∀ x k, ¬ (x = 396 ∧ (k = 1227 + m ∨ k = 1927 + m ∨ k = 2627 + m)) → ¬ (x = 395 ∧ k = 15) → gi s1 x k = gi σ x k := fun x k q1 q2 => by rw [← hs1, gs_ne (by omega), gs_ne (by omega), gs_ne (by omega), gs_ne (by omega)]
  rw [m_doesFall hM hM2 (by rw [f1 _ _ (by omega) (by omega)]; exact h6) hs5 (by omega), bd_ok, m_truth, bd_ok, show (2627 : Int32) = nI 2627 from rfl, nI_add, ck_n (by omega) (by omega), nI_clamp (by omega), ss_ok, ← htu]
  have hbb : (if bI (fal tu r) = 0 then (0 : Int32) else 1) = bI (fal tu r) := by cases fal tu r <;> rfl
  rw [hbb]
  generalize hs2 : si s1 396 (2627 + m) (bI (fal tu r)) = s2
  have f2 : ∀ x k, ¬ (x = 396 ∧ (k = 1227 + m ∨ k = 1927 + m ∨ k = 2627 + m)) → ¬ (x = 395 ∧ k = 15) → gi s2 x k = gi σ x k := fun x k q1 q2 => by rw [← hs2, gs_ne (by omega)]; exact f1 x k q1 q2
  have g1 : gi s2 396 (1227 + m) = nI (bg r) := by rw [← hs2, ← hs1, gs_ne (by omega), gs_ne (by omega), gs_ne (by omega), gs_ne (by omega), gs_eq]
  have g2 : gi s2 396 (1927 + m) = nI (gl r) := by rw [← hs2, ← hs1, gs_ne (by omega), gs_ne (by omega), gs_ne (by omega), gs_eq]
  have g3 : gi s2 396 (2627 + m) = bI (fal tu r) := by rw [← hs2, gs_eq]
  have g4 : gi s2 395 15 = nI (m + 1) := by rw [← hs2, gs_ne (by omega), ← hs1, gs_eq]
  have hzz : zz gl (m, bg r, rnj tu r) = gl r := by unfold zz rnj; show gl r + 0 = _; omega
  have hx2 : XT s2 X := xt_fr hx (fun k hk => f2 _ _ (by omega) (by omega))
  rw [m_isBack hM hM2 (bk := bk) (by rw [f2 _ _ (by omega) (by omega)]; exact hs.2.2.2.1), bd_ok]
  -- all the rest is about tapes alone
  have fin : ∀ (s : Sg) (l : List Dn), l.Perm ((m, bg r, rnj tu r) :: X t) → XT s (upX X t l) → (∀ x k, ¬ (x = 396 ∧ (k = 20 + t ∨ (3327 + 700 * t ≤ k ∧ k < 3327 + 700 * t + 700))) → gi s x k = gi s2 x k) → DLr s F n ro gl (upX X t l) (m + 1) (bg (r + 1)) ∧ ∀ x k, esR x k → gi s x k = gi σ x k := by
    intro s l hlp hxs hf
    refine ⟨?_, fun x k he => ?_⟩
    · have := dl_add (s := s) (z := (m, bg r, rnj tu r)) hd ht hm rfl hlp hxs (by rw [hf _ _ (by omega)]; exact g4) ⟨hm, by rw [hf _ _ (by omega)]; exact g1, by rw [hf _ _ (by omega), hzz]; exact g2, by rw [hf _ _ (by omega)]; exact g3, by rw [hzz]; show bg r + gl r ≤ n; omega, fun i hi => by rw [hzz] at hi; rw [hf _ _ (by omega), f2 _ _ (by omega) (by omega)]; exact hct r hr i hi⟩ (Nat.le_refl _) (fun k hk => by rw [hf _ _ (by omega), f2 _ _ (by omega) (by omega)])
      rw [hzz] at this
      rw [← b1]; exact this
    · unfold esR at he
      rw [hf _ _ (by omega), f2 _ _ (by omega) (by omega)]
  cases hbk : bk with
  | false =>
    obtain ⟨s3, e3, x3, f3⟩ := m_last hM hM2 hx2 ht (m, bg r, rnj tu r) hl
    rw [if_neg (by simp; rfl), e3, bv_ok]
    exact ⟨s3, rfl, fin s3 _ (List.perm_append_singleton _ _) x3 f3⟩
  | true =>
    have hw3 : gi s2 396 3 = nI w := by rw [f2 _ _ (by omega) (by omega)]; exact hs.2.2.1
    have hsel : (if ¬ nI w = (1 : Int32) then (dr (rf E 395 13) E 100 (fun x25 => ck (nI t) (ln E x25) (some ((gi s2 x25 (nI t).toNatClampNeg), s2)))) else (some ((0 : Int32), s2))) = some (nI d, s2) := by
      have hd' := hdc hbk
      by_cases hw1 : w = 1
      · rw [if_pos hw1] at hd'
        rw [hw1, if_neg (by simp; rfl), hd']; rfl
      · rw [if_neg hw1] at hd'
        rw [i1, if_pos (fun q => hw1 ((nI_eq (by omega) (by omega)).mp q)), dr_ok m10 n10.1, n10.2, ck_n (by omega) (by omega), nI_clamp (by omega), f2 _ _ (by omega) (by omega), hd']
    have hcnt : gi s2 396 (20 + t) = nI (X t).length := (hx2 t ht).1
    obtain ⟨s3, e3, x3, f3⟩ := m_insert hM hM2 hx2 ht (m, bg r, rnj tu r) hl hdl
    rw [if_pos (by decide), m_way hM hM2, bd_ok, hw3, hsel, bd_ok, show (20 : Int32) = nI 20 from rfl, nI_add, ck_n (by omega) (by omega), lt_ok, nI_clamp (by omega), hcnt]
    rw [show (20 : Int32) = nI 20 from rfl, nI_add, nI_clamp (by omega)] at e3
    rw [e3]
    exact ⟨s3, rfl, fin s3 _ insX_perm x3 f3⟩
/-- what runs on the tapes come to, one more -/
theorem tpi_add {d : Nat → Nat} {dl dl' : Nat → List Nat} {t b r : Nat} (hm : (X t).map (fun z => z.2.2) = tpi bk tu d dl t) (hb : dl' t = if t = b then dl t ++ [r] else dl t) : (upX X b (if bk then insX (d b) (m, bnd, rnj tu r) (X b) else X b ++ [(m, bnd, rnj tu r)]) t).map (fun z => z.2.2) = tpi bk tu d dl' t := by
  unfold upX
  by_cases hq : t = b
  · subst hq
    rw [if_pos rfl] at hb ⊢
    unfold tpi at hm ⊢
    rw [hb]
    cases bk
    · simp only [Bool.false_eq_true, if_false] at hm ⊢
      rw [List.map_append, hm]; simp
    · simp only [if_true] at hm ⊢
      unfold insX
      rw [List.map_append, List.map_cons, List.map_take, List.map_drop, hm]
      have hl : (List.replicate (d t) dum).length = d t := List.length_replicate
      rw [List.take_append_of_le_length (by omega), List.take_of_length_le (by omega), List.drop_append_of_le_length (by omega), List.drop_of_length_le (by omega)]
      simp
  · rw [if_neg hq] at hb ⊢
    rw [hm]
    unfold tpi
    rw [hb]
theorem m_isFront (hM : LMod E) (hM2 : LMo2 E) (h4 : gi σ 396 4 = nI (if fr then 1 else 0)) : fX7_isFront E 395 σ = some (bI fr, σ) := by
  unfold fX7_isFront
  rw [tk_ok hM.1, dr_ok hM.2.1 hM2.1.1, hM2.1.2, i4, ck_n (by omega) (by omega), nI_clamp (by omega), h4]
  cases fr
  · rw [if_pos (by decide), bd_ok, kb_0]; rfl
  · rw [if_neg (by simp; rfl), bd_ok, kb_1]; rfl
/-- dummies are dealt -/
theorem m_dummies (hM : LMod E) (hM2 : LMo2 E) (hn : n ≤ 300) {k D : Nat} {pf : Nat → Nat} (hk : k ≤ 5) (h4 : gi σ 396 4 = nI (if fr then 1 else 0)) (hp : ∀ t, t < k → gi σ 403 t = nI (pf t) ∧ pf t ≤ 253) (hD : D ≤ sumF pf k) (hD7 : D < 700) (hx : DLr σ F n ro gl (fun _ => []) 0 0) :
    ∃ s X, fX7_dealsDummies E 395 (nI k) (nI D) σ = some s ∧ DLr s F n ro gl X D 0 ∧ (∀ t, (X t).map (fun z => z.2.2) = List.replicate (dms pf fr k D t) dum) ∧ (∀ t, t < k → gi s 405 t = nI (dms pf fr k D t)) ∧ (∀ t, t < k → gi s 403 t = nI (pf t)) ∧ ∀ x j, esR x j → x ≠ 405 → gi s x j = gi σ x j := by
  obtain ⟨m0, m1, m2, m3, m4, m5, m6, m7, m8, m9, m10, m11, mz⟩ := id hM
  obtain ⟨n1, n2, n3, n4, n5, n6, n7, n8, n9, n10, n11, nz⟩ := id hM2
  unfold fX7_dealsDummies
  rw [tk_ok m0]
  obtain ⟨⟨v, s1⟩, e1, p1, p2⟩ := for_in (F := fun (rec : Int32 × Sg → Option (Int32 × Sg)) (a : Int32 × Sg) => bX7_dealsDummies_2 E (nI k) 395 (fun u0 t => rec (u0, t)) a.1 a.2) k
    (fun i b => b.1 = nI i ∧ (∀ j, j < i → gi b.2 405 j = nI 0) ∧ ∀ x j, x ≠ 405 → gi b.2 x j = gi σ x j) (fun b => (∀ j, j < k → gi b.2 405 j = nI 0) ∧ ∀ x j, x ≠ 405 → gi b.2 x j = gi σ x j) (N := FU) (by show k < 1000000; omega)
    (by
      rintro i ⟨v, s⟩ rec hi ⟨rfl, q1, q2⟩
      dsimp only at q1 q2 ⊢
      unfold bX7_dealsDummies_2
      rw [if_neg (nI_ge hi (by omega)), dr_ok m10 n10.1, n10.2, ck_n (by omega) (by omega), nI_clamp (by omega), ss_ok, lt_ok, ad1]
      refine ⟨_, rfl, rfl, fun j hj => ?_, fun x j hx => by dsimp only; rw [gs_ne (by omega)]; exact q2 x j hx⟩
      dsimp only
      by_cases hji : j = i
      · subst hji; rw [gs_eq]; rfl
      · rw [gs_ne (by omega)]; exact q1 j (by omega))
    (by
      rintro ⟨v, s⟩ rec ⟨rfl, q⟩
      unfold bX7_dealsDummies_2
      rw [if_pos (nI_le (Nat.le_refl _) (by omega))]
      exact ⟨_, rfl, q⟩)
    (a := ((0 : Int32), σ)) ⟨rfl, fun j hj => absurd hj (Nat.not_lt_zero j), fun _ _ _ => rfl⟩
  dsimp only at p1 p2
  rw [e1, bd_ok]
  obtain ⟨⟨v, s2⟩, e2, g1, g2⟩ := for_in (F := fun (rec : Int32 × Sg → Option (Int32 × Sg)) (a : Int32 × Sg) => bX7_dealsDummies_22 E (nI D) (nI k) 395 (fun u0 t => rec (u0, t)) a.1 a.2) D
    (fun i b => b.1 = nI i ∧ (∀ j, j < k → gi b.2 405 j = nI (dms pf fr k i j)) ∧ ∀ x j, x ≠ 405 → gi b.2 x j = gi σ x j) (fun b => (∀ j, j < k → gi b.2 405 j = nI (dms pf fr k D j)) ∧ ∀ x j, x ≠ 405 → gi b.2 x j = gi σ x j) (N := FU) (by show D < 1000000; omega)
    (by
      rintro i ⟨v, s⟩ rec hi ⟨rfl, q1, q2⟩
      dsimp only at q1 q2 ⊢
      obtain ⟨d1, d2, d3, d4⟩ := dms_ok (pf := pf) (fr := fr) (k := k) (n := i) (by omega)
      obtain ⟨b, hb⟩ := d4 (by omega)
      obtain ⟨hb1, hb2⟩ := bst_some hb
      generalize hdd : dms pf fr k i = d at *
      have hdb : ∀ t, t < k → d t ≤ 253 := fun t ht => Nat.le_trans (d2 t ht) (hp t ht).2
      have hloop : fx (fun rec a => bX7_dealsDummies_33 E (nI k) 395 (fun u0 u1 t => rec ((u0, u1), t)) a.1.1 a.1.2 a.2) FU (((-1 : Int32), (0 : Int32)), s) = some ((optI (bst pf d fr k), nI k), s) := by
        refine for_tr k (fun j => ((optI (bst pf d fr j), nI j), s)) (by show k < 1000000; omega) (fun j rec hj => ?_) (fun rec => ?_) rfl
        · obtain ⟨z1, z2⟩ := hp j hj
          have z3 := hdb j hj
          dsimp only
          unfold bX7_dealsDummies_33
          rw [if_neg (nI_ge hj (by omega)), dr_ok m10 n10.1, n10.2, ck_n (by omega) (by omega), dr_ok m8 n8.1, n8.2, ck_n (by omega) (by omega), nI_clamp (by omega), q1 j hj, q2 403 j (by omega), z1]
          have hbs : bst pf d fr (j + 1) = match bst pf d fr j with | none => if d j < pf j then some j else none | some b => if d j < pf j ∧ fr = false ∧ d j < d b then some j else some b := rfl
          rw [hbs]
          by_cases hc : pf j ≤ d j
          · rw [if_pos (nI_le hc (by omega)), bd_ok, if_pos rfl, bd_ok, lt_ok, ad1]
            cases bst pf d fr j with
            | none => dsimp only; rw [if_neg (by omega)]
            | some b => dsimp only; rw [if_neg (by omega)]
          · rw [if_neg (nI_ge (by omega) (by omega)), bd_ok, if_neg (by decide)]
            cases hbj : bst pf d fr j with
            | none => rw [if_pos (by rfl), bd_ok, lt_ok, ad1]; dsimp only; rw [if_pos (by omega)]; rfl
            | some b =>
              obtain ⟨w1, w2⟩ := bst_some hbj
              have w3 := hdb b (by omega)
              rw [show optI (some b) = nI b from rfl, if_neg (nI_nm1 (by omega)), m_isFront hM hM2 (fr := fr) (by rw [q2 _ _ (by omega)]; exact h4), bd_ok]
              dsimp only
              cases hfr : fr with
              | true => rw [if_pos (by decide), bd_ok, lt_ok, ad1, if_neg (by simp)]; rfl
              | false =>
                rw [if_neg (by simp; rfl), ck_n (by omega) (by omega), ck_n (by omega) (by omega), nI_clamp (by omega), q1 b (by omega), q1 j hj]
                by_cases hc2 : d b ≤ d j
                · rw [if_pos (nI_le hc2 (by omega)), bd_ok, lt_ok, ad1, if_neg (by omega)]; rfl
                · rw [if_neg (nI_ge (by omega) (by omega)), bd_ok, lt_ok, ad1, if_pos ⟨by omega, rfl, by omega⟩]; rfl
        · unfold bX7_dealsDummies_33
          dsimp only
          rw [if_pos (nI_le (Nat.le_refl _) (by omega))]
      unfold bX7_dealsDummies_22
      rw [if_neg (nI_ge hi (by omega)), hloop, bd_ok, hb]
      dsimp only
      rw [show optI (some b) = nI b from rfl, dr_ok m10 n10.1, n10.2, ck_n (by omega) (by omega), ck_n (by omega) (by omega), nI_clamp (by omega), q1 b hb1, ad1, ss_ok, lt_ok, ad1]
      have hnx : dms pf fr k (i + 1) = inc d b := by show inc (dms pf fr k i) ((bst pf (dms pf fr k i) fr k).getD 0) = _; rw [hdd, hb]; rfl
      refine ⟨_, rfl, rfl, fun j hj => ?_, fun x j hx => by dsimp only; rw [gs_ne (by omega)]; exact q2 x j hx⟩
      dsimp only
      rw [hnx]; unfold inc
      by_cases hjb : j = b
      · subst hjb; rw [gs_eq, if_pos rfl]
      · rw [if_neg hjb, gs_ne (by omega)]; exact q1 j hj)
    (by
      rintro ⟨v, s⟩ rec ⟨rfl, q⟩
      unfold bX7_dealsDummies_22
      rw [if_pos (nI_le (Nat.le_refl _) (by omega))]
      exact ⟨_, rfl, q⟩)
    (a := ((0 : Int32), s1)) ⟨rfl, p1, p2⟩
  dsimp only at g1 g2
  rw [e2, bd_ok]
  obtain ⟨d1, d2, d3, d4⟩ := dms_ok (pf := pf) (fr := fr) (k := k) (n := D) hD
  generalize hdd : dms pf fr k D = d at *
  have hdb : ∀ t, t < k → d t ≤ 253 := fun t ht => Nat.le_trans (d2 t ht) (hp t ht).2
  have hx2 : DLr s2 F n ro gl (fun _ => []) 0 0 := by
    obtain ⟨y1, y2, y3, y4⟩ := hx
    exact ⟨xt_fr y1 (fun k _ => g2 _ _ (by omega)), by rw [g2 _ _ (by omega)]; exact y2, fun z hz => (by
      obtain ⟨t, _, hzt⟩ := catX_mem.mp hz
      cases hzt), y4⟩
  obtain ⟨⟨v, s3⟩, e3, X, w1, w2, w3⟩ := for_in (F := fun (rec : Int32 × Sg → Option (Int32 × Sg)) (a : Int32 × Sg) => bX7_dealsDummies_127 E (nI k) 395 (fun u0 t => rec (u0, t)) a.1 a.2) k
    (fun i b => b.1 = nI i ∧ ∃ X, DLr b.2 F n ro gl X (sumF d i) 0 ∧ (∀ t, (X t).map (fun z => z.2.2) = if t < i then List.replicate (d t) dum else []) ∧ ∀ x j, esR x j → gi b.2 x j = gi s2 x j)
    (fun b => ∃ X, DLr b.2 F n ro gl X D 0 ∧ (∀ t, (X t).map (fun z => z.2.2) = if t < k then List.replicate (d t) dum else []) ∧ ∀ x j, esR x j → gi b.2 x j = gi s2 x j) (N := FU) (by show k < 1000000; omega)
    (by
      rintro i ⟨v, s⟩ rec hi ⟨rfl, X, q1, q2, q3⟩
      dsimp only at q1 q3 ⊢
      have hsd : sumF d i + d i ≤ D := by
        have : sumF d (i + 1) ≤ sumF d k := by
          have : ∀ j, i + 1 ≤ j → sumF d (i + 1) ≤ sumF d j := by
            intro j
            induction j with
            | zero => intro h; omega
            | succ j ih =>
              intro h
              by_cases hq : i = j
              · subst hq; exact Nat.le_refl _
              · have := ih (by omega); show _ ≤ sumF d j + d j; omega
          exact this k (by omega)
        have e : sumF d (i + 1) = sumF d i + d i := rfl
        omega
      unfold bX7_dealsDummies_127
      rw [if_neg (nI_ge hi (by omega))]
      obtain ⟨⟨v, s3⟩, e3, X3, w1, w2, w3⟩ := for_in (F := fun (rec : Int32 × Sg → Option (Int32 × Sg)) (a : Int32 × Sg) => bX7_dealsDummies_135 E 395 (nI i) (fun u0 t => rec (u0, t)) a.1 a.2) (d i)
        (fun j b => b.1 = nI j ∧ ∃ X, DLr b.2 F n ro gl X (sumF d i + j) 0 ∧ (∀ t, (X t).map (fun z => z.2.2) = if t < i then List.replicate (d t) dum else if t = i then List.replicate j dum else []) ∧ ∀ x j, esR x j → gi b.2 x j = gi s2 x j)
        (fun b => ∃ X, DLr b.2 F n ro gl X (sumF d i + d i) 0 ∧ (∀ t, (X t).map (fun z => z.2.2) = if t < i then List.replicate (d t) dum else if t = i then List.replicate (d i) dum else []) ∧ ∀ x j, esR x j → gi b.2 x j = gi s2 x j) (N := FU) (by show d i < 1000000; omega)
        (by
          rintro j ⟨v, s3⟩ rec hj ⟨rfl, X, w1, w2, w3⟩
          dsimp only at w1 w3 ⊢
          have hlen : (X i).length = j := by
            have := w2 i
            rw [if_neg (by omega), if_pos rfl] at this
            rw [← List.length_map (f := fun z : Dn => z.2.2), this, List.length_replicate]
          have hdi := hdb i hi
          unfold bX7_dealsDummies_135
          rw [dr_ok m10 n10.1, n10.2, ck_n (by omega) (by omega), nI_clamp (by omega), w3 405 i (by unfold esR; omega), g1 i hi, if_neg (nI_ge hj (by omega)), m_makes hM hM2 w1.2.1 (by omega), bd_ok]
          generalize hs4 : si (si (si (si s3 396 (1227 + (sumF d i + j)) 0) 396 (1927 + (sumF d i + j)) 0) 396 (2627 + (sumF d i + j)) 0) 395 15 (nI (sumF d i + j + 1)) = s4
          have f4 : ∀ x k, ¬ (x = 396 ∧ (k = 1227 + (sumF d i + j) ∨ k = 1927 + (sumF d i + j) ∨ k = 2627 + (sumF d i + j))) → ¬ (x = 395 ∧ k = 15) → gi s4 x k = gi s3 x k := fun x k q1 q2 => by rw [← hs4, gs_ne (by omega), gs_ne (by omega), gs_ne (by omega), gs_ne (by omega)]
          obtain ⟨s5, e5, x5, f5⟩ := m_last hM hM2 (σ := s4) (xt_fr w1.1 (fun k hk => f4 _ _ (by omega) (by omega))) (t := i) (by omega) (sumF d i + j, 0, dum) (by omega)
          rw [e5, bv_ok, lt_ok, ad1]
          refine ⟨_, rfl, rfl, upX X i (X i ++ [(sumF d i + j, 0, dum)]), ?_, fun t => ?_, fun x j' he => ?_⟩
          · have := dl_add (s := s5) (t := i) (z := ((sumF d i + j, 0, dum) : Dn)) w1 (by omega) (by omega) rfl (List.perm_append_singleton _ _) x5 (by rw [f5 _ _ (by omega), ← hs4, gs_eq]) ⟨by show sumF d i + j < 700; omega, by rw [f5 _ _ (by omega), ← hs4, gs_ne (by omega), gs_ne (by omega), gs_ne (by omega), gs_eq]; rfl, by rw [f5 _ _ (by omega), ← hs4, gs_ne (by omega), gs_ne (by omega), gs_eq]; rfl, by rw [f5 _ _ (by omega), ← hs4, gs_ne (by omega), gs_eq]; rfl, Nat.zero_le _, fun i hi => absurd hi (Nat.not_lt_zero i)⟩ (Nat.le_refl _) (fun k hk => by rw [f5 _ _ (by omega), f4 _ _ (by omega) (by omega)])
            exact this
          · unfold upX
            by_cases hti : t = i
            · subst hti
              rw [if_pos rfl, if_neg (by omega), if_pos rfl, List.map_append]
              have := w2 t
              rw [if_neg (by omega), if_pos rfl] at this
              rw [this, List.replicate_succ']; rfl
            · rw [if_neg hti, w2 t, if_neg hti, if_neg hti]
          · dsimp only
            have h1 : gi s5 x j' = gi s3 x j' := by
              unfold esR at he
              rw [f5 _ _ (by omega), f4 _ _ (by omega) (by omega)]
            rw [h1]; exact w3 x j' he)
        (by
          rintro ⟨v, s3⟩ rec ⟨rfl, X, w1, w2, w3⟩
          dsimp only at w1 w3 ⊢
          unfold bX7_dealsDummies_135
          rw [dr_ok m10 n10.1, n10.2, ck_n (by omega) (by omega), nI_clamp (by omega), w3 405 i (by unfold esR; omega), g1 i hi, if_pos (nI_le (Nat.le_refl _) (by have := hdb i hi; omega))]
          exact ⟨_, rfl, X, w1, w2, w3⟩)
        (a := ((0 : Int32), s)) ⟨rfl, X, q1, fun t => by
          rw [q2 t]
          by_cases hti : t = i
          · subst hti; rw [if_neg (by omega), if_neg (by omega), if_pos rfl]; rfl
          · rw [if_neg hti], q3⟩
      dsimp only at w1 w3
      rw [e3, bd_ok, lt_ok, ad1]
      refine ⟨_, rfl, rfl, X3, w1, fun t => ?_, w3⟩
      rw [w2 t]
      by_cases hti : t = i
      · subst hti; rw [if_neg (by omega), if_pos rfl, if_pos (by omega)]
      · rw [if_neg hti]
        by_cases hlt : t < i
        · rw [if_pos hlt, if_pos (by omega)]
        · rw [if_neg hlt, if_neg (by omega)])
    (by
      rintro ⟨v, s⟩ rec ⟨rfl, X, q1, q2, q3⟩
      dsimp only at q1 q3
      unfold bX7_dealsDummies_127
      rw [if_pos (nI_le (Nat.le_refl _) (by omega))]
      rw [d1] at q1
      exact ⟨_, rfl, X, q1, q2, q3⟩)
    (a := ((0 : Int32), s2)) ⟨rfl, fun _ => [], hx2, fun t => by rw [if_neg (by omega)]; rfl, fun _ _ _ => rfl⟩
  dsimp only at w1 w3
  rw [e3, bd_ok]
  refine ⟨s3, X, rfl, w1, fun t => ?_, fun t ht => by rw [w3 405 t (by unfold esR; omega)]; exact g1 t ht, fun t ht => by rw [w3 403 t (by unfold esR; omega), g2 _ _ (by omega)]; exact (hp t ht).1, fun x j he h5 => ?_⟩
  · rw [w2 t]
    by_cases hlt : t < k
    · rw [if_pos hlt]
    · rw [if_neg hlt, d3 t (by omega)]; rfl
  · rw [w3 x j he]
    exact g2 x j h5
end DE
