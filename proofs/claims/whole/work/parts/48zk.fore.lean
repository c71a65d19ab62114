/-! forecast: what is fetched, of a row of tapes; the class -/
def incD (dn : Nat → Nat) (t : Nat) : Nat → Nat := fun u => if u = t then dn t + 1 else dn u
def scn (B : Nat) (sz : Nat → Nat) (kq : Int32) : List Nat → (Nat → Nat) → Nat → Nat ⊕ Nat
  | [], _, f => .inl f
  | t :: l, dn, f => if (dn t + 1) % B = 0 ∧ dn t + 1 < sz t then (if nI f = kq then .inr t else scn B sz kq l (incD dn t) (f + 1)) else scn B sz kq l (incD dn t) f
theorem scn_cons {B : Nat} {sz : Nat → Nat} {kq : Int32} {t : Nat} {l : List Nat} {dn : Nat → Nat} {f : Nat} : scn B sz kq (t :: l) dn f = if (dn t + 1) % B = 0 ∧ dn t + 1 < sz t then (if nI f = kq then .inr t else scn B sz kq l (incD dn t) (f + 1)) else scn B sz kq l (incD dn t) f := rfl
def scR (kq : Int32) : Nat ⊕ Nat → Int32
  | .inl f => if kq = -1 then nI f else -2
  | .inr t => nI t
/-- what a loop that scans ends with -/
def scE (an : Nat ⊕ Nat) (b : (Int32 × Int32) ⊕ Int32) : Prop := match an with
  | .inl f => ∃ v, b = .inl (nI f, v)
  | .inr t => b = .inr (nI t)
theorem sc_fin {an : Nat ⊕ Nat} {b : (Int32 × Int32) ⊕ Int32} {kq : Int32} {s : Sg} (h : scE an b) : (sm b (fun vo42 => bd (if ¬ kq = (-1 : Int32) then (some ((-2 : Int32), s)) else (some (vo42.1, s))) (fun w44 s45 => some (w44, s45))) (fun rr => some (rr, s))) = some (scR kq an, s) := by
  cases an with
  | inl f =>
    obtain ⟨v, rfl⟩ := h
    show bd (if ¬ kq = (-1 : Int32) then (some ((-2 : Int32), s)) else (some (nI f, s))) (fun w44 s45 => some (w44, s45)) = some (if kq = -1 then nI f else -2, s)
    by_cases hq : kq = -1
    · rw [if_neg (fun z => z hq), if_pos hq]; rfl
    · rw [if_pos hq, if_neg hq]; rfl
  | inr t =>
    have h : b = .inr (nI t) := h
    subst h; rfl
theorem for_ex {α β : Type} {F : (α → Option β) → α → Option β} (n : Nat) (I : Nat → α → Prop) (Q : β → Prop) {N : Nat} (hN : n < N) (hs : ∀ i a rec, i < n → I i a → (∃ b, F rec a = some b ∧ Q b) ∨ ∃ a', F rec a = rec a' ∧ I (i + 1) a') (he : ∀ a rec, I n a → ∃ b, F rec a = some b ∧ Q b) {a : α} (ha : I 0 a) : ∃ b, fx F N a = some b ∧ Q b := by
  have : ∀ k N a, k ≤ n → n - k < N → I k a → ∃ b, fx F N a = some b ∧ Q b := by
    intro k N
    induction N generalizing k with
    | zero => intro a h1 h2; omega
    | succ N ih =>
      intro a h1 h2 h3
      by_cases h : k = n
      · subst h; exact he a _ h3
      · rcases hs k a (fx F N) (by omega) h3 with h4 | ⟨a', e, h4⟩
        · exact h4
        · show ∃ b, F (fx F N) a = some b ∧ Q b
          rw [e]
          exact ih (k + 1) a' (by omega) (by omega) h4
  exact this 0 N a (by omega) (by omega) ha
/-- the tape that gives a record, if one does -/
def tko (w T : Nat) (ro : Nat → Nat) (A : Mi) (x : Nat) : Option Nat := fstF (fun t => gvf w (T / 2) (mK A) t && (hdr (mT A t)).1.contains (ro x)) T
theorem fmp_eq {p : Nat → Option Nat} : ∀ {l : List Nat}, l.filterMap p = (l.filter (fun x => (p x).isSome)).map (fun x => (p x).getD 0)
  | [] => rfl
  | x :: l => by
    rw [List.filterMap_cons, List.filter_cons]
    cases h : p x with
    | none => simp [fmp_eq (p := p) (l := l)]
    | some t => simp [fmp_eq (p := p) (l := l), h]
section FC
variable {E : En} {σ : Sg} {w T nr n : Nat} {bk : Bool} {gl F ro : Nat → Nat} {A : Mi}
theorem tko_some {x t : Nat} (h : tko w T ro A x = some t) : t < T ∧ gvf w (T / 2) (mK A) t = true ∧ ro x ∈ (hdr (mT A t)).1 := by
  obtain ⟨h1, h2, h3⟩ := fstF_some h
  rw [Bool.and_eq_true, List.contains_iff_mem] at h2
  exact ⟨h1, h2.1, h2.2⟩
theorem tko_in {x t : Nat} (ha : AI T nr A) (ht : t < T) (hg : gvf w (T / 2) (mK A) t = true) (hx : ro x ∈ (hdr (mT A t)).1) : tko w T ro A x = some t := by
  obtain ⟨e, he, _⟩ := fstF_ex (p := fun t => gvf w (T / 2) (mK A) t && (hdr (mT A t)).1.contains (ro x)) ht (by rw [Bool.and_eq_true, List.contains_iff_mem]; exact ⟨hg, hx⟩)
  have he' : tko w T ro A x = some e := he
  obtain ⟨h1, h2, h3⟩ := tko_some he'
  have := dj_same (oc_dj ha.1) h1 ht (by rw [← ha.2.1 e h1]; exact (gv_fl h2).2) h3 (gv_hd ha ht hg) hx
  rw [he', this.2]
theorem tko_is {x : Nat} : (tko w T ro A x).isSome = (ctA w T A).contains (ro x) := by
  cases h : tko w T ro A x with
  | some t =>
    obtain ⟨h1, h2, h3⟩ := tko_some h
    exact (List.contains_iff_mem.mpr (cat_memI.mpr ⟨t, h1, h2, h3⟩)).symm
  | none =>
    cases hq : (ctA w T A).contains (ro x) with
    | false => rfl
    | true =>
      obtain ⟨t, h1, h2, h3⟩ := cat_memI.mp (List.contains_iff_mem.mp hq)
      have := fstF_none h t h1
      rw [h2, List.contains_iff_mem.mpr h3] at this
      cases this
theorem c_tkR (hL : LMill E 11 300) (hT : T ≤ 6) (hnr : nr ≤ 700) (ha : AI T nr A) {h : Nat → Int32} (ho : HOl T h A) (h1 : gi σ 11 1 = nI T) (h4 : ∀ t, t < T → gi σ 15 t = tkI (gvf w (T / 2) (mK A)) (mT A) t) {x : Nat} (hx : ro x < nr) : fX1_takenFrom E 11 (h (ro x)) σ = some (optI (tko w T ro A x), σ) := by
  obtain ⟨o, o1, o2, o3⟩ := hol_tk (w := w) hL hT hnr ha ho h1 h4 hx
  rw [o1]
  cases hq : o with
  | some e =>
    obtain ⟨y1, y2, y3⟩ := o2 e hq
    rw [tko_in ha y1 y2 y3]
  | none =>
    have := o3 hq
    have hn : tko w T ro A x = none := by
      cases hz : tko w T ro A x with
      | none => rfl
      | some t =>
        obtain ⟨h1, h2, h3⟩ := tko_some hz
        exact absurd (cat_memI.mpr ⟨t, h1, h2, h3⟩) this
    rw [hn]
theorem c_fetB (hS : LSta E 2) {t d z B : Nat} (ht : t < 6) (hd : d < 2 ^ 20) (hz : z < 2 ^ 20) (hB : 1 ≤ B) (hB2 : B ≤ 16) (h34 : gi σ 34 t = nI d) (hsz : ∀ s : Sg, (∀ x k, x ≠ 34 → gi s x k = gi σ x k) → fX1_sizeOf E 11 (gi s 15 t) s = some (nI z, s)) : fX4_isFetchedBehindNext E 2 (nI t) (nI B) σ = some (bI (decide ((d + 1) % B = 0 ∧ d + 1 < z)), si σ 34 t (nI (d + 1))) := by
  obtain ⟨b0, rb0, rb1, rb3, rb4, rb5, rb6, lr, la4, lg, lm, la31, la32⟩ := id hS
  have l34 : cd E 34 = 100 ∧ ln E 34 = 6 := la32
  have l11 : cd E 11 = 1 := lm.1
  have r13 : rf E 11 13 = some 15 := lm.2.2.2.2.1
  have l15 : cd E 15 = 100 ∧ ln E 15 = 6 := lm.2.2.2.2.2.2.2.2.2.2.2.2.1
  unfold fX4_isFetchedBehindNext
  rw [tk_ok b0, dr_ok (show rf E 2 6 = some 34 from rb6) l34.1, l34.2, ck_n (by omega) (by omega), ck_n (by omega) (by omega), nI_clamp (by omega), h34, ad1, ss_ok, if_neg (show ¬ nI B ≤ 0 from nI_ge (a := 0) hB (by omega)), ck_n (by omega) (by omega), gs_eq]
  unfold nz
  rw [if_neg (nI_ne0 (by omega) (by omega)), im_n (by omega) (by omega) (by omega)]
  have hlt := Nat.mod_lt (d + 1) (show 0 < B by omega)
  by_cases hm : (d + 1) % B = 0
  · rw [if_neg (show ¬ ¬ nI ((d + 1) % B) = 0 by rw [hm]; exact fun z => z rfl), ck_n (by omega) (by omega), dr_ok (show rf E 2 4 = some 11 from rb4) l11, dr_ok r13 l15.1, l15.2, ck_n (by omega) (by omega), hsz _ (fun x k hx => gs_ne (by omega)), bd_ok]
    by_cases hl : d + 1 < z
    · rw [if_neg (nI_ge hl (by omega)), bd_ok, kb_1, decide_eq_true ⟨hm, hl⟩]; rfl
    · rw [if_pos (nI_le (by omega) (by omega)), bd_ok, kb_0, decide_eq_false (fun q => hl q.2)]; rfl
  · rw [if_pos (show ¬ nI ((d + 1) % B) = 0 from nI_ne0 (by omega) (by omega)), bd_ok, kb_0, decide_eq_false (fun q => hm q.1)]; rfl
/-- the class scans its records -/
theorem c_scan (hS : LSta E 2) (hT : T ≤ 6) (hnr : nr ≤ 300) (hg : GV F n ro gl nr) (ha : AI T nr A) (hR : RMl σ 11 w T bk gl nr A) (ho : HOl T (gi σ 33) A) (h15 : ∀ t, t < T → gi σ 15 t = tkI (gvf w (T / 2) (mK A)) (mT A) t) {fal : Bool} (hf : gi σ 11 15 = bI fal) (h32 : gi σ 3 2 = nI n) (h5 : ∀ i, i < n → gi σ 5 i = nI ((rs F n).getD i 0)) (h8 : ∀ x, x < n → gi σ 8 x = nI (ro x)) (h34 : ∀ t, t < 6 → gi σ 34 t = nI 0) {B : Nat} (hB : 1 ≤ B) (hB2 : B ≤ 16) (kq : Int32) :
    ∃ b, fx (fun rec a => bX4_fetchedTape_33 E 2 11 (nI B) kq (fun u0 u1 t => rec ((u0, u1), t)) a.1.1 a.1.2 a.2) FU (((0 : Int32), (0 : Int32)), σ) = some b ∧ scE (scn B (fun t => szl gl (hdr (mT A t)).1) kq ((lst F n fal).filterMap (tko w T ro A)) (fun _ => 0) 0) b.1 ∧ ∀ x k, x ≠ 34 → gi b.2 x k = gi σ x k := by
  obtain ⟨b0, rb0, rb1, rb3, rb4, rb5, rb6, lr, la4, lg, lm, la31, la32⟩ := id hS
  have hn := hg.1
  have hll : (lst F n fal).length = n := lst_len
  refine for_ex n (fun r (b : (Int32 × Int32) × Sg) => ∃ dn f, b.1 = (nI f, nI r) ∧ (∀ t, t < 6 → gi b.2 34 t = nI (dn t) ∧ dn t ≤ r) ∧ (∀ x k, x ≠ 34 → gi b.2 x k = gi σ x k) ∧ scn B (fun t => szl gl (hdr (mT A t)).1) kq (((lst F n fal).drop r).filterMap (tko w T ro A)) dn f = scn B (fun t => szl gl (hdr (mT A t)).1) kq ((lst F n fal).filterMap (tko w T ro A)) (fun _ => 0) 0)
    (fun (b : ((Int32 × Int32) ⊕ Int32) × Sg) => scE (scn B (fun t => szl gl (hdr (mT A t)).1) kq ((lst F n fal).filterMap (tko w T ro A)) (fun _ => 0) 0) b.1 ∧ ∀ x k, x ≠ 34 → gi b.2 x k = gi σ x k) (by show n < 1000000; omega) ?_ ?_ ⟨fun _ => 0, 0, rfl, fun t ht => ⟨h34 t ht, Nat.le_refl _⟩, fun _ _ _ => rfl, rfl⟩
  · rintro r ⟨v, s⟩ rec hr ⟨dn, f, f0, f1, f2, f3⟩
    dsimp only at f0 f1 f2 ⊢
    subst f0
    dsimp only
    have hx := lst_lt (F := F) (f := fal) hr
    have hro := hg.2.2.2 _ hx
    have hdrop : (lst F n fal).drop r = (lst F n fal).getD r 0 :: (lst F n fal).drop (r + 1) := by
      rw [List.drop_eq_getElem_cons (by omega), List.getD_eq_getElem?_getD, List.getElem?_eq_getElem (by omega)]; rfl
    rw [hdrop] at f3
    generalize hxd : (lst F n fal).getD r 0 = x at *
    have hRs : RMl s 11 w T bk gl nr A := rml_tr hT hR (fun x k hx => f2 _ _ (by omega))
    have hos : HOl T (gi s 33) A := fun t r j h1 h2 h3 => by rw [f2 _ _ (by omega)]; exact ho t r j h1 h2 h3
    have htk := c_tkR (σ := s) (x := x) (w := w) (ro := ro) lm hT (by omega) ha hos (by obtain ⟨L, H, hms, _⟩ := hRs; exact hms.1.2.1) (fun t ht => by rw [f2 _ _ (by omega)]; exact h15 t ht) hro
    have hrk := c_ranked (σ := s) (a := 3) (i := r) (f := fal) (F := F) lr (by rw [f2 _ _ (by omega)]; exact h32) hn (fun i hi => by show gi s 5 i = _; rw [f2 _ _ (by omega)]; exact h5 i hi) hr
    rw [hxd] at hrk
    unfold bX4_fetchedTape_33
    rw [dr_ok (show rf E 2 0 = some 3 from rb0) (show cd E 3 = 3 from lr.1), f2 3 2 (by omega), h32, if_neg (nI_ge hr (by omega)), f2 11 15 (by omega), hf, hrk, bd_ok, dr_ok (show rf E 2 5 = some 33 from rb5) (show cd E 33 = 100 from la31.1), dr_ok (show rf E 2 3 = some 7 from rb3) (show cd E 7 = 0 from lg.1), dr_ok (show rf E 7 0 = some 8 from lg.2.1) (show cd E 8 = 100 from lg.2.2.2.2.1.1), show ln E 8 = 300 from lg.2.2.2.2.1.2, ck_n (by omega) (by omega), nI_clamp (by omega), f2 8 x (by omega), h8 x hx, show ln E 33 = 300 from la31.2, ck_n (by omega) (by omega), nI_clamp (by omega), htk, bd_ok]
    rw [List.filterMap_cons] at f3
    cases hq : tko w T ro A x with
    | none =>
      rw [hq] at f3
      rw [if_pos (show optI none = -1 from rfl), lt_ok, ad1]
      exact Or.inr ⟨_, rfl, dn, f, rfl, fun t ht => ⟨(f1 t ht).1, by have := (f1 t ht).2; omega⟩, f2, f3⟩
    | some t =>
      rw [hq] at f3
      obtain ⟨t1, t2, t3⟩ := tko_some hq
      obtain ⟨d1, d2⟩ := f1 t (by omega)
      have hmem := gv_hd ha t1 t2
      have hszb := sz_le hg ha t1 hmem
      have hfb := c_fetB (σ := s) (t := t) (d := dn t) (z := szl gl (hdr (mT A t)).1) (B := B) hS (by omega) (by omega) (by omega) hB hB2 d1 (fun s' hs' => by
        have hR' : RMl s' 11 w T bk gl nr A := rml_tr hT hRs (fun x k hx => hs' _ _ (by omega))
        obtain ⟨L, H, hms, _, hD, _⟩ := hR'
        rw [hs' 15 t (by omega), f2 15 t (by omega), h15 t t1]
        unfold tkI
        rw [if_pos t2]
        exact c_sizeOf lm hms.1.2.2.2.2 hnr (by omega) (hD t t1 _ hmem))
      have hnew : ∀ u, u < 6 → gi (si s 34 t (nI (dn t + 1))) 34 u = nI (incD dn t u) ∧ incD dn t u ≤ r + 1 := by
        intro u hu
        unfold incD
        by_cases hut : u = t
        · subst hut; rw [gs_eq, if_pos rfl]; exact ⟨rfl, by omega⟩
        · rw [gs_ne (by omega), if_neg hut]; exact ⟨(f1 u hu).1, by have := (f1 u hu).2; omega⟩
      have hfr : ∀ x k, x ≠ 34 → gi (si s 34 t (nI (dn t + 1))) x k = gi σ x k := fun x k hx => by rw [gs_ne (by omega)]; exact f2 x k hx
      have f3' : scn B (fun t => szl gl (hdr (mT A t)).1) kq (t :: ((lst F n fal).drop (r + 1)).filterMap (tko w T ro A)) dn f = scn B (fun t => szl gl (hdr (mT A t)).1) kq ((lst F n fal).filterMap (tko w T ro A)) (fun _ => 0) 0 := f3
      rw [scn_cons] at f3'
      rw [if_neg (show ¬ optI (some t) = -1 from nI_nm1 (n := t) (by omega)), show optI (some t) = nI t from rfl, hfb, bd_ok]
      by_cases hc : (dn t + 1) % B = 0 ∧ dn t + 1 < szl gl (hdr (mT A t)).1
      · rw [if_pos hc] at f3'
        rw [decide_eq_true hc, if_neg (by decide)]
        by_cases hk : nI f = kq
        · rw [if_pos hk] at f3'
          rw [if_neg (fun z => z hk)]
          refine Or.inl ⟨_, rfl, ?_, hfr⟩
          have hgo : scE (.inr t) (.inr (nI t)) := rfl
          rw [f3'] at hgo
          exact hgo
        · rw [if_neg hk] at f3'
          rw [if_pos hk, lt_ok, lt_ok, ad1, ad1]
          exact Or.inr ⟨_, rfl, incD dn t, f + 1, rfl, hnew, hfr, f3'⟩
      · rw [if_neg hc] at f3'
        rw [decide_eq_false hc, if_pos (by rfl), lt_ok, ad1]
        exact Or.inr ⟨_, rfl, incD dn t, f, rfl, hnew, hfr, f3'⟩
  · rintro ⟨v, s⟩ rec ⟨dn, f, f0, f1, f2, f3⟩
    dsimp only at f0 f1 f2 ⊢
    subst f0
    dsimp only
    unfold bX4_fetchedTape_33
    rw [dr_ok (show rf E 2 0 = some 3 from rb0) (show cd E 3 = 3 from lr.1), f2 3 2 (by omega), h32, if_pos (nI_le (Nat.le_refl _) (by omega))]
    refine ⟨_, rfl, ?_, f2⟩
    rw [List.drop_eq_nil_of_le (by omega)] at f3
    have f3 : (.inl f : Nat ⊕ Nat) = _ := f3
    rw [← f3]
    exact ⟨_, rfl⟩
end FC
