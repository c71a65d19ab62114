/-! growth on paper -/
def lsR (F : Nat → Nat) (a b : Nat) : Prop := F a < F b ∨ (F a = F b ∧ a < b)
def lsB (F : Nat → Nat) (a b : Nat) : Bool := decide (F a < F b ∨ (F a = F b ∧ a < b))
def bet (F : Nat → Nat) (fall : Bool) (a b : Nat) : Prop := if fall then lsR F b a else lsR F a b
theorem lsB_t {F : Nat → Nat} {a b : Nat} : lsB F a b = true ↔ lsR F a b := by unfold lsB lsR; simp
theorem bet_asym {F : Nat → Nat} {f : Bool} {a b : Nat} (h : bet F f a b) (h2 : bet F f b a) : False := by
  unfold bet lsR at h h2
  cases f
  · simp at h h2; omega
  · simp at h h2; omega
theorem bet_trans {F : Nat → Nat} {f : Bool} {a b c : Nat} (h : bet F f a b) (h2 : bet F f b c) : bet F f a c := by
  unfold bet lsR at h h2 ⊢
  cases f
  · simp at h h2 ⊢; omega
  · simp at h h2 ⊢; omega
theorem bet_tot {F : Nat → Nat} {f : Bool} {a b : Nat} (h : a ≠ b) : bet F f a b ∨ bet F f b a := by
  unfold bet lsR
  cases f
  · simp; omega
  · simp; omega
theorem bet_ls {F : Nat → Nat} {f : Bool} {a b : Nat} (h : a ≠ b) : (lsB F a b != f) = true ↔ bet F f a b := by
  unfold bet
  have h1 := lsB_t (F := F) (a := a) (b := b)
  cases f
  · simp only [Bool.bne_false, if_neg Bool.false_ne_true]; exact h1
  · have : ¬ lsR F a b ↔ lsR F b a := by unfold lsR; omega
    simp only [if_true, ← this, ← h1]
    cases lsB F a b <;> simp
theorem insR_lt {F : Nat → Nat} {n : Nat} : ∀ {l : List Nat}, (∀ x ∈ l, x < n) → l.Pairwise (lsR F) → (insR F n l).Pairwise (lsR F)
  | [], _, _ => by simp [insR]
  | a :: l, hl, h => by
    obtain ⟨h1, h2⟩ := List.pairwise_cons.mp h
    have ha := hl a List.mem_cons_self
    unfold insR
    split
    · next hc =>
      refine List.pairwise_cons.mpr ⟨fun b hb => ?_, h⟩
      rcases List.mem_cons.mp hb with rfl | hb
      · exact Or.inl hc
      · have := h1 b hb; unfold lsR at this ⊢; omega
    · next hc =>
      refine List.pairwise_cons.mpr ⟨fun b hb => ?_, insR_lt (fun x hx => hl x (List.mem_cons_of_mem _ hx)) h2⟩
      rcases insR_mem.mp hb with rfl | hb
      · unfold lsR; omega
      · exact h1 b hb
theorem rs_lt (F : Nat → Nat) : ∀ n, (rs F n).Pairwise (lsR F)
  | 0 => List.Pairwise.nil
  | n + 1 => insR_lt (fun x hx => rs_mem.mp hx) (rs_lt F n)
def lst (F : Nat → Nat) (n : Nat) (fall : Bool) : List Nat := if fall then (rs F n).reverse else rs F n
theorem lst_mem {F : Nat → Nat} {n x : Nat} {f : Bool} : x ∈ lst F n f ↔ x < n := by
  unfold lst
  cases f
  · simp [rs_mem]
  · simp [rs_mem]
theorem lst_srt {F : Nat → Nat} {n : Nat} {f : Bool} : (lst F n f).Pairwise (bet F f) := by
  unfold lst bet
  cases f
  · simpa using rs_lt F n
  · simpa [List.pairwise_reverse] using rs_lt F n
theorem lst_len {F : Nat → Nat} {n : Nat} {f : Bool} : (lst F n f).length = n := by
  unfold lst; cases f <;> simp [rs_len]
theorem lst_at {F : Nat → Nat} {n i : Nat} {f : Bool} (hi : i < n) : (lst F n f).getD i 0 = (rs F n).getD (if f then n - 1 - i else i) 0 := by
  unfold lst
  cases f
  · rfl
  · simp only [if_true]
    rw [List.getD_eq_getElem?_getD, List.getD_eq_getElem?_getD, List.getElem?_reverse (by rw [rs_len]; exact hi), rs_len]
theorem bet_nodup {F : Nat → Nat} {f : Bool} {l : List Nat} (h : l.Pairwise (bet F f)) : l.Nodup := h.imp (fun {a b} hab he => by subst he; exact bet_asym hab hab)
theorem srt_uniq {F : Nat → Nat} {f : Bool} {l l' : List Nat} (h : l.Pairwise (bet F f)) (h' : l'.Pairwise (bet F f)) (he : ∀ x, x ∈ l ↔ x ∈ l') : l = l' :=
  List.Perm.eq_of_pairwise (le := bet F f) (fun a b _ _ h1 h2 => (bet_asym h1 h2).elim) h h' ((List.perm_ext_iff_of_nodup (bet_nodup h) (bet_nodup h')).mpr he)
theorem pigeon {l : List Nat} {m : Nat} (h : l.length < m) : ∃ y, y < m ∧ y ∉ l := by
  apply Classical.byContradiction
  intro hn
  have : List.range m ⊆ l := fun x hx => by
    apply Classical.byContradiction
    intro hx2
    exact hn ⟨x, List.mem_range.mp hx, hx2⟩
  have := List.nodup_range.length_le_of_subset this
  rw [List.length_range] at this
  omega
abbrev Gr : Type := List Nat × (Nat → Nat) × Nat × (Nat → Nat)
abbrev gO (g : Gr) : List Nat := g.1
abbrev gR (g : Gr) : Nat → Nat := g.2.1
abbrev gC (g : Gr) : Nat := g.2.2.1
abbrev gB (g : Gr) : Nat → Nat := g.2.2.2
def fal (tu : Bool) (r : Nat) : Bool := tu && (r % 2 == 1)
def nxt (R n i : Nat) : Nat := min (R + i) n
def gcd' (R n i : Nat) (g : Gr) (r x : Nat) : Bool := decide (x < nxt R n i) && !((gO g).contains x) && (gR g x == r)
def gpk (F : Nat → Nat) (n R : Nat) (tu : Bool) (i : Nat) (g : Gr) (r : Nat) : Option Nat := (lst F n (fal tu r)).find? (gcd' R n i g r)
def gcu (F : Nat → Nat) (n R : Nat) (tu : Bool) (i : Nat) (g : Gr) : Nat := if (gpk F n R tu i g (gC g)).isSome then gC g else gC g + 1
def gkk (F : Nat → Nat) (n R : Nat) (tu : Bool) (i : Nat) (g : Gr) : Nat := (gpk F n R tu i g (gcu F n R tu i g)).getD 0
def gstp (F : Nat → Nat) (n R : Nat) (tu : Bool) (i : Nat) (g : Gr) : Gr :=
  (gO g ++ [gkk F n R tu i g], fun x => if x = nxt R n i ∧ nxt R n i < n then (if lsB F x (gkk F n R tu i g) == fal tu (gcu F n R tu i g) then gcu F n R tu i g else gcu F n R tu i g + 1) else gR g x, gcu F n R tu i g, fun r => if r = gcu F n R tu i g ∧ gcu F n R tu i g ≠ gC g then i else gB g r)
def gst (F : Nat → Nat) (n R : Nat) (tu : Bool) : Nat → Gr
  | 0 => ([], fun _ => 0, 0, fun _ => 0)
  | i + 1 => gstp F n R tu i (gst F n R tu i)
theorem gcd_t {R n i r x : Nat} {g : Gr} : gcd' R n i g r x = true ↔ x < nxt R n i ∧ x ∉ gO g ∧ gR g x = r := by
  unfold gcd'
  simp [and_assoc]
theorem gpk_some {F : Nat → Nat} {n R i r k : Nat} {tu : Bool} {g : Gr} (h : gpk F n R tu i g r = some k) : (k < nxt R n i ∧ k ∉ gO g ∧ gR g k = r) ∧ ∀ y, y < nxt R n i → y ∉ gO g → gR g y = r → y ≠ k → bet F (fal tu r) k y := by
  unfold gpk at h
  obtain ⟨h1, as, bs, h2, h3⟩ := List.find?_eq_some_iff_append.mp h
  refine ⟨gcd_t.mp h1, fun y q1 q2 q3 q4 => ?_⟩
  have hy : y ∈ lst F n (fal tu r) := lst_mem.mpr (by unfold nxt at q1; omega)
  have hs := lst_srt (F := F) (n := n) (f := fal tu r)
  rw [h2] at hy hs
  rcases List.mem_append.mp hy with q | q
  · have := h3 y q
    rw [gcd_t.mpr ⟨q1, q2, q3⟩] at this
    simp at this
  · rcases List.mem_cons.mp q with q | q
    · exact absurd q q4
    · exact (List.pairwise_cons.mp (List.pairwise_append.mp hs).2.1).1 y q
theorem gpk_none {F : Nat → Nat} {n R i r : Nat} {tu : Bool} {g : Gr} (h : gpk F n R tu i g r = none) {y : Nat} (q1 : y < nxt R n i) (q2 : y ∉ gO g) : gR g y ≠ r := by
  intro q3
  unfold gpk at h
  have := List.find?_eq_none.mp h y (lst_mem.mpr (by unfold nxt at q1; omega))
  exact this (gcd_t.mpr ⟨q1, q2, q3⟩)
theorem gpk_ex {F : Nat → Nat} {n R i r y : Nat} {tu : Bool} {g : Gr} (q1 : y < nxt R n i) (q2 : y ∉ gO g) (q3 : gR g y = r) : ∃ k, gpk F n R tu i g r = some k := by
  cases h : gpk F n R tu i g r with
  | none => exact absurd q3 (gpk_none h q1 q2)
  | some k => exact ⟨k, rfl⟩
/-- what holds while runs grow -/
def GI (F : Nat → Nat) (n R : Nat) (tu : Bool) (i : Nat) (g : Gr) : Prop :=
  (gO g).length = i ∧ (gO g).Nodup ∧ (∀ x, x ∈ gO g → x < nxt R n i) ∧ (∀ x, x < nxt R n i → x ∉ gO g → gR g x = gC g ∨ gR g x = gC g + 1) ∧ (∀ x, x ∈ gO g → gR g x ≤ gC g) ∧
  (∀ x y, x ∈ gO g → y < nxt R n i → y ∉ gO g → gR g x = gC g → gR g y = gC g → bet F (fal tu (gC g)) x y) ∧
  (gO g).Pairwise (fun x y => gR g x < gR g y ∨ (gR g x = gR g y ∧ bet F (fal tu (gR g x)) x y)) ∧
  (∀ r p, r ≤ gC g → p < i → (gB g r ≤ p ↔ r ≤ gR g ((gO g).getD p 0))) ∧
  gB g 0 = 0 ∧ (∀ r, r < gC g → gB g r + 2 ≤ gB g (r + 1)) ∧ (i = 0 → gC g = 0 ∧ ∀ x, gR g x = 0) ∧ (0 < i → gB g (gC g) < i) ∧ (i = gB g (gC g) + 1 → i < n → ∃ y, y < nxt R n i ∧ y ∉ gO g ∧ gR g y = gC g)
section GG
variable {F : Nat → Nat} {n R : Nat} {tu : Bool} {i : Nat} {g : Gr}
theorem gi_0 : GI F n R tu 0 (gst F n R tu 0) :=
  ⟨rfl, List.nodup_nil, fun x h => absurd h List.not_mem_nil, fun _ _ _ => Or.inl rfl, fun x h => absurd h List.not_mem_nil, fun x y h => absurd h List.not_mem_nil, List.Pairwise.nil, fun r p _ h => absurd h (Nat.not_lt_zero p), rfl, fun r h => absurd h (Nat.not_lt_zero r), fun _ => ⟨rfl, fun _ => rfl⟩, fun h => absurd h (Nat.lt_irrefl 0), fun h => absurd h (by show ¬ 0 = 0 + 1; omega)⟩
theorem nxt_s (hR : 2 ≤ R) (hi : i < n) : i < nxt R n i ∧ nxt R n i ≤ nxt R n (i + 1) ∧ nxt R n (i + 1) ≤ nxt R n i + 1 ∧ nxt R n i ≤ n ∧ (i + 1 < n → i + 1 < nxt R n i) ∧ (nxt R n i < n → nxt R n (i + 1) = nxt R n i + 1) ∧ (¬ nxt R n i < n → nxt R n (i + 1) = nxt R n i) := by
  unfold nxt; omega
/-- the one that goes out -/
theorem gi_pick (hR : 2 ≤ R) (hi : i < n) (h : GI F n R tu i g) : gpk F n R tu i g (gcu F n R tu i g) = some (gkk F n R tu i g) ∧ (gcu F n R tu i g = gC g ∨ (gcu F n R tu i g = gC g + 1 ∧ gpk F n R tu i g (gC g) = none ∧ 0 < i)) := by
  obtain ⟨h1, h2, h3, h4, h5, h6, h7, h8, h9, h10, h11, h12, h13⟩ := h
  obtain ⟨x1, x2, x3, x4, x5, x6, x7⟩ := nxt_s hR hi
  obtain ⟨y, y1, y2⟩ := pigeon (l := gO g) (m := nxt R n i) (by omega)
  cases hp : gpk F n R tu i g (gC g) with
  | some k =>
    have e : gcu F n R tu i g = gC g := by unfold gcu; rw [hp]; rfl
    refine ⟨?_, Or.inl e⟩
    unfold gkk
    rw [e, hp]; rfl
  | none =>
    have e : gcu F n R tu i g = gC g + 1 := by unfold gcu; rw [hp]; rfl
    have hy := (h4 y y1 y2).resolve_left (gpk_none hp y1 y2)
    obtain ⟨k, hk⟩ := gpk_ex (F := F) (tu := tu) y1 y2 hy
    refine ⟨by unfold gkk; rw [e, hk]; rfl, Or.inr ⟨e, rfl, ?_⟩⟩
    by_cases h0 : 0 < i
    · exact h0
    · have := h11 (by omega)
      rw [this.2 y, this.1] at hy; omega
theorem gi_s (hR : 2 ≤ R) (hi : i < n) (h : GI F n R tu i g) : GI F n R tu (i + 1) (gstp F n R tu i g) := by
  obtain ⟨hp, hc⟩ := gi_pick hR hi h
  obtain ⟨h1, h2, h3, h4, h5, h6, h7, h8, h9, h10, h11, h12, h13⟩ := id h
  obtain ⟨x1, x2, x3, x4, x5, x6, x7⟩ := nxt_s hR hi
  obtain ⟨⟨k1, k2, k3⟩, k4⟩ := gpk_some hp
  generalize hcd : gcu F n R tu i g = c at *
  generalize hkd : gkk F n R tu i g = k at *
  have e1 : gO (gstp F n R tu i g) = gO g ++ [k] := by unfold gstp; rw [hkd]
  have e3 : gC (gstp F n R tu i g) = c := hcd
  have e2 : ∀ x, x < nxt R n i → gR (gstp F n R tu i g) x = gR g x := fun x hx => by
    show (if x = nxt R n i ∧ nxt R n i < n then _ else gR g x) = _
    rw [if_neg (by omega)]
  have e2' : nxt R n i < n → gR (gstp F n R tu i g) (nxt R n i) = if lsB F (nxt R n i) k == fal tu c then c else c + 1 := fun hx => by
    show (if nxt R n i = nxt R n i ∧ nxt R n i < n then _ else gR g (nxt R n i)) = _
    rw [if_pos ⟨rfl, hx⟩, hkd, hcd]
  have e4 : ∀ r, gB (gstp F n R tu i g) r = if r = c ∧ c ≠ gC g then i else gB g r := fun r => by
    show (if r = gcu F n R tu i g ∧ gcu F n R tu i g ≠ gC g then i else gB g r) = _
    rw [hcd]
  have hcc : gC g ≤ c ∧ c ≤ gC g + 1 := by rcases hc with q | ⟨q, _⟩ <;> omega
  have hmem : ∀ x, x ∈ gO g ++ [k] ↔ x ∈ gO g ∨ x = k := fun x => by simp
  have hold : ∀ x, x ∈ gO g ++ [k] → x < nxt R n i := fun x hx => by
    rcases (hmem x).mp hx with q | q
    · exact h3 x q
    · rw [q]; exact k1
  have hro : ∀ x, x ∈ gO g ++ [k] → gR (gstp F n R tu i g) x = gR g x := fun x hx => e2 x (hold x hx)
  have hnew : ∀ x, x < nxt R n (i + 1) → x < nxt R n i ∨ (x = nxt R n i ∧ nxt R n i < n) := fun x hx => by omega
  -- what is left in the room is of c or c + 1
  have h4' : ∀ y, y < nxt R n i → y ∉ gO g → gR g y = c ∨ gR g y = c + 1 := fun y q1 q2 => by
    rcases hc with q | ⟨q, q', _⟩
    · rw [q]; exact h4 y q1 q2
    · rw [q]; exact Or.inl ((h4 y q1 q2).resolve_left (gpk_none q' q1 q2))
  have hoc : ∀ x, x ∈ gO g → gR g x ≤ c := fun x hx => by have := h5 x hx; omega
  -- those of c that went out are ahead of k
  have hbk : ∀ x, x ∈ gO g → gR g x = c → bet F (fal tu c) x k := fun x hx hxc => by
    rcases hc with q | ⟨q, q', _⟩
    · rw [q] at hxc k3 ⊢; exact h6 x k hx k1 k2 hxc k3
    · have := h5 x hx; omega
  refine ⟨?_, ?_, ?_, ?_, ?_, ?_, ?_, ?_, ?_, ?_, ?_, ?_, ?_⟩
  · rw [e1, List.length_append, h1]; rfl
  · rw [e1, List.nodup_append]
    exact ⟨h2, by simp, fun a ha b hb => by simp at hb; subst hb; exact fun q => k2 (q ▸ ha)⟩
  · intro x hx; rw [e1] at hx; have := hold x hx; omega
  · intro x hx hx2
    rw [e1] at hx2
    rw [e3]
    rcases hnew x hx with q | ⟨q, q'⟩
    · rw [e2 x q]; exact h4' x q (fun q3 => hx2 ((hmem x).mpr (Or.inl q3)))
    · rw [q, e2' q']; split
      · exact Or.inl rfl
      · exact Or.inr rfl
  · intro x hx
    rw [e1] at hx
    rw [e3, hro x hx]
    rcases (hmem x).mp hx with q | q
    · exact hoc x q
    · rw [q, k3]; exact Nat.le_refl _
  · intro x y hx hy hy2 hxc hyc
    rw [e1] at hx hy2
    rw [e3] at hxc hyc ⊢
    rw [hro x hx] at hxc
    have hxk : x = k ∨ bet F (fal tu c) x k := by
      rcases (hmem x).mp hx with q | q
      · exact Or.inr (hbk x q hxc)
      · exact Or.inl q
    have hky : bet F (fal tu c) k y := by
      rcases hnew y hy with q | ⟨q, q'⟩
      · rw [e2 y q] at hyc
        exact k4 y q (fun q3 => hy2 ((hmem y).mpr (Or.inl q3))) hyc (fun q3 => hy2 ((hmem y).mpr (Or.inr q3)))
      · subst q
        rw [e2' q'] at hyc
        have hne : k ≠ nxt R n i := by omega
        by_cases hl : (lsB F (nxt R n i) k == fal tu c) = true
        · rcases bet_tot (F := F) (f := fal tu c) hne with z | z
          · exact z
          · have := (bet_ls (F := F) (f := fal tu c) (fun q => hne q.symm)).mpr z
            rw [bne, hl] at this; cases this
        · rw [if_neg hl] at hyc; omega
    rcases hxk with q | q
    · rw [q]; exact hky
    · exact bet_trans q hky
  · rw [e1]
    have h7' : (gO g).Pairwise (fun x y => gR (gstp F n R tu i g) x < gR (gstp F n R tu i g) y ∨ (gR (gstp F n R tu i g) x = gR (gstp F n R tu i g) y ∧ bet F (fal tu (gR (gstp F n R tu i g) x)) x y)) := by
      refine h7.imp_of_mem (fun {a b} ha hb hab => ?_)
      rw [e2 a (h3 a ha), e2 b (h3 b hb)]; exact hab
    rw [List.pairwise_append]
    refine ⟨h7', by simp, fun a ha b hb => ?_⟩
    simp only [List.mem_singleton] at hb
    subst hb
    rw [e2 a (h3 a ha), e2 b k1, k3]
    by_cases q : gR g a = c
    · right; rw [q]; exact ⟨rfl, hbk a ha q⟩
    · left; have := hoc a ha; omega
  · intro r p hr hp'
    rw [e3] at hr
    rw [e1, e4]
    by_cases hpi : p = i
    · have hg : (gO g ++ [k]).getD p 0 = k := by
        rw [hpi, List.getD_eq_getElem?_getD, List.getElem?_append_right (by omega), h1, Nat.sub_self]; rfl
      rw [hg, e2 k k1, k3]
      refine ⟨fun _ => hr, fun _ => ?_⟩
      split
      · omega
      · next hq =>
        by_cases hi0 : 0 < i
        · have hr2 : r ≤ gC g := by omega
          have hmon : ∀ a b, a ≤ b → b ≤ gC g → gB g a ≤ gB g b := by
            intro a b hab
            induction b with
            | zero => intro _; rw [show a = 0 by omega]; exact Nat.le_refl _
            | succ b ih =>
              intro hb
              by_cases hq2 : a = b + 1
              · subst hq2; exact Nat.le_refl _
              · have := ih (by omega) (by omega); have := h10 b (by omega); omega
          have := hmon r (gC g) hr2 (Nat.le_refl _)
          have := h12 hi0
          omega
        · have := h11 (by omega)
          have hr0 : r = 0 := by
            rcases hc with q | ⟨q, _, q3⟩
            · omega
            · omega
          rw [hr0, h9]; omega
    · have hp2 : p < i := by omega
      have hg : (gO g ++ [k]).getD p 0 = (gO g).getD p 0 := by
        rw [List.getD_eq_getElem?_getD, List.getElem?_append_left (by omega), ← List.getD_eq_getElem?_getD]
      have hin : (gO g).getD p 0 ∈ gO g := by
        rw [List.getD_eq_getElem?_getD, List.getElem?_eq_getElem (by omega)]
        exact List.getElem_mem _
      rw [hg, e2 _ (h3 _ hin)]
      by_cases hq : r = c ∧ c ≠ gC g
      · rw [if_pos hq]
        have := h5 _ hin
        have := hcc
        constructor
        · intro q; omega
        · intro q; omega
      · rw [if_neg hq]
        exact h8 r p (by omega) hp2
  · rw [e4]
    split
    · next hq => rcases hc with q | ⟨q, _, _⟩ <;> omega
    · exact h9
  · intro r hr
    rw [e3] at hr
    rw [e4, e4, if_neg (by omega)]
    by_cases hq : r + 1 = c ∧ c ≠ gC g
    · rw [if_pos hq]
      have hr' : r = gC g := by omega
      rcases hc with q | ⟨q, q', q3⟩
      · omega
      · have q4 := h12 q3
        rw [hr']
        by_cases hq5 : i = gB g (gC g) + 1
        · obtain ⟨y, y1, y2, y3⟩ := h13 hq5 hi
          exact absurd y3 (gpk_none q' y1 y2)
        · omega
    · rw [if_neg hq]; exact h10 r (by omega)
  · intro q; omega
  · intro _
    rw [e3, e4]
    by_cases hq : c = c ∧ c ≠ gC g
    · rw [if_pos hq]; omega
    · rw [if_neg hq]
      have : c = gC g := by omega
      rw [this]
      by_cases hi0 : 0 < i
      · have := h12 hi0; omega
      · have := h11 (by omega); rw [this.1, h9]; omega
  · intro q1 q2
    rw [e3, e4] at q1
    rw [e1, e3]
    obtain ⟨y, y1, y2⟩ := pigeon (l := gO g ++ [k]) (m := nxt R n i) (by rw [List.length_append, h1]; have := x5 q2; simpa using this)
    refine ⟨y, by omega, y2, ?_⟩
    rw [e2 y y1]
    have y2' : y ∉ gO g := fun q => y2 ((hmem y).mpr (Or.inl q))
    by_cases hq : c = c ∧ c ≠ gC g
    · rcases hc with q | ⟨q, q', _⟩
      · omega
      · rw [q]; exact (h4 y y1 y2').resolve_left (gpk_none q' y1 y2')
    · rw [if_neg hq] at q1
      have hcg : c = gC g := by omega
      by_cases hi0 : 0 < i
      · have := h12 hi0; rw [hcg] at q1; omega
      · have := h11 (by omega); rw [hcg, this.1, this.2]
theorem gi_all (hR : 2 ≤ R) : ∀ {i : Nat}, i ≤ n → GI F n R tu i (gst F n R tu i)
  | 0, _ => gi_0
  | i + 1, h => gi_s hR (by omega) (gi_all hR (by omega))
end GG
