/-! the room: which one goes out -/
def abst (F W : Nat → Nat) (q : Nat → Bool) (fall : Bool) : Nat → Option Nat
  | 0 => none
  | i + 1 => match abst F W q fall i with
    | none => if q (W i) then some i else none
    | some b => if q (W i) && (lsB F (W i) (W b) != fall) then some i else some b
/-- a row of numbers holds a set -/
def Rs (S : Nat → Prop) (W : Nat → Nat) (m : Nat) : Prop := (∀ j, j < m → S (W j)) ∧ (∀ a b, a < m → b < m → W a = W b → a = b) ∧ ∀ x, S x → ∃ j, j < m ∧ W j = x
section RO
variable {F W : Nat → Nat} {q : Nat → Bool} {f : Bool} {S S' : Nat → Prop} {m b y : Nat}
theorem rs_congr' (h : Rs S W m) (he : ∀ x, S x ↔ S' x) : Rs S' W m := ⟨fun j hj => (he _).mp (h.1 j hj), h.2.1, fun x hx => h.2.2 x ((he x).mpr hx)⟩
theorem rs_del (h : Rs S W m) (hb : b < m) : Rs (fun x => S x ∧ x ≠ W b) (fun j => if j = b then W (m - 1) else W j) (m - 1) := by
  obtain ⟨h1, h2, h3⟩ := h
  refine ⟨fun j hj => ?_, fun a c ha hc he => ?_, fun x hx => ?_⟩
  · dsimp only
    split
    · next hq => exact ⟨h1 _ (by omega), fun e => by have := h2 _ _ (by omega) hb e; omega⟩
    · next hq => exact ⟨h1 _ (by omega), fun e => hq (h2 _ _ (by omega) hb e)⟩
  · dsimp only at he
    by_cases q1 : a = b
    · by_cases q2 : c = b
      · omega
      · rw [if_pos q1, if_neg q2] at he; have := h2 _ _ (by omega) (by omega) he; omega
    · by_cases q2 : c = b
      · rw [if_neg q1, if_pos q2] at he; have := h2 _ _ (by omega) (by omega) he; omega
      · rw [if_neg q1, if_neg q2] at he; exact h2 _ _ (by omega) (by omega) he
  · obtain ⟨j, hj, rfl⟩ := h3 x hx.1
    have hjb : j ≠ b := fun e => hx.2 (by rw [e])
    by_cases q1 : j = m - 1
    · exact ⟨b, by omega, by dsimp only; rw [if_pos rfl, q1]⟩
    · exact ⟨j, by omega, by dsimp only; rw [if_neg hjb]⟩
theorem rs_add (h : Rs S W m) (hy : ¬ S y) : Rs (fun x => S x ∨ x = y) (fun j => if j = m then y else W j) (m + 1) := by
  obtain ⟨h1, h2, h3⟩ := h
  refine ⟨fun j hj => ?_, fun a c ha hc he => ?_, fun x hx => ?_⟩
  · dsimp only
    split
    · exact Or.inr rfl
    · exact Or.inl (h1 j (by omega))
  · dsimp only at he
    by_cases q1 : a = m
    · by_cases q2 : c = m
      · omega
      · rw [if_pos q1, if_neg q2] at he; exact absurd (he ▸ h1 c (by omega)) hy
    · by_cases q2 : c = m
      · rw [if_neg q1, if_pos q2] at he; exact absurd (he ▸ h1 a (by omega)) hy
      · rw [if_neg q1, if_neg q2] at he; exact h2 _ _ (by omega) (by omega) he
  · rcases hx with hx | rfl
    · obtain ⟨j, hj, e⟩ := h3 x hx
      exact ⟨j, by omega, by dsimp only; rw [if_neg (by omega)]; exact e⟩
    · exact ⟨m, by omega, by dsimp only; rw [if_pos rfl]⟩
theorem rs_rep (h : Rs S W m) (hb : b < m) (hy : ¬ S y) : Rs (fun x => (S x ∧ x ≠ W b) ∨ x = y) (fun j => if j = b then y else W j) m := by
  obtain ⟨h1, h2, h3⟩ := h
  refine ⟨fun j hj => ?_, fun a c ha hc he => ?_, fun x hx => ?_⟩
  · dsimp only
    split
    · exact Or.inr rfl
    · next hq => exact Or.inl ⟨h1 j hj, fun e => hq (h2 _ _ hj hb e)⟩
  · dsimp only at he
    by_cases q1 : a = b
    · by_cases q2 : c = b
      · omega
      · rw [if_pos q1, if_neg q2] at he; exact absurd (he ▸ h1 c (by omega)) hy
    · by_cases q2 : c = b
      · rw [if_neg q1, if_pos q2] at he; exact absurd (he ▸ h1 a (by omega)) hy
      · rw [if_neg q1, if_neg q2] at he; exact h2 _ _ (by omega) (by omega) he
  · rcases hx with hx | rfl
    · obtain ⟨j, hj, rfl⟩ := h3 x hx.1
      have hjb : j ≠ b := fun e => hx.2 (by rw [e])
      exact ⟨j, hj, by dsimp only; rw [if_neg hjb]⟩
    · exact ⟨b, hb, by dsimp only; rw [if_pos rfl]⟩
theorem abst_lt : ∀ {n b : Nat}, abst F W q f n = some b → b < n ∧ q (W b) = true
  | 0, b, h => by cases h
  | n + 1, b, h => by
    unfold abst at h
    cases ha : abst F W q f n with
    | none =>
      rw [ha] at h; dsimp only at h
      split at h
      · next hq => injection h with h; subst h; exact ⟨by omega, hq⟩
      · cases h
    | some c =>
      obtain ⟨c1, c2⟩ := abst_lt ha
      rw [ha] at h; dsimp only at h
      split at h
      · next hq =>
        injection h with h; subst h
        simp only [Bool.and_eq_true] at hq
        exact ⟨by omega, hq.1⟩
      · injection h with h; subst h; exact ⟨by omega, c2⟩
theorem abst_none : ∀ {n : Nat}, abst F W q f n = none → ∀ j, j < n → q (W j) = false
  | 0, _, j, hj => by omega
  | n + 1, h, j, hj => by
    unfold abst at h
    cases ha : abst F W q f n with
    | none =>
      rw [ha] at h; dsimp only at h
      split at h
      · cases h
      · next hq =>
        by_cases hjn : j = n
        · subst hjn; simpa using hq
        · exact abst_none ha j (by omega)
    | some c =>
      rw [ha] at h; dsimp only at h
      split at h <;> cases h
theorem abst_best : ∀ {n b : Nat}, (∀ a c, a < n → c < n → W a = W c → a = c) → abst F W q f n = some b → ∀ j, j < n → j ≠ b → q (W j) = true → bet F f (W b) (W j)
  | 0, b, _, h, j, hj, _, _ => by omega
  | n + 1, b, hi, h, j, hj, hjb, hq => by
    have hi' : ∀ a c, a < n → c < n → W a = W c → a = c := fun a c ha hc => hi a c (by omega) (by omega)
    unfold abst at h
    cases ha : abst F W q f n with
    | none =>
      rw [ha] at h; dsimp only at h
      split at h
      · injection h with h; subst h
        rw [abst_none ha j (by omega)] at hq; cases hq
      · cases h
    | some c =>
      obtain ⟨c1, c2⟩ := abst_lt ha
      have ih := abst_best hi' ha
      have hnc : W n ≠ W c := fun e => by have := hi n c (by omega) (by omega) e; omega
      rw [ha] at h; dsimp only at h
      split at h
      · next hq2 =>
        injection h with h; subst h
        simp only [Bool.and_eq_true] at hq2
        have hb := (bet_ls hnc).mp hq2.2
        by_cases hjc : j = c
        · subst hjc; exact hb
        · exact bet_trans hb (ih j (by omega) hjc hq)
      · next hq2 =>
        injection h with h; subst h
        by_cases hjn : j = n
        · subst hjn
          have : ¬ bet F f (W j) (W c) := fun z => hq2 (by rw [hq, (bet_ls hnc).mpr z]; rfl)
          rcases bet_tot (F := F) (f := f) hnc with z | z
          · exact absurd z this
          · exact z
        · exact ih j (by omega) hjb hq
end RO
/-- those in the room -/
def inr (R n i : Nat) (g : Gr) (x : Nat) : Prop := x < nxt R n i ∧ x ∉ gO g
theorem abst_pk {F W : Nat → Nat} {n R i r m : Nat} {tu : Bool} {g : Gr} (h : Rs (inr R n i g) W m) : gpk F n R tu i g r = (abst F W (fun x => gR g x == r) (fal tu r) m).map W := by
  obtain ⟨h1, h2, h3⟩ := h
  cases ha : abst F W (fun x => gR g x == r) (fal tu r) m with
  | none =>
    cases hp : gpk F n R tu i g r with
    | none => rfl
    | some k =>
      obtain ⟨⟨k1, k2, k3⟩, k4⟩ := gpk_some hp
      obtain ⟨j, hj, e⟩ := h3 k ⟨k1, k2⟩
      have := abst_none ha j hj
      rw [e] at this
      simp [k3] at this
  | some b =>
    obtain ⟨b1, b2⟩ := abst_lt ha
    have b3 := h1 b b1
    obtain ⟨k, hk⟩ := gpk_ex (F := F) (tu := tu) (r := r) b3.1 b3.2 (by simpa using b2)
    rw [hk]
    obtain ⟨⟨k1, k2, k3⟩, k4⟩ := gpk_some hk
    show some k = some (W b)
    congr 1
    apply Classical.byContradiction
    intro hne
    obtain ⟨j, hj, e⟩ := h3 k ⟨k1, k2⟩
    have z1 := k4 (W b) b3.1 b3.2 (by simpa using b2) (fun e => hne e.symm)
    have z2 := abst_best h2 ha j hj (fun e2 => hne (by rw [← e, e2])) (by rw [e]; simpa using k3)
    rw [e] at z2
    exact bet_asym z1 z2
theorem inr_s {F : Nat → Nat} {n R i : Nat} {tu : Bool} {g : Gr} (hR : 2 ≤ R) (hi : i < n) (x : Nat) : inr R n (i + 1) (gstp F n R tu i g) x ↔ (inr R n i g x ∧ x ≠ gkk F n R tu i g) ∨ (x = nxt R n i ∧ nxt R n i < n ∧ x ∉ gO g ∧ x ≠ gkk F n R tu i g) := by
  obtain ⟨x1, x2, x3, x4, x5, x6, x7⟩ := nxt_s hR hi
  unfold inr
  have : gO (gstp F n R tu i g) = gO g ++ [gkk F n R tu i g] := rfl
  rw [this]
  simp only [List.mem_append, List.mem_singleton, not_or]
  constructor
  · rintro ⟨h1, h2, h3⟩
    by_cases hq : x < nxt R n i
    · exact Or.inl ⟨⟨hq, h2⟩, h3⟩
    · exact Or.inr ⟨by omega, by omega, h2, h3⟩
  · rintro (⟨⟨h1, h2⟩, h3⟩ | ⟨h1, h2, h3, h4⟩)
    · exact ⟨by omega, h2, h3⟩
    · exact ⟨by omega, h3, h4⟩
/-- behind the end -/
def nrG (g : Gr) : Nat := gC g + 1
def bgG (n : Nat) (g : Gr) (r : Nat) : Nat := if r ≤ gC g then gB g r else n
def glG (n : Nat) (g : Gr) (r : Nat) : Nat := bgG n g (r + 1) - bgG n g r
section GF
variable {F : Nat → Nat} {n R : Nat} {tu : Bool} {g : Gr}
theorem gB_two {i : Nat} (h : GI F n R tu i g) : ∀ r, r ≤ gC g → 2 * r ≤ gB g r
  | 0, _ => Nat.zero_le _
  | r + 1, hr => by
    have := gB_two h r (by omega)
    have := h.2.2.2.2.2.2.2.2.2.1 r (by omega)
    omega
theorem gC_lt {i : Nat} (hi : 0 < i) (h : GI F n R tu i g) : 2 * gC g < i := by
  have := gB_two h (gC g) (Nat.le_refl _)
  have := h.2.2.2.2.2.2.2.2.2.2.2.1 hi
  omega
theorem gf_all (h : GI F n R tu n g) {x : Nat} : x ∈ gO g ↔ x < n := by
  constructor
  · intro hx; have := h.2.2.1 x hx; unfold nxt at this; omega
  · intro hx
    apply Classical.byContradiction
    intro hn
    have := h.2.1.length_le_of_subset (l₂ := (List.range n).erase x) (fun y hy => by
      have := h.2.2.1 y hy
      refine (List.mem_erase_of_ne (fun (e : y = x) => hn (by rw [← e]; exact hy))).mpr (List.mem_range.mpr (by unfold nxt at this; omega))) 
    rw [h.1, List.length_erase_of_mem (List.mem_range.mpr hx), List.length_range] at this
    omega
theorem gf_bg (hn : 0 < n) (h : GI F n R tu n g) {r : Nat} (hr : r < nrG g) : bgG n g r < bgG n g (r + 1) ∧ bgG n g (r + 1) ≤ n := by
  unfold nrG at hr
  unfold bgG
  rw [if_pos (by omega)]
  have h12 := h.2.2.2.2.2.2.2.2.2.2.2.1 hn
  by_cases hq : r + 1 ≤ gC g
  · rw [if_pos hq]
    have := h.2.2.2.2.2.2.2.2.2.1 r (by omega)
    have hmon : ∀ a b, a ≤ b → b ≤ gC g → gB g a ≤ gB g b := by
      intro a b hab
      induction b with
      | zero => intro _; rw [show a = 0 by omega]; exact Nat.le_refl _
      | succ b ih =>
        intro hb
        by_cases hq2 : a = b + 1
        · subst hq2; exact Nat.le_refl _
        · have := ih (by omega) (by omega); have := h.2.2.2.2.2.2.2.2.2.1 b (by omega); omega
    have := hmon (r + 1) (gC g) hq (Nat.le_refl _)
    omega
  · rw [if_neg hq, show r = gC g by omega]
    exact ⟨h12, Nat.le_refl _⟩
theorem gf_pos (h : GI F n R tu n g) {r p : Nat} (hr : r < nrG g) (hp : p < n) : gR g ((gO g).getD p 0) = r ↔ bgG n g r ≤ p ∧ p < bgG n g (r + 1) := by
  unfold nrG at hr
  have h8 := h.2.2.2.2.2.2.2.1
  have h5 := h.2.2.2.2.1
  have hin : (gO g).getD p 0 ∈ gO g := by
    rw [List.getD_eq_getElem?_getD, List.getElem?_eq_getElem (by rw [h.1]; exact hp)]
    exact List.getElem_mem _
  have hle := h5 _ hin
  have a1 := h8 r p (by omega) hp
  unfold bgG
  rw [if_pos (show r ≤ gC g by omega)]
  by_cases hq : r + 1 ≤ gC g
  · rw [if_pos hq]
    have a2 := h8 (r + 1) p hq hp
    constructor
    · intro e
      rw [e] at a1 a2
      exact ⟨a1.mpr (Nat.le_refl _), by apply Classical.byContradiction; intro z; have := a2.mp (by omega); omega⟩
    · rintro ⟨z1, z2⟩
      have z3 := a1.mp z1
      have : ¬ r + 1 ≤ gR g ((gO g).getD p 0) := fun z => by have := a2.mpr z; omega
      omega
  · rw [if_neg hq]
    constructor
    · intro e; rw [e] at a1; exact ⟨a1.mpr (Nat.le_refl _), hp⟩
    · rintro ⟨z1, z2⟩
      have := a1.mp z1
      omega
/-- a run as it grew -/
def sgG (F : Nat → Nat) (n : Nat) (tu : Bool) (g : Gr) (r : Nat) : List Nat := (lst F n (fal tu r)).filter (fun x => gR g x == r)
theorem gf_seg (hn : 0 < n) (h : GI F n R tu n g) {r : Nat} (hr : r < nrG g) : ((gO g).drop (bgG n g r)).take (glG n g r) = sgG F n tu g r := by
  obtain ⟨b1, b2⟩ := gf_bg hn h hr
  have h7 := h.2.2.2.2.2.2.1
  have hlen := h.1
  have hin : ∀ x, x ∈ ((gO g).drop (bgG n g r)).take (glG n g r) ↔ x < n ∧ gR g x = r := by
    intro x
    constructor
    · intro hx
      obtain ⟨p, hp, e⟩ := List.getElem_of_mem hx
      rw [List.length_take, List.length_drop] at hp
      rw [List.getElem_take, List.getElem_drop] at e
      have hp2 : bgG n g r + p < n := by unfold glG at hp; omega
      have e2 : (gO g).getD (bgG n g r + p) 0 = x := by
        rw [List.getD_eq_getElem?_getD, List.getElem?_eq_getElem (by omega)]; exact e
      have := (gf_pos h hr hp2).mpr (by unfold glG at hp; omega)
      rw [e2] at this
      exact ⟨gf_all h |>.mp (List.mem_of_mem_drop (List.mem_of_mem_take hx)), this⟩
    · rintro ⟨hx, hxr⟩
      obtain ⟨p, hp, e⟩ := List.getElem_of_mem ((gf_all h).mpr hx)
      have e2 : (gO g).getD p 0 = x := by rw [List.getD_eq_getElem?_getD, List.getElem?_eq_getElem hp]; exact e
      have := (gf_pos h hr (p := p) (by omega)).mp (by rw [e2]; exact hxr)
      refine List.mem_iff_getElem.mpr ⟨p - bgG n g r, by rw [List.length_take, List.length_drop]; unfold glG; omega, ?_⟩
      rw [List.getElem_take, List.getElem_drop]
      have : bgG n g r + (p - bgG n g r) = p := by omega
      simp only [this]
      exact e
  refine srt_uniq (F := F) (f := fal tu r) ?_ ?_ (fun x => ?_)
  · have hs : (((gO g).drop (bgG n g r)).take (glG n g r)).Pairwise (fun x y => gR g x < gR g y ∨ (gR g x = gR g y ∧ bet F (fal tu (gR g x)) x y)) := (h7.sublist (List.drop_sublist _ _)).sublist (List.take_sublist _ _)
    refine hs.imp_of_mem (fun {a b} ha hb hab => ?_)
    have ea := ((hin a).mp ha).2
    have eb := ((hin b).mp hb).2
    rw [ea, eb] at hab
    rcases hab with z | z
    · omega
    · exact z.2
  · exact lst_srt.filter _
  · rw [hin]
    unfold sgG
    simp [List.mem_filter, lst_mem]
theorem gf_len (hn : 0 < n) (h : GI F n R tu n g) {r : Nat} (hr : r < nrG g) : (sgG F n tu g r).length = glG n g r := by
  rw [← gf_seg hn h hr, List.length_take, List.length_drop, h.1]
  obtain ⟨b1, b2⟩ := gf_bg hn h hr
  unfold glG; omega
theorem gf_at (hn : 0 < n) (h : GI F n R tu n g) {r i : Nat} (hr : r < nrG g) (hi : i < glG n g r) : (gO g).getD (bgG n g r + i) 0 = (sgG F n tu g r).getD i 0 := by
  obtain ⟨b1, b2⟩ := gf_bg hn h hr
  rw [← gf_seg hn h hr, List.getD_eq_getElem?_getD, List.getD_eq_getElem?_getD, List.getElem?_take_of_lt hi, List.getElem?_drop]
theorem gf_ro (h : GI F n R tu n g) {x : Nat} (hx : x < n) : gR g x < nrG g := by
  have := h.2.2.2.2.1 x ((gf_all h).mpr hx)
  unfold nrG; omega
theorem gf_nr (hn : 0 < n) (h : GI F n R tu n g) (h3 : n ≤ 300) : 1 ≤ nrG g ∧ nrG g ≤ 150 := by
  have := gC_lt hn h
  unfold nrG; omega
end GF
