/-! dealing on paper -/
def dum : Rn := ([], false)
def rnj (tu : Bool) (j : Nat) : Rn := ([j], tu && (j % 2 == 1))
/-- the place that gets the next dummy -/
def bst (pf d : Nat → Nat) (fr : Bool) : Nat → Option Nat
  | 0 => none
  | n + 1 => match bst pf d fr n with
    | none => if d n < pf n then some n else none
    | some b => if d n < pf n ∧ fr = false ∧ d n < d b then some n else some b
def inc (d : Nat → Nat) (b : Nat) : Nat → Nat := fun t => if t = b then d t + 1 else d t
def dms (pf : Nat → Nat) (fr : Bool) (k : Nat) : Nat → (Nat → Nat)
  | 0 => fun _ => 0
  | n + 1 => inc (dms pf fr k n) ((bst pf (dms pf fr k n) fr k).getD 0)
/-- the first of the greatest -/
def amx (p : Nat → Nat) : Nat → Nat
  | 0 => 0
  | n + 1 => if p (amx p n) < p (n + 1) then n + 1 else amx p n
/-- which runs come to which tape -/
def dlt (p : Nat → Nat) (k : Nat) : Nat → Nat → List Nat
  | 0, _ => []
  | r + 1, t => if t = amx (fun u => p u - (dlt p k r u).length) (k - 1) then dlt p k r t ++ [r] else dlt p k r t
def dlb (h : Nat) : Nat → Nat → List Nat
  | 0, _ => []
  | r + 1, t => if t = r % h then dlb h r t ++ [r] else dlb h r t
def tpi (bk tu : Bool) (d : Nat → Nat) (dl : Nat → List Nat) (t : Nat) : List Rn := List.replicate (d t) dum ++ (if bk then ((dl t).map (rnj tu)).reverse else (dl t).map (rnj tu))
def pfA (w T l t : Nat) : Nat := if t < T - 1 then (pfn w (T - 1) l).getD t 0 else 0
def lvA (w T nr : Nat) : Nat := (lvl w (T - 1) nr).getD 0
def dmA (w T : Nat) (fr : Bool) (nr : Nat) : Nat → Nat := dms (pfA w T (lvA w T nr)) fr (T - 1) (smp w (T - 1) (lvA w T nr) - nr)
def dlA (w T : Nat) (fr : Bool) (nr : Nat) : Nat → List Nat := dlt (fun t => pfA w T (lvA w T nr) t - dmA w T fr nr t) (T - 1) nr
def tp0 (w T : Nat) (bk fr tu : Bool) (nr : Nat) : Nat → List Rn := if w = 1 then tpi bk tu (fun _ => 0) (dlb (T / 2) nr) else tpi bk tu (dmA w T fr nr) (dlA w T fr nr)
def to0 (w T : Nat) : Nat := if w = 1 then T / 2 else T - 1
def skI (w T : Nat) (tp : Nat → List Rn) : Sk := (tab (fun t => (tp t).length) T, to0 w T, opn T (to0 w T) (tab (fun t => (tp t).length) T), true)
def mi0 (w T : Nat) (bk fr tu : Bool) (gl : Nat → Nat) (nr : Nat) : Mi := tul gl T (tp0 w T bk fr tu nr, skI w T (tp0 w T bk fr tu nr), 0, 0, 0, 0)
theorem sum_inc {d : Nat → Nat} {b : Nat} : ∀ {n : Nat}, b < n → sumF (inc d b) n = sumF d n + 1
  | 0, h => by omega
  | n + 1, h => by
    unfold sumF
    by_cases hb : b = n
    · subst hb
      have : sumF (inc d b) b = sumF d b := sumF_congr (fun t ht => by unfold inc; rw [if_neg (by omega)])
      rw [this]; unfold inc; rw [if_pos rfl]; omega
    · rw [sum_inc (show b < n by omega)]; unfold inc; rw [if_neg (by omega)]; omega
theorem bst_some {pf d : Nat → Nat} {fr : Bool} : ∀ {n b : Nat}, bst pf d fr n = some b → b < n ∧ d b < pf b
  | 0, b, h => by cases h
  | n + 1, b, h => by
    unfold bst at h
    cases hq : bst pf d fr n with
    | none =>
      rw [hq] at h; dsimp only at h
      split at h
      · next hc => simp only [Option.some.injEq] at h; subst h; exact ⟨by omega, hc⟩
      · cases h
    | some b' =>
      obtain ⟨h1, h2⟩ := bst_some hq
      rw [hq] at h; dsimp only at h
      split at h
      · next hc => simp only [Option.some.injEq] at h; subst h; exact ⟨by omega, hc.1⟩
      · simp only [Option.some.injEq] at h; subst h; exact ⟨by omega, h2⟩
theorem bst_none {pf d : Nat → Nat} {fr : Bool} : ∀ {n : Nat}, bst pf d fr n = none → ∀ t, t < n → pf t ≤ d t
  | 0, _, t, ht => by omega
  | n + 1, h, t, ht => by
    unfold bst at h
    cases hq : bst pf d fr n with
    | none =>
      rw [hq] at h; dsimp only at h
      split at h
      · cases h
      · next hc =>
        by_cases htn : t = n
        · subst htn; omega
        · exact bst_none hq t (by omega)
    | some b' =>
      rw [hq] at h; dsimp only at h
      split at h <;> cases h
theorem sum_le {f g : Nat → Nat} : ∀ {n : Nat}, (∀ t, t < n → f t ≤ g t) → sumF f n ≤ sumF g n
  | 0, _ => Nat.le_refl _
  | n + 1, h => by
    unfold sumF
    have h1 := sum_le (f := f) (g := g) (n := n) (fun t ht => h t (by omega))
    have h2 := h n (by omega)
    omega
theorem sum_eqp {f g : Nat → Nat} : ∀ {n : Nat}, (∀ t, t < n → f t ≤ g t) → sumF f n = sumF g n → ∀ t, t < n → f t = g t
  | 0, _, _, t, ht => by omega
  | n + 1, h, he, t, ht => by
    unfold sumF at he
    have h1 := sum_le (f := f) (g := g) (n := n) (fun t ht => h t (by omega))
    have h2 := h n (by omega)
    by_cases htn : t = n
    · subst htn; omega
    · exact sum_eqp (f := f) (g := g) (n := n) (fun t ht => h t (by omega)) (by omega) t (by omega)
/-- dummies find places -/
theorem dms_ok {pf : Nat → Nat} {fr : Bool} {k : Nat} : ∀ {n : Nat}, n ≤ sumF pf k → sumF (dms pf fr k n) k = n ∧ (∀ t, t < k → dms pf fr k n t ≤ pf t) ∧ (∀ t, k ≤ t → dms pf fr k n t = 0) ∧ (n < sumF pf k → ∃ b, bst pf (dms pf fr k n) fr k = some b)
  | 0, h => by
    have h0 : sumF (dms pf fr k 0) k = 0 := by
      have : ∀ m, sumF (fun _ => 0) m = 0 := fun m => by induction m with
        | zero => rfl
        | succ m ih => unfold sumF; rw [ih]
      exact this k
    refine ⟨h0, fun t _ => Nat.zero_le _, fun t _ => rfl, fun hlt => ?_⟩
    cases hq : bst pf (dms pf fr k 0) fr k with
    | some b => exact ⟨b, rfl⟩
    | none =>
      have := sum_le (f := pf) (g := dms pf fr k 0) (n := k) (fun t ht => bst_none hq t ht)
      omega
  | n + 1, h => by
    obtain ⟨h1, h2, h3, h4⟩ := dms_ok (pf := pf) (fr := fr) (k := k) (n := n) (by omega)
    obtain ⟨b, hb⟩ := h4 (by omega)
    obtain ⟨b1, b2⟩ := bst_some hb
    have e : dms pf fr k (n + 1) = inc (dms pf fr k n) b := by show inc _ _ = _; rw [hb]; rfl
    have hs : sumF (dms pf fr k (n + 1)) k = n + 1 := by rw [e, sum_inc b1, h1]
    have hle : ∀ t, t < k → dms pf fr k (n + 1) t ≤ pf t := fun t ht => by
      rw [e]; unfold inc
      split
      · next q => subst q; omega
      · exact h2 t ht
    refine ⟨hs, hle, fun t ht => ?_, fun hlt => ?_⟩
    · rw [e]; unfold inc; rw [if_neg (by omega)]; exact h3 t ht
    · cases hq : bst pf (dms pf fr k (n + 1)) fr k with
      | some b => exact ⟨b, rfl⟩
      | none =>
        have := sum_le (f := pf) (g := dms pf fr k (n + 1)) (n := k) (fun t ht => bst_none hq t ht)
        omega
theorem amx_le (p : Nat → Nat) : ∀ n, amx p n ≤ n
  | 0 => Nat.le_refl _
  | n + 1 => by have := amx_le p n; unfold amx; split <;> omega
theorem amx_max (p : Nat → Nat) : ∀ {n t : Nat}, t ≤ n → p t ≤ p (amx p n)
  | 0, t, h => by rw [show t = 0 by omega]; exact Nat.le_refl _
  | n + 1, t, h => by
    unfold amx
    by_cases htn : t = n + 1
    · subst htn; split <;> omega
    · have := amx_max p (n := n) (t := t) (by omega)
      split <;> omega
theorem amx_congr {p q : Nat → Nat} : ∀ {n : Nat}, (∀ t, t ≤ n → p t = q t) → amx p n = amx q n
  | 0, _ => rfl
  | n + 1, h => by
    unfold amx
    rw [amx_congr (fun t ht => h t (by omega)), h (n + 1) (by omega), h (amx q n) (by have := amx_le q n; omega)]
theorem dlt_ok {p : Nat → Nat} {k : Nat} (hk : 0 < k) : ∀ {r : Nat}, r ≤ sumF p k → sumF (fun t => (dlt p k r t).length) k = r ∧ (∀ t, t < k → (dlt p k r t).length ≤ p t) ∧ (∀ t, k ≤ t → dlt p k r t = []) ∧ (r < sumF p k → (dlt p k r (amx (fun u => p u - (dlt p k r u).length) (k - 1))).length < p (amx (fun u => p u - (dlt p k r u).length) (k - 1)))
  | 0, h => by
    have h0 : ∀ m, sumF (fun t => (dlt p k 0 t).length) m = 0 := fun m => by induction m with
        | zero => rfl
        | succ m ih => unfold sumF; rw [ih]; rfl
    refine ⟨h0 k, fun t _ => Nat.zero_le _, fun t _ => rfl, fun hlt => ?_⟩
    by_cases hz : 0 < p (amx (fun u => p u - (dlt p k 0 u).length) (k - 1))
    · exact hz
    · exfalso
      have : sumF p k ≤ sumF (fun t => (dlt p k 0 t).length) k := sum_le (fun t ht => by
        have := amx_max (fun u => p u - (dlt p k 0 u).length) (n := k - 1) (t := t) (by omega)
        try dsimp only at this
        have e : ∀ u, (dlt p k 0 u).length = 0 := fun u => rfl
        rw [e] at this ⊢
        omega)
      rw [h0] at this; omega
  | r + 1, h => by
    obtain ⟨h1, h2, h3, h4⟩ := dlt_ok (p := p) (k := k) hk (r := r) (by omega)
    have h4 := h4 (by omega)
    generalize hb : amx (fun u => p u - (dlt p k r u).length) (k - 1) = b at h4
    have hbk : b < k := by have := amx_le (fun u => p u - (dlt p k r u).length) (k - 1); omega
    have e : ∀ t, dlt p k (r + 1) t = if t = b then dlt p k r t ++ [r] else dlt p k r t := fun t => by
      show (if t = amx (fun u => p u - (dlt p k r u).length) (k - 1) then _ else _) = _; rw [hb]
    have el : (fun t => (dlt p k (r + 1) t).length) = inc (fun t => (dlt p k r t).length) b := by
      funext t; rw [e]; unfold inc; split <;> simp
    have hs : sumF (fun t => (dlt p k (r + 1) t).length) k = r + 1 := by rw [el, sum_inc hbk, h1]
    have hle : ∀ t, t < k → (dlt p k (r + 1) t).length ≤ p t := fun t ht => by
      have := h2 t ht
      rw [e]
      split
      · next q => subst q; simp; omega
      · exact this
    refine ⟨hs, hle, fun t ht => ?_, fun hlt => ?_⟩
    · rw [e, if_neg (by omega)]; exact h3 t ht
    · by_cases hz : (dlt p k (r + 1) (amx (fun u => p u - (dlt p k (r + 1) u).length) (k - 1))).length < p (amx (fun u => p u - (dlt p k (r + 1) u).length) (k - 1))
      · exact hz
      · exfalso
        have : sumF p k ≤ sumF (fun t => (dlt p k (r + 1) t).length) k := sum_le (fun t ht => by
          have := amx_max (fun u => p u - (dlt p k (r + 1) u).length) (n := k - 1) (t := t) (by omega)
          try dsimp only at this
          omega)
        omega
theorem dlb_len {h : Nat} (hh : 0 < h) : ∀ r t, t < h → (dlb h r t).length = (r + h - 1 - t) / h
  | 0, t, ht => by
    show 0 = _
    rw [Nat.div_eq_of_lt (by omega)]
  | r + 1, t, ht => by
    have ih := dlb_len hh r t ht
    show (if t = r % h then dlb h r t ++ [r] else dlb h r t).length = _
    have hr := Nat.mod_lt r hh
    have hd := Nat.div_add_mod r h
    have e : ∀ x : Nat, (x + h * (r / h)) / h = x / h + r / h := fun x => by rw [Nat.add_mul_div_left _ _ hh]
    have e1 : (r + h - 1 - t) / h = (r % h + h - 1 - t) / h + r / h := by rw [← e]; congr 1; omega
    have e2 : (r + 1 + h - 1 - t) / h = (r % h + 1 + h - 1 - t) / h + r / h := by rw [← e]; congr 1; omega
    by_cases hq : t = r % h
    · rw [if_pos hq, List.length_append, ih, e1, e2, Nat.div_eq_of_lt (show r % h + h - 1 - t < h by omega), show r % h + 1 + h - 1 - t = h by omega, Nat.div_self hh]; simp; omega
    · rw [if_neg hq, ih, e1, e2]
      congr 1
      by_cases hlt : t < r % h
      · rw [show r % h + h - 1 - t = (r % h - 1 - t) + h by omega, show r % h + 1 + h - 1 - t = (r % h - t) + h by omega, Nat.add_div_right _ hh, Nat.add_div_right _ hh, Nat.div_eq_of_lt (show r % h - 1 - t < h by omega), Nat.div_eq_of_lt (show r % h - t < h by omega)]
      · rw [Nat.div_eq_of_lt (show r % h + h - 1 - t < h by omega), Nat.div_eq_of_lt (show r % h + 1 + h - 1 - t < h by omega)]
theorem dlb_out {h : Nat} (hh : 0 < h) : ∀ r t, h ≤ t → dlb h r t = []
  | 0, _, _ => rfl
  | r + 1, t, ht => by
    show (if t = r % h then dlb h r t ++ [r] else dlb h r t) = _
    have := Nat.mod_lt r hh
    rw [if_neg (by omega)]; exact dlb_out hh r t ht
theorem tpi_len {bk tu : Bool} {d : Nat → Nat} {dl : Nat → List Nat} {t : Nat} : (tpi bk tu d dl t).length = d t + (dl t).length := by
  unfold tpi; cases bk <;> simp
