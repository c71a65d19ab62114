/-! each run that grew is on one tape; a mill is laid out; steps on paper -/
theorem fstF_ex {p : Nat → Bool} {j : Nat} : ∀ {n : Nat}, j < n → p j = true → ∃ e, fstF p n = some e ∧ e ≤ j := by
  intro n hj hp
  cases hf : fstF p n with
  | none => rw [fstF_none hf j hj] at hp; cases hp
  | some e =>
    obtain ⟨q1, q2, q3⟩ := fstF_some hf
    refine ⟨e, rfl, ?_⟩
    by_cases h : j < e
    · rw [q3 j h] at hp; cases hp
    · omega
theorem sum0 : ∀ n, sumF (fun _ => 0) n = 0
  | 0 => rfl
  | n + 1 => by unfold sumF; rw [sum0 n]
theorem sum_add1 {f f' : Nat → Nat} {b c : Nat} (h : ∀ t, f' t = f t + if t = b then c else 0) : ∀ n, sumF f' n = sumF f n + if b < n then c else 0
  | 0 => rfl
  | n + 1 => by
    unfold sumF
    rw [sum_add1 h n, h n]
    by_cases h1 : n = b
    · subst h1; rw [if_neg (by omega), if_pos rfl, if_pos (by omega)]; omega
    · rw [if_neg h1]
      by_cases h2 : b < n
      · rw [if_pos h2, if_pos (by omega)]; omega
      · rw [if_neg h2, if_neg (by omega)]; omega
theorem cnt_single {j r : Nat} : [r].count j = if r = j then 1 else 0 := by
  rw [List.count_singleton]
  by_cases h : r = j
  · subst h; simp
  · rw [if_neg h]; simp [h]
theorem dlt_cnt {p : Nat → Nat} {k : Nat} (hk : 0 < k) (j : Nat) : ∀ r, sumF (fun t => (dlt p k r t).count j) k = if j < r then 1 else 0
  | 0 => sum0 k
  | r + 1 => by
    have ih := dlt_cnt (p := p) hk j r
    have hb : amx (fun u => p u - (dlt p k r u).length) (k - 1) < k := by have := amx_le (fun u => p u - (dlt p k r u).length) (k - 1); omega
    have := sum_add1 (f := fun t => (dlt p k r t).count j) (f' := fun t => (dlt p k (r + 1) t).count j) (b := amx (fun u => p u - (dlt p k r u).length) (k - 1)) (c := [r].count j) (fun t => by
      show (if t = amx (fun u => p u - (dlt p k r u).length) (k - 1) then dlt p k r t ++ [r] else dlt p k r t).count j = _
      split
      · rw [List.count_append]
      · rfl) k
    rw [this, ih, if_pos hb, cnt_single]
    by_cases h1 : j < r
    · rw [if_pos h1, if_neg (by omega), if_pos (by omega)]
    · rw [if_neg h1]
      by_cases h2 : r = j
      · rw [if_pos h2, if_pos (by omega)]
      · rw [if_neg h2, if_neg (by omega)]
theorem dlb_cnt {h : Nat} (hh : 0 < h) (j : Nat) {n : Nat} (hn : h ≤ n) : ∀ r, sumF (fun t => (dlb h r t).count j) n = if j < r then 1 else 0
  | 0 => sum0 n
  | r + 1 => by
    have ih := dlb_cnt hh j hn r
    have hb := Nat.mod_lt r hh
    have := sum_add1 (f := fun t => (dlb h r t).count j) (f' := fun t => (dlb h (r + 1) t).count j) (b := r % h) (c := [r].count j) (fun t => by
      show (if t = r % h then dlb h r t ++ [r] else dlb h r t).count j = _
      split
      · rw [List.count_append]
      · rfl) n
    rw [this, ih, if_pos (show r % h < n by omega), cnt_single]
    by_cases h1 : j < r
    · rw [if_pos h1, if_neg (by omega), if_pos (by omega)]
    · rw [if_neg h1]
      by_cases h2 : r = j
      · rw [if_pos h2, if_pos (by omega)]
      · rw [if_neg h2, if_neg (by omega)]
theorem dlb_sum {h : Nat} (hh : 0 < h) {n : Nat} (hn : h ≤ n) : ∀ r, sumF (fun t => (dlb h r t).length) n = r
  | 0 => sum0 n
  | r + 1 => by
    have ih := dlb_sum hh hn r
    have hb := Nat.mod_lt r hh
    have := sum_add1 (f := fun t => (dlb h r t).length) (f' := fun t => (dlb h (r + 1) t).length) (b := r % h) (c := 1) (fun t => by
      show (if t = r % h then dlb h r t ++ [r] else dlb h r t).length = _
      split
      · rw [List.length_append]; rfl
      · rfl) n
    rw [this, ih, if_pos (by omega)]
theorem occ_app {j : Nat} : ∀ {a b : List Rn}, occL j (a ++ b) = occL j a + occL j b
  | [], b => by simp [occL]
  | r :: a, b => by
    show r.1.count j + occL j (a ++ b) = r.1.count j + occL j a + occL j b
    rw [occ_app]; omega
theorem occ_rev {j : Nat} : ∀ {a : List Rn}, occL j a.reverse = occL j a
  | [] => rfl
  | r :: a => by
    rw [List.reverse_cons, occ_app, occ_rev]
    show _ + (r.1.count j + 0) = r.1.count j + occL j a
    omega
theorem occ_dum {j : Nat} : ∀ n, occL j (List.replicate n dum) = 0
  | 0 => rfl
  | n + 1 => by rw [List.replicate_succ]; show ([] : List Nat).count j + occL j _ = 0; rw [occ_dum n]; rfl
theorem occ_map {j : Nat} {tu : Bool} : ∀ {l : List Nat}, occL j (l.map (rnj tu)) = l.count j
  | [] => rfl
  | a :: l => by
    rw [List.map_cons]
    show [a].count j + occL j _ = _
    rw [occ_map, cnt_single, List.count_cons]
    by_cases h : a = j
    · subst h; simp; omega
    · rw [if_neg h]; simp [h]
theorem occ_tpi {j : Nat} {bk tu : Bool} {d : Nat → Nat} {dl : Nat → List Nat} {t : Nat} : occL j (tpi bk tu d dl t) = (dl t).count j := by
  unfold tpi
  rw [occ_app, occ_dum]
  cases bk
  · simp [occ_map]
  · simp [occ_rev, occ_map]
theorem occ_psh {j : Nat} {bk : Bool} {r : Rn} {l : List Rn} : occL j (psh bk r l) = r.1.count j + occL j l := by
  unfold psh
  cases bk
  · rw [if_neg (by decide), occ_app]; show occL j l + (r.1.count j + 0) = _; omega
  · rfl
theorem occ_hd {j : Nat} {l : List Rn} (h : 0 < l.length) : occL j l = (hdr l).1.count j + occL j l.tail := by
  cases l with
  | nil => simp at h
  | cons a l => rfl
theorem occ_upr {j : Nat} : ∀ {l : List Rn}, occL j (upr l) = occL j l
  | [] => rfl
  | a :: l => by
    show a.1.count j + occL j (upr l) = a.1.count j + occL j l
    rw [occ_upr]
theorem cat_cnt {g : Nat → Bool} {tp : Nat → List Rn} {j : Nat} : ∀ n, (catF g tp n).count j = sumF (fun t => if g t then (hdr (tp t)).1.count j else 0) n
  | 0 => rfl
  | n + 1 => by
    show (catF g tp n ++ (if g n then (hdr (tp n)).1 else [])).count j = sumF _ n + _
    rw [List.count_append, cat_cnt n]
    congr 1
    dsimp only
    split <;> rfl
/-- each that grew is in just one run -/
def Oc (T nr : Nat) (tp : Nat → List Rn) : Prop := ∀ j, sumF (fun t => occL j (tp t)) T = if j < nr then 1 else 0
theorem oc_dj {T nr : Nat} {tp : Nat → List Rn} (h : Oc T nr tp) : Dj T tp := fun j => by rw [h j]; split <;> omega
theorem oc_lt {T nr : Nat} {tp : Nat → List Rn} (h : Oc T nr tp) {t j : Nat} {r : Rn} (ht : t < T) (hr : r ∈ tp t) (hj : j ∈ r.1) : j < nr := by
  have h1 := h j
  have h2 := occL_mem hr hj
  have h3 : occL j (tp t) ≤ sumF (fun t => occL j (tp t)) T := sumF_pos (f := fun t => occL j (tp t)) ht
  by_cases hlt : j < nr
  · exact hlt
  · rw [if_neg hlt] at h1; omega
theorem oc_step {T nr to : Nat} {bk d : Bool} {g : Nat → Bool} {tp : Nat → List Rn} (h : Oc T nr tp) (hto : to < T) (hg : g to = false) (hl : ∀ t, t < T → g t = true → 0 < (tp t).length) : Oc T nr (tpn T to bk g (catF g tp T, d) tp) := by
  intro j
  rw [← h j]
  have key : ∀ n, n ≤ T → sumF (fun t => occL j (tpn T to bk g (catF g tp T, d) tp t)) n + sumF (fun t => if g t then (hdr (tp t)).1.count j else 0) n = sumF (fun t => occL j (tp t)) n + if to < n then (catF g tp T).count j else 0 := by
    intro n
    induction n with
    | zero => intro _; rfl
    | succ n ih =>
      intro hn
      have ih := ih (by omega)
      show sumF _ n + occL j (tpn T to bk g (catF g tp T, d) tp n) + (sumF _ n + (if g n then (hdr (tp n)).1.count j else 0)) = sumF _ n + occL j (tp n) + _
      unfold tpn at ih ⊢
      by_cases h1 : n = to
      · subst h1
        rw [if_pos rfl, occ_psh, hg, if_neg (by decide), if_pos (show n < n + 1 by omega)]
        rw [if_neg (show ¬ n < n by omega)] at ih
        dsimp only
        omega
      · rw [if_neg h1]
        have e : (if to < n + 1 then (catF g tp T).count j else 0) = if to < n then (catF g tp T).count j else 0 := ifc ⟨fun q => by omega, fun q => by omega⟩
        rw [e]
        by_cases h2 : g n = true
        · rw [if_pos ⟨by omega, h2⟩, if_pos h2]
          have := occ_hd (j := j) (hl n (by omega) h2)
          omega
        · rw [if_neg (fun q => h2 q.2), if_neg h2]
          omega
  have := key T (Nat.le_refl _)
  rw [if_pos hto, cat_cnt] at this
  omega
theorem tpi_mem {bk tu : Bool} {d : Nat → Nat} {dl : Nat → List Nat} {t : Nat} {r : Rn} (h : r ∈ tpi bk tu d dl t) : r = dum ∨ ∃ j, j ∈ dl t ∧ r = rnj tu j := by
  unfold tpi at h
  rcases List.mem_append.mp h with h | h
  · exact Or.inl (List.mem_replicate.mp h).2
  · right
    have : r ∈ (dl t).map (rnj tu) := by
      cases bk
      · simpa using h
      · simpa using h
    obtain ⟨j, h1, h2⟩ := List.mem_map.mp this
    exact ⟨j, h1, h2.symm⟩
/-- what dealing needs: places, and steps that come to one run -/
def Cap (w T nr : Nat) : Prop := if w = 1 then (4 ≤ T ∧ nr ≤ 300) else ∃ l, lvl w (T - 1) nr = some l ∧ gdl w T l = true ∧ ∀ i, i ≤ l → smp w (T - 1) i < 2 ^ 31
def dmN (w T nr : Nat) : Nat := if w = 1 then 0 else smp w (T - 1) (lvA w T nr) - nr
def lvI (w T nr : Nat) : Int32 := if w = 1 then -1 else nI (lvA w T nr)
theorem cap_pf {w T nr : Nat} (h : Cap w T nr) (hw : w ≠ 1) : lvl w (T - 1) nr = some (lvA w T nr) ∧ gdl w T (lvA w T nr) = true ∧ (∀ i, i ≤ lvA w T nr → smp w (T - 1) i < 2 ^ 31) ∧ nr ≤ smp w (T - 1) (lvA w T nr) ∧ ∀ t, t < T - 1 → pfA w T (lvA w T nr) t ≤ 253 := by
  unfold Cap at h
  rw [if_neg hw] at h
  obtain ⟨l, h1, h2, h3⟩ := h
  have e : lvA w T nr = l := by unfold lvA; rw [h1]; rfl
  rw [e]
  have q := (fstF_some h1).2.1
  simp only [decide_eq_true_eq] at q
  refine ⟨h1, h2, h3, q, fun t ht => ?_⟩
  unfold gdl at h2
  simp only [Bool.and_eq_true, beq_iff_eq] at h2
  have := cntF_all h2.2 t ht
  simp only [decide_eq_true_eq] at this
  unfold pfA
  rw [if_pos ht]
  exact this
section LO
variable {E : En} {m N w T nr : Nat} {σ : Sg} {bk fr tu : Bool} {gl : Nat → Nat}
theorem tp0_len (hT3 : 3 ≤ T) (hc : Cap w T nr) : sumF (fun t => (tp0 w T bk fr tu nr t).length) T = if w = 1 then nr else smp w (T - 1) (lvA w T nr) := by
  by_cases hw1 : w = 1
  · subst hw1
    rw [if_pos rfl]
    have : (fun t => (tp0 1 T bk fr tu nr t).length) = fun t => (dlb (T / 2) nr t).length := by
      funext t; unfold tp0; rw [if_pos rfl, tpi_len]; omega
    rw [this, dlb_sum (by omega) (by omega)]
  · rw [if_neg hw1]
    obtain ⟨c1, c2, c3, c4, c5⟩ := cap_pf hc hw1
    have hsum := pfA_sum (w := w) (T := T) (l := lvA w T nr)
    obtain ⟨d1, d2, d3, d4⟩ := dms_ok (pf := pfA w T (lvA w T nr)) (fr := fr) (k := T - 1) (n := smp w (T - 1) (lvA w T nr) - nr) (by omega)
    have hps : sumF (fun t => pfA w T (lvA w T nr) t - dmA w T fr nr t) (T - 1) = nr := by have := sumF_sub (f := pfA w T (lvA w T nr)) (g := dmA w T fr nr) (n := T - 1) d2; unfold dmA at this ⊢; omega
    obtain ⟨r1, r2, r3, r4⟩ := dlt_ok (p := fun t => pfA w T (lvA w T nr) t - dmA w T fr nr t) (k := T - 1) (by omega) (r := nr) (by omega)
    have e : ∀ t, (tp0 w T bk fr tu nr t).length = dmA w T fr nr t + (dlA w T fr nr t).length := fun t => by unfold tp0; rw [if_neg hw1, tpi_len]
    rw [sumF_congr (fun t _ => e t)]
    have hadd : ∀ n, sumF (fun t => dmA w T fr nr t + (dlA w T fr nr t).length) n = sumF (dmA w T fr nr) n + sumF (fun t => (dlA w T fr nr t).length) n := by
      intro n
      induction n with
      | zero => rfl
      | succ n ih => unfold sumF; rw [ih]; omega
    rw [hadd, show T = T - 1 + 1 by omega]
    show sumF (dmA w (T - 1 + 1) fr nr) (T - 1) + dmA w (T - 1 + 1) fr nr (T - 1) + (sumF (fun t => (dlA w (T - 1 + 1) fr nr t).length) (T - 1) + (dlA w (T - 1 + 1) fr nr (T - 1)).length) = _
    rw [show T - 1 + 1 = T by omega]
    have q1 : dmA w T fr nr (T - 1) = 0 := d3 _ (Nat.le_refl _)
    have q2 : dlA w T fr nr (T - 1) = [] := r3 _ (Nat.le_refl _)
    have q3 : sumF (dmA w T fr nr) (T - 1) = smp w (T - 1) (lvA w T nr) - nr := d1
    have q4 : sumF (fun t => (dlA w T fr nr t).length) (T - 1) = nr := r1
    rw [q1, q2, q3, q4]
    simp
    omega
theorem tp0_oc (hT3 : 3 ≤ T) (hc : Cap w T nr) : Oc T nr (tp0 w T bk fr tu nr) := by
  intro j
  by_cases hw1 : w = 1
  · subst hw1
    have : (fun t => occL j (tp0 1 T bk fr tu nr t)) = fun t => (dlb (T / 2) nr t).count j := by
      funext t; unfold tp0; rw [if_pos rfl, occ_tpi]
    rw [this, dlb_cnt (by omega) j (by omega)]
  · obtain ⟨c1, c2, c3, c4, c5⟩ := cap_pf hc hw1
    have hsum := pfA_sum (w := w) (T := T) (l := lvA w T nr)
    obtain ⟨d1, d2, d3, d4⟩ := dms_ok (pf := pfA w T (lvA w T nr)) (fr := fr) (k := T - 1) (n := smp w (T - 1) (lvA w T nr) - nr) (by omega)
    have hps : sumF (fun t => pfA w T (lvA w T nr) t - dmA w T fr nr t) (T - 1) = nr := by have := sumF_sub (f := pfA w T (lvA w T nr)) (g := dmA w T fr nr) (n := T - 1) d2; unfold dmA at this ⊢; omega
    obtain ⟨r1, r2, r3, r4⟩ := dlt_ok (p := fun t => pfA w T (lvA w T nr) t - dmA w T fr nr t) (k := T - 1) (by omega) (r := nr) (by omega)
    have e : ∀ t, occL j (tp0 w T bk fr tu nr t) = (dlA w T fr nr t).count j := fun t => by unfold tp0; rw [if_neg hw1, occ_tpi]
    rw [sumF_congr (fun t _ => e t), show T = T - 1 + 1 by omega]
    show sumF (fun t => (dlA w (T - 1 + 1) fr nr t).count j) (T - 1) + (dlA w (T - 1 + 1) fr nr (T - 1)).count j = _
    rw [show T - 1 + 1 = T by omega]
    have q2 : dlA w T fr nr (T - 1) = [] := r3 _ (Nat.le_refl _)
    have q4 : sumF (fun t => (dlA w T fr nr t).count j) (T - 1) = if j < nr then 1 else 0 := dlt_cnt (by omega) j nr
    rw [q2, q4]; rfl
theorem tp0_mem {t : Nat} {r : Rn} (h : r ∈ tp0 w T bk fr tu nr t) : r = dum ∨ ∃ j, r = rnj tu j := by
  unfold tp0 at h
  split at h
  · rcases tpi_mem h with h | ⟨j, _, h⟩
    · exact Or.inl h
    · exact Or.inr ⟨j, h⟩
  · rcases tpi_mem h with h | ⟨j, _, h⟩
    · exact Or.inl h
    · exact Or.inr ⟨j, h⟩
theorem c_layOut (hL : LMill E m N) (h : LD σ m w T bk nr gl tu) (hw : w ≤ 2) (hT : T ≤ 6) (hT3 : 3 ≤ T) (hn : nr ≤ N) (hN : N ≤ 700) (hc : Cap w T nr) :
    ∃ s, fX1_layOut E m (bI fr) σ = some s ∧ RMl s m w T bk gl nr (mi0 w T bk fr tu gl nr) ∧ gi s (m + 3) 4 = nI (dmN w T nr) ∧ gi s (m + 3) 5 = lvI w T nr ∧ ∀ x k, (x < m ∨ m + 22 ≤ x) → gi s x k = gi σ x k := by
  obtain ⟨l0, l4, l10, l12, l13, l17, l18, l5, l6, a1, a2, a3, a4, a5, a7, a8, a9, ltp⟩ := id hL
  obtain ⟨hb, h2, h3, h4, h5⟩ := id h
  obtain ⟨b0, b1, b2, b3, b7⟩ := id hb
  have hRD : ∀ s : Sg, (∀ j, j < nr → gi s (m + 8) j = nI (gl j) ∧ gi s (m + 9) j = bI (tu && (j % 2 == 1))) → ∀ t, t < T → ∀ r ∈ tp0 w T bk fr tu nr t, RD s m gl nr r := by
    intro s hs t ht r hr
    rcases tp0_mem hr with rfl | ⟨j, rfl⟩
    · exact ⟨fun _ => rfl, fun i l q => by cases q⟩
    · have hj := oc_lt (tp0_oc hT3 hc) ht hr (j := j) (by simp [rnj])
      refine ⟨fun q => (by cases q), fun i l q => ?_⟩
      injection q with q1 q2
      subst q1
      exact ⟨hj, by rw [(hs j hj).1]; rfl, (hs j hj).2⟩
  have hlen := tp0_len (bk := bk) (fr := fr) (tu := tu) hT3 hc
  unfold fX1_layOut
  rw [tk_ok l0, b0]
  by_cases hw1 : w = 1
  · subst hw1
    have hcap := hc
    unfold Cap at hcap
    rw [if_pos rfl] at hcap
    rw [if_pos rfl] at hlen
    obtain ⟨s1, e1, t1, q8, q9, q35, f1⟩ := c_turns hL h hT hT3 hn hN (fun t ht => by
      rw [dlb_len (by omega) nr t ht]
      have : (nr + T / 2 - 1 - t) / (T / 2) ≤ (nr + T / 2 - 1 - t) / 1 := Nat.div_le_div_left (by omega) (by omega)
      have h2 : (nr + T / 2 - 1 - t) / (T / 2) ≤ (nr + T / 2 - 1 - t) / 2 := Nat.div_le_div_left (by omega) (by omega)
      omega)
    rw [if_neg (by simp; rfl), e1, bv_ok, bd_ok]
    have tq0 : TQ s1 m bk (tp0 1 T bk fr tu nr) := tq_congr t1 (fun t ht => by
      unfold tp0 tq tpi
      rw [if_pos rfl]
      cases bk <;> simp)
    obtain ⟨s2, e2, r2, g2, f2⟩ := c_layEnd (gl := gl) hL hT hT3 hn hN (w := 1) (bk := bk) (nr := nr) (tp := tp0 1 T bk fr tu nr) (σ := s1)
      ⟨by rw [f1 _ _ (by omega) (by omega) (by omega)]; exact b0, by rw [f1 _ _ (by omega) (by omega) (by omega)]; exact b1, by rw [f1 _ _ (by omega) (by omega) (by omega)]; exact b2, by rw [f1 _ _ (by omega) (by omega) (by omega)]; exact b3, by rw [f1 _ _ (by omega) (by omega) (by omega)]; exact b7⟩ tq0
      (by rw [q9]; rfl) (by rw [q8, hlen]) (hRD s1 (fun j hj => by rw [f1 _ _ (by omega) (by omega) (by omega), f1 _ _ (by omega) (by omega) (by omega)]; exact h5 j hj)) (fun k hk => by rw [f1 _ _ (by omega) (by omega) (by omega)]; exact h4 k (by omega))
    rw [e2]
    refine ⟨s2, rfl, r2, ?_, ?_, fun x k z => by rw [f2 _ _ z, f1 _ _ (by omega) (by omega) (by omega)]⟩
    · rw [g2 4 (by omega), f1 _ _ (by omega) (by omega) (by omega)]; exact h4 4 (by omega)
    · rw [g2 5 (by omega)]; exact q35
  · obtain ⟨c1, c2, c3, c4, c5⟩ := cap_pf hc hw1
    rw [if_neg hw1] at hlen
    have hnw : nr < 2 ^ 31 := by omega
    obtain ⟨s0, e0, n0, f0⟩ := n_climbFor (σ := σ) (w := w) a5 (k := T - 1) (by omega) (by omega) (by omega) hnw c3 c1
    have f0' : ∀ x k, x ≠ m + 5 → x ≠ m + 6 → gi s0 x k = gi σ x k := fun x k z1 z2 => f0 x k z1 (by omega)
    have hLD : LD s0 m w T bk nr gl tu := by
      refine ⟨⟨?_, ?_, ?_, ?_, ?_⟩, fun t ht => ?_, fun t ht => ?_, fun k hk => ?_, fun j hj => ?_⟩
      · rw [f0' _ _ (by omega) (by omega)]; exact b0
      · rw [f0' _ _ (by omega) (by omega)]; exact b1
      · rw [f0' _ _ (by omega) (by omega)]; exact b2
      · rw [f0' _ _ (by omega) (by omega)]; exact b3
      · rw [f0' _ _ (by omega) (by omega)]; exact b7
      · rw [f0' _ _ (by omega) (by omega), f0' _ _ (by omega) (by omega)]; exact h2 t ht
      · rw [f0' _ _ (by omega) (by omega)]; exact h3 t ht
      · rw [f0' _ _ (by omega) (by omega)]; exact h4 k hk
      · rw [f0' _ _ (by omega) (by omega), f0' _ _ (by omega) (by omega)]; exact h5 j hj
    obtain ⟨s1, e1, t1, q8, q9, q4, q5, f1⟩ := c_numbers (fr := fr) hL hLD n0 hT hT3 hn hN c4 (fun t ht => Nat.le_trans (c5 t ht) (by omega))
    rw [i1, if_pos (fun q => hw1 ((nI_eq (by omega) (by omega)).mp q)), dr_ok l17 a5.1, b7, b1, sub_n (by omega), e0, bv_ok, e1, bv_ok, bd_ok]
    have tq0 : TQ s1 m bk (tp0 w T bk fr tu nr) := tq_congr t1 (fun t ht => by unfold tp0; rw [if_neg hw1]; rfl)
    have f1' : ∀ x k, ¬ (m + 5 ≤ x ∧ x ≤ m + 7) → ¬ (m + 10 ≤ x ∧ x < m + 22) → ¬ (x = m ∧ (k = 8 ∨ k = 9)) → ¬ (x = m + 3 ∧ (k = 4 ∨ k = 5)) → gi s1 x k = gi σ x k := fun x k z1 z2 z3 z4 => by rw [f1 _ _ z1 z2 z3 z4, f0' _ _ (by omega) (by omega)]
    obtain ⟨s2, e2, r2, g2, f2⟩ := c_layEnd (gl := gl) hL hT hT3 hn hN (w := w) (bk := bk) (nr := nr) (tp := tp0 w T bk fr tu nr) (σ := s1)
      ⟨by rw [f1' _ _ (by omega) (by omega) (by omega) (by omega)]; exact b0, by rw [f1' _ _ (by omega) (by omega) (by omega) (by omega)]; exact b1, by rw [f1' _ _ (by omega) (by omega) (by omega) (by omega)]; exact b2, by rw [f1' _ _ (by omega) (by omega) (by omega) (by omega)]; exact b3, by rw [f1' _ _ (by omega) (by omega) (by omega) (by omega)]; exact b7⟩ tq0
      (by rw [q9]; unfold to0; rw [if_neg hw1]) (by rw [q8, hlen]) (hRD s1 (fun j hj => by rw [f1' _ _ (by omega) (by omega) (by omega) (by omega), f1' _ _ (by omega) (by omega) (by omega) (by omega)]; exact h5 j hj)) (fun k hk => by rw [f1' _ _ (by omega) (by omega) (by omega) (by omega)]; exact h4 k (by omega))
    rw [i1] at e2
    rw [e2]
    refine ⟨s2, rfl, r2, ?_, ?_, fun x k z => by rw [f2 _ _ z, f1' _ _ (by omega) (by omega) (by omega) (by omega)]⟩
    · rw [g2 4 (by omega), q4]; unfold dmN; rw [if_neg hw1]
    · rw [g2 5 (by omega), q5]; unfold lvI; rw [if_neg hw1]
end LO
