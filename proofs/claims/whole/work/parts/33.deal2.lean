/-! the class deals runs and dummies -/
def TQ (σ : Sg) (m : Nat) (bk : Bool) (tp : Nat → List Rn) : Prop := ∀ t, t < 6 → TP σ (m + 10 + 2 * t) bk (tp t) 0 (tp t).length
section DL
variable {E : En} {m N w T nr k : Nat} {σ : Sg} {bk fr tu : Bool} {gl : Nat → Nat} {tp : Nat → List Rn}
theorem tq_fr {σ' : Sg} (h : TQ σ m bk tp) (hf : ∀ x k, m + 10 ≤ x → x < m + 22 → gi σ' x k = gi σ x k) : TQ σ' m bk tp := fun t ht => tp_fr (h t ht) (fun k => hf _ _ (by omega) (by omega)) (fun k => hf _ _ (by omega) (by omega))
theorem tq_congr {tp' : Nat → List Rn} (h : TQ σ m bk tp) (he : ∀ t, t < 6 → tp t = tp' t) : TQ σ m bk tp' := fun t ht => by rw [← he t ht]; exact h t ht
theorem tq_write (hL : LMill E m N) (h : TQ σ m bk tp) {t : Nat} (ht : t < 6) (r : Rn) (hl : (tp t).length < 256) : ∃ s, fX5_write E (m + 10 + 2 * t) (idI r.1) σ = some s ∧ TQ s m bk (fun u => if u = t then psh bk r (tp u) else tp u) ∧ ∀ x k, ¬ (m + 10 ≤ x ∧ x < m + 22) → gi s x k = gi σ x k := by
  obtain ⟨l0, l4, l10, l12, l13, l17, l18, l5, l6, a1, a2, a3, a4, a5, a7, a8, a9, ltp⟩ := id hL
  obtain ⟨lt1, lt2⟩ := ltp t ht
  obtain ⟨s, e1, e2, e3, -⟩ := tp_write (r := r) lt2 (h t ht) hl
  refine ⟨s, e1, fun u hu => ?_, fun x k hx => e3 _ _ (by omega) (by omega)⟩
  dsimp only
  by_cases hut : u = t
  · subst hut; rw [if_pos rfl, psh_len]; exact e2
  · rw [if_neg hut]; exact tp_fr (h u hu) (fun k => e3 _ _ (by omega) (by omega)) (fun k => e3 _ _ (by omega) (by omega))
def tq (bk tu : Bool) (d : Nat) (dl : List Nat) : List Rn := if bk then (dl.map (rnj tu)).reverse else List.replicate d dum ++ dl.map (rnj tu)
theorem tq_psh {d r : Nat} {dl : List Nat} : psh bk (rnj tu r) (tq bk tu d dl) = tq bk tu d (dl ++ [r]) := by
  unfold psh tq
  cases bk <;> simp
theorem tq_len {d : Nat} {dl : List Nat} : (tq bk tu d dl).length = (if bk then 0 else d) + dl.length := by
  unfold tq; cases bk <;> simp
theorem c_turns (hL : LMill E m N) (h : LD σ m 1 T bk nr gl tu) (hT : T ≤ 6) (hT3 : 3 ≤ T) (hn : nr ≤ N) (hN : N ≤ 700) (hc : ∀ t, t < T / 2 → (dlb (T / 2) nr t).length ≤ 256) : ∃ s, fX1_dealByTurns E m σ = some s ∧ TQ s m bk (fun t => tq bk tu 0 (dlb (T / 2) nr t)) ∧ gi s m 8 = nI nr ∧ gi s m 9 = nI (T / 2) ∧ gi s (m + 3) 5 = -1 ∧ ∀ x k, ¬ (m + 10 ≤ x ∧ x < m + 22) → ¬ (x = m ∧ (k = 8 ∨ k = 9)) → ¬ (x = m + 3 ∧ k = 5) → gi s x k = gi σ x k := by
  obtain ⟨l0, l4, l10, l12, l13, l17, l18, l5, l6, a1, a2, a3, a4, a5, a7, a8, a9, ltp⟩ := id hL
  obtain ⟨⟨b0, b1, b2, b3, b7⟩, h2, h3, h4, h5⟩ := h
  have hmon : ∀ i j t, i ≤ j → (dlb (T / 2) i t).length ≤ (dlb (T / 2) j t).length := by
    intro i j t hij
    induction j with
    | zero => rw [show i = 0 by omega]; exact Nat.le_refl _
    | succ j ih =>
      by_cases hq : i = j + 1
      · subst hq; exact Nat.le_refl _
      · refine Nat.le_trans (ih (by omega)) ?_
        show _ ≤ (if t = j % (T / 2) then dlb (T / 2) j t ++ [j] else dlb (T / 2) j t).length
        split <;> simp
  unfold fX1_dealByTurns
  rw [tk_ok l0]
  refine bd_in nr (fun i b => b.1 = nI i ∧ TQ b.2 m bk (fun t => tq bk tu 0 (dlb (T / 2) i t)) ∧ ∀ x k, ¬ (m + 10 ≤ x ∧ x < m + 22) → gi b.2 x k = gi σ x k) (fun b => TQ b.2 m bk (fun t => tq bk tu 0 (dlb (T / 2) nr t)) ∧ ∀ x k, ¬ (m + 10 ≤ x ∧ x < m + 22) → gi b.2 x k = gi σ x k) (by show nr < 1000000; omega) ⟨rfl, fun t ht => ?_, fun _ _ _ => rfl⟩ ?_ ?_ ?_
  · obtain ⟨q1, q2⟩ := h2 t ht
    have e : tq bk tu 0 (dlb (T / 2) 0 t) = [] := by unfold tq; cases bk <;> rfl
    dsimp only
    rw [e]
    exact ⟨q1, q2, Nat.le_refl _, by simp, rfl, fun k hk => absurd hk (Nat.not_lt_zero k)⟩
  · rintro i ⟨v, s⟩ rec hi ⟨rfl, g1, g2⟩
    dsimp only at g1 g2 ⊢
    have hh : 0 < T / 2 := by omega
    have hlt := Nat.mod_lt i hh
    have hlen : (tq bk tu 0 (dlb (T / 2) i (i % (T / 2)))).length < 256 := by
      rw [tq_len]
      have h1 := hmon (i + 1) nr (i % (T / 2)) (by omega)
      have h2 := hc _ hlt
      have h3 : (dlb (T / 2) (i + 1) (i % (T / 2))).length = (dlb (T / 2) i (i % (T / 2))).length + 1 := by
        show (if i % (T / 2) = i % (T / 2) then _ else _ : List Nat).length = _
        rw [if_pos rfl]; simp
      cases bk <;> simp <;> omega
    obtain ⟨lt1, lt2⟩ := ltp (i % (T / 2)) (by omega)
    obtain ⟨s3, e3, w1, w2⟩ := tq_write hL g1 (t := i % (T / 2)) (by omega) (rnj tu i) hlen
    unfold bX1_dealByTurns_2
    rw [g2 m 7 (by omega), b7, if_neg (nI_ge hi (by omega)), dr_ok l4 a1.1, g2 m 2 (by omega), b2]
    unfold nz
    rw [if_neg (nI_ne0 (by omega) (by omega)), im_n (by omega) (by omega) (by omega), a1.2, ck_n (by omega) (by omega), nI_clamp (by omega), dr_ok lt1 lt2.1]
    rw [show idI (rnj tu i).1 = nI i from rfl] at e3
    rw [e3, bv_ok, lt_ok, ad1]
    refine ⟨_, rfl, rfl, tq_congr w1 (fun t ht => ?_), fun x k hx => by dsimp only; rw [w2 _ _ hx]; exact g2 x k hx⟩
    show _ = tq bk tu 0 (if t = i % (T / 2) then dlb (T / 2) i t ++ [i] else dlb (T / 2) i t)
    by_cases hq : t = i % (T / 2)
    · rw [if_pos hq, if_pos hq, tq_psh]
    · rw [if_neg hq, if_neg hq]
  · rintro ⟨v, s⟩ rec ⟨rfl, g1, g2⟩
    dsimp only at g1 g2 ⊢
    unfold bX1_dealByTurns_2
    rw [g2 m 7 (by omega), b7, if_pos (nI_le (Nat.le_refl _) (by omega))]
    exact ⟨_, rfl, g1, g2⟩
  · rintro v s ⟨g1, g2⟩
    dsimp only at g1 g2
    rw [ss_ok, ss_ok, dr_ok l12 a3.1, a3.2, i5, ck_n (by omega) (by omega), nI_clamp (by omega), ss_ok]
    rw [g2 m 7 (by omega), b7, gs_ne (by omega), g2 m 2 (by omega), b2]
    refine ⟨_, rfl, tq_fr g1 (fun x k q1 q2 => ?_), ?_, ?_, gs_eq, fun x k q1 q2 q3 => ?_⟩
    · simp (disch := omega) only [i0, i1, i2, i3, i4, i5, i6, i7, i8, mle, mlt, meq, if_pos, if_neg, dr_s, tk_s, ck_m, nI_clamp, lt_ok, ss_ok, nI_add, pk_mul, sub_n, bd_ok, bv_ok, gs_ne, gs_eq]
    · simp (disch := omega) only [i0, i1, i2, i3, i4, i5, i6, i7, i8, mle, mlt, meq, if_pos, if_neg, dr_s, tk_s, ck_m, nI_clamp, lt_ok, ss_ok, nI_add, pk_mul, sub_n, bd_ok, bv_ok, gs_ne, gs_eq]
    · simp (disch := omega) only [i0, i1, i2, i3, i4, i5, i6, i7, i8, mle, mlt, meq, if_pos, if_neg, dr_s, tk_s, ck_m, nI_clamp, lt_ok, ss_ok, nI_add, pk_mul, sub_n, bd_ok, bv_ok, gs_ne, gs_eq]
    · simp (disch := omega) only [i0, i1, i2, i3, i4, i5, i6, i7, i8, mle, mlt, meq, if_pos, if_neg, dr_s, tk_s, ck_m, nI_clamp, lt_ok, ss_ok, nI_add, pk_mul, sub_n, bd_ok, bv_ok, gs_ne, gs_eq]; exact g2 x k q1
theorem c_fplace (hL : LMill E m N) (hT : T ≤ 6) (h1 : gi σ m 1 = nI T) {q : Nat → Nat} (hq : ∀ t, t < T - 1 → gi σ (m + 6) t = nI (q t) ∧ q t < 2 ^ 31) (hT3 : 3 ≤ T) : fX1_firstPlace E m σ = some (nI ((fstF (fun t => decide (0 < q t)) (T - 1)).getD 0), σ) := by
  obtain ⟨l0, l4, l10, l12, l13, l17, l18, l5, l6, a1, a2, a3, a4, a5, a7, a8, a9, ltp⟩ := id hL
  have body : ∀ i rec, i < T - 1 → bX1_firstPlace_2 E m rec (nI i) σ = if decide (0 < q i) = true then some (.inr (nI i), σ) else rec (nI (i + 1)) σ := by
    intro i rec hi
    obtain ⟨q1, q2⟩ := hq i hi
    unfold bX1_firstPlace_2
    rw [h1, i1, sub_n (by omega), if_neg (nI_ge hi (by omega)), dr_ok l17 a5.1, dr_ok a5.2.1 a5.2.2.1, a5.2.2.2, ck_n (by omega) (by omega), nI_clamp (by omega), q1, lt_ok, nI_add]
    by_cases hz : q i = 0
    · rw [hz, if_pos (show nI 0 ≤ 0 by decide), if_neg (by simp)]
    · rw [if_neg (nI_nle (by omega) (by omega)), if_pos (by simp; omega)]
  unfold fX1_firstPlace
  rw [tk_ok l0]
  cases hf : fstF (fun t => decide (0 < q t)) (T - 1) with
  | some e =>
    obtain ⟨q1, q2, q3⟩ := fstF_some hf
    refine bd_tr (Sum.inr (nI e), σ) e (fun i => (nI i, σ)) (by show e < 1000000; omega) (fun i rec hi => ?_) (fun rec => ?_) rfl
    · dsimp only; rw [body i _ (by omega), if_neg (by rw [q3 i hi]; decide)]
    · dsimp only; rw [body e _ q1, if_pos q2]
  | none =>
    have q3 := fstF_none hf
    refine bd_tr (Sum.inl (nI (T - 1)), σ) (T - 1) (fun i => (nI i, σ)) (by show T - 1 < 1000000; omega) (fun i rec hi => ?_) (fun rec => ?_) rfl
    · dsimp only; rw [body i _ (by omega), if_neg (by rw [q3 i hi]; decide)]
    · unfold bX1_firstPlace_2
      dsimp only
      rw [h1, i1, sub_n (by omega), if_pos (nI_le (Nat.le_refl _) (by omega))]
theorem bst_tr {pf d : Nat → Nat} : ∀ {n : Nat}, bst pf d true n = fstF (fun t => decide (0 < pf t - d t)) n
  | 0 => rfl
  | n + 1 => by
    unfold bst fstF
    rw [bst_tr]
    cases fstF (fun t => decide (0 < pf t - d t)) n with
    | some b => simp
    | none =>
      dsimp only
      by_cases h : d n < pf n
      · rw [if_pos h, if_pos (by simp; omega)]
      · rw [if_neg h, if_neg (by simp; omega)]
theorem bst_none' {pf d : Nat → Nat} {fr : Bool} : ∀ {n : Nat}, (∀ t, t < n → pf t ≤ d t) → bst pf d fr n = none
  | 0, _ => rfl
  | n + 1, h => by
    unfold bst
    rw [bst_none' (fun t ht => h t (by omega))]
    dsimp only
    have := h n (by omega)
    rw [if_neg (by omega)]
theorem c_fewest (hL : LMill E m N) (hT : T ≤ 6) (h1 : gi σ m 1 = nI T) {pf d : Nat → Nat} (hq : ∀ t, t < T - 1 → gi σ (m + 6) t = nI (pf t - d t) ∧ pf t - d t < 2 ^ 31) (hd : ∀ t, t < T - 1 → gi σ (m + 7) t = nI (d t) ∧ d t < 2 ^ 31) (hT3 : 3 ≤ T) {b : Nat} (hb : bst pf d false (T - 1) = some b) : fX1_fewestBlanks E m σ = some (nI b, σ) := by
  obtain ⟨l0, l4, l10, l12, l13, l17, l18, l5, l6, a1, a2, a3, a4, a5, a7, a8, a9, ltp⟩ := id hL
  unfold fX1_fewestBlanks
  rw [tk_ok l0, c_fplace hL hT h1 hq hT3, bd_ok, lt_ok, ad1]
  cases hf : fstF (fun t => decide (0 < pf t - d t)) (T - 1) with
  | none =>
    exfalso
    have q3 := fstF_none hf
    have := bst_none' (pf := pf) (d := d) (fr := false) (n := T - 1) (fun t ht => by have := q3 t ht; simp only [decide_eq_false_iff_not] at this; omega)
    rw [hb] at this; cases this
  | some e =>
    obtain ⟨q1, q2, q3⟩ := fstF_some hf
    simp only [decide_eq_true_eq] at q2
    show bd (fx _ FU ((nI e, nI (e + 1)), σ)) _ = _
    have h0 : bst pf d false (e + 1) = some e := by
      unfold bst
      rw [bst_none' (fun t ht => by have := q3 t ht; simp only [decide_eq_false_iff_not] at this; omega)]
      dsimp only
      rw [if_pos (by omega)]
    have hsm : ∀ i, e + 1 + i ≤ T - 1 → ∃ c, bst pf d false (e + 1 + i) = some c := by
      intro i
      induction i with
      | zero => intro _; exact ⟨e, h0⟩
      | succ i ih =>
        intro hi
        obtain ⟨c, hc⟩ := ih (by omega)
        show ∃ c', bst pf d false (e + 1 + i + 1) = some c'
        unfold bst
        rw [hc]
        dsimp only
        split
        · exact ⟨_, rfl⟩
        · exact ⟨_, rfl⟩
    refine bd_tr ((nI b, nI (T - 1)), σ) (T - 1 - (e + 1)) (fun i => ((nI ((bst pf d false (e + 1 + i)).getD 0), nI (e + 1 + i)), σ)) (by show T - 1 - (e + 1) < 1000000; omega) (fun i rec hi => ?_) (fun rec => ?_) (by rw [Nat.add_zero, h0]; rfl)
    · obtain ⟨c, hc⟩ := hsm i (by omega)
      obtain ⟨c1, c2⟩ := bst_some hc
      obtain ⟨p1, p2⟩ := hq (e + 1 + i) (by omega)
      obtain ⟨p3, p4⟩ := hd (e + 1 + i) (by omega)
      obtain ⟨p5, p6⟩ := hd c (by omega)
      have hn : bst pf d false (e + 1 + (i + 1)) = if d (e + 1 + i) < pf (e + 1 + i) ∧ d (e + 1 + i) < d c then some (e + 1 + i) else some c := by
        show bst pf d false (e + 1 + i + 1) = _
        unfold bst
        rw [hc]
        simp
      dsimp only
      rw [hc, Option.getD_some]
      unfold bX1_fewestBlanks_9
      rw [h1, i1, sub_n (by omega), if_neg (nI_ge (by omega) (by omega)), dr_ok l17 a5.1, dr_ok a5.2.1 a5.2.2.1, a5.2.2.2, ck_n (by omega) (by omega), nI_clamp (by omega), p1]
      by_cases hz : pf (e + 1 + i) - d (e + 1 + i) = 0
      · rw [hz, if_pos (show nI 0 ≤ 0 by decide), bd_ok, lt_ok, nI_add, hn, if_neg (by omega)]; rfl
      · rw [if_neg (nI_nle (by omega) (by omega)), dr_ok l18 a7.1, a7.2, ck_n (by omega) (by omega), ck_n (by omega) (by omega), nI_clamp (by omega), p3, p5]
        by_cases hz2 : d c ≤ d (e + 1 + i)
        · rw [if_pos (nI_le hz2 (by omega)), bd_ok, lt_ok, nI_add, hn, if_neg (by omega)]; rfl
        · rw [if_neg (nI_ge (by omega) (by omega)), bd_ok, lt_ok, nI_add, hn, if_pos (by omega)]; rfl
    · unfold bX1_fewestBlanks_9
      dsimp only
      rw [show e + 1 + (T - 1 - (e + 1)) = T - 1 by omega, hb, h1, i1, sub_n (by omega), if_pos (nI_le (Nat.le_refl _) (by omega))]; rfl
theorem c_most (hL : LMill E m N) (hT : T ≤ 6) (h1 : gi σ m 1 = nI T) {q : Nat → Nat} (hq : ∀ t, t < T - 1 → gi σ (m + 6) t = nI (q t) ∧ q t < 2 ^ 31) (hT3 : 3 ≤ T) : fX1_mostPlaces E m σ = some (nI (amx q (T - 2)), σ) := by
  obtain ⟨l0, l4, l10, l12, l13, l17, l18, l5, l6, a1, a2, a3, a4, a5, a7, a8, a9, ltp⟩ := id hL
  unfold fX1_mostPlaces
  rw [tk_ok l0]
  refine bd_tr ((nI (amx q (T - 2)), nI (T - 1)), σ) (T - 2) (fun i => ((nI (amx q i), nI (i + 1)), σ)) (by show T - 2 < 1000000; omega) (fun i rec hi => ?_) (fun rec => ?_) rfl
  · have hle := amx_le q i
    obtain ⟨p1, p2⟩ := hq (i + 1) (by omega)
    obtain ⟨p3, p4⟩ := hq (amx q i) (by omega)
    dsimp only
    unfold bX1_mostPlaces_4
    rw [h1, i1, sub_n (by omega), if_neg (nI_ge (by omega) (by omega)), dr_ok l17 a5.1, dr_ok a5.2.1 a5.2.2.1, a5.2.2.2, ck_n (by omega) (by omega), ck_n (by omega) (by omega), nI_clamp (by omega), nI_clamp (by omega), p1, p3]
    show _ = rec ((nI (if q (amx q i) < q (i + 1) then i + 1 else amx q i), _), _)
    by_cases hc : q (i + 1) ≤ q (amx q i)
    · rw [if_pos (nI_le hc p4), bd_ok, lt_ok, nI_add, if_neg (by omega)]
    · rw [if_neg (nI_ge (by omega) p2), bd_ok, lt_ok, nI_add, if_pos (by omega)]
  · unfold bX1_mostPlaces_4
    dsimp only
    rw [h1, i1, sub_n (by omega), show T - 2 + 1 = T - 1 by omega, if_pos (nI_le (Nat.le_refl _) (by omega))]
def pshn (bk : Bool) (d : Nat) (l : List Rn) : List Rn := if bk then List.replicate d dum ++ l else l ++ List.replicate d dum
theorem pshn_s {d : Nat} {l : List Rn} : psh bk dum (pshn bk d l) = pshn bk (d + 1) l := by
  unfold psh pshn
  cases bk
  · simp [List.replicate_succ']
  · simp [List.replicate_succ]
theorem pshn_len {d : Nat} {l : List Rn} : (pshn bk d l).length = l.length + d := by
  unfold pshn; cases bk <;> simp <;> omega
theorem c_blanks (hL : LMill E m N) (hT : T ≤ 6) (hT3 : 3 ≤ T) (h1 : gi σ m 1 = nI T) (h : TQ σ m bk tp) {d : Nat → Nat} (hd : ∀ t, t < T - 1 → gi σ (m + 7) t = nI (d t)) (hc : ∀ t, t < T - 1 → (tp t).length + d t ≤ 256) : ∃ s, fX1_writeBlanks E m σ = some s ∧ TQ s m bk (fun t => if t < T - 1 then pshn bk (d t) (tp t) else tp t) ∧ ∀ x k, ¬ (m + 10 ≤ x ∧ x < m + 22) → gi s x k = gi σ x k := by
  obtain ⟨l0, l4, l10, l12, l13, l17, l18, l5, l6, a1, a2, a3, a4, a5, a7, a8, a9, ltp⟩ := id hL
  unfold fX1_writeBlanks
  rw [tk_ok l0]
  refine bd_in (T - 1) (fun i b => b.1 = nI i ∧ TQ b.2 m bk (fun t => if t < i then pshn bk (d t) (tp t) else tp t) ∧ ∀ x k, ¬ (m + 10 ≤ x ∧ x < m + 22) → gi b.2 x k = gi σ x k) (fun b => TQ b.2 m bk (fun t => if t < T - 1 then pshn bk (d t) (tp t) else tp t) ∧ ∀ x k, ¬ (m + 10 ≤ x ∧ x < m + 22) → gi b.2 x k = gi σ x k) (by show T - 1 < 1000000; omega) ⟨rfl, tq_congr h (fun t _ => by rw [if_neg (by omega)]), fun _ _ _ => rfl⟩ ?_ ?_ (fun v s q => ⟨s, rfl, q⟩)
  · rintro i ⟨v, s⟩ rec hi ⟨rfl, g1, g2⟩
    dsimp only at g1 g2 ⊢
    obtain ⟨lt1, lt2⟩ := ltp i (by omega)
    have hci := hc i hi
    unfold bX1_writeBlanks_2
    rw [g2 m 1 (by omega), h1, i1, sub_n (by omega), if_neg (nI_ge hi (by omega))]
    obtain ⟨⟨v, s2⟩, e2, q1, q2⟩ := for_in (F := fun (rec : Int32 × Sg → Option (Int32 × Sg)) (a : Int32 × Sg) => bX1_writeBlanks_14 E m (nI i) (fun u0 t => rec (u0, t)) a.1 a.2) (d i) (fun j b => b.1 = nI j ∧ TQ b.2 m bk (fun t => if t < i then pshn bk (d t) (tp t) else if t = i then pshn bk j (tp t) else tp t) ∧ ∀ x k, ¬ (m + 10 ≤ x ∧ x < m + 22) → gi b.2 x k = gi σ x k) (fun b => TQ b.2 m bk (fun t => if t < i then pshn bk (d t) (tp t) else if t = i then pshn bk (d i) (tp t) else tp t) ∧ ∀ x k, ¬ (m + 10 ≤ x ∧ x < m + 22) → gi b.2 x k = gi σ x k) (N := FU) (by show d i < 1000000; omega)
      (by
        rintro j ⟨v, s3⟩ rec hj ⟨rfl, w1, w2⟩
        dsimp only at w1 w2 ⊢
        obtain ⟨s4, e4, z1, z2⟩ := tq_write hL w1 (t := i) (by omega) dum (by
          show (if i < i then _ else if i = i then pshn bk j (tp i) else _ : List Rn).length < 256
          rw [if_neg (by omega), if_pos rfl, pshn_len]; omega)
        unfold bX1_writeBlanks_14
        rw [dr_ok l18 a7.1, a7.2, ck_n (by omega) (by omega), nI_clamp (by omega), w2 _ _ (by omega), hd i hi, if_neg (nI_ge hj (by omega)), dr_ok l4 a1.1, a1.2, ck_n (by omega) (by omega), dr_ok lt1 lt2.1]
        rw [show idI dum.1 = -1 from rfl] at e4
        rw [e4, bv_ok, lt_ok, ad1]
        refine ⟨_, rfl, rfl, tq_congr z1 (fun t ht => ?_), fun x k hx => by dsimp only; rw [z2 _ _ hx]; exact w2 x k hx⟩
        by_cases hti : t = i
        · subst hti
          rw [if_pos rfl, if_neg (by omega), if_pos rfl, if_neg (by omega), if_pos rfl, pshn_s]
        · rw [if_neg hti, if_neg hti, if_neg hti])
      (by
        rintro ⟨v, s3⟩ rec ⟨rfl, w1, w2⟩
        dsimp only at w1 w2 ⊢
        unfold bX1_writeBlanks_14
        rw [dr_ok l18 a7.1, a7.2, ck_n (by omega) (by omega), nI_clamp (by omega), w2 _ _ (by omega), hd i hi, if_pos (nI_le (Nat.le_refl _) (by omega))]
        exact ⟨_, rfl, w1, w2⟩)
      (a := ((0 : Int32), s)) ⟨rfl, tq_congr g1 (fun t ht => by
        by_cases hti : t = i
        · subst hti; rw [if_neg (by omega), if_neg (by omega), if_pos rfl]; unfold pshn; cases bk <;> simp
        · rw [if_neg hti]), g2⟩
    rw [i0] at *
    rw [e2, bd_ok, lt_ok, nI_add]
    refine ⟨_, rfl, rfl, tq_congr q1 (fun t ht => ?_), q2⟩
    by_cases hti : t = i
    · subst hti; rw [if_neg (by omega), if_pos rfl, if_pos (by omega)]
    · rw [if_neg hti]
      by_cases hlt : t < i
      · rw [if_pos hlt, if_pos (by omega)]
      · rw [if_neg hlt, if_neg (by omega)]
  · rintro ⟨v, s⟩ rec ⟨rfl, g1, g2⟩
    dsimp only at g1 g2 ⊢
    unfold bX1_writeBlanks_2
    rw [g2 m 1 (by omega), h1, i1, sub_n (by omega), if_pos (nI_le (Nat.le_refl _) (by omega))]
    exact ⟨_, rfl, g1, g2⟩
end DL
