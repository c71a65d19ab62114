/-! the plan on paper: the class -/
section PN
variable {E : En} {σ : Sg} {m N w T nr : Nat} {bk fr tu : Bool} {gl : Nat → Nat}
theorem rml_8 {A : Mi} (h : RMl σ m w T bk gl nr A) : gi σ m 8 = nI (lef T (mK A)) := by
  obtain ⟨L, H, _, _, _, q, _⟩ := h
  exact q
theorem rml_lef {A : Mi} (hT : T ≤ 6) (h : RMl σ m w T bk gl nr A) : lef T (mK A) ≤ 1536 := by
  obtain ⟨L, H, hms, _⟩ := h
  exact ms_lef hT hms
theorem c_mergeAll (hL : LMill E m N) (hg : Gok w T nr) (hn : nr ≤ N) (hN : N ≤ 700) (hK : kst w T nr ≤ 700) (h : RMl σ m w T bk gl nr (mil w T bk fr tu gl nr 0)) : ∃ s, fX1_mergeAll E m σ = some s ∧ RMl s m w T bk gl nr (mil w T bk fr tu gl nr (kst w T nr)) ∧ ∀ x k, esA m x k → gi s x k = gi σ x k := by
  obtain ⟨hw2, hT3, hT, hn1, _, hcap, _⟩ := id hg
  unfold fX1_mergeAll
  rw [tk_ok hL.1]
  obtain ⟨⟨v, s⟩, e, e1, e2⟩ := for_in (F := fun (rec : Int32 × Sg → Option (Int32 × Sg)) a => bX1_mergeAll_2 E m (fun u0 t => rec (u0, t)) a.1 a.2) (kst w T nr)
    (fun i b => b.1 = nI i ∧ RMl b.2 m w T bk gl nr (mil w T bk fr tu gl nr i) ∧ ∀ x k, esA m x k → gi b.2 x k = gi σ x k)
    (fun b => RMl b.2 m w T bk gl nr (mil w T bk fr tu gl nr (kst w T nr)) ∧ ∀ x k, esA m x k → gi b.2 x k = gi σ x k) (N := FU) (by show kst w T nr < 1000000; omega)
    (by
      rintro i ⟨v, s⟩ rec hi ⟨rfl, f1, f2⟩
      dsimp only at f1 f2 ⊢
      have h8 := rml_8 f1
      have hle := rml_lef hT f1
      have hlf := mil_lef (bk := bk) (fr := fr) (tu := tu) (gl := gl) hg hi
      obtain ⟨o1, o2⟩ := mil_ok (bk := bk) (fr := fr) (tu := tu) (gl := gl) hg hi
      have ha := mil_ai (bk := bk) (fr := fr) (tu := tu) (gl := gl) hg (n := i) (by omega)
      obtain ⟨s', q1, q2, q3, q4, q5⟩ := c_adv hL f1 hT hT3 hw2 hn hN (oc_dj ha.1) o1
      unfold bX1_mergeAll_2
      rw [show (100000 : Int32) = nI 100000 from rfl, if_neg (nI_ge (by omega) (by omega)), h8, i1, if_neg (nI_ge (by omega) (by omega)), q1, bv_ok, lt_ok, nI_add]
      exact ⟨_, rfl, rfl, q2, fun x k hx => by dsimp only; rw [q5 x k hx, f2 x k hx]⟩)
    (by
      rintro ⟨v, s⟩ rec ⟨rfl, f1, f2⟩
      dsimp only at f1 f2 ⊢
      have h8 := rml_8 f1
      rw [mil_end hg] at h8
      unfold bX1_mergeAll_2
      rw [show (100000 : Int32) = nI 100000 from rfl, if_neg (nI_ge (by omega) (by omega)), h8, i1, if_pos (nI_le (Nat.le_refl _) (by omega))]
      exact ⟨_, rfl, f1, f2⟩)
    (a := ((0 : Int32), σ)) ⟨rfl, h, fun _ _ _ => rfl⟩
  dsimp only at e1 e2
  rw [e, bd_ok]
  exact ⟨s, rfl, e1, e2⟩
/-- the runs that grew, laid on paper by any way, tapes, direction -/
theorem c_paper (hR : LRun E) {c : Cu} (hw : Wf c) (h1 : 1 ≤ cT c) (hg : Gok w T (nrC c)) (h : CS CG' CM' (lc σ 2) c) : ∃ s1, fX1_begin E 39 (nI w) (nI T) (bI bk) σ = some s1 ∧ ∃ s, fX4_layRuns E 2 39 s1 = some s ∧ RMl s 39 w T bk (glC c) (nrC c) (mil w T bk (frC c) (tuC c) (glC c) (nrC c) 0) ∧ gi s 42 4 = nI (dmN w T (nrC c)) ∧ gi s 42 5 = lvI w T (nrC c) ∧ (∀ x k, (x < 39 ∨ 61 ≤ x) → gi s1 x k = gi σ x k) ∧ ∀ x k, (x < 39 ∨ 61 ≤ x) → gi s x k = gi σ x k := by
  obtain ⟨r0, r1, r3, r4, r5, r8, r9, r10, r11, r12, r13, l1, l2, l35, l36, l37, l38, l39, l61, l63, l64, lp, ls⟩ := id hR
  obtain ⟨k1, k2, k3⟩ := cs_rr h
  obtain ⟨g1, g2, g3, g4⟩ := cs_g h h1
  have h0 := hw.2.2.2.2.1 h1
  obtain ⟨hw2, hT3, hT, hn1, _, hcap, _⟩ := id hg
  have hnr := (nr_c hw h0).2
  obtain ⟨s1, e1, d1, f1⟩ := c_begin (σ := σ) (w := w) (T := T) (bk := bk) (gl := glC c) (tu := tuC c) l39 hT3 hT
  obtain ⟨s2, e2, r2, t4, t5, f2⟩ := c_layRuns (σ := s1) (fr := frC c) (f3 := cS c 3) l2 l39 (by omega) (by rw [f1 _ _ (by omega)]; exact g1) (by rw [f1 _ _ (by omega)]; exact g2) (fun r hr => by rw [f1 _ _ (by omega)]; exact g4 r hr) (by rw [f1 _ _ (by omega)]; exact k2 3 (by omega)) (st_1 hw (by omega)) rfl d1 (by omega) (by omega) (by omega) hw2 hT hT3 hcap
  exact ⟨s1, e1, s2, e2, r2, t4, t5, fun x k hx => f1 x k (by omega), fun x k hx => by rw [f2 _ _ (by omega), f1 _ _ (by omega)]⟩
end PN
