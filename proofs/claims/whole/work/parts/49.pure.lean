/-! every script: class and reference answer alike -/
def stN (j : Nat) : Nat := match j with
  | 0 => 4 | 1 => 4 | _ => 0
def c00 : Cu := (fun _ => 0, 0, stN, 0, 0)
def a00 : Ab := (fun _ => 0, 0, c00, 0, [], fun _ => none)
theorem wf00 : Wfa a00 := by
  refine ⟨Nat.zero_le _, fun i hi => absurd hi (Nat.not_lt_zero i), ⟨Nat.zero_le _, fun i hi => absurd hi (Nat.not_lt_zero i), fun j hj => ?_, Nat.zero_le _, fun h => absurd h (by decide), fun h => absurd h (by decide)⟩, (by decide : 0 < 2 ^ 31), Nat.zero_le _, fun q hq => (by cases hq), fun i q hq => (by cases hq)⟩
  rcases (show j = 0 ∨ j = 1 ∨ j = 2 ∨ j = 3 ∨ j = 4 ∨ j = 5 by omega) with rfl | rfl | rfl | rfl | rfl | rfl <;> decide
theorem jj00 {σ : Sg} (h : SFirst σ) : JJ CG' CM' MG' MM' σ := by
  obtain ⟨h1, h2, h3, h4, h5, h6, h7, h8, h9, h10, h11, h12, h13, h14⟩ := h
  refine ⟨a00, wf00, ⟨h1, fun i hi => absurd hi (Nat.not_lt_zero i), h2, ⟨?_, fun i hi => absurd hi (Nat.not_lt_zero i), fun i hi => absurd hi (Nat.not_lt_zero i), ?_, fun j hj => ?_, ?_, fun q => absurd q (by decide), fun q => absurd q (by decide)⟩, ⟨h3, 0, by omega, h4, fun i q hq => (by cases hq)⟩, fun i hi => ⟨?_, fun q hq => (by cases hq)⟩⟩, ⟨h13, fun i hi => absurd hi (Nat.not_lt_zero i), ⟨?_, fun i hi => absurd hi (Nat.not_lt_zero i), fun j hj => ?_, ?_, ?_, fun q => absurd q (by decide), fun q => absurd q (by decide)⟩, ⟨h11, fun i q hq => (by cases hq)⟩, 0, by omega, h12, fun i hi => ⟨by rw [Nat.zero_testBit]; rfl, fun q hq => (by cases hq)⟩⟩⟩
  · rw [lc_at (by omega)]; exact h8
  · rw [lc_at (by omega)]; exact h9
  · rw [lc_at (by omega)]
    refine (h10 j hj).trans ?_
    rcases (show j = 0 ∨ j = 1 ∨ j = 2 ∨ j = 3 ∨ j = 4 ∨ j = 5 by omega) with rfl | rfl | rfl | rfl | rfl | rfl <;> rfl
  · rw [lc_at (by omega)]; exact h7
  · rcases (show i = 0 ∨ i = 1 by omega) with rfl | rfl
    · exact h5
    · exact h6
  · rw [rw_at (by omega), Nat.zero_add, h14 0 (by omega)]; rfl
  · rw [rw_at (by omega), Nat.zero_add, h14 _ (by omega)]
    rcases (show j = 0 ∨ j = 1 ∨ j = 2 ∨ j = 3 ∨ j = 4 ∨ j = 5 by omega) with rfl | rfl | rfl | rfl | rfl | rfl <;> rfl
  · rw [rw_at (by omega), Nat.zero_add, h14 7 (by omega)]; rfl
  · rw [rw_at (by omega), Nat.zero_add, h14 8 (by omega)]; rfl
theorem pure_ok : ∀ (L : Nat) (xs : Nat → Int32), L ≤ 3072 → ∃ σ' : Sg, lawAll L xs = some (1, σ') := by
  intro L xs hL
  obtain ⟨E, σ, hi, hR, hM, hM2, hF⟩ := ini_ok
  rw [lawAll_eq hi]
  exact law_ok (J := JJ CG' CM' MG' MM') hR.1 hM.1 (fun p0 p1 p2 p3 p4 => ok_feed hR hM hM2 p0 p1 p2 p3 p4) (fun p0 => ok_end hR hM p0) (ok_tell hR hM hM2 cpy_ok) (fun p0 p1 => ok_drawn hR hM hM2 cpy_ok p0 p1) (fun p0 => ok_draws hR hM hM2 hmx' p0) (ok_clear hR hM hM2 cpy_ok) (fun p0 p1 => ok_settle hR hM hM2 cpy_ok p0 p1) (ok_grow hR hM hM2) (ok_spread hR hM hM2) (ok_step hR hM hM2) (ok_phase hR hM hM2) (ok_all hR hM hM2) (fun p0 p1 => ok_record hR hM hM2 p0 p1) (fun p0 p1 => ok_run hR hM hM2 p0 p1) (fun p0 p1 => ok_tape hR hM hM2 p0 p1) (fun p0 p1 p2 => ok_on hR hM hM2 p0 p1 p2) (fun p0 => ok_sorted hR hM hM2 p0) (fun p0 p1 => ok_perfect hR hM hM2 p0 p1) (fun p0 => ok_plan hR hM hM2 p0) (fun p0 p1 p2 => ok_planned hR hM hM2 p0 p1 p2) (fun p0 => ok_least hR hM hM2 p0) (fun p0 => ok_depth hR hM hM2 p0) (fun p0 => ok_units hR hM hM2 p0) (ok_stands hR hM hM2) (fun p0 p1 => ok_key hR hM hM2 p0 p1) (fun p0 => ok_keys hR hM hM2 p0) (fun p0 => ok_about hR hM hM2 p0) (fun p0 p1 => ok_forecast hR hM hM2 p0 p1) (fun p0 => ok_needs hR hM hM2 p0) (ok_undo hR hM hM2) (fun p0 => ok_keep hR hM hM2 p0) (fun p0 => ok_back hR hM hM2 p0) (fun p0 => ok_count hR hM hM2 p0) hL xs (jj00 hF)
