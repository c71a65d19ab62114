/-! a whole step of the class's mill -/
theorem sumF_step {f f' : Nat → Nat} {g : Nat → Bool} {to : Nat} (hg : g to = false) (h1 : f' to = f to + 1) (h2 : ∀ t, g t = true → f' t + 1 = f t) (h3 : ∀ t, t ≠ to → g t = false → f' t = f t) : ∀ n, sumF f' n + cntF g n = sumF f n + (if to < n then 1 else 0)
  | 0 => by simp [sumF, cntF]
  | n + 1 => by
    have ih := sumF_step hg h1 h2 h3 n
    unfold sumF cntF
    by_cases hn : n = to
    · subst hn; rw [hg, h1, if_pos (by omega)]; rw [if_neg (by omega)] at ih; simp; omega
    · by_cases hgn : g n = true
      · have := h2 n hgn
        rw [hgn, if_pos rfl]
        by_cases hlt : to < n
        · rw [if_pos hlt] at ih; rw [if_pos (by omega)]; omega
        · rw [if_neg hlt] at ih; rw [if_neg (by omega)]; omega
      · have hgf : g n = false := by simpa using hgn
        have := h3 n hn hgf
        rw [hgf, if_neg (by simp)]
        by_cases hlt : to < n
        · rw [if_pos hlt] at ih; rw [if_pos (by omega)]; omega
        · rw [if_neg hlt] at ih; rw [if_neg (by omega)]; omega
theorem gv_fl {w h t : Nat} {s : Sk} (hg : gvf w h s t = true) : flg w h s t = true ∧ 0 < kc s t := by
  unfold gvf at hg
  simp only [Bool.and_eq_true, Bool.not_eq_true', beq_eq_false_iff_ne] at hg
  exact ⟨hg.2, by omega⟩
theorem gv_of {w h t : Nat} {s : Sk} (h1 : flg w h s t = true) (h2 : 0 < kc s t) : gvf w h s t = true := by
  unfold gvf
  simp only [Bool.and_eq_true, Bool.not_eq_true', beq_eq_false_iff_ne]
  exact ⟨by omega, h1⟩
theorem gv_no {w h t : Nat} {s : Sk} (h1 : flg w h s t = false) : gvf w h s t = false := by
  unfold gvf; rw [h1]; simp
theorem skc_at {w T h t : Nat} {s : Sk} (ht : t < T) : (skc w T h s).getD t 0 = if t = kto s then kc s t + 1 else if gvf w h s t then kc s t - 1 else kc s t := by
  unfold skc; rw [tab_at ht]
theorem skn_1 {w T h : Nat} {s : Sk} : (skn w T h s).1.1 = skc w T h s := by
  unfold skn
  dsimp only
  split
  · split <;> rfl
  · split
    · rfl
    · split
      · rfl
      · split <;> rfl
theorem lef_skn {w T h : Nat} {s : Sk} (hto : kto s < T) (hf : flg w h s (kto s) = false) : lef T (skn w T h s).1 + cntF (gvf w h s) T = lef T s + 1 := by
  have e : lef T (skn w T h s).1 = sumF (fun t => if t = kto s then kc s t + 1 else if gvf w h s t then kc s t - 1 else kc s t) T := by
    unfold lef
    refine sumF_congr (fun t ht => ?_)
    show (skn w T h s).1.1.getD t 0 = _
    rw [skn_1, skc_at ht]
  have := sumF_step (f := kc s) (f' := fun t => if t = kto s then kc s t + 1 else if gvf w h s t then kc s t - 1 else kc s t) (g := gvf w h s) (to := kto s) (gv_no hf) (by simp) (fun t hg => by
    have h1 := (gv_fl hg).2
    have hne : t ≠ kto s := fun q => by rw [q, gv_no hf] at hg; cases hg
    simp only [hne, if_false, hg, if_true]; omega) (fun t h1 h2 => by simp [h1, h2]) T
  rw [if_pos hto] at this
  rw [e]; exact this
theorem oks_un {w T h : Nat} {s : Sk} (hok : oks w T h s = true) : 0 < cntF (gvf w h s) T ∧ kto s < T ∧ flg w h s (kto s) = false ∧ kc s (kto s) < 256 ∧ (w = 0 → ∀ t, t < T → t ≠ kto s → 0 < kc s t) := by
  unfold oks at hok
  simp only [Bool.and_eq_true, decide_eq_true_eq, Bool.not_eq_true', Bool.or_eq_true] at hok
  obtain ⟨⟨⟨⟨h1, h2⟩, h3⟩, h4⟩, h5⟩ := hok
  refine ⟨h1, h2, h3, h4, fun hw t ht hne => ?_⟩
  rcases h5 with h5 | h5
  · exact absurd hw h5
  · have := cntF_all h5 t ht
    simp only [Bool.or_eq_true, beq_iff_eq, Bool.not_eq_true', beq_eq_false_iff_ne] at this
    omega
/-- cells that a step leaves alone -/
def esA (m x k : Nat) : Prop := (x < m ∨ m + 22 ≤ x) ∨ (x = m + 3 ∧ (k = 4 ∨ k = 5))
section AV
variable {E : En} {m N w T nr : Nat} {σ : Sg} {bk : Bool} {gl : Nat → Nat} {A : Mi}
theorem c_leadD (hL : LMill E m N) {s : Sk} {tp : Nat → List Rn} {L H : Nat → Nat} (hms : MS σ m w T bk nr s tp L H) (hT : T ≤ 6) (hn : nr ≤ N) (hN : N ≤ 700) (hD : ∀ t, t < T → ∀ r ∈ tp t, RD σ m gl nr r) (h14 : gi σ m 14 = ldI (gvf w (T / 2) s) tp T) : (if (gi σ m 3) = 0 then (some ((0 : Int32), σ)) else (bd (fX1_isDown E m (gi σ m 14) σ) (fun r7 s5 => if r7 = 0 then (some ((0 : Int32), s5)) else (some ((1 : Int32), s5))))) = some (bI (bk && (ldD (gvf w (T / 2) s) tp T == some true)), σ) := by
  rw [hms.1.2.2.2.1, h14]
  have h7 := hms.1.2.2.2.2
  cases bk with
  | false => rfl
  | true =>
    rw [if_neg (show ¬ bI true = 0 by decide)]
    unfold ldI ldD
    cases hl : ldF (gvf w (T / 2) s) tp T with
    | none =>
      dsimp only
      rw [c_isDownD hL]; rfl
    | some t =>
      obtain ⟨q1, q2, q3⟩ := fstF_some hl
      have hge : gvf w (T / 2) s t = true := by revert q2; cases gvf w (T / 2) s t <;> simp
      have hr := hD t (by omega) _ (hdr_mem (gv_ne hge (hms.2.2.2 t (by omega))))
      dsimp only
      rw [c_isDown hL h7 hn hN hr, bd_ok]
      cases hd : (hdr (tp t)).2
      · simp [hd]; rfl
      · simp [hd, bI]; decide
end AV
