/-! what the constructors have made -/
def LArr (E : En) (a c n : Nat) : Prop := cd E a = c ∧ ln E a = n
def LTape (E : En) (a : Nat) : Prop := cd E a = 5 ∧ rf E a 0 = some (a + 1) ∧ LArr E (a + 1) 100 256
def LNum (E : En) (a : Nat) : Prop := cd E a = 2 ∧ rf E a 0 = some (a + 1) ∧ LArr E (a + 1) 100 5
def LRec (E : En) (a : Nat) : Prop := cd E a = 3 ∧ rf E a 0 = some (a + 1) ∧ rf E a 1 = some (a + 2) ∧ LArr E (a + 1) 100 300 ∧ LArr E (a + 2) 100 300
def LGro (E : En) (a : Nat) : Prop := cd E a = 0 ∧ rf E a 0 = some (a + 1) ∧ rf E a 1 = some (a + 2) ∧ rf E a 4 = some (a + 3) ∧ LArr E (a + 1) 100 300 ∧ LArr E (a + 2) 100 300 ∧ LArr E (a + 3) 100 16
def LMill (E : En) (a N : Nat) : Prop := cd E a = 1 ∧ rf E a 4 = some (a + 1) ∧ rf E a 10 = some (a + 2) ∧ rf E a 12 = some (a + 3) ∧ rf E a 13 = some (a + 4) ∧ rf E a 17 = some (a + 5) ∧ rf E a 18 = some (a + 7) ∧ rf E a 5 = some (a + 8) ∧ rf E a 6 = some (a + 9) ∧ LArr E (a + 1) 104 6 ∧ LArr E (a + 2) 101 6 ∧ LArr E (a + 3) 100 6 ∧ LArr E (a + 4) 100 6 ∧ LNum E (a + 5) ∧ LArr E (a + 7) 100 6 ∧ LArr E (a + 8) 100 N ∧ LArr E (a + 9) 101 N ∧ ∀ t, t < 6 → rf E (a + 1) t = some (a + 10 + 2 * t) ∧ LTape E (a + 10 + 2 * t)
def LSta (E : En) (b : Nat) : Prop := cd E b = 4 ∧ rf E b 0 = some (b + 1) ∧ rf E b 1 = some (b + 4) ∧ rf E b 3 = some (b + 5) ∧ rf E b 4 = some (b + 9) ∧ rf E b 5 = some (b + 31) ∧ rf E b 6 = some (b + 32) ∧ LRec E (b + 1) ∧ LArr E (b + 4) 100 6 ∧ LGro E (b + 5) ∧ LMill E (b + 9) 300 ∧ LArr E (b + 31) 100 300 ∧ LArr E (b + 32) 100 6
def LRun (E : En) : Prop := cd E 0 = 6 ∧ rf E 0 0 = some 1 ∧ rf E 0 3 = some 2 ∧ rf E 0 4 = some 35 ∧ rf E 0 5 = some 36 ∧ rf E 0 8 = some 37 ∧ rf E 0 9 = some 38 ∧ rf E 0 10 = some 39 ∧ rf E 0 11 = some 61 ∧ rf E 0 12 = some 63 ∧ rf E 0 13 = some 64 ∧ LArr E 1 100 200 ∧ LSta E 2 ∧ LArr E 35 105 8 ∧ LArr E 36 100 8 ∧ LArr E 37 105 2 ∧ LArr E 38 101 2 ∧ LMill E 39 700 ∧ LNum E 61 ∧ LArr E 63 100 300 ∧ LArr E 64 103 700 ∧ (∀ j, j < 8 → rf E 35 j = some (65 + 33 * j) ∧ LSta E (65 + 33 * j)) ∧ ∀ j, j < 2 → rf E 37 j = some (329 + 33 * j) ∧ LSta E (329 + 33 * j)
def LMod (E : En) : Prop := cd E 395 = 7 ∧ rf E 395 0 = some 396 ∧ rf E 395 1 = some 397 ∧ rf E 395 2 = some 398 ∧ rf E 395 3 = some 399 ∧ rf E 395 6 = some 400 ∧ rf E 395 8 = some 401 ∧ rf E 395 9 = some 402 ∧ rf E 395 11 = some 403 ∧ rf E 395 12 = some 404 ∧ rf E 395 13 = some 405 ∧ rf E 395 14 = some 406 ∧ rf E 395 16 = some 407 ∧ rf E 395 17 = some 408 ∧ rf E 395 18 = some 409 ∧ rf E 395 19 = some 410 ∧ rf E 395 21 = some 411 ∧ rf E 395 22 = some 412 ∧ rf E 395 26 = some 413 ∧ rf E 395 27 = some 414 ∧ rf E 395 28 = some 415 ∧ rf E 395 29 = some 416
def LMo2 (E : En) : Prop := LArr E 396 100 7827 ∧ LArr E 397 100 7827 ∧ LArr E 398 100 62616 ∧ LArr E 399 100 15654 ∧ LArr E 400 102 200 ∧ LArr E 401 100 16 ∧ LArr E 402 100 16 ∧ LArr E 403 100 6 ∧ LArr E 404 100 6 ∧ LArr E 405 100 6 ∧ LArr E 406 100 6 ∧ LArr E 407 100 6 ∧ LArr E 408 100 300 ∧ LArr E 409 100 700 ∧ LArr E 410 100 4800 ∧ LArr E 411 100 6 ∧ LArr E 412 100 6 ∧ LArr E 413 100 306 ∧ LArr E 414 100 300 ∧ LArr E 415 100 300 ∧ LArr E 416 100 6
/-- what the numbers are at first, where it matters -/
def SFirst (σ : Sg) : Prop := gi σ 0 1 = 0 ∧ gi σ 0 2 = 0 ∧ gi σ 0 6 = 0 ∧ gi σ 0 7 = 0 ∧ gi σ 38 0 = 0 ∧ gi σ 38 1 = 0 ∧ gi σ 2 2 = 0 ∧ gi σ 3 2 = 0 ∧ gi σ 3 3 = 0 ∧ (∀ j, j < 6 → gi σ 6 j = stv 0 j) ∧ gi σ 395 4 = 0 ∧ gi σ 395 5 = 0 ∧ gi σ 395 7 = 0 ∧ ∀ j, j < 20 → gi σ 396 j = if j = 1 ∨ j = 2 then 4 else 0
def ini : Option ((En × Sg) × Nat) := nwc E0 S0 6 14 (fun e1 s1 => bc (gX6_init e1 (E0.1) s1) (fun e2 s2 => nwc e2 s2 7 30 (fun e3 s3 => bc (gX7_init e3 (e2.1) s3) (fun e4 s4 => some ((e4, s4), e2.1)))))
theorem lawAll_eq {L : Nat} {xs : Nat → Int32} {r : (En × Sg) × Nat} (h : ini = some r) : lawAll L xs = fL_law L xs r.1.1 0 r.2 r.1.2 := by
  unfold ini nwc at h
  unfold lawAll nwc
  dsimp only at h ⊢
  cases h1 : gX6_init (nwE E0 6 14) E0.1 (zs S0 E0.1) with
  | none => rw [h1] at h; cases h
  | some r1 =>
    rw [h1] at h
    simp only [bc] at h ⊢
    cases h2 : gX7_init (nwE r1.1 7 30) r1.1.1 (zs r1.2 r1.1.1) with
    | none => rw [h2] at h; cases h
    | some r2 =>
      rw [h2] at h
      simp only [Option.some.injEq] at h
      subst h
      rfl
def dArr (E : En) (a c n : Nat) : Decidable (LArr E a c n) := by unfold LArr; infer_instance
def dTape (E : En) (a : Nat) : Decidable (LTape E a) := by
  unfold LTape
  have i1 : ∀ a c n, Decidable (LArr E a c n) := dArr E
  infer_instance
def dNum (E : En) (a : Nat) : Decidable (LNum E a) := by
  unfold LNum
  have i1 : ∀ a c n, Decidable (LArr E a c n) := dArr E
  infer_instance
def dRec (E : En) (a : Nat) : Decidable (LRec E a) := by
  unfold LRec
  have i1 : ∀ a c n, Decidable (LArr E a c n) := dArr E
  infer_instance
def dGro (E : En) (a : Nat) : Decidable (LGro E a) := by
  unfold LGro
  have i1 : ∀ a c n, Decidable (LArr E a c n) := dArr E
  infer_instance
def dMill (E : En) (a N : Nat) : Decidable (LMill E a N) := by
  unfold LMill
  have i1 : ∀ a c n, Decidable (LArr E a c n) := dArr E
  have i2 : ∀ a, Decidable (LNum E a) := dNum E
  have i3 : ∀ a, Decidable (LTape E a) := dTape E
  have i4 : Decidable (∀ t, t < 6 → rf E (a + 1) t = some (a + 10 + 2 * t) ∧ LTape E (a + 10 + 2 * t)) := Nat.decidableBallLT 6 _
  infer_instance
def dSta (E : En) (a : Nat) : Decidable (LSta E a) := by
  unfold LSta
  have i1 : ∀ a c n, Decidable (LArr E a c n) := dArr E
  have i2 : ∀ a, Decidable (LRec E a) := dRec E
  have i3 : ∀ a, Decidable (LGro E a) := dGro E
  have i4 : ∀ a n, Decidable (LMill E a n) := dMill E
  infer_instance
def dRun (E : En) : Decidable (LRun E) := by
  unfold LRun
  have i1 : ∀ a c n, Decidable (LArr E a c n) := dArr E
  have i2 : ∀ a, Decidable (LSta E a) := dSta E
  have i3 : ∀ a, Decidable (LNum E a) := dNum E
  have i4 : ∀ a n, Decidable (LMill E a n) := dMill E
  have i5 : Decidable (∀ j, j < 8 → rf E 35 j = some (65 + 33 * j) ∧ LSta E (65 + 33 * j)) := Nat.decidableBallLT 8 _
  have i6 : Decidable (∀ j, j < 2 → rf E 37 j = some (329 + 33 * j) ∧ LSta E (329 + 33 * j)) := Nat.decidableBallLT 2 _
  infer_instance
def dMod (E : En) : Decidable (LMod E) := by unfold LMod; infer_instance
def dMo2 (E : En) : Decidable (LMo2 E) := by
  unfold LMo2
  have i1 : ∀ a c n, Decidable (LArr E a c n) := dArr E
  infer_instance
def dFst (σ : Sg) : Decidable (SFirst σ) := by
  unfold SFirst
  have i1 : Decidable (∀ j, j < 6 → gi σ 6 j = stv 0 j) := Nat.decidableBallLT 6 _
  have i2 : Decidable (∀ j, j < 20 → gi σ 396 j = if j = 1 ∨ j = 2 then 4 else 0) := Nat.decidableBallLT 20 _
  infer_instance
def iniOk : Bool := match ini with
  | some r => decide (r.2 = 395) && (@decide _ (dRun r.1.1) && (@decide _ (dMod r.1.1) && (@decide _ (dMo2 r.1.1) && @decide _ (dFst r.1.2))))
  | none => false
set_option maxRecDepth 100000 in
theorem iniOk_t : iniOk = true := by decide +kernel
theorem ini_ok : ∃ E σ, ini = some ((E, σ), 395) ∧ LRun E ∧ LMod E ∧ LMo2 E ∧ SFirst σ := by
  have h := iniOk_t
  unfold iniOk at h
  cases hi : ini with
  | none => rw [hi] at h; cases h
  | some r =>
    rw [hi] at h
    simp only [Bool.and_eq_true, decide_eq_true_eq] at h
    obtain ⟨h1, h2, h3, h4, h5⟩ := h
    obtain ⟨⟨E, σ⟩, n⟩ := r
    cases h1
    exact ⟨E, σ, rfl, h2, h3, h4, h5⟩
