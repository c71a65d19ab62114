/-! the class's mill: what a step takes -/
theorem bI_z {b : Bool} : (bI b = nI 0) = (b = false) := by cases b <;> simp [bI] <;> decide
theorem bI_1 {b : Bool} : (bI b = nI 1) = (b = true) := by cases b <;> simp [bI] <;> decide
theorem bI_e {a b : Bool} : (bI a = bI b) = (a = b) := by cases a <;> cases b <;> simp [bI]
theorem kb_b {β : Type} {b : Bool} {k : Option β} : kb (bI b) k = k := by cases b <;> simp [kb, bI]
theorem nar_b {b : Bool} : vp_nar .boolean (bI b) = bI b := by cases b <;> decide
theorem kb_n0 {β : Type} {k : Option β} : kb (nI 0) k = k := kb_0
theorem kb_n1 {β : Type} {k : Option β} : kb (nI 1) k = k := kb_1
theorem bI_t : nI 1 = bI true := rfl
theorem bI_f : nI 0 = bI false := rfl
theorem bI_n (b : Bool) : bI b = nI (if b then 1 else 0) := by cases b <;> rfl
def idI : List Nat → Int32
  | [] => -1
  | i :: _ => nI i
/-- one tape: its runs, the first that is taken ahead -/
def TP (σ : Sg) (a : Nat) (bk : Bool) (l : List Rn) (L H : Nat) : Prop := gi σ a 1 = nI L ∧ gi σ a 2 = nI H ∧ L ≤ H ∧ H ≤ 256 ∧ H - L = l.length ∧ ∀ k, k < l.length → gi σ (a + 1) (if bk then H - 1 - k else L + k) = idI (l.getD k ([], false)).1
def MB (σ : Sg) (m w T : Nat) (bk : Bool) (nr : Nat) : Prop := gi σ m 0 = nI w ∧ gi σ m 1 = nI T ∧ gi σ m 2 = nI (T / 2) ∧ gi σ m 3 = bI bk ∧ gi σ m 7 = nI nr
def MK (σ : Sg) (m T : Nat) (s : Sk) : Prop := gi σ m 9 = nI (kto s) ∧ gi σ m 11 = bI (klo s) ∧ ∀ t, t < T → gi σ (m + 2) t = bI (ko s t)
theorem c_gives {E : En} {m N w T nr t L H : Nat} {σ : Sg} {bk : Bool} {s : Sk} {l : List Rn} (hL : LMill E m N) (hb : MB σ m w T bk nr) (hk : MK σ m T s) (hT : T ≤ 6) (hw : w ≤ 2) (ht : t < T) (hto : kto s < 6) (htp : TP σ (m + 10 + 2 * t) bk l L H) (hc : kc s t = l.length) : fX1_gives E m (nI t) σ = some (bI (gvf w (T / 2) s t), σ) := by
  obtain ⟨l0, l4, l10, l12, l13, l17, l18, l5, l6, a1, a2, a3, a4, a5, a7, a8, a9, lt⟩ := hL
  obtain ⟨lt1, lt2⟩ := lt t (by omega)
  obtain ⟨b0, b1, b2, b3, b7⟩ := hb
  obtain ⟨k9, k11, ko'⟩ := hk
  have kot := ko' t ht
  have hsz := tape_size lt2 htp.1 htp.2.1 htp.2.2.1
  have t1 := htp.2.2.1
  have t2 := htp.2.2.2.1
  have t3 := htp.2.2.2.2.1
  unfold fX1_gives gvf flg
  rw [hc, ← t3]
  by_cases hz : H - L = 0
  · simp (disch := omega) only [i0, i1, i2, i3, i4, i5, i6, i7, i8, mle, mlt, meq, if_pos, if_neg, dr_s, tk_s, ck_m, nI_clamp, lt_ok, ss_ok, nI_add, pk_mul, sub_n, bd_ok, bv_ok, gs_ne, gs_eq, l0, l4, a1.1, a1.2, lt1, lt2.1, hsz]
    simp only [hz, not_true, if_false]
    rfl
  · simp (disch := omega) only [i0, i1, i2, i3, i4, i5, i6, i7, i8, mle, mlt, meq, if_pos, if_neg, dr_s, tk_s, ck_m, nI_clamp, lt_ok, ss_ok, nI_add, pk_mul, sub_n, bd_ok, bv_ok, gs_ne, gs_eq, l0, l4, a1.1, a1.2, lt1, lt2.1, hsz, hz]
    have hz' : (H - L == 0) = false := by simpa using hz
    rw [hz', if_pos (by simp)]
    match w, hw with
    | 0, _ =>
      simp (disch := omega) only [i0, i1, i2, i3, i4, i5, i6, i7, i8, mle, mlt, meq, if_pos, if_neg, dr_s, tk_s, ck_m, nI_clamp, lt_ok, ss_ok, nI_add, pk_mul, sub_n, bd_ok, bv_ok, gs_ne, gs_eq, b0, k9]
      by_cases hq : t = kto s
      · rw [if_pos hq, bd_ok, kb_n0]; simp [hq]; rfl
      · have hq' : (t == kto s) = false := by simpa using hq
        rw [if_neg hq, bd_ok, kb_n1, hq']; rfl
    | 1, _ =>
      simp (disch := omega) only [i0, i1, i2, i3, i4, i5, i6, i7, i8, mle, mlt, meq, if_pos, if_neg, dr_s, tk_s, ck_m, nI_clamp, lt_ok, ss_ok, nI_add, pk_mul, sub_n, bd_ok, bv_ok, gs_ne, gs_eq, b0, b2]
      by_cases hq : T / 2 ≤ t
      · rw [if_pos hq, bd_ok, k11]
        have : decide (t < T / 2) = false := by simp; omega
        rw [this]
        cases klo s <;> rfl
      · rw [if_neg hq, bd_ok, k11]
        have : decide (t < T / 2) = true := by simp; omega
        rw [this]
        cases klo s <;> rfl
    | 2, _ =>
      simp (disch := omega) only [i0, i1, i2, i3, i4, i5, i6, i7, i8, mle, mlt, meq, if_pos, if_neg, dr_s, tk_s, ck_m, nI_clamp, lt_ok, ss_ok, nI_add, pk_mul, sub_n, bd_ok, bv_ok, gs_ne, gs_eq, b0, l10, a2.1, a2.2, kot, kb_b]
      simp
