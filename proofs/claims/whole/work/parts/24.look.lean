/-! what a step takes, in the class -/
def MS (σ : Sg) (m w T : Nat) (bk : Bool) (nr : Nat) (s : Sk) (tp : Nat → List Rn) (L H : Nat → Nat) : Prop := MB σ m w T bk nr ∧ MK σ m T s ∧ (∀ t, t < 6 → TP σ (m + 10 + 2 * t) bk (tp t) (L t) (H t)) ∧ ∀ t, t < T → kc s t = (tp t).length
def esS (m x k : Nat) : Prop := (x = m ∧ (k = 0 ∨ k = 1 ∨ k = 2 ∨ k = 3 ∨ k = 7 ∨ k = 9 ∨ k = 11)) ∨ x = m + 2 ∨ (m + 10 ≤ x ∧ x < m + 22)
theorem tp_fr {σ σ' : Sg} {a L H : Nat} {bk : Bool} {l : List Rn} (h : TP σ a bk l L H) (h1 : ∀ k, gi σ' a k = gi σ a k) (h2 : ∀ k, gi σ' (a + 1) k = gi σ (a + 1) k) : TP σ' a bk l L H :=
  ⟨(h1 1).trans h.1, (h1 2).trans h.2.1, h.2.2.1, h.2.2.2.1, h.2.2.2.2.1, fun k hk => (h2 _).trans (h.2.2.2.2.2 k hk)⟩
theorem ms_fr {σ σ' : Sg} {m w T nr : Nat} {bk : Bool} {s : Sk} {tp : Nat → List Rn} {L H : Nat → Nat} (h : MS σ m w T bk nr s tp L H) (hf : ∀ x k, esS m x k → gi σ' x k = gi σ x k) : MS σ' m w T bk nr s tp L H := by
  obtain ⟨⟨b0, b1, b2, b3, b7⟩, ⟨k9, k11, ko'⟩, ht, hc⟩ := h
  refine ⟨⟨?_, ?_, ?_, ?_, ?_⟩, ⟨?_, ?_, fun t h => ?_⟩, fun t h => ?_, hc⟩
  · rw [hf _ _ (by unfold esS; omega)]; exact b0
  · rw [hf _ _ (by unfold esS; omega)]; exact b1
  · rw [hf _ _ (by unfold esS; omega)]; exact b2
  · rw [hf _ _ (by unfold esS; omega)]; exact b3
  · rw [hf _ _ (by unfold esS; omega)]; exact b7
  · rw [hf _ _ (by unfold esS; omega)]; exact k9
  · rw [hf _ _ (by unfold esS; omega)]; exact k11
  · rw [hf _ _ (by unfold esS; omega)]; exact ko' t h
  · exact tp_fr (ht t h) (fun k => hf _ _ (by unfold esS; omega)) (fun k => hf _ _ (by unfold esS; omega))
theorem ms_gives {E : En} {m N w T nr t : Nat} {σ : Sg} {bk : Bool} {s : Sk} {tp : Nat → List Rn} {L H : Nat → Nat} (hL : LMill E m N) (hms : MS σ m w T bk nr s tp L H) (hT : T ≤ 6) (hw : w ≤ 2) (ht : t < T) (hto : kto s < 6) : fX1_gives E m (nI t) σ = some (bI (gvf w (T / 2) s t), σ) :=
  c_gives hL hms.1 hms.2.1 hT hw ht hto (hms.2.2.1 t (by omega)) (hms.2.2.2 t ht)
/-- of a run: how long, whether down -/
def RD (σ : Sg) (m : Nat) (gl : Nat → Nat) (nr : Nat) (r : Rn) : Prop := (r.1 = [] → r.2 = false) ∧ ∀ i l, r.1 = i :: l → i < nr ∧ gi σ (m + 8) i = nI (szl gl r.1) ∧ gi σ (m + 9) i = bI r.2
theorem c_sizeOf {E : En} {m N nr : Nat} {σ : Sg} {gl : Nat → Nat} {r : Rn} (hL : LMill E m N) (h7 : gi σ m 7 = nI nr) (hn : nr ≤ N) (hN : N ≤ 700) (h : RD σ m gl nr r) : fX1_sizeOf E m (idI r.1) σ = some (nI (szl gl r.1), σ) := by
  obtain ⟨l0, l4, l10, l12, l13, l17, l18, l5, l6, a1, a2, a3, a4, a5, a7, a8, a9, lt⟩ := hL
  unfold fX1_sizeOf
  rw [tk_ok l0]
  cases hr : r.1 with
  | nil => rfl
  | cons i l =>
    obtain ⟨h1, h2, h3⟩ := h.2 i l hr
    rw [hr] at h2
    unfold idI
    simp (disch := omega) only [i0, i1, i2, i3, i4, i5, i6, i7, i8, mle, mlt, meq, if_pos, if_neg, dr_s, tk_s, ck_m, nI_clamp, lt_ok, ss_ok, nI_add, pk_mul, sub_n, bd_ok, bv_ok, gs_ne, gs_eq, h7, l5, a8.1, a8.2, h2]
theorem c_isDown {E : En} {m N nr : Nat} {σ : Sg} {gl : Nat → Nat} {r : Rn} (hL : LMill E m N) (h7 : gi σ m 7 = nI nr) (hn : nr ≤ N) (hN : N ≤ 700) (h : RD σ m gl nr r) : fX1_isDown E m (idI r.1) σ = some (bI r.2, σ) := by
  obtain ⟨l0, l4, l10, l12, l13, l17, l18, l5, l6, a1, a2, a3, a4, a5, a7, a8, a9, lt⟩ := hL
  unfold fX1_isDown
  rw [tk_ok l0]
  cases hr : r.1 with
  | nil => rw [h.1 hr]; rfl
  | cons i l =>
    obtain ⟨h1, h2, h3⟩ := h.2 i l hr
    unfold idI
    simp (disch := omega) only [i0, i1, i2, i3, i4, i5, i6, i7, i8, mle, mlt, meq, if_pos, if_neg, dr_s, tk_s, ck_m, nI_clamp, lt_ok, ss_ok, nI_add, pk_mul, sub_n, bd_ok, bv_ok, gs_ne, gs_eq, h7, l6, a9.1, a9.2, h3]
    cases r.2 <;> rfl
theorem c_isDownA {E : En} {m N : Nat} {σ : Sg} (hL : LMill E m N) : fX1_isDown E m (-2) σ = some (bI false, σ) := by
  unfold fX1_isDown
  rw [tk_ok hL.1]; rfl
theorem c_isDownD {E : En} {m N : Nat} {σ : Sg} (hL : LMill E m N) : fX1_isDown E m (-1) σ = some (bI false, σ) := by
  unfold fX1_isDown
  rw [tk_ok hL.1]; rfl
def tkI (g : Nat → Bool) (tp : Nat → List Rn) (t : Nat) : Int32 := if g t then idI (hdr (tp t)).1 else -2
def ldI (g : Nat → Bool) (tp : Nat → List Rn) (n : Nat) : Int32 := match ldF g tp n with
  | none => -1
  | some t => idI (hdr (tp t)).1
theorem idI_neg {l : List Nat} : idI l < 0 ↔ l = [] ∨ ∃ i r, l = i :: r ∧ nI i < 0 := by
  cases l with
  | nil => simp [idI]
  | cons i r => simp [idI]
theorem nI_nm1 {n : Nat} (h : n < 2 ^ 31) : ¬ nI n = -1 := by
  intro q
  have := nI_pos (n := n) h
  rw [q] at this
  exact this (by decide)
theorem nI_nm2 {n : Nat} (h : n < 2 ^ 31) : ¬ nI n = -2 := by
  intro q
  have := nI_pos (n := n) h
  rw [q] at this
  exact this (by decide)
theorem gv_ne {w h t : Nat} {s : Sk} {n : Nat} (hg : gvf w h s t = true) (hc : kc s t = n) : 0 < n := by
  unfold gvf at hg
  rw [hc] at hg
  cases n with
  | zero => simp at hg
  | succ n => omega
section LK
variable {E : En} {m N w T nr : Nat} {σ : Sg} {bk : Bool} {s : Sk} {tp : Nat → List Rn} {L H : Nat → Nat} {gl : Nat → Nat}
theorem hdr_mem {l : List Rn} (h : 0 < l.length) : hdr l ∈ l := by
  cases l with
  | nil => simp at h
  | cons a l => simp
theorem ms_at0 (hL : LMill E m N) (hms : MS σ m w T bk nr s tp L H) {t : Nat} (ht : t < 6) : fX5_at E (m + 10 + 2 * t) 0 (bI bk) σ = some (if 0 < (tp t).length then idI (hdr (tp t)).1 else -2, σ) := by
  obtain ⟨p1, p2, p3, p4, p5, p6⟩ := hms.2.2.1 t ht
  have hlt := (hL.2.2.2.2.2.2.2.2.2.2.2.2.2.2.2.2.2 t ht).2
  rw [show (0 : Int32) = nI 0 from rfl, tape_at hlt bk p1 p2 p3 p4 (by omega), p5]
  by_cases h : 0 < (tp t).length
  · rw [if_pos h, if_pos h, p6 0 h]
  · rw [if_neg h, if_neg h]
theorem c_look (hL : LMill E m N) (hms : MS σ m w T bk nr s tp L H) (hT : T ≤ 6) (hw : w ≤ 2) (hto : kto s < 6) (hn : nr ≤ N) (hN : N ≤ 700) (hD : ∀ t, t < T → ∀ r ∈ tp t, RD σ m gl nr r) :
    ∃ s', fX1_look E m σ = some s' ∧ (∀ t, t < T → gi s' (m + 4) t = tkI (gvf w (T / 2) s) tp t) ∧ gi s' m 14 = ldI (gvf w (T / 2) s) tp T ∧ gi s' m 15 = bI (bk && (ldD (gvf w (T / 2) s) tp T == some false)) ∧ ∀ x k, x ≠ m + 4 → ¬ (x = m ∧ (k = 14 ∨ k = 15)) → gi s' x k = gi σ x k := by
  obtain ⟨l0, l4, l10, l12, l13, l17, l18, l5, l6, a1, a2, a3, a4, a5, a7, a8, a9, ltp⟩ := id hL
  unfold fX1_look
  rw [tk_ok l0, ss_ok]
  refine bd_in T (fun i a => a.1 = nI i ∧ (∀ t, t < i → gi a.2 (m + 4) t = tkI (gvf w (T / 2) s) tp t) ∧ gi a.2 m 14 = ldI (gvf w (T / 2) s) tp i ∧ ∀ x k, x ≠ m + 4 → ¬ (x = m ∧ k = 14) → gi a.2 x k = gi σ x k)
    (fun a => (∀ t, t < T → gi a.2 (m + 4) t = tkI (gvf w (T / 2) s) tp t) ∧ gi a.2 m 14 = ldI (gvf w (T / 2) s) tp T ∧ ∀ x k, x ≠ m + 4 → ¬ (x = m ∧ k = 14) → gi a.2 x k = gi σ x k) (by show T < 1000000; omega) ⟨rfl, fun t ht => absurd ht (Nat.not_lt_zero t), gs_eq, fun x k h1 h2 => gs_ne (by omega)⟩ ?_ ?_ ?_
  · rintro i ⟨v, s2⟩ rec hi ⟨rfl, f1, f2, f3⟩
    dsimp only at f1 f2 f3 ⊢
    have hms2 : MS s2 m w T bk nr s tp L H := ms_fr hms (fun x k he => f3 x k (by unfold esS at he; omega) (by unfold esS at he; omega))
    obtain ⟨lt1, lt2⟩ := ltp i (by omega)
    have hb1 := hms2.1.2.1
    have hb3 := hms2.1.2.2.2.1
    unfold bX1_look_7
    rw [hb1, if_neg (nI_ge hi (by omega)), dr_ok l13 a4.1, ms_gives hL hms2 hT hw hi hto, bd_ok, a4.2]
    have key : ∀ (v : Int32), v = tkI (gvf w (T / 2) s) tp i → ∃ a', ck (nI i) 6 (ss (si s2 (m + 4) (nI i).toNatClampNeg v) (fun s21 => bd (if ¬ (gi s21 m 14) = (-1 : Int32) then (some ((), s21)) else (ck (nI i) 6 (if (gi s21 (m + 4) (nI i).toNatClampNeg) < 0 then (some ((), s21)) else (ck (nI i) 6 (ss (si s21 m 14 (gi s21 (m + 4) (nI i).toNatClampNeg)) (fun s26 => some ((), s26))))))) (fun w22 s23 => lt (nI i + (1 : Int32)) (fun v27 => rec (v27, s23))))) = rec a' ∧ (a'.1 = nI (i + 1) ∧ (∀ t, t < i + 1 → gi a'.2 (m + 4) t = tkI (gvf w (T / 2) s) tp t) ∧ gi a'.2 m 14 = ldI (gvf w (T / 2) s) tp (i + 1) ∧ ∀ x k, x ≠ m + 4 → ¬ (x = m ∧ k = 14) → gi a'.2 x k = gi σ x k) := by
      intro v hv
      have hnew : ∀ t, t < i + 1 → gi (si s2 (m + 4) i v) (m + 4) t = tkI (gvf w (T / 2) s) tp t := by
        intro t ht
        by_cases hti : t = i
        · subst hti; rw [gs_eq, hv]
        · rw [gs_ne (by omega)]; exact f1 t (by omega)
      have hfr : ∀ x k, x ≠ m + 4 → ¬ (x = m ∧ k = 14) → gi (si s2 (m + 4) i v) x k = gi σ x k := fun x k h1 h2 => by rw [gs_ne (by omega)]; exact f3 x k h1 h2
      rw [ck_n (by omega) (by omega), nI_clamp (by omega), ss_ok, gs_ne (by omega), f2]
      have hl1 : ldF (gvf w (T / 2) s) tp (i + 1) = match ldF (gvf w (T / 2) s) tp i with | some x => some x | none => if (gvf w (T / 2) s i && !(hdr (tp i)).1.isEmpty) = true then some i else none := rfl
      cases hl : ldF (gvf w (T / 2) s) tp i with
      | some t =>
        obtain ⟨q1, q2, q3⟩ := fstF_some hl
        have hid : ldI (gvf w (T / 2) s) tp i = idI (hdr (tp t)).1 := by unfold ldI; rw [hl]
        rw [hl] at hl1
        have hid1 : ldI (gvf w (T / 2) s) tp (i + 1) = idI (hdr (tp t)).1 := by unfold ldI; rw [hl1]
        have hge : gvf w (T / 2) s t = true := by revert q2; cases gvf w (T / 2) s t <;> simp
        have hne : ¬ idI (hdr (tp t)).1 = -1 := by
          have hr := hD t (by omega) _ (hdr_mem (gv_ne hge (hms.2.2.2 t (by omega))))
          cases hz : (hdr (tp t)).1 with
          | nil => rw [hz] at q2; simp at q2
          | cons j l =>
            have := (hr.2 j l hz).1
            exact nI_nm1 (by omega)
        rw [hid, if_pos hne, bd_ok, lt_ok, ad1]
        exact ⟨_, rfl, rfl, hnew, by dsimp only; rw [gs_ne (by omega), f2, hid, hid1], hfr⟩
      | none =>
        have hid : ldI (gvf w (T / 2) s) tp i = -1 := by unfold ldI; rw [hl]
        rw [hl] at hl1
        dsimp only at hl1
        rw [hid, if_neg (by simp), ck_n (by omega) (by omega), gs_eq, hv]
        by_cases hg : gvf w (T / 2) s i = true
        · have hr := hD i (by omega) _ (hdr_mem (gv_ne hg (hms.2.2.2 i (by omega))))
          have hti : tkI (gvf w (T / 2) s) tp i = idI (hdr (tp i)).1 := by unfold tkI; rw [if_pos hg]
          rw [hti]
          cases hz : (hdr (tp i)).1 with
          | nil =>
            have hid1 : ldI (gvf w (T / 2) s) tp (i + 1) = -1 := by unfold ldI; rw [hl1, hz]; simp
            rw [if_pos (show idI [] < 0 by decide), bd_ok, lt_ok, ad1]
            rw [hti, hz] at hv
            exact ⟨_, rfl, rfl, by rw [← hv]; exact hnew, by dsimp only; rw [gs_ne (by omega), f2, hid, hid1], by rw [← hv]; exact hfr⟩
          | cons j l =>
            have hj := (hr.2 j l hz).1
            have hid1 : ldI (gvf w (T / 2) s) tp (i + 1) = nI j := by unfold ldI; rw [hl1, hz, hg, if_pos (by simp)]; show idI (hdr (tp i)).1 = _; rw [hz]; rfl
            rw [show idI (j :: l) = nI j from rfl, if_neg (nI_pos (by omega)), ck_n (by omega) (by omega), ss_ok, bd_ok, lt_ok, ad1]
            rw [hti, hz] at hv
            refine ⟨_, rfl, rfl, fun t ht => ?_, ?_, fun x k h1 h2 => ?_⟩
            · dsimp only; rw [gs_ne (by omega), show nI j = v from hv.symm]; exact hnew t ht
            · dsimp only; rw [gs_eq, hid1]
            · dsimp only; rw [gs_ne (by omega), show nI j = v from hv.symm]; exact hfr x k h1 h2
        · have hg' : gvf w (T / 2) s i = false := by simpa using hg
          have hti : tkI (gvf w (T / 2) s) tp i = -2 := by unfold tkI; rw [if_neg hg]
          have hid1 : ldI (gvf w (T / 2) s) tp (i + 1) = -1 := by unfold ldI; rw [hl1, hg']; simp
          rw [hti] at hv ⊢
          rw [if_pos (by decide), bd_ok, lt_ok, ad1]
          exact ⟨_, rfl, rfl, by rw [← hv]; exact hnew, by dsimp only; rw [gs_ne (by omega), f2, hid, hid1], by rw [← hv]; exact hfr⟩
    by_cases hg : gvf w (T / 2) s i = true
    · rw [hg, if_neg (show ¬ bI true = 0 by decide), dr_ok l4 a1.1, a1.2, ck_n (by omega) (by omega), nI_clamp (by omega), dr_ok lt1 lt2.1, hb3, ms_at0 hL hms2 (by omega), bd_ok, bd_ok, if_pos (gv_ne hg (hms.2.2.2 i hi))]
      have := key (idI (hdr (tp i)).1) (by unfold tkI; rw [if_pos hg])
      rw [nI_clamp (by omega)] at this
      exact this
    · have hg' : gvf w (T / 2) s i = false := by simpa using hg
      rw [hg', if_pos (show bI false = 0 by decide), bd_ok]
      exact key (-2) (by unfold tkI; rw [if_neg hg])
  · rintro ⟨v, s2⟩ rec ⟨rfl, f1, f2, f3⟩
    dsimp only at f1 f2 f3 ⊢
    unfold bX1_look_7
    rw [f3 m 1 (by omega) (by omega), hms.1.2.1, if_pos (nI_le (Nat.le_refl _) (by omega))]
    exact ⟨_, rfl, f1, f2, f3⟩
  · rintro v s2 ⟨f1, f2, f3⟩
    dsimp only at f1 f2 f3 ⊢
    have h3 : gi s2 m 3 = bI bk := by rw [f3 m 3 (by omega) (by omega)]; exact hms.1.2.2.2.1
    have h7 : gi s2 m 7 = nI nr := by rw [f3 m 7 (by omega) (by omega)]; exact hms.1.2.2.2.2
    rw [h3, f2]
    have fin : ∀ b, b = (bk && (ldD (gvf w (T / 2) s) tp T == some false)) → ∃ r, kb (bI b) (ss (si s2 m 15 (bI b)) (fun s36 => some s36)) = some r ∧ ((∀ t, t < T → gi r (m + 4) t = tkI (gvf w (T / 2) s) tp t) ∧ gi r m 14 = ldI (gvf w (T / 2) s) tp T ∧ gi r m 15 = bI (bk && (ldD (gvf w (T / 2) s) tp T == some false)) ∧ ∀ x k, x ≠ m + 4 → ¬ (x = m ∧ (k = 14 ∨ k = 15)) → gi r x k = gi σ x k) := by
      intro b hb
      rw [kb_b, ss_ok]
      exact ⟨_, rfl, fun t ht => by rw [gs_ne (by omega)]; exact f1 t ht, by rw [gs_ne (by omega)]; exact f2, by rw [gs_eq, hb], fun x k h1 h2 => by rw [gs_ne (by omega)]; exact f3 x k h1 (by omega)⟩
    cases hbk : bk with
    | false =>
      rw [if_pos (show bI false = 0 by decide), bd_ok]
      rw [hbk] at fin
      exact fin false rfl
    | true =>
      rw [hbk] at fin
      rw [if_neg (show ¬ bI true = 0 by decide)]
      cases hl : ldF (gvf w (T / 2) s) tp T with
      | none =>
        have hid : ldI (gvf w (T / 2) s) tp T = -1 := by unfold ldI; rw [hl]
        rw [hid] at fin ⊢
        rw [if_pos rfl, bd_ok]
        exact fin false (by unfold ldD; rw [hl]; rfl)
      | some t =>
        obtain ⟨q1, q2, q3⟩ := fstF_some hl
        have hid : ldI (gvf w (T / 2) s) tp T = idI (hdr (tp t)).1 := by unfold ldI; rw [hl]
        have hge : gvf w (T / 2) s t = true := by revert q2; cases gvf w (T / 2) s t <;> simp
        have hr := hD t (by omega) _ (hdr_mem (gv_ne hge (hms.2.2.2 t (by omega))))
        have hr2 : RD s2 m gl nr (hdr (tp t)) := ⟨hr.1, fun i l hz => by rw [f3 _ _ (by omega) (by omega), f3 _ _ (by omega) (by omega)]; exact hr.2 i l hz⟩
        have hne : ¬ idI (hdr (tp t)).1 = -1 := by
          cases hz : (hdr (tp t)).1 with
          | nil => rw [hz] at q2; simp at q2
          | cons j l =>
            have := (hr.2 j l hz).1
            exact nI_nm1 (by omega)
        have hdd : ldD (gvf w (T / 2) s) tp T = some (hdr (tp t)).2 := by unfold ldD; rw [hl]; rfl
        rw [hid] at fin ⊢
        rw [if_neg hne, c_isDown hL h7 hn hN hr2, bd_ok]
        cases hdn : (hdr (tp t)).2 with
        | true =>
          rw [if_pos (show ¬ bI true = 0 by decide), bd_ok]
          exact fin false (by rw [hdd, hdn]; rfl)
        | false =>
          rw [if_neg (show ¬ ¬ bI false = 0 by decide), bd_ok]
          exact fin true (by rw [hdd, hdn]; rfl)
end LK
