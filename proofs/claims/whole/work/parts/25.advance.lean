/-! a step of the class's mill: the tapes -/
theorem ifc {α : Type} {p q : Prop} [Decidable p] [Decidable q] (h : p ↔ q) {a b : α} : (if p then a else b) = if q then a else b := by
  by_cases hp : p
  · rw [if_pos hp, if_pos (h.mp hp)]
  · rw [if_neg hp, if_neg (fun hq => hp (h.mpr hq))]
theorem tp_drop {E : En} {a L H : Nat} {σ : Sg} {bk : Bool} {l : List Rn} (h : LTape E a) (hp : TP σ a bk l L H) (hl : 0 < l.length) : ∃ σ', fX5_drop E a (bI bk) σ = some σ' ∧ TP σ' a bk l.tail (if H - L = 1 then 0 else if bk then L else L + 1) (if H - L = 1 then 0 else if bk then H - 1 else H) ∧ (∀ x j, x ≠ a → gi σ' x j = gi σ x j) ∧ ∀ x j, gl σ' x j = gl σ x j := by
  obtain ⟨p1, p2, p3, p4, p5, p6⟩ := hp
  obtain ⟨σ', e1, e2, e3, e4, e5, e6⟩ := tape_drop h bk p1 p2 (by omega) p4
  refine ⟨σ', e1, ⟨e5, e6, ?_, ?_, ?_, fun k hk => ?_⟩, e2, e3⟩
  · split
    · omega
    · cases bk <;> simp <;> omega
  · split
    · omega
    · cases bk <;> simp <;> omega
  · rw [List.length_tail]
    split
    · omega
    · cases bk <;> simp <;> omega
  · rw [List.length_tail] at hk
    have h1 : ¬ H - L = 1 := by omega
    rw [e2 _ _ (by omega)]
    simp only [h1, if_false]
    have := p6 (k + 1) (by omega)
    have hg : l.tail.getD k ([], false) = l.getD (k + 1) ([], false) := by cases l <;> simp
    rw [hg, ← this]
    cases bk
    · simp only [Bool.false_eq_true, if_false]; congr 1; omega
    · simp only [if_true]; congr 1; omega
theorem tp_write {E : En} {a H : Nat} {σ : Sg} {bk : Bool} {l : List Rn} {r : Rn} (h : LTape E a) (hp : TP σ a bk l 0 H) (hl : l.length < 256) : ∃ σ', fX5_write E a (idI r.1) σ = some σ' ∧ TP σ' a bk (psh bk r l) 0 (H + 1) ∧ (∀ x j, x ≠ a → x ≠ a + 1 → gi σ' x j = gi σ x j) ∧ ∀ x j, gl σ' x j = gl σ x j := by
  obtain ⟨p1, p2, p3, p4, p5, p6⟩ := hp
  refine ⟨_, tape_write h p2 (by omega), ⟨?_, gs_eq, by omega, by omega, ?_, fun k hk => ?_⟩, fun x j h1 h2 => ?_, fun x j => rfl⟩
  · rw [gs_ne (by omega), gs_ne (by omega)]; exact p1
  · unfold psh; cases bk <;> simp <;> omega
  · rw [gs_ne (by omega)]
    unfold psh at hk ⊢
    cases bk
    · simp only [Bool.false_eq_true, if_false, List.length_append, List.length_singleton] at hk p6 ⊢
      by_cases hkl : k = H
      · subst hkl
        rw [show 0 + k = k by omega, gs_eq]
        congr 1
        have : k = l.length := by omega
        subst this
        simp
      · rw [gs_ne (by omega), p6 k (by omega)]
        congr 2
        rw [List.getD_eq_getElem?_getD, List.getD_eq_getElem?_getD, List.getElem?_append_left (by omega)]
    · simp only [if_true, List.length_cons] at hk p6 ⊢
      cases k with
      | zero => rw [show H + 1 - 1 - 0 = H by omega, gs_eq]; rfl
      | succ k =>
        rw [gs_ne (by omega), show H + 1 - 1 - (k + 1) = H - 1 - k by omega, p6 k (by omega)]
        rfl
  · rw [gs_ne (by omega), gs_ne (by omega)]
def occL (j : Nat) : List Rn → Nat
  | [] => 0
  | r :: l => r.1.count j + occL j l
theorem occL_mem {j : Nat} : ∀ {l : List Rn} {r : Rn}, r ∈ l → j ∈ r.1 → 0 < occL j l
  | [], r, h, _ => by cases h
  | q :: l, r, h, hj => by
    unfold occL
    rcases List.mem_cons.mp h with rfl | h
    · have := List.count_pos_iff.mpr hj; omega
    · have := occL_mem h hj; omega
theorem sumF_two {f : Nat → Nat} : ∀ {n t t' : Nat}, t < n → t' < n → t ≠ t' → f t + f t' ≤ sumF f n
  | 0, t, t', h, _, _ => by omega
  | n + 1, t, t', h, h', hne => by
    unfold sumF
    by_cases h1 : t = n
    · subst h1; have := sumF_pos (f := f) (n := t) (t := t') (by omega); omega
    · by_cases h2 : t' = n
      · subst h2; have := sumF_pos (f := f) (n := t') (t := t) (by omega); omega
      · have := sumF_two (f := f) (n := n) (t := t) (t' := t') (by omega) (by omega) hne; omega
/-- each that grew is in one run at most -/
def Dj (T : Nat) (tp : Nat → List Rn) : Prop := ∀ j, sumF (fun t => occL j (tp t)) T ≤ 1
theorem dj_hd {T : Nat} {tp : Nat → List Rn} (h : Dj T tp) {t t' j : Nat} {r : Rn} (ht : t < T) (ht' : t' < T) (hl : 0 < (tp t).length) (hj : j ∈ (hdr (tp t)).1) (hr : if t' = t then r ∈ (tp t).tail else r ∈ tp t') : j ∉ r.1 := by
  intro hjr
  have h1 := h j
  by_cases he : t' = t
  · subst he
    rw [if_pos rfl] at hr
    have h2 : occL j (tp t') ≤ sumF (fun t => occL j (tp t)) T := sumF_pos (f := fun t => occL j (tp t)) ht
    cases hq : tp t' with
    | nil => rw [hq] at hl; simp at hl
    | cons a l =>
      rw [hq] at hr hj
      rw [hq, show occL j (a :: l) = a.1.count j + occL j l from rfl] at h2
      have h3 := occL_mem (j := j) hr hjr
      have h4 : 0 < a.1.count j := List.count_pos_iff.mpr hj
      simp only [List.tail_cons] at h3
      omega
  · rw [if_neg he] at hr
    have h2 : occL j (tp t) + occL j (tp t') ≤ sumF (fun t => occL j (tp t)) T := sumF_two (f := fun t => occL j (tp t)) ht ht' (fun q => he q.symm)
    have h3 := occL_mem (j := j) hr hjr
    have h4 := occL_mem (j := j) (hdr_mem hl) hj
    omega
def Ld (g : Nat → Bool) (bk : Bool) (L H : Nat → Nat) (t : Nat) : Nat := if g t then (if H t - L t = 1 then 0 else if bk then L t else L t + 1) else L t
def Hd (g : Nat → Bool) (bk : Bool) (L H : Nat → Nat) (t : Nat) : Nat := if g t then (if H t - L t = 1 then 0 else if bk then H t - 1 else H t) else H t
theorem szl_app (gl : Nat → Nat) : ∀ a b : List Nat, szl gl (a ++ b) = szl gl a + szl gl b
  | [], b => by simp [szl]
  | i :: a, b => by simp [szl, szl_app gl a b, Nat.add_assoc]
section AD
variable {E : En} {m N w T nr : Nat} {σ : Sg} {bk : Bool} {s : Sk} {tp : Nat → List Rn} {L H : Nat → Nat} {gl : Nat → Nat}
/-- what is taken goes off its tape -/
theorem c_drops (hL : LMill E m N) (hms : MS σ m w T bk nr s tp L H) (hT : T ≤ 6) (hn : nr ≤ N) (hN : N ≤ 700) (hD : ∀ t, t < T → ∀ r ∈ tp t, RD σ m gl nr r) (d : Bool) {g : Nat → Bool} (hg : ∀ t, t < T → g t = true → 0 < (tp t).length) (htk : ∀ t, t < T → gi σ (m + 4) t = tkI g tp t) {lf tu : Nat} (h8 : gi σ m 8 = nI lf) (hlf : cntF g T ≤ lf) (h3 : gi σ (m + 3) 3 = nI tu) :
    ∃ b, fx (fun rec a => bX1_advance_32 E m (bI d) (fun u0 u1 t => rec ((u0, u1), t)) a.1.1 a.1.2 a.2) FU (((0 : Int32), (0 : Int32)), σ) = some b ∧ (b.1.1 = nI (szl gl (catF g tp T)) ∧ gi b.2 m 8 = nI (lf - cntF g T) ∧ gi b.2 (m + 3) 3 = nI (tu + sumF (tuF gl g tp d) T) ∧ (∀ t, t < 6 → TP b.2 (m + 10 + 2 * t) bk (if t < T ∧ g t = true then (tp t).tail else tp t) (if t < T then Ld g bk L H t else L t) (if t < T then Hd g bk L H t else H t)) ∧ ∀ x k, ¬ (m + 10 ≤ x ∧ x < m + 22) → ¬ (x = m ∧ k = 8) → ¬ (x = m + 3 ∧ k = 3) → gi b.2 x k = gi σ x k) := by
  obtain ⟨l0, l4, l10, l12, l13, l17, l18, l5, l6, a1, a2, a3, a4, a5, a7, a8, a9, ltp⟩ := id hL
  refine for_in T (fun i b => b.1.1 = nI (szl gl (catF g tp i)) ∧ b.1.2 = nI i ∧ gi b.2 m 8 = nI (lf - cntF g i) ∧ gi b.2 (m + 3) 3 = nI (tu + sumF (tuF gl g tp d) i) ∧ (∀ t, t < 6 → TP b.2 (m + 10 + 2 * t) bk (if t < i ∧ g t = true then (tp t).tail else tp t) (if t < i then Ld g bk L H t else L t) (if t < i then Hd g bk L H t else H t)) ∧ ∀ x k, ¬ (m + 10 ≤ x ∧ x < m + 22) → ¬ (x = m ∧ k = 8) → ¬ (x = m + 3 ∧ k = 3) → gi b.2 x k = gi σ x k) _ (by show T < 1000000; omega) ?_ ?_ ⟨rfl, rfl, h8, h3, fun t ht => ?_, fun _ _ _ _ _ => rfl⟩
  · rintro i ⟨⟨v, u⟩, s2⟩ rec hi ⟨f1, f2, f3, f4, f5, f6⟩
    dsimp only at f1 f2 f3 f4 f5 f6 ⊢
    subst f1; subst f2
    obtain ⟨lt1, lt2⟩ := ltp i (by omega)
    have hb1 : gi s2 m 1 = nI T := by rw [f6 _ _ (by omega) (by omega) (by omega)]; exact hms.1.2.1
    have ht4 : gi s2 (m + 4) i = tkI g tp i := by rw [f6 _ _ (by omega) (by omega) (by omega)]; exact htk i hi
    have hcl := cntF_le g i
    unfold bX1_advance_32
    rw [hb1, if_neg (nI_ge hi (by omega)), dr_ok l13 a4.1, a4.2, ck_n (by omega) (by omega), nI_clamp (by omega), ht4]
    by_cases hgi : g i = true
    · have hlen := hg i hi hgi
      have hr := hD i hi _ (hdr_mem hlen)
      have htk' : tkI g tp i = idI (hdr (tp i)).1 := by unfold tkI; rw [if_pos hgi]
      have hne : ¬ idI (hdr (tp i)).1 = -2 := by
        cases hz : (hdr (tp i)).1 with
        | nil => decide
        | cons j l => have := (hr.2 j l hz).1; exact nI_nm2 (by omega)
      have hb3 : gi s2 m 3 = bI bk := by rw [f6 _ _ (by omega) (by omega) (by omega)]; exact hms.1.2.2.2.1
      have hpi := f5 i (by omega)
      rw [if_neg (by omega), if_neg (by omega), if_neg (by omega)] at hpi
      obtain ⟨s3, e1, e2, e3, e4⟩ := tp_drop lt2 hpi hlen
      rw [htk', if_pos hne, dr_ok l4 a1.1, a1.2, ck_n (by omega) (by omega), dr_ok lt1 lt2.1, hb3, e1, bv_ok, ss_ok]
      have hle : cntF g i + 1 ≤ lf := by
        have h1 : cntF g (i + 1) ≤ cntF g T := by
          have : ∀ n, i + 1 ≤ n → cntF g (i + 1) ≤ cntF g n := by
            intro n
            induction n with
            | zero => intro h; omega
            | succ n ih =>
              intro h
              by_cases hin : i = n
              · subst hin; exact Nat.le_refl _
              · have := ih (by omega); show _ ≤ cntF g n + _; omega
          exact this T (by omega)
        have h2 : cntF g (i + 1) = cntF g i + 1 := by show cntF g i + _ = _; rw [if_pos hgi]
        omega
      have g8 : gi s3 m 8 - 1 = nI (lf - cntF g (i + 1)) := by
        rw [e3 _ _ (by omega), f3, i1, sub_n (by omega)]
        show _ = nI (lf - (cntF g i + _))
        rw [if_pos hgi]; congr 1
      rw [g8]
      generalize hs4 : si s3 m 8 (nI (lf - cntF g (i + 1))) = s4
      have q4 : ∀ x k, ¬ (x = m ∧ k = 8) → x ≠ m + 10 + 2 * i → gi s4 x k = gi s2 x k := fun x k h1 h2 => by rw [← hs4, gs_ne (by omega), e3 _ _ (by omega)]
      have q8 : gi s4 m 8 = nI (lf - cntF g (i + 1)) := by rw [← hs4, gs_eq]
      have t4 : gi s4 (m + 4) i = idI (hdr (tp i)).1 := by rw [q4 _ _ (by omega) (by omega), ht4, htk']
      have h7 : gi s4 m 7 = nI nr := by rw [q4 _ _ (by omega) (by omega), f6 _ _ (by omega) (by omega) (by omega)]; exact hms.1.2.2.2.2
      have hr4 : RD s4 m gl nr (hdr (tp i)) := ⟨hr.1, fun j l hz => by rw [q4 _ _ (by omega) (by omega), f6 _ _ (by omega) (by omega) (by omega), q4 _ _ (by omega) (by omega), f6 _ _ (by omega) (by omega) (by omega)]; exact hr.2 j l hz⟩
      have hcat : szl gl (catF g tp (i + 1)) = szl gl (catF g tp i) + szl gl (hdr (tp i)).1 := by
        show szl gl (catF g tp i ++ _) = _
        rw [if_pos hgi, szl_app]
      have tpn : ∀ s5 : Sg, (∀ x k, m + 10 ≤ x → gi s5 x k = gi s3 x k) → ∀ t, t < 6 → TP s5 (m + 10 + 2 * t) bk (if t < i + 1 ∧ g t = true then (tp t).tail else tp t) (if t < i + 1 then Ld g bk L H t else L t) (if t < i + 1 then Hd g bk L H t else H t) := by
        intro s5 h5 t ht
        by_cases hti : t = i
        · subst hti
          rw [if_pos ⟨by omega, hgi⟩, if_pos (by omega), if_pos (by omega)]
          unfold Ld Hd
          rw [if_pos hgi, if_pos hgi]
          exact tp_fr e2 (fun k => h5 _ _ (by omega)) (fun k => h5 _ _ (by omega))
        · have := f5 t ht
          rw [ifc (p := t < i + 1 ∧ g t = true) (q := t < i ∧ g t = true) ⟨fun q => ⟨by omega, q.2⟩, fun q => ⟨by omega, q.2⟩⟩, ifc (p := t < i + 1) (q := t < i) (a := Ld g bk L H t) ⟨fun q => by omega, fun q => by omega⟩, ifc (p := t < i + 1) (q := t < i) (a := Hd g bk L H t) ⟨fun q => by omega, fun q => by omega⟩]
          exact tp_fr this (fun k => by rw [h5 _ _ (by omega), e3 _ _ (by omega)]) (fun k => by rw [h5 _ _ (by omega), e3 _ _ (by omega)])
      rw [ck_n (by omega) (by omega), t4, c_sizeOf hL h7 hn hN hr4, bd_ok, lt_ok, nI_add, ck_n (by omega) (by omega), t4, c_isDown hL h7 hn hN hr4, bd_ok]
      by_cases hd : (hdr (tp i)).2 = d
      · rw [if_pos (by rw [hd]), bd_ok, lt_ok, ad1]
        refine ⟨_, rfl, by dsimp only; rw [hcat], rfl, q8, ?_, tpn s4 (fun x k h => by rw [← hs4, gs_ne (by omega)]), fun x k h1 h2 h3 => by dsimp only; rw [q4 _ _ h2 (by omega)]; exact f6 x k h1 h2 h3⟩
        dsimp only
        rw [q4 _ _ (by omega) (by omega), f4]
        show _ = nI (tu + (sumF (tuF gl g tp d) i + _))
        unfold tuF
        rw [if_pos hgi, if_pos hd]; rfl
      · have h33 : gi s4 (m + 3) 3 = nI (tu + sumF (tuF gl g tp d) i) := by rw [q4 _ _ (by omega) (by omega), f4]
        rw [if_neg (by rw [bI_e]; exact hd), dr_ok l12 a3.1, a3.2, i3, ck_n (by omega) (by omega), ck_n (by omega) (by omega), t4, c_sizeOf hL h7 hn hN hr4, bd_ok, ck_n (by omega) (by omega), nI_clamp (by omega), h33, nI_add, ss_ok, bd_ok, lt_ok, ad1]
        refine ⟨_, rfl, by dsimp only; rw [hcat], rfl, by dsimp only; rw [gs_ne (by omega)]; exact q8, ?_, tpn _ (fun x k h => by rw [gs_ne (by omega), ← hs4, gs_ne (by omega)]), fun x k h1 h2 h3 => by dsimp only; rw [gs_ne (by omega), q4 _ _ h2 (by omega)]; exact f6 x k h1 h2 h3⟩
        dsimp only
        rw [gs_eq]
        show _ = nI (tu + (sumF (tuF gl g tp d) i + tuF gl g tp d i))
        rw [show tuF gl g tp d i = szl gl (hdr (tp i)).1 from by unfold tuF; rw [if_pos hgi, if_neg hd], Nat.add_assoc]
    · have htk' : tkI g tp i = -2 := by unfold tkI; rw [if_neg hgi]
      rw [htk', if_neg (by decide), bd_ok, lt_ok, ad1]
      have hgf : g i = false := by simpa using hgi
      refine ⟨_, rfl, ?_, rfl, ?_, ?_, fun t ht => ?_, f6⟩
      · dsimp only
        show _ = nI (szl gl (catF g tp i ++ _))
        rw [if_neg hgi, List.append_nil]
      · dsimp only
        rw [f3]
        show _ = nI (lf - (cntF g i + _))
        rw [if_neg hgi]; rfl
      · dsimp only
        rw [f4]
        show _ = nI (tu + (sumF (tuF gl g tp d) i + tuF gl g tp d i))
        rw [show tuF gl g tp d i = 0 from by unfold tuF; rw [if_neg hgi]]; rfl
      · have := f5 t ht
        by_cases hti : t = i
        · subst hti
          rw [if_neg (by omega), if_neg (by omega), if_neg (by omega)] at this
          rw [if_neg (fun q => hgi q.2), if_pos (by omega), if_pos (by omega)]
          unfold Ld Hd
          rw [if_neg hgi, if_neg hgi]
          exact this
        · rw [ifc (p := t < i + 1 ∧ g t = true) (q := t < i ∧ g t = true) ⟨fun q => ⟨by omega, q.2⟩, fun q => ⟨by omega, q.2⟩⟩, ifc (p := t < i + 1) (q := t < i) (a := Ld g bk L H t) ⟨fun q => by omega, fun q => by omega⟩, ifc (p := t < i + 1) (q := t < i) (a := Hd g bk L H t) ⟨fun q => by omega, fun q => by omega⟩]
          exact this
  · rintro ⟨⟨v, u⟩, s2⟩ rec ⟨f1, f2, f3, f4, f5, f6⟩
    dsimp only at f1 f2 f3 f4 f5 f6 ⊢
    subst f2
    unfold bX1_advance_32
    rw [f6 m 1 (by omega) (by omega) (by omega), hms.1.2.1, if_pos (nI_le (Nat.le_refl _) (by omega))]
    exact ⟨_, rfl, f1, f3, f4, f5, f6⟩
  · rw [if_neg (by omega), if_neg (by omega), if_neg (by omega)]
    exact hms.2.2.1 t ht
end AD
