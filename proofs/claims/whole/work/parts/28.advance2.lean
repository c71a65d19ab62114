/-! a whole step of the class's mill -/
theorem sumF_step {f f' : Nat → Nat} {g : Nat → Bool} {to : Nat} (hg : g to = false) (h1 : f' to = f to + 1) (h2 : ∀ t, g t = true → f' t + 1 = f t) (h3 : ∀ t, t ≠ to → g t = false → f' t = f t) : ∀ n, sumF f' n + cntF g n = sumF f n + (if to < n then 1 else 0)
  | 0 => by simp [sumF, cntF]
  | n + 1 => by
    have ih := sumF_step hg h1 h2 h3 n
    unfold sumF cntF
    by_cases hn : n = to
    · subst hn; rw [hg, h1, if_pos (show n < n + 1 by omega)]; rw [if_neg (show ¬ n < n by omega)] at ih; rw [if_neg (by simp)]; omega
    · by_cases hgn : g n = true
      · have := h2 n hgn
        rw [hgn, if_pos rfl]
        by_cases hlt : to < n
        · rw [if_pos hlt] at ih; rw [if_pos (by omega)]; omega
        · rw [if_neg hlt] at ih; rw [if_neg (by omega)]; omega
      · have hgf : g n = false := by simpa using hgn
        have := h3 n hn hgf
        rw [hgf, if_neg (by simp)]
        by_cases hlt : to < n
        · rw [if_pos hlt] at ih; rw [if_pos (by omega)]; omega
        · rw [if_neg hlt] at ih; rw [if_neg (by omega)]; omega
theorem gv_fl {w h t : Nat} {s : Sk} (hg : gvf w h s t = true) : flg w h s t = true ∧ 0 < kc s t := by
  unfold gvf at hg
  simp only [Bool.and_eq_true, Bool.not_eq_true', beq_eq_false_iff_ne] at hg
  exact ⟨hg.2, by omega⟩
theorem gv_of {w h t : Nat} {s : Sk} (h1 : flg w h s t = true) (h2 : 0 < kc s t) : gvf w h s t = true := by
  unfold gvf
  simp only [Bool.and_eq_true, Bool.not_eq_true', beq_eq_false_iff_ne]
  exact ⟨by omega, h1⟩
theorem gv_no {w h t : Nat} {s : Sk} (h1 : flg w h s t = false) : gvf w h s t = false := by
  unfold gvf; rw [h1]; simp
theorem skc_at {w T h t : Nat} {s : Sk} (ht : t < T) : (skc w T h s).getD t 0 = if t = kto s then kc s t + 1 else if gvf w h s t then kc s t - 1 else kc s t := by
  unfold skc; rw [tab_at ht]
theorem skn_1 {w T h : Nat} {s : Sk} : (skn w T h s).1.1 = skc w T h s := by
  unfold skn
  dsimp only
  split
  · split <;> rfl
  · split
    · rfl
    · split
      · rfl
      · split <;> rfl
theorem lef_skn {w T h : Nat} {s : Sk} (hto : kto s < T) (hf : flg w h s (kto s) = false) : lef T (skn w T h s).1 + cntF (gvf w h s) T = lef T s + 1 := by
  have e : lef T (skn w T h s).1 = sumF (fun t => if t = kto s then kc s t + 1 else if gvf w h s t then kc s t - 1 else kc s t) T := by
    unfold lef
    refine sumF_congr (fun t ht => ?_)
    show (skn w T h s).1.1.getD t 0 = _
    rw [skn_1, skc_at ht]
  have := sumF_step (f := kc s) (f' := fun t => if t = kto s then kc s t + 1 else if gvf w h s t then kc s t - 1 else kc s t) (g := gvf w h s) (to := kto s) (gv_no hf) (by simp) (fun t hg => by
    have h1 := (gv_fl hg).2
    have hne : t ≠ kto s := fun q => by rw [q, gv_no hf] at hg; cases hg
    simp only [hne, if_false, hg, if_true]; omega) (fun t h1 h2 => by simp [h1, h2]) T
  rw [if_pos hto] at this
  rw [e]; exact this
theorem oks_un {w T h : Nat} {s : Sk} (hok : oks w T h s = true) : 0 < cntF (gvf w h s) T ∧ kto s < T ∧ flg w h s (kto s) = false ∧ kc s (kto s) < 256 ∧ (w = 0 → ∀ t, t < T → t ≠ kto s → 0 < kc s t) := by
  unfold oks at hok
  simp only [Bool.and_eq_true, decide_eq_true_eq, Bool.not_eq_true', Bool.or_eq_true] at hok
  obtain ⟨⟨⟨⟨h1, h2⟩, h3⟩, h4⟩, h5⟩ := hok
  refine ⟨h1, h2, h3, h4, fun hw t ht hne => ?_⟩
  rcases h5 with h5 | h5
  · exact absurd hw h5
  · have := cntF_all h5 t ht
    simp only [Bool.or_eq_true, beq_iff_eq, Bool.not_eq_true', beq_eq_false_iff_ne] at this
    omega
/-- cells that a step leaves alone -/
def esA (m x k : Nat) : Prop := (x < m ∨ m + 22 ≤ x) ∨ (x = m + 3 ∧ (k = 4 ∨ k = 5))
section AV
variable {E : En} {m N w T nr : Nat} {σ : Sg} {bk : Bool} {gl : Nat → Nat} {A : Mi}
theorem c_leadD (hL : LMill E m N) {s : Sk} {tp : Nat → List Rn} {L H : Nat → Nat} (hms : MS σ m w T bk nr s tp L H) (hT : T ≤ 6) (hn : nr ≤ N) (hN : N ≤ 700) (hD : ∀ t, t < T → ∀ r ∈ tp t, RD σ m gl nr r) (h14 : gi σ m 14 = ldI (gvf w (T / 2) s) tp T) : (if (gi σ m 3) = 0 then (some ((0 : Int32), σ)) else (bd (fX1_isDown E m (gi σ m 14) σ) (fun r7 s5 => if r7 = 0 then (some ((0 : Int32), s5)) else (some ((1 : Int32), s5))))) = some (bI (bk && (ldD (gvf w (T / 2) s) tp T == some true)), σ) := by
  rw [hms.1.2.2.2.1, h14]
  have h7 := hms.1.2.2.2.2
  cases bk with
  | false => rfl
  | true =>
    rw [if_neg (show ¬ bI true = 0 by decide)]
    unfold ldI ldD
    cases hl : ldF (gvf w (T / 2) s) tp T with
    | none =>
      dsimp only
      rw [c_isDownD hL]; rfl
    | some t =>
      obtain ⟨q1, q2, q3⟩ := fstF_some hl
      have hge : gvf w (T / 2) s t = true := by revert q2; cases gvf w (T / 2) s t <;> simp
      have hr := hD t (by omega) _ (hdr_mem (gv_ne hge (hms.2.2.2 t (by omega))))
      dsimp only
      rw [c_isDown hL h7 hn hN hr, bd_ok]
      show _ = some (bI (true && (some (hdr (tp t)).2 == some true)), σ)
      cases (hdr (tp t)).2 <;> rfl
/-- off the tapes, and onto the one that is written -/
def tpn (T to : Nat) (bk : Bool) (g : Nat → Bool) (r : Rn) (tp : Nat → List Rn) : Nat → List Rn := fun t => if t = to then psh bk r (tp t) else if t < T ∧ g t = true then (tp t).tail else tp t
theorem psh_len {bk : Bool} {r : Rn} {l : List Rn} : (psh bk r l).length = l.length + 1 := by unfold psh; cases bk <;> simp
theorem psh_mem {bk : Bool} {r x : Rn} {l : List Rn} (h : x ∈ psh bk r l) : x = r ∨ x ∈ l := by
  unfold psh at h
  cases bk <;> simp at h
  · exact h.symm
  · exact h
theorem cat_mem {g : Nat → Bool} {tp : Nat → List Rn} {j : Nat} : ∀ {n : Nat}, j ∈ catF g tp n → ∃ t, t < n ∧ g t = true ∧ j ∈ (hdr (tp t)).1
  | 0, h => by cases h
  | n + 1, h => by
    rcases List.mem_append.mp (show j ∈ catF g tp n ++ (if g n then (hdr (tp n)).1 else []) from h) with h | h
    · obtain ⟨t, h1, h2, h3⟩ := cat_mem h
      exact ⟨t, by omega, h2, h3⟩
    · by_cases hg : g n = true
      · rw [if_pos hg] at h; exact ⟨n, by omega, hg, h⟩
      · rw [if_neg hg] at h; cases h
theorem c_adv (hL : LMill E m N) (h : RMl σ m w T bk gl nr A) (hT : T ≤ 6) (hT3 : 3 ≤ T) (hw : w ≤ 2) (hn : nr ≤ N) (hN : N ≤ 700) (hdj : Dj T (mT A)) (hok : oks w T (T / 2) (mK A) = true) :
    ∃ s', fX1_advance E m σ = some s' ∧ RMl s' m w T bk gl nr (stp w T bk gl A) ∧ gi s' m 16 = idI (catF (gvf w (T / 2) (mK A)) (mT A) T) ∧ (∀ t, t < T → gi s' (m + 4) t = tkI (gvf w (T / 2) (mK A)) (mT A) t) ∧ ∀ x k, esA m x k → gi s' x k = gi σ x k := by
  obtain ⟨L, H, hms, hl0, hD, h8, t0, t1, t2, t3⟩ := h
  obtain ⟨o1, o2, o3, o4, o5⟩ := oks_un hok
  obtain ⟨l0, l4, l10, l12, l13, l17, l18, l5, l6, a1, a2, a3, a4, a5, a7, a8, a9, ltp⟩ := id hL
  have hle := ms_lef hT hms
  generalize hgd : gvf w (T / 2) (mK A) = g at *
  have hgl : ∀ t, t < T → g t = true → 0 < (mT A t).length := fun t ht hg => by
    rw [← hgd] at hg; rw [← hms.2.2.2 t ht]; exact (gv_fl hg).2
  have hgto : g (kto (mK A)) = false := by rw [← hgd]; exact gv_no o3
  obtain ⟨s1, e1, lk4, lk14, lk15, f1⟩ := c_look hL hms hT hw (by omega) hn hN hD
  rw [hgd] at lk4 lk14 lk15
  have hms1 : MS s1 m w T bk nr (mK A) (mT A) L H := ms_fr hms (fun x k he => f1 x k (by unfold esS at he; omega) (by unfold esS at he; omega))
  have hD1 : ∀ t, t < T → ∀ r ∈ mT A t, RD s1 m gl nr r := fun t ht r hr => ⟨(hD t ht r hr).1, fun i l hz => by rw [f1 _ _ (by omega) (by omega), f1 _ _ (by omega) (by omega)]; exact (hD t ht r hr).2 i l hz⟩
  unfold fX1_advance
  rw [tk_ok l0, e1, bv_ok, c_leadD hL hms1 hT hn hN hD1 (by rw [hgd]; exact lk14), bd_ok, hgd]
  obtain ⟨⟨⟨mv, u⟩, s2⟩, e2, m1, m2, m3, m4, f2⟩ := c_drops hL hms1 hT hn hN hD1 (bk && (ldD g (mT A) T == some true)) hgl lk4 (lf := lef T (mK A)) (tu := mTu A) (by rw [f1 _ _ (by omega) (by omega)]; exact h8) (by
    have := lef_skn (w := w) (T := T) (h := T / 2) (s := mK A) o2 o3
    rw [hgd] at this
    have hp : 0 < lef T (skn w T (T / 2) (mK A)).1 := by
      have h1 : kc (skn w T (T / 2) (mK A)).1 (kto (mK A)) ≤ lef T (skn w T (T / 2) (mK A)).1 := sumF_pos (f := kc (skn w T (T / 2) (mK A)).1) o2
      have h2 : kc (skn w T (T / 2) (mK A)).1 (kto (mK A)) = kc (mK A) (kto (mK A)) + 1 := by
        show (skn w T (T / 2) (mK A)).1.1.getD _ 0 = _
        rw [skn_1, skc_at o2, if_pos rfl]
      omega
    omega) (by rw [f1 _ _ (by omega) (by omega)]; exact t3)
  dsimp only at m1 m2 m3 m4 f2
  rw [e2, bd_ok]
  dsimp only
  subst m1
  have h214 : gi s2 m 14 = idI (catF g (mT A) T) := by rw [f2 _ _ (by omega) (by omega) (by omega), lk14]; exact (ld_cat g (mT A) T).1
  have h215 : gi s2 m 15 = bI (bk && (ldD g (mT A) T == some false)) := by rw [f2 _ _ (by omega) (by omega) (by omega), lk15]
  rw [h214, ss_ok, gs_eq]
  generalize hc : catF g (mT A) T = c at *
  generalize hfl : (bk && (ldD g (mT A) T == some false)) = fl at *
  have hchd : ∀ i l, c = i :: l → i < nr ∧ ∃ t, t < T ∧ g t = true ∧ i ∈ (hdr (mT A t)).1 := by
    intro i l hz
    have : i ∈ catF g (mT A) T := by rw [hc, hz]; simp
    have hl2 := (ld_cat g (mT A) T)
    rw [hc, hz] at hl2
    cases hl : ldF g (mT A) T with
    | none => have := hl2.2.1.mp hl; cases this
    | some t =>
      obtain ⟨i', l', r', q1, q2⟩ := hl2.2.2 t hl
      injection q2 with q2 q3
      subst q2
      obtain ⟨p1, p2, p3⟩ := fstF_some hl
      have hgt : g t = true := by revert p2; cases g t <;> simp
      refine ⟨((hD t p1 _ (hdr_mem (hgl t p1 hgt))).2 i l' q1).1, t, p1, hgt, by rw [q1]; simp⟩
  have hflc : c = [] → fl = false := by
    intro hz
    rw [← hfl]
    have := (ld_cat g (mT A) T).2.1
    rw [hc] at this
    unfold ldD
    rw [this.mpr hz]
    simp
  obtain ⟨s4, e4, f4, c4, n4⟩ : ∃ s4, (if idI c = (-1 : Int32) then (some ((), si s2 m 16 (idI c))) else (dr (rf E m 5) E 100 (fun x48 => ck (idI c) (ln E x48) (ss (si (si s2 m 16 (idI c)) x48 (idI c).toNatClampNeg (nI (szl gl c))) (fun s50 => dr (rf E m 6) E 101 (fun x51 => ck (gi s50 m 16) (ln E x51) (ss (si s50 x51 (gi s50 m 16).toNatClampNeg (vp_nar .boolean (gi s50 m 15))) (fun s53 => some ((), s53))))))))) = some ((), s4) ∧ (∀ x k, x ≠ m + 8 → x ≠ m + 9 → gi s4 x k = gi (si s2 m 16 (idI c)) x k) ∧ (∀ i l, c = i :: l → gi s4 (m + 8) i = nI (szl gl c) ∧ gi s4 (m + 9) i = bI fl) ∧ ∀ j, (∀ i l, c = i :: l → j ≠ i) → gi s4 (m + 8) j = gi s2 (m + 8) j ∧ gi s4 (m + 9) j = gi s2 (m + 9) j := by
    cases hz : c with
    | nil =>
      rw [if_pos (show idI [] = -1 from rfl)]
      exact ⟨_, rfl, fun _ _ _ _ => rfl, fun i l q => (by cases q), fun j _ => ⟨gs_ne (by omega), gs_ne (by omega)⟩⟩
    | cons i l =>
      have hi := (hchd i l hz).1
      rw [if_neg (show ¬ idI (i :: l) = -1 from nI_nm1 (by omega)), dr_ok l5 a8.1, a8.2, show idI (i :: l) = nI i from rfl, ck_n (by omega) (by omega), nI_clamp (by omega), ss_ok, dr_ok l6 a9.1, a9.2]
      rw [show gi (si (si s2 m 16 (nI i)) (m + 8) i (nI (szl gl (i :: l)))) m 16 = nI i from by rw [gs_ne (by omega), gs_eq], ck_n (by omega) (by omega), nI_clamp (by omega), ss_ok, show gi (si (si s2 m 16 (nI i)) (m + 8) i (nI (szl gl (i :: l)))) m 15 = bI fl from by rw [gs_ne (by omega), gs_ne (by omega), h215], nar_b]
      refine ⟨_, rfl, fun x k h1 h2 => ?_, fun i' l' q => ?_, fun j hj => ?_⟩
      · rw [gs_ne (by omega), gs_ne (by omega)]
      · injection q with q1 q2; subst q1
        exact ⟨by rw [gs_ne (by omega), gs_eq], by rw [gs_eq]⟩
      · have := hj i l rfl
        exact ⟨by rw [gs_ne (by omega), gs_ne (by omega), gs_ne (by omega)], by rw [gs_ne (by omega), gs_ne (by omega), gs_ne (by omega)]⟩
  rw [e4, bd_ok]
  have f4' : ∀ x k, x ≠ m + 8 → x ≠ m + 9 → ¬ (x = m ∧ k = 16) → gi s4 x k = gi s2 x k := fun x k h1 h2 h3 => by rw [f4 x k h1 h2, gs_ne (by omega)]
  have h49 : gi s4 m 9 = nI (kto (mK A)) := by rw [f4' _ _ (by omega) (by omega) (by omega), f2 _ _ (by omega) (by omega) (by omega)]; exact hms1.2.1.1
  have h416 : gi s4 m 16 = idI c := by rw [f4 _ _ (by omega) (by omega), gs_eq]
  obtain ⟨lt1, lt2⟩ := ltp (kto (mK A)) (by omega)
  have hpto : TP s4 (m + 10 + 2 * kto (mK A)) bk (mT A (kto (mK A))) 0 (H (kto (mK A))) := by
    have := m4 (kto (mK A)) (by omega)
    rw [if_neg (fun q => by rw [hgto] at q; exact absurd q.2 (by decide)), if_pos o2, if_pos o2] at this
    unfold Ld Hd at this
    rw [if_neg (by rw [hgto]; decide), if_neg (by rw [hgto]; decide)] at this
    have h0 : L (kto (mK A)) = 0 := by
      rcases hl0 (kto (mK A)) (by omega) with q | ⟨q1, q2, q3⟩
      · exact q
      · rw [o3] at q2; cases q2
    rw [h0] at this
    exact tp_fr this (fun k => f4' _ _ (by omega) (by omega) (by omega)) (fun k => f4' _ _ (by omega) (by omega) (by omega))
  have hlto : (mT A (kto (mK A))).length < 256 := by rw [← hms.2.2.2 _ o2]; exact o4
  obtain ⟨s5, e5, p5, f5, g5⟩ := tp_write (r := (c, fl)) lt2 hpto hlto
  rw [dr_ok l4 a1.1, h49, a1.2, ck_n (by omega) (by omega), nI_clamp (by omega), dr_ok lt1 lt2.1, h416, e5, bv_ok]
  have h58 : gi s5 m 8 = nI (lef T (mK A) - cntF g T) := by rw [f5 _ _ (by omega) (by omega), f4' _ _ (by omega) (by omega) (by omega)]; exact m2
  have h50 : gi s5 (m + 3) 0 = nI (mMo A) := by rw [f5 _ _ (by omega) (by omega), f4' _ _ (by omega) (by omega) (by omega), f2 _ _ (by omega) (by omega) (by omega), f1 _ _ (by omega) (by omega)]; exact t0
  have h51 : gi s5 (m + 3) 1 = nI (mSt A) := by rw [f5 _ _ (by omega) (by omega), f4' _ _ (by omega) (by omega) (by omega), f2 _ _ (by omega) (by omega) (by omega), f1 _ _ (by omega) (by omega)]; exact t1
  rw [h58, ad1, ss_ok, dr_ok l12 a3.1, a3.2, i0, ck_n (by omega) (by omega), ck_n (by omega) (by omega), nI_clamp (by omega), gs_ne (by omega), h50, nI_add, ss_ok, i1, ck_n (by omega) (by omega), ck_n (by omega) (by omega), nI_clamp (by omega), gs_ne (by omega), gs_ne (by omega), h51, nI_add, ss_ok]
  generalize hs6 : si (si (si s5 m 8 (nI (lef T (mK A) - cntF g T + 1))) (m + 3) 0 (nI (mMo A + szl gl c))) (m + 3) 1 (nI (mSt A + 1)) = s6
  have f6 : ∀ x k, ¬ (x = m ∧ k = 8) → ¬ (x = m + 3 ∧ (k = 0 ∨ k = 1)) → gi s6 x k = gi s5 x k := fun x k h1 h2 => by rw [← hs6, gs_ne (by omega), gs_ne (by omega), gs_ne (by omega)]
  have f62 : ∀ x k, ¬ (m + 10 ≤ x ∧ x < m + 22) → x ≠ m + 3 → x ≠ m + 8 → x ≠ m + 9 → ¬ (x = m ∧ (k = 8 ∨ k = 16)) → gi s6 x k = gi s1 x k := fun x k h1 h2 h3 h4 h5 => by
    rw [f6 _ _ (by omega) (by omega), f5 _ _ (by omega) (by omega), f4' _ _ h3 h4 (by omega), f2 _ _ h1 (by omega) (by omega)]
  have h63 : gi s6 (m + 3) 3 = nI (mTu A + sumF (tuF gl g (mT A) (bk && (ldD g (mT A) T == some true))) T) := by
    rw [f6 _ _ (by omega) (by omega), f5 _ _ (by omega) (by omega), f4' _ _ (by omega) (by omega) (by omega)]; exact m3
  have h62 : gi s6 (m + 3) 2 = nI (mPh A) := by
    rw [f6 _ _ (by omega) (by omega), f5 _ _ (by omega) (by omega), f4' _ _ (by omega) (by omega) (by omega), f2 _ _ (by omega) (by omega) (by omega), f1 _ _ (by omega) (by omega)]; exact t2
  have h64 : ∀ k, k = 4 ∨ k = 5 → gi s6 (m + 3) k = gi σ (m + 3) k := fun k hk => by
    rw [f6 _ _ (by omega) (by omega), f5 _ _ (by omega) (by omega), f4' _ _ (by omega) (by omega) (by omega), f2 _ _ (by omega) (by omega) (by omega), f1 _ _ (by omega) (by omega)]
  generalize hL' : (fun t => if t = kto (mK A) then 0 else if t < T then Ld g bk L H t else L t) = L'
  generalize hH' : (fun t => if t = kto (mK A) then H (kto (mK A)) + 1 else if t < T then Hd g bk L H t else H t) = H'
  have hms6 : MS s6 m w T bk nr (skc w T (T / 2) (mK A), (mK A).2) (tpn T (kto (mK A)) bk g (c, fl) (mT A)) L' H' := by
    obtain ⟨⟨b0, b1, b2, b3, b7⟩, ⟨k9, k11, ko'⟩, ht, hcn⟩ := hms1
    refine ⟨⟨?_, ?_, ?_, ?_, ?_⟩, ⟨?_, ?_, fun t h => ?_⟩, fun t h => ?_, fun t h => ?_⟩
    · rw [f62 _ _ (by omega) (by omega) (by omega) (by omega) (by omega)]; exact b0
    · rw [f62 _ _ (by omega) (by omega) (by omega) (by omega) (by omega)]; exact b1
    · rw [f62 _ _ (by omega) (by omega) (by omega) (by omega) (by omega)]; exact b2
    · rw [f62 _ _ (by omega) (by omega) (by omega) (by omega) (by omega)]; exact b3
    · rw [f62 _ _ (by omega) (by omega) (by omega) (by omega) (by omega)]; exact b7
    · rw [f62 _ _ (by omega) (by omega) (by omega) (by omega) (by omega)]; exact k9
    · rw [f62 _ _ (by omega) (by omega) (by omega) (by omega) (by omega)]; exact k11
    · rw [f62 _ _ (by omega) (by omega) (by omega) (by omega) (by omega)]; exact ko' t h
    · rw [← hL', ← hH']
      unfold tpn
      dsimp only
      by_cases hto : t = kto (mK A)
      · subst hto
        rw [if_pos rfl, if_pos rfl, if_pos rfl]
        exact tp_fr p5 (fun k => f6 _ _ (by omega) (by omega)) (fun k => f6 _ _ (by omega) (by omega))
      · rw [if_neg hto, if_neg hto, if_neg hto]
        have q : ∀ k, gi s6 (m + 10 + 2 * t) k = gi s2 (m + 10 + 2 * t) k := fun k => by rw [f6 _ _ (by omega) (by omega), f5 _ _ (by omega) (by omega), f4' _ _ (by omega) (by omega) (by omega)]
        have q' : ∀ k, gi s6 (m + 10 + 2 * t + 1) k = gi s2 (m + 10 + 2 * t + 1) k := fun k => by rw [f6 _ _ (by omega) (by omega), f5 _ _ (by omega) (by omega), f4' _ _ (by omega) (by omega) (by omega)]
        exact tp_fr (m4 t h) q q'
    · show (skc w T (T / 2) (mK A)).getD t 0 = _
      have hct : kc (mK A) t = (mT A t).length := hcn t h
      rw [skc_at h, hgd]
      unfold tpn
      by_cases hto : t = kto (mK A)
      · subst hto; rw [if_pos rfl, if_pos rfl, psh_len, ← hct]
      · rw [if_neg hto, if_neg hto]
        by_cases hgt : g t = true
        · rw [if_pos hgt, if_pos ⟨h, hgt⟩, List.length_tail, ← hct]
        · rw [if_neg hgt, if_neg (fun q => hgt q.2), ← hct]
  have hgs : ∀ t, t < T → (gi s6 (m + 4) t = -2 ↔ g t = false) := by
    intro t ht
    rw [f62 _ _ (by omega) (by omega) (by omega) (by omega) (by omega), lk4 t ht]
    unfold tkI
    by_cases hgt : g t = true
    · rw [if_pos hgt, hgt]
      refine ⟨fun q => ?_, fun q => by cases q⟩
      exfalso
      have hr := hD t ht _ (hdr_mem (hgl t ht hgt))
      cases hz : (hdr (mT A t)).1 with
      | nil => rw [hz] at q; exact absurd q (by decide)
      | cons j l => rw [hz] at q; exact nI_nm2 (n := j) (by have := (hr.2 j l hz).1; omega) q
    · rw [if_neg hgt]
      exact ⟨fun _ => by simpa using hgt, fun _ => rfl⟩
  obtain ⟨s7, e7, hms7, h72, f7⟩ : ∃ s7, (if ¬ (gi s6 m 0) = (nI 1) then (bv (fX1_endNumberedPhase E m s6) (fun s69 => some ((), s69))) else (bv (fX1_endBalancedPhase E m s6) (fun s71 => some ((), s71)))) = some ((), s7) ∧ MS s7 m w T bk nr (skn w T (T / 2) (mK A)).1 (tpn T (kto (mK A)) bk g (c, fl) (mT A)) L' H' ∧ gi s7 (m + 3) 2 = nI (mPh A + if (skn w T (T / 2) (mK A)).2 then 1 else 0) ∧ ∀ x k, ¬ esP m x k → gi s7 x k = gi s6 x k := by
    rw [hms6.1.1]
    by_cases hw1 : w = 1
    · subst hw1
      obtain ⟨s7, e7, q1, q2, q3⟩ := c_endB hL hms6 hT hT3 (show kto (mK A) < 6 by omega) h62
      rw [if_neg (by simp), e7, bv_ok]
      refine ⟨s7, rfl, ?_, ?_, q3⟩
      · unfold skn; dsimp only
        rw [if_pos rfl]
        by_cases hz : cntF (gvf 1 (T / 2) (skc 1 T (T / 2) (mK A), (mK A).2)) T = 0
        · rw [if_pos hz] at q1 ⊢; exact q1
        · rw [if_neg hz] at q1 ⊢; exact q1
      · rw [q2]
        unfold skn; dsimp only
        rw [if_pos rfl]
        by_cases hz : cntF (gvf 1 (T / 2) (skc 1 T (T / 2) (mK A), (mK A).2)) T = 0
        · rw [if_pos hz, if_pos hz]; rfl
        · rw [if_neg hz, if_neg hz]; rfl
    · obtain ⟨s7, e7, q1, q3⟩ := c_endN hL hms6 hT (show w = 0 ∨ w = 2 by omega) (show kto (mK A) < 6 by omega) hgs h62
      rw [if_pos (fun q => hw1 ((nI_eq (by omega) (by omega)).mp q)), e7, bv_ok]
      have hsk : skn w T (T / 2) (mK A) = match fstF (fun t => g t && ((skc w T (T / 2) (mK A)).getD t 0 == 0)) T with
        | none => ((skc w T (T / 2) (mK A), (mK A).2), false)
        | some e =>
          if w = 0 then ((skc w T (T / 2) (mK A), e, (mK A).2.2.1, klo (mK A)), true)
          else if cntF (gvf 2 (T / 2) (skc w T (T / 2) (mK A), e, tab (fun t => ko (mK A) t && !(t == e)) T, klo (mK A))) T < 2 then ((skc w T (T / 2) (mK A), e, tab (fun t => !((skc w T (T / 2) (mK A)).getD t 0 == 0) && !(t == e)) T, klo (mK A)), true)
          else ((skc w T (T / 2) (mK A), e, tab (fun t => ko (mK A) t && !(t == e)) T, klo (mK A)), true) := by
        rw [← hgd]; unfold skn; dsimp only; rw [if_neg hw1]; rfl
      rw [hsk]
      dsimp only at q1
      cases hf : fstF (fun t => g t && ((skc w T (T / 2) (mK A)).getD t 0 == 0)) T with
      | none =>
        rw [hf] at q1
        exact ⟨s7, rfl, q1.1, by rw [q1.2]; rfl, q3⟩
      | some e =>
        rw [hf] at q1
        dsimp only at q1 ⊢
        refine ⟨s7, rfl, ?_, ?_, q3⟩
        · have q := q1.1
          by_cases h0 : w = 0
          · rw [if_pos h0] at q ⊢; exact q
          · rw [if_neg h0] at q ⊢
            by_cases h2 : cntF (gvf 2 (T / 2) (skc w T (T / 2) (mK A), e, tab (fun t => ko (mK A) t && !(t == e)) T, klo (mK A))) T < 2
            · rw [if_pos h2] at q ⊢; exact q
            · rw [if_neg h2] at q ⊢; exact q
        · rw [q1.2, if_pos]
          split
          · rfl
          · split <;> rfl
  rw [e7, bd_ok]
  have hlf := lef_skn (w := w) (T := T) (h := T / 2) (s := mK A) o2 o3
  rw [hgd] at hlf
  have hlfp : 0 < lef T (skn w T (T / 2) (mK A)).1 := by
    have h1 : kc (skn w T (T / 2) (mK A)).1 (kto (mK A)) ≤ lef T (skn w T (T / 2) (mK A)).1 := sumF_pos (f := kc (skn w T (T / 2) (mK A)).1) o2
    have h2 : kc (skn w T (T / 2) (mK A)).1 (kto (mK A)) = kc (mK A) (kto (mK A)) + 1 := by
      show (skn w T (T / 2) (mK A)).1.1.getD _ 0 = _
      rw [skn_1, skc_at o2, if_pos rfl]
    omega
  have f76 : ∀ x k, ¬ esP m x k → gi s7 x k = gi s6 x k := f7
  have hRM : RMl s7 m w T bk gl nr (stp0 w T bk gl A) := by
    have hst : stp0 w T bk gl A = (tpn T (kto (mK A)) bk g (c, fl) (mT A), (skn w T (T / 2) (mK A)).1, mMo A + szl gl c, mSt A + 1, mPh A + (if (skn w T (T / 2) (mK A)).2 then 1 else 0), mTu A + sumF (tuF gl g (mT A) (bk && (ldD g (mT A) T == some true))) T) := by
      rw [← hfl, ← hc, ← hgd]; rfl
    rw [hst]
    refine ⟨L', H', hms7, fun t ht => ?_, fun t ht r hr => ?_, ?_, ?_, ?_, h72, ?_⟩
    · by_cases hz : L' t = 0
      · exact Or.inl hz
      · right
        rw [← hL'] at hz
        dsimp only at hz
        have hto : t ≠ kto (mK A) := fun q => hz (by rw [if_pos q])
        rw [if_neg hto] at hz
        by_cases htT : t < T
        · rw [if_pos htT] at hz
          unfold Ld at hz
          have hgt : g t = true := by
            by_cases hgt : g t = true
            · exact hgt
            · rw [if_neg hgt] at hz
              rcases hl0 t ht with q | ⟨q1, q2, q3⟩
              · exact absurd q hz
              · rw [← hgd]; exact gv_of q2 (by rw [hms.2.2.2 t htT]; exact q3)
          rw [if_pos hgt] at hz
          have hHL : H t - L t ≠ 1 := fun q => hz (by rw [if_pos q])
          have hlen : (mT A t).length = H t - L t := ((hms.2.2.1 t ht).2.2.2.2.1).symm
          have hlp := hgl t htT hgt
          have hnl : (tpn T (kto (mK A)) bk g (c, fl) (mT A) t).length = (mT A t).length - 1 := by
            unfold tpn; rw [if_neg hto, if_pos ⟨htT, hgt⟩, List.length_tail]
          refine ⟨htT, ?_, by show 0 < (tpn T (kto (mK A)) bk g (c, fl) (mT A) t).length; omega⟩
          show flg w (T / 2) (skn w T (T / 2) (mK A)).1 t = true
          have hct : (skc w T (T / 2) (mK A)).getD t 0 ≠ 0 := by
            have := hms6.2.2.2 t htT
            have e : kc (skc w T (T / 2) (mK A), (mK A).2) t = (skc w T (T / 2) (mK A)).getD t 0 := rfl
            omega
          have hfo : flg w (T / 2) (mK A) t = true := by rw [← hgd] at hgt; exact (gv_fl hgt).1
          unfold skn
          dsimp only
          by_cases hw1 : w = 1
          · subst hw1
            rw [if_pos rfl]
            have hf1 : (decide (t < T / 2) == klo (mK A)) = true := hfo
            have hcp : ¬ cntF (gvf 1 (T / 2) (skc 1 T (T / 2) (mK A), (mK A).2)) T = 0 := by
              intro q
              have := cntF_zero q t htT
              rw [gv_of (s := (skc 1 T (T / 2) (mK A), (mK A).2)) (by exact hf1) (by show 0 < (skc 1 T (T / 2) (mK A)).getD t 0; omega)] at this
              cases this
            rw [if_neg hcp]
            exact hf1
          · rw [if_neg hw1, hgd]
            have hne : ∀ e, fstF (fun t => g t && ((skc w T (T / 2) (mK A)).getD t 0 == 0)) T = some e → t ≠ e := by
              intro e he q
              subst q
              have := (fstF_some he).2.1
              simp only [Bool.and_eq_true, beq_iff_eq] at this
              exact hct this.2
            cases hf : fstF (fun t => g t && ((skc w T (T / 2) (mK A)).getD t 0 == 0)) T with
            | none =>
              dsimp only
              exact hfo
            | some e =>
              have hte := hne e hf
              dsimp only
              by_cases h0 : w = 0
              · subst h0
                rw [if_pos rfl]
                show (!(t == e)) = true
                simpa using hte
              · have h2 : w = 2 := by omega
                subst h2
                have hko : ko (mK A) t = true := hfo
                rw [if_neg (by decide)]
                by_cases hq : cntF (gvf 2 (T / 2) (skc 2 T (T / 2) (mK A), e, tab (fun t => ko (mK A) t && !(t == e)) T, klo (mK A))) T < 2
                · rw [if_pos hq]
                  show (tab (fun t => !((skc 2 T (T / 2) (mK A)).getD t 0 == 0) && !(t == e)) T).getD t false = true
                  rw [tab_at htT]
                  simp only [Bool.and_eq_true, Bool.not_eq_true', beq_eq_false_iff_ne]
                  exact ⟨hct, hte⟩
                · rw [if_neg hq]
                  show (tab (fun t => ko (mK A) t && !(t == e)) T).getD t false = true
                  rw [tab_at htT, hko]
                  simpa using hte
        · rw [if_neg htT] at hz
          rcases hl0 t ht with q | ⟨q1, q2, q3⟩
          · exact absurd q hz
          · exact absurd q1 htT
    · have old : ∀ t', t' < T → (if g t' = true then r ∈ (mT A t').tail else r ∈ mT A t') → RD s7 m gl nr r := by
        intro t' ht' hr'
        have hrm : r ∈ mT A t' := by
          by_cases q : g t' = true
          · rw [if_pos q] at hr'; exact List.mem_of_mem_tail hr'
          · rw [if_neg q] at hr'; exact hr'
        refine ⟨(hD t' ht' r hrm).1, fun i l hz => ?_⟩
        obtain ⟨q1, q2, q3⟩ := (hD t' ht' r hrm).2 i l hz
        have hni : ∀ i' l', c = i' :: l' → i ≠ i' := by
          intro i' l' hz' q
          subst q
          obtain ⟨_, t, w1, w2, w3⟩ := hchd i l' hz'
          refine dj_hd hdj w1 ht' (hgl t w1 w2) w3 (r := r) ?_ (by rw [hz]; simp)
          by_cases hte : t' = t
          · subst hte; rw [if_pos w2] at hr'; rw [if_pos rfl]; exact hr'
          · rw [if_neg hte]; exact hrm
        obtain ⟨q4, q5⟩ := n4 i hni
        have fr : ∀ x, x = m + 8 ∨ x = m + 9 → gi s7 x i = gi s4 x i := fun x hx => by rw [f76 _ _ (by unfold esP; omega), f6 _ _ (by omega) (by omega), f5 _ _ (by omega) (by omega)]
        refine ⟨q1, ?_, ?_⟩
        · rw [fr _ (Or.inl rfl), q4, f2 _ _ (by omega) (by omega) (by omega), f1 _ _ (by omega) (by omega)]; exact q2
        · rw [fr _ (Or.inr rfl), q5, f2 _ _ (by omega) (by omega) (by omega), f1 _ _ (by omega) (by omega)]; exact q3
      have hr : r ∈ tpn T (kto (mK A)) bk g (c, fl) (mT A) t := hr
      unfold tpn at hr
      by_cases hto : t = kto (mK A)
      · rw [if_pos hto] at hr
        rcases psh_mem hr with rfl | hr
        · refine ⟨hflc, fun i l hz => ?_⟩
          obtain ⟨q1, q2⟩ := c4 i l hz
          have fr : ∀ x, x = m + 8 ∨ x = m + 9 → gi s7 x i = gi s4 x i := fun x hx => by rw [f76 _ _ (by unfold esP; omega), f6 _ _ (by omega) (by omega), f5 _ _ (by omega) (by omega)]
          exact ⟨(hchd i l hz).1, by rw [fr _ (Or.inl rfl)]; exact q1, by rw [fr _ (Or.inr rfl)]; exact q2⟩
        · exact old t ht (by rw [if_neg (by rw [hto, hgto]; decide)]; exact hr)
      · rw [if_neg hto] at hr
        by_cases hgt : g t = true
        · rw [if_pos ⟨ht, hgt⟩] at hr
          exact old t ht (by rw [if_pos hgt]; exact hr)
        · rw [if_neg (fun q => hgt q.2)] at hr
          exact old t ht (by rw [if_neg hgt]; exact hr)
    · rw [f76 _ _ (by unfold esP; omega), ← hs6, gs_ne (by omega), gs_ne (by omega), gs_eq]
      show _ = nI (lef T (skn w T (T / 2) (mK A)).1)
      congr 1
      omega
    · rw [f76 _ _ (by unfold esP; omega), ← hs6, gs_ne (by omega), gs_eq]
    · rw [f76 _ _ (by unfold esP; omega), ← hs6, gs_eq]
    · rw [f76 _ _ (by unfold esP; omega)]; exact h63
  obtain ⟨s8, e8, r8, f8⟩ := c_turn hL hRM hT hn hN
  rw [e8, bv_ok]
  refine ⟨s8, rfl, r8, ?_, fun t ht => ?_, fun x k he => ?_⟩
  · rw [f8 _ _ (by omega) (by omega), f76 _ _ (by unfold esP; omega), f6 _ _ (by omega) (by omega), f5 _ _ (by omega) (by omega), h416]
  · rw [f8 _ _ (by omega) (by omega), f76 _ _ (by unfold esP; omega), f62 _ _ (by omega) (by omega) (by omega) (by omega) (by omega)]; exact lk4 t ht
  · unfold esA at he
    rcases he with he | ⟨rfl, he⟩
    · rw [f8 _ _ (by omega) (by omega), f76 _ _ (by unfold esP; omega), f62 _ _ (by omega) (by omega) (by omega) (by omega) (by omega), f1 _ _ (by omega) (by omega)]
    · rw [f8 _ _ (by omega) (by omega), f76 _ _ (by unfold esP; omega), h64 k he]
end AV
