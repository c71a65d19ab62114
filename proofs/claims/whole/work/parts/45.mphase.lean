/-! the reference's mill: phases -/
section MP
variable {E : En} {σ : Sg} {w T : Nat} {s : Sk}
theorem m_goesB (hM : LMod E) (hM2 : LMo2 E) (hk : MKm σ 1 T s) (hc : CTm σ T (skc 1 T (T / 2) s, s.2)) (hT : T ≤ 6) (hT3 : 3 ≤ T) (hto : kto s < T) (hf : flg 1 (T / 2) s (kto s) = false) {ph : Nat} (hp : gi σ 396 11 = nI ph) :
    ∃ s', fX7_goesOnBalanced E 395 σ = some s' ∧ MKm s' 1 T (skn 1 T (T / 2) s).1 ∧ gi s' 396 11 = nI (ph + if (skn 1 T (T / 2) s).2 then 1 else 0) ∧ ∀ x k, ¬ (x = 396 ∧ (k = 11 ∨ k = 13 ∨ (15 ≤ k ∧ k ≤ 17))) → gi s' x k = gi σ x k := by
  obtain ⟨k2, k3, k13, k17, b, v, hb, hv, k15, k16, kb'⟩ := hk
  obtain ⟨m0, m1, mz⟩ := id hM
  obtain ⟨n1, nz⟩ := id hM2
  have hfl : (decide (kto s < T / 2) == klo s) = false := hf
  unfold fX7_goesOnBalanced
  rw [tk_ok m0, m_tapes hM hM2, bd_ok, lt_ok, k2, i2, pk_div (by omega) (by omega) (by omega)]
  have hloop : fx (fun rec a => bX7_goesOnBalanced_11 E 395 (fun u0 u1 t => rec ((u0, u1), t)) a.1.1 a.1.2 a.2) FU (((1 : Int32), (0 : Int32)), σ) = some ((bI (cntF (gvf 1 (T / 2) (skc 1 T (T / 2) s, s.2)) T == 0), nI T), σ) := by
    refine for_tr T (fun i => ((bI (cntF (gvf 1 (T / 2) (skc 1 T (T / 2) s, s.2)) i == 0), nI i), σ)) (by show T < 1000000; omega) (fun i rec hi => ?_) (fun rec => ?_) rfl
    · obtain ⟨c1, c2⟩ := hc i hi
      dsimp only
      unfold bX7_goesOnBalanced_11
      rw [m_tapes hM hM2, bd_ok, k2, if_neg (nI_ge hi (by omega))]
      have e : cntF (gvf 1 (T / 2) (skc 1 T (T / 2) s, s.2)) (i + 1) = cntF (gvf 1 (T / 2) (skc 1 T (T / 2) s, s.2)) i + (if gvf 1 (T / 2) (skc 1 T (T / 2) s, s.2) i then 1 else 0) := rfl
      rw [e]
      have eg : gvf 1 (T / 2) (skc 1 T (T / 2) s, s.2) i = (!(kc (skc 1 T (T / 2) s, s.2) i == 0) && (decide (i < T / 2) == klo s)) := rfl
      rw [eg]
      cases hz : (cntF (gvf 1 (T / 2) (skc 1 T (T / 2) s, s.2)) i == 0) with
      | false =>
        rw [if_pos (by rfl), bd_ok, lt_ok, ad1]
        have hne : cntF (gvf 1 (T / 2) (skc 1 T (T / 2) s, s.2)) i ≠ 0 := by simpa using hz
        have : (cntF (gvf 1 (T / 2) (skc 1 T (T / 2) s, s.2)) i + (if (!(kc (skc 1 T (T / 2) s, s.2) i == 0) && (decide (i < T / 2) == klo s)) = true then 1 else 0) == 0) = false := by simp; omega
        rw [this]; rfl
      | true =>
        have hze : cntF (gvf 1 (T / 2) (skc 1 T (T / 2) s, s.2)) i = 0 := by simpa using hz
        rw [if_neg (by decide), dr_ok m1 n1.1, n1.2, show (17 : Int32) = nI 17 from rfl, ck_n (by omega) (by omega), nI_clamp (by omega), k17, m_inHalf hM hM2 (lo := klo s) k2 hT (by omega) rfl, bd_ok, hze]
        cases hq : (decide (i < T / 2) == klo s) with
        | false => rw [if_pos (by rfl), bd_ok, lt_ok, ad1, Bool.and_false]; rfl
        | true =>
          rw [if_neg (by decide), show (20 : Int32) = nI 20 from rfl, nI_add, ck_n (by omega) (by omega), nI_clamp (by omega), c1]
          by_cases hcz : kc (skc 1 T (T / 2) s, s.2) i = 0
          · rw [hcz, if_neg (by simp; rfl), bd_ok, lt_ok, ad1]; rfl
          · have hcz' : (kc (skc 1 T (T / 2) s, s.2) i == 0) = false := by simpa using hcz
            rw [if_pos (nI_ne0 (by omega) (by omega)), bd_ok, lt_ok, ad1, hcz']; rfl
    · unfold bX7_goesOnBalanced_11
      dsimp only
      rw [m_tapes hM hM2, bd_ok, k2, if_pos (nI_le (Nat.le_refl _) (by omega))]
  rw [hloop, bd_ok]
  dsimp only
  have hsk : skn 1 T (T / 2) s = if cntF (gvf 1 (T / 2) (skc 1 T (T / 2) s, s.2)) T = 0 then ((skc 1 T (T / 2) s, (if klo s then 0 else T / 2), s.2.2.1, !klo s), true)
    else ((skc 1 T (T / 2) s, (if (if klo s then T - 1 else T / 2 - 1) ≤ kto s then (if klo s then T / 2 else 0) else kto s + 1), s.2.2.1, klo s), false) := by unfold skn; rw [if_pos rfl]
  by_cases hz : cntF (gvf 1 (T / 2) (skc 1 T (T / 2) s, s.2)) T = 0
  · rw [hsk, if_pos hz, hz, if_neg (by decide), dr_ok m1 n1.1, n1.2, show (11 : Int32) = nI 11 from rfl, ck_n (by omega) (by omega), ck_n (by omega) (by omega), nI_clamp (by omega), hp, ad1, ss_ok, show (17 : Int32) = nI 17 from rfl, ck_n (by omega) (by omega), ck_n (by omega) (by omega), nI_clamp (by omega), gs_ne (by omega), k17, ss_ok, gs_eq, ck_n (by omega) (by omega), show (13 : Int32) = nI 13 from rfl]
    have e1 : (1 : Int32) - nI (if klo s then 0 else 1) = nI (if klo s then 1 else 0) := by cases klo s <;> rfl
    rw [e1]
    have e2 : ∀ s46 : Sg, (if ¬ nI (if klo s then 1 else 0) = 0 then (some ((0 : Int32), s46)) else (some (nI (T / 2), s46))) = some (nI (if klo s then 0 else T / 2), s46) := fun s46 => by cases klo s <;> rfl
    rw [e2, bd_ok, ck_n (by omega) (by omega), nI_clamp (by omega), ss_ok]
    refine ⟨_, rfl, ⟨?_, ?_, gs_eq, ?_, b, v, hb, hv, ?_, ?_, kb'⟩, ?_, fun x k q => ?_⟩
    · rw [gs_ne (by omega), gs_ne (by omega), gs_ne (by omega)]; exact k2
    · rw [gs_ne (by omega), gs_ne (by omega), gs_ne (by omega)]; exact k3
    · rw [gs_ne (by omega), gs_eq]; show nI _ = nI (if (!klo s) = true then 0 else 1); cases klo s <;> rfl
    · rw [gs_ne (by omega), gs_ne (by omega), gs_ne (by omega)]; exact k15
    · rw [gs_ne (by omega), gs_ne (by omega), gs_ne (by omega)]; exact k16
    · rw [gs_ne (by omega), gs_ne (by omega), gs_eq]; rfl
    · rw [gs_ne (by omega), gs_ne (by omega), gs_ne (by omega)]
  · have hz' : (cntF (gvf 1 (T / 2) (skc 1 T (T / 2) s, s.2)) T == 0) = false := by simpa using hz
    rw [hsk, if_neg hz, hz', if_pos (by rfl), dr_ok m1 n1.1, n1.2, show (17 : Int32) = nI 17 from rfl, ck_n (by omega) (by omega), nI_clamp (by omega), k17]
    have e1 : (if ¬ nI (if klo s then 0 else 1) = 0 then (some ((nI (T / 2) - (1 : Int32)), σ)) else (bd (fX7_tapes E 395 σ) (fun r32 s30 => some ((r32 - (1 : Int32)), s30)))) = some (nI (if klo s then T - 1 else T / 2 - 1), σ) := by
      rw [m_tapes hM hM2, bd_ok, k2, i1, sub_n (by omega), sub_n (by omega)]
      cases klo s <;> rfl
    rw [e1, bd_ok, show (13 : Int32) = nI 13 from rfl, ck_n (by omega) (by omega), nI_clamp (by omega), k13, ck_n (by omega) (by omega), ck_n (by omega) (by omega), k17]
    have hle : kto s ≤ (if klo s then T - 1 else T / 2 - 1) := by
      cases hl : klo s with
      | true => simp; omega
      | false =>
        rw [hl] at hfl
        have : kto s < T / 2 := by simpa using hfl
        simp; omega
    have e2 : (if ¬ nI (kto s) = nI (if klo s then T - 1 else T / 2 - 1) then (some ((nI (kto s) + (1 : Int32)), σ)) else (if ¬ nI (if klo s then 0 else 1) = 0 then (some ((0 : Int32), σ)) else (some (nI (T / 2), σ)))) = some (nI (if (if klo s then T - 1 else T / 2 - 1) ≤ kto s then (if klo s then T / 2 else 0) else kto s + 1), σ) := by
      have hb2 : (if klo s then T - 1 else T / 2 - 1) < 2 ^ 31 := by cases klo s <;> simp <;> omega
      by_cases hq : (if klo s then T - 1 else T / 2 - 1) ≤ kto s
      · rw [if_neg (fun z => z (by rw [Nat.le_antisymm hle hq])), if_pos hq]
        cases klo s <;> rfl
      · rw [if_pos (fun z => hq (by rw [(nI_eq (by omega) hb2).mp z]; exact Nat.le_refl _)), if_neg hq, ad1]
    rw [e2, bd_ok, ck_n (by omega) (by omega), ss_ok]
    refine ⟨_, rfl, ⟨?_, ?_, gs_eq, ?_, b, v, hb, hv, ?_, ?_, kb'⟩, ?_, fun x k q => ?_⟩
    · rw [gs_ne (by omega)]; exact k2
    · rw [gs_ne (by omega)]; exact k3
    · rw [gs_ne (by omega)]; exact k17
    · rw [gs_ne (by omega)]; exact k15
    · rw [gs_ne (by omega)]; exact k16
    · rw [gs_ne (by omega)]; exact hp
    · rw [gs_ne (by omega)]
theorem m_goesOn (hM : LMod E) (hM2 : LMo2 E) (hk : MKm σ w T s) (hc : CTm σ T (skc w T (T / 2) s, s.2)) (hT : T ≤ 6) (hT3 : 3 ≤ T) (hw : w ≤ 2) (hto : kto s < T) (hf : flg w (T / 2) s (kto s) = false) (htk : ∀ t, t < 6 → (gi σ 407 t = -1 ↔ (decide (t < T) && gvf w (T / 2) s t) = false)) {ph : Nat} (hp : gi σ 396 11 = nI ph) :
    ∃ s', fX7_goesOn E 395 σ = some s' ∧ MKm s' w T (skn w T (T / 2) s).1 ∧ gi s' 396 11 = nI (ph + if (skn w T (T / 2) s).2 then 1 else 0) ∧ ∀ x k, ¬ (x = 396 ∧ (k = 11 ∨ k = 13 ∨ (15 ≤ k ∧ k ≤ 17))) → gi s' x k = gi σ x k := by
  obtain ⟨m0, m1, mz⟩ := id hM
  obtain ⟨n1, nz⟩ := id hM2
  unfold fX7_goesOn
  rw [tk_ok m0, m_way hM hM2, bd_ok, hk.2.1]
  by_cases hw1 : w = 1
  · subst hw1
    obtain ⟨s', e, q⟩ := m_goesB hM hM2 hk hc hT hT3 hto hf hp
    rw [if_neg (by simp; rfl), e, bv_ok]
    exact ⟨s', rfl, q⟩
  · rw [i1, if_pos (fun q => hw1 ((nI_eq (by omega) (by omega)).mp q)), m_emptied hM hM2 hc hT htk, bd_ok]
    have hsk : skn w T (T / 2) s = match fstF (fun t => gvf w (T / 2) s t && ((skc w T (T / 2) s).getD t 0 == 0)) T with
      | none => ((skc w T (T / 2) s, s.2), false)
      | some e =>
        if w = 0 then ((skc w T (T / 2) s, e, s.2.2.1, klo s), true)
        else if cntF (gvf 2 (T / 2) (skc w T (T / 2) s, e, tab (fun t => ko s t && !(t == e)) T, klo s)) T < 2 then ((skc w T (T / 2) s, e, tab (fun t => !((skc w T (T / 2) s).getD t 0 == 0) && !(t == e)) T, klo s), true)
        else ((skc w T (T / 2) s, e, tab (fun t => ko s t && !(t == e)) T, klo s), true) := by unfold skn; rw [if_neg hw1]; rfl
    have hfe : (fun t => gvf w (T / 2) s t && (kc (skc w T (T / 2) s, s.2) t == 0)) = fun t => gvf w (T / 2) s t && ((skc w T (T / 2) s).getD t 0 == 0) := rfl
    rw [hfe]
    obtain ⟨k2, k3, k13, k17, b, v, hb, hv, k15, k16, kb'⟩ := id hk
    cases hfs : fstF (fun t => gvf w (T / 2) s t && ((skc w T (T / 2) s).getD t 0 == 0)) T with
    | none =>
      rw [show optI none = -1 from rfl, show (-nI 1 : Int32) = -1 from rfl, if_neg (by simp)]
      rw [show skn w T (T / 2) s = ((skc w T (T / 2) s, s.2), false) by rw [hsk, hfs]]
      exact ⟨σ, rfl, hk, hp, fun _ _ _ => rfl⟩
    | some e =>
      obtain ⟨q1, q2, q3⟩ := fstF_some hfs
      rw [show optI (some e) = nI e from rfl, show (-nI 1 : Int32) = -1 from rfl, if_pos (nI_nm1 (n := e) (by omega)), dr_ok m1 n1.1, n1.2, show (11 : Int32) = nI 11 from rfl, ck_n (by omega) (by omega), ck_n (by omega) (by omega), nI_clamp (by omega), hp, nI_add, ss_ok, show (13 : Int32) = nI 13 from rfl, ck_n (by omega) (by omega), nI_clamp (by omega), ss_ok, m_way hM hM2, bd_ok, gs_ne (by omega), gs_ne (by omega), k3]
      generalize hs2 : si (si σ 396 11 (nI (ph + 1))) 396 13 (nI e) = s2
      have f2 : ∀ x k, ¬ (x = 396 ∧ (k = 11 ∨ k = 13)) → gi s2 x k = gi σ x k := fun x k q => by rw [← hs2]; simp (disch := omega) only [i0, i1, i2, i3, i4, i5, i6, i7, i8, mle, mlt, meq, if_pos, if_neg, dr_s, tk_s, ck_m, nI_clamp, lt_ok, ss_ok, nI_add, pk_mul, sub_n, bd_ok, bv_ok, gs_ne, gs_eq]
      have g13 : gi s2 396 13 = nI e := by rw [← hs2]; simp (disch := omega) only [i0, i1, i2, i3, i4, i5, i6, i7, i8, mle, mlt, meq, if_pos, if_neg, dr_s, tk_s, ck_m, nI_clamp, lt_ok, ss_ok, nI_add, pk_mul, sub_n, bd_ok, bv_ok, gs_ne, gs_eq]
      have g11 : gi s2 396 11 = nI (ph + 1) := by rw [← hs2]; simp (disch := omega) only [i0, i1, i2, i3, i4, i5, i6, i7, i8, mle, mlt, meq, if_pos, if_neg, dr_s, tk_s, ck_m, nI_clamp, lt_ok, ss_ok, nI_add, pk_mul, sub_n, bd_ok, bv_ok, gs_ne, gs_eq]
      by_cases h0 : w = 0
      · subst h0
        rw [show skn 0 T (T / 2) s = ((skc 0 T (T / 2) s, e, s.2.2.1, klo s), true) by rw [hsk, hfs]; rfl]
        rw [if_neg (by simp; rfl)]
        refine ⟨s2, rfl, ⟨?_, ?_, g13, ?_, b, v, hb, hv, ?_, ?_, kb'⟩, g11, fun x k q => f2 x k (by omega)⟩
        · rw [f2 _ _ (by omega)]; exact k2
        · rw [f2 _ _ (by omega)]; exact k3
        · rw [f2 _ _ (by omega)]; exact k17
        · rw [f2 _ _ (by omega)]; exact k15
        · rw [f2 _ _ (by omega)]; exact k16
      · have hw2 : w = 2 := by omega
        subst hw2
        obtain ⟨⟨o1, o2⟩, o3⟩ := bt_or v hv e (by omega)
        rw [if_pos (by decide), show (16 : Int32) = nI 16 from rfl, ck_n (by omega) (by omega), ck_n (by omega) (by omega), nI_clamp (by omega), f2 _ _ (by omega), k16, show nI 1 = (1 : Int32) from rfl, o1, ss_ok]
        generalize hs3 : si s2 396 16 (nI (v ||| 2 ^ e)) = s3
        have f3 : ∀ x k, ¬ (x = 396 ∧ k = 16) → gi s3 x k = gi s2 x k := fun x k q => by rw [← hs3]; simp (disch := omega) only [i0, i1, i2, i3, i4, i5, i6, i7, i8, mle, mlt, meq, if_pos, if_neg, dr_s, tk_s, ck_m, nI_clamp, lt_ok, ss_ok, nI_add, pk_mul, sub_n, bd_ok, bv_ok, gs_ne, gs_eq]
        have g16 : gi s3 396 16 = nI (v ||| 2 ^ e) := by rw [← hs3]; simp (disch := omega) only [i0, i1, i2, i3, i4, i5, i6, i7, i8, mle, mlt, meq, if_pos, if_neg, dr_s, tk_s, ck_m, nI_clamp, lt_ok, ss_ok, nI_add, pk_mul, sub_n, bd_ok, bv_ok, gs_ne, gs_eq]
        have hk3 : MKm s3 2 T (skc 2 T (T / 2) s, e, tab (fun t => ko s t && !(t == e)) T, klo s) := by
          refine ⟨?_, ?_, ?_, ?_, b, v ||| 2 ^ e, hb, o2, ?_, g16, fun t ht => ?_⟩
          · rw [f3 _ _ (by omega), f2 _ _ (by omega)]; exact k2
          · rw [f3 _ _ (by omega), f2 _ _ (by omega)]; exact k3
          · rw [f3 _ _ (by omega)]; exact g13
          · rw [f3 _ _ (by omega), f2 _ _ (by omega)]; exact k17
          · rw [f3 _ _ (by omega), f2 _ _ (by omega)]; exact k15
          · show (tab (fun t => ko s t && !(t == e)) T).getD t false = _
            rw [tab_at ht, kb' t ht, bt_tb v hv e (by omega) t (by omega)]
            cases b.testBit t <;> cases v.testBit t <;> cases (t == e) <;> rfl
        have hc3 : CTm s3 T (skc 2 T (T / 2) s, e, tab (fun t => ko s t && !(t == e)) T, klo s) := fun t ht => by
          rw [f3 _ _ (by omega), f2 _ _ (by omega)]; exact hc t ht
        have hfe3 : flg 2 (T / 2) (skc 2 T (T / 2) s, e, tab (fun t => ko s t && !(t == e)) T, klo s) e = false := by
          show (tab (fun t => ko s t && !(t == e)) T).getD e false = false
          rw [tab_at q1]; simp
        have hloop : fx (fun rec a => bX7_goesOn_68 E 395 (fun u0 u1 t => rec ((u0, u1), t)) a.1.1 a.1.2 a.2) FU (((0 : Int32), (0 : Int32)), s3) = some ((nI (cntF (gvf 2 (T / 2) (skc 2 T (T / 2) s, e, tab (fun t => ko s t && !(t == e)) T, klo s)) T), nI T), s3) := by
          refine for_tr T (fun i => ((nI (cntF (gvf 2 (T / 2) (skc 2 T (T / 2) s, e, tab (fun t => ko s t && !(t == e)) T, klo s)) i), nI i), s3)) (by show T < 1000000; omega) (fun i rec hi => ?_) (fun rec => ?_) rfl
          · dsimp only
            unfold bX7_goesOn_68
            rw [m_tapes hM hM2, bd_ok, hk3.1, if_neg (nI_ge hi (by omega)), m_gives hM hM2 hk3 hc3 hT hT3 (by omega) q1 hfe3 (fun z => by cases z) (t := i) (by omega), bd_ok, m_truth, bd_ok, decide_eq_true hi, Bool.true_and, lt_ok, lt_ok, ad1]
            show _ = rec ((nI (cntF _ i + if gvf 2 (T / 2) (skc 2 T (T / 2) s, e, tab (fun t => ko s t && !(t == e)) T, klo s) i then 1 else 0), _), s3)
            cases gvf 2 (T / 2) (skc 2 T (T / 2) s, e, tab (fun t => ko s t && !(t == e)) T, klo s) i with
            | false => rw [if_pos (by rfl), i0, nI_add]; rfl
            | true => rw [if_neg (by decide), i1, nI_add]; rfl
          · unfold bX7_goesOn_68
            dsimp only
            rw [m_tapes hM hM2, bd_ok, hk3.1, if_pos (nI_le (Nat.le_refl _) (by omega))]
        have hcl := cntF_le (gvf 2 (T / 2) (skc 2 T (T / 2) s, e, tab (fun t => ko s t && !(t == e)) T, klo s)) T
        rw [hloop, bd_ok]
        dsimp only
        by_cases hq : cntF (gvf 2 (T / 2) (skc 2 T (T / 2) s, e, tab (fun t => ko s t && !(t == e)) T, klo s)) T < 2
        · obtain ⟨s4, b4, e4, p1, p2, p3, p4, p5⟩ := m_begPass hM hM2 hT hk3.1 hk3.2.2.1 (show e < 6 by omega) (c := fun t => (skc 2 T (T / 2) s).getD t 0) (fun t ht => ⟨(hc3 t ht).1, by have := (hc3 t ht).2; show kc (skc 2 T (T / 2) s, e, tab (fun t => ko s t && !(t == e)) T, klo s) t < _; omega⟩)
          rw [show skn 2 T (T / 2) s = ((skc 2 T (T / 2) s, e, tab (fun t => !((skc 2 T (T / 2) s).getD t 0 == 0) && !(t == e)) T, klo s), true) by rw [hsk, hfs]; dsimp only; rw [if_neg (by decide), if_pos hq]]
          rw [i2, if_neg (nI_ge hq (by omega)), e4, bv_ok, bd_ok]
          obtain ⟨z2, z3, z13, z17, _⟩ := hk3
          refine ⟨s4, rfl, ⟨?_, ?_, ?_, ?_, b4, 2 ^ e, p1, (bt_sh e (by omega)).2, p2, p3, fun t ht => ?_⟩, ?_, fun x k q => ?_⟩
          · rw [p5 _ _ (by omega)]; exact z2
          · rw [p5 _ _ (by omega)]; exact z3
          · rw [p5 _ _ (by omega)]; exact z13
          · rw [p5 _ _ (by omega)]; exact z17
          · show (tab (fun t => !((skc 2 T (T / 2) s).getD t 0 == 0) && !(t == e)) T).getD t false = _
            rw [tab_at ht, p4 t ht, bt_pw e (by omega) t (by omega)]
          · rw [p5 _ _ (by omega), f3 _ _ (by omega)]; exact g11
          · rw [p5 _ _ (by omega), f3 _ _ (by omega), f2 _ _ (by omega)]
        · rw [show skn 2 T (T / 2) s = ((skc 2 T (T / 2) s, e, tab (fun t => ko s t && !(t == e)) T, klo s), true) by rw [hsk, hfs]; dsimp only; rw [if_neg (by decide), if_neg hq]]
          rw [i2, if_pos (nI_le (by omega) (by omega)), bd_ok]
          refine ⟨s3, rfl, hk3, ?_, fun x k q => ?_⟩
          · rw [f3 _ _ (by omega)]; exact g11
          · rw [f3 _ _ (by omega), f2 _ _ (by omega)]
end MP
