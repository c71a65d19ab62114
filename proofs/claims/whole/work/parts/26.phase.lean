/-! a step of the class's mill: phases -/
section PH
variable {E : En} {m N w T nr : Nat} {σ : Sg} {bk : Bool} {s : Sk} {tp : Nat → List Rn} {L H : Nat → Nat} {gl : Nat → Nat}
theorem c_givers (hL : LMill E m N) (hms : MS σ m w T bk nr s tp L H) (hT : T ≤ 6) (hw : w ≤ 2) (hto : kto s < 6) : fX1_givers E m σ = some (nI (cntF (gvf w (T / 2) s) T), σ) := by
  unfold fX1_givers
  rw [tk_ok hL.1]
  have hb1 := hms.1.2.1
  refine bd_tr ((nI (cntF (gvf w (T / 2) s) T), nI T), σ) T (fun i => ((nI (cntF (gvf w (T / 2) s) i), nI i), σ)) (by show T < 1000000; omega) (fun i rec hi => ?_) (fun rec => ?_) rfl
  · unfold bX1_givers_4
    dsimp only
    rw [hb1, if_neg (nI_ge hi (by omega)), ms_gives hL hms hT hw hi hto, bd_ok]
    cases hg : gvf w (T / 2) s i with
    | true => rw [if_neg (show ¬ bI true = 0 by decide), lt_ok, bd_ok, lt_ok, ad1, ad1, show cntF (gvf w (T / 2) s) (i + 1) = cntF (gvf w (T / 2) s) i + 1 from by show _ + _ = _; rw [hg]; rfl]
    | false => rw [if_pos (show bI false = 0 by decide), bd_ok, lt_ok, ad1, show cntF (gvf w (T / 2) s) (i + 1) = cntF (gvf w (T / 2) s) i from by show _ + _ = _; rw [hg]; rfl]
  · unfold bX1_givers_4
    dsimp only
    rw [hb1, if_pos (nI_le (Nat.le_refl _) (by omega))]
def optI : Option Nat → Int32
  | none => -1
  | some e => nI e
theorem c_emptied (hL : LMill E m N) (hms : MS σ m w T bk nr s tp L H) (hT : T ≤ 6) {g : Nat → Bool} (htk : ∀ t, t < T → (gi σ (m + 4) t = -2 ↔ g t = false)) : fX1_emptiedTape E m σ = some (optI (fstF (fun t => g t && (kc s t == 0)) T), σ) := by
  obtain ⟨l0, l4, l10, l12, l13, l17, l18, l5, l6, a1, a2, a3, a4, a5, a7, a8, a9, ltp⟩ := id hL
  have hb1 := hms.1.2.1
  have body : ∀ i rec, i < T → bX1_emptiedTape_2 E m rec (nI i) σ = if (g i && (kc s i == 0)) = true then some (.inr (nI i), σ) else rec (nI (i + 1)) σ := by
    intro i rec hi
    obtain ⟨lt1, lt2⟩ := ltp i (by omega)
    obtain ⟨p1, p2, p3, p4, p5, p6⟩ := hms.2.2.1 i (by omega)
    have hc := hms.2.2.2 i hi
    unfold bX1_emptiedTape_2
    rw [hb1, if_neg (nI_ge hi (by omega)), dr_ok l13 a4.1, a4.2, ck_n (by omega) (by omega), nI_clamp (by omega)]
    by_cases hg : g i = false
    · rw [if_pos ((htk i hi).mpr hg), lt_ok, ad1, hg]; rfl
    · rw [if_neg (fun q => hg ((htk i hi).mp q)), dr_ok l4 a1.1, a1.2, ck_n (by omega) (by omega), dr_ok lt1 lt2.1, tape_size lt2 p1 p2 p3, bd_ok]
      have hg' : g i = true := by simpa using hg
      by_cases hz : kc s i = 0
      · rw [show H i - L i = 0 by omega, if_neg (by simp; rfl), hg', hz]; rfl
      · rw [if_pos (nI_ne0 (by omega) (by omega)), lt_ok, ad1, hg']
        have : (kc s i == 0) = false := by simpa using hz
        rw [this]; rfl
  unfold fX1_emptiedTape
  rw [tk_ok l0]
  cases hf : fstF (fun t => g t && (kc s t == 0)) T with
  | some e =>
    obtain ⟨q1, q2, q3⟩ := fstF_some hf
    refine bd_tr (Sum.inr (nI e), σ) e (fun i => (nI i, σ)) (by show e < 1000000; omega) (fun i rec hi => ?_) (fun rec => ?_) rfl
    · dsimp only; rw [body i _ (by omega), if_neg (by rw [q3 i hi]; decide)]
    · dsimp only; rw [body e _ q1, if_pos q2]
  | none =>
    have q3 := fstF_none hf
    refine bd_tr (Sum.inl (nI T), σ) T (fun i => (nI i, σ)) (by show T < 1000000; omega) (fun i rec hi => ?_) (fun rec => ?_) rfl
    · dsimp only; rw [body i _ (by omega), if_neg (by rw [q3 i hi]; decide)]
    · unfold bX1_emptiedTape_2
      dsimp only
      rw [hb1, if_pos (nI_le (Nat.le_refl _) (by omega))]
theorem c_openPass (hL : LMill E m N) (hms : MS σ m w T bk nr s tp L H) (hT : T ≤ 6) (hto : kto s < 6) : ∃ s', fX1_openPass E m σ = some s' ∧ (∀ t, t < T → gi s' (m + 2) t = bI (!(kc s t == 0) && !(t == kto s))) ∧ ∀ x k, x ≠ m + 2 → gi s' x k = gi σ x k := by
  obtain ⟨l0, l4, l10, l12, l13, l17, l18, l5, l6, a1, a2, a3, a4, a5, a7, a8, a9, ltp⟩ := id hL
  unfold fX1_openPass
  rw [tk_ok l0]
  refine bd_in T (fun i a => a.1 = nI i ∧ (∀ t, t < i → gi a.2 (m + 2) t = bI (!(kc s t == 0) && !(t == kto s))) ∧ ∀ x k, x ≠ m + 2 → gi a.2 x k = gi σ x k)
    (fun a => (∀ t, t < T → gi a.2 (m + 2) t = bI (!(kc s t == 0) && !(t == kto s))) ∧ ∀ x k, x ≠ m + 2 → gi a.2 x k = gi σ x k) (by show T < 1000000; omega) ⟨rfl, fun t ht => absurd ht (Nat.not_lt_zero t), fun _ _ _ => rfl⟩ ?_ ?_ (fun v s2 q => ⟨s2, rfl, q⟩)
  · rintro i ⟨v, s2⟩ rec hi ⟨rfl, f1, f2⟩
    dsimp only at f1 f2 ⊢
    obtain ⟨lt1, lt2⟩ := ltp i (by omega)
    obtain ⟨p1, p2, p3, p4, p5, p6⟩ := hms.2.2.1 i (by omega)
    have hc := hms.2.2.2 i hi
    have hb1 : gi s2 m 1 = nI T := by rw [f2 _ _ (by omega)]; exact hms.1.2.1
    have k9 : gi s2 m 9 = nI (kto s) := by rw [f2 _ _ (by omega)]; exact hms.2.1.1
    unfold bX1_openPass_2
    rw [hb1, if_neg (nI_ge hi (by omega)), dr_ok l10 a2.1, dr_ok l4 a1.1, a1.2, ck_n (by omega) (by omega), nI_clamp (by omega), dr_ok lt1 lt2.1, tape_size (σ := s2) lt2 (by rw [f2 _ _ (by omega)]; exact p1) (by rw [f2 _ _ (by omega)]; exact p2) p3, bd_ok, a2.2]
    have key : ∀ b, b = (!(kc s i == 0) && !(i == kto s)) → ∃ a', ck (nI i) 6 (ss (si s2 (m + 2) i (vp_nar .boolean (bI b))) (fun s17 => lt (nI i + (1 : Int32)) (fun v18 => rec (v18, s17)))) = rec a' ∧ (a'.1 = nI (i + 1) ∧ (∀ t, t < i + 1 → gi a'.2 (m + 2) t = bI (!(kc s t == 0) && !(t == kto s))) ∧ ∀ x k, x ≠ m + 2 → gi a'.2 x k = gi σ x k) := by
      intro b hb
      rw [ck_n (by omega) (by omega), ss_ok, lt_ok, ad1, nar_b]
      refine ⟨_, rfl, rfl, fun t ht => ?_, fun x k hx => ?_⟩
      · dsimp only
        by_cases hti : t = i
        · subst hti; rw [gs_eq, hb]
        · rw [gs_ne (by omega)]; exact f1 t (by omega)
      · dsimp only; rw [gs_ne (by omega)]; exact f2 x k hx
    by_cases hz : kc s i = 0
    · rw [show H i - L i = 0 by omega, if_pos (by decide), bd_ok]
      exact key false (by rw [hz]; rfl)
    · have hz' : (kc s i == 0) = false := by simpa using hz
      rw [if_neg (nI_nle (by omega) (by omega)), k9]
      by_cases hq : i = kto s
      · rw [if_pos (by rw [← hq]), bd_ok]
        exact key false (by rw [hz', ← hq]; simp)
      · have hq' : (i == kto s) = false := by simpa using hq
        rw [if_neg (fun q => hq ((nI_eq (by omega) (by omega)).mp q)), bd_ok]
        exact key true (by rw [hz', hq']; rfl)
  · rintro ⟨v, s2⟩ rec ⟨rfl, f1, f2⟩
    dsimp only at f1 f2 ⊢
    unfold bX1_openPass_2
    rw [f2 _ _ (by omega), hms.1.2.1, if_pos (nI_le (Nat.le_refl _) (by omega))]
    exact ⟨_, rfl, f1, f2⟩
theorem c_firstW (hL : LMill E m N) {b : Bool} {h : Nat} (h11 : gi σ m 11 = bI b) (h2 : gi σ m 2 = nI h) : fX1_firstToWrite E m σ = some (nI (if b then h else 0), σ) := by
  unfold fX1_firstToWrite
  rw [tk_ok hL.1, h11, h2]
  cases b <;> rfl
/-- cells that phases change -/
def esP (m x k : Nat) : Prop := (x = m ∧ (k = 9 ∨ k = 11)) ∨ x = m + 2 ∨ (x = m + 3 ∧ k = 2)
theorem c_endB (hL : LMill E m N) (hms : MS σ m 1 T bk nr s tp L H) (hT : T ≤ 6) (hT3 : 3 ≤ T) (hto : kto s < 6) {ph : Nat} (hp : gi σ (m + 3) 2 = nI ph) :
    ∃ s', fX1_endBalancedPhase E m σ = some s' ∧ MS s' m 1 T bk nr (if cntF (gvf 1 (T / 2) s) T = 0 then (s.1, (if klo s then 0 else T / 2), s.2.2.1, !klo s) else (s.1, (if (if klo s then T - 1 else T / 2 - 1) ≤ kto s then (if klo s then T / 2 else 0) else kto s + 1), s.2.2.1, klo s)) tp L H ∧ gi s' (m + 3) 2 = nI (ph + if cntF (gvf 1 (T / 2) s) T = 0 then 1 else 0) ∧ ∀ x k, ¬ esP m x k → gi s' x k = gi σ x k := by
  obtain ⟨l0, l4, l10, l12, l13, l17, l18, l5, l6, a1, a2, a3, a4, a5, a7, a8, a9, ltp⟩ := id hL
  obtain ⟨⟨b0, b1, b2, b3, b7⟩, ⟨k9, k11, ko'⟩, ht, hc⟩ := id hms
  have hcl := cntF_le (gvf 1 (T / 2) s) T
  unfold fX1_endBalancedPhase
  rw [tk_ok l0, c_givers hL hms hT (by omega) hto, bd_ok]
  by_cases hz : cntF (gvf 1 (T / 2) s) T = 0
  · rw [hz, if_neg (by simp; rfl), dr_ok l12 a3.1, a3.2, i2, ck_n (by omega) (by omega), ck_n (by omega) (by omega), nI_clamp (by omega), hp, ad1, ss_ok, gs_ne (by omega), k11]
    have : bd (if ¬ bI (klo s) = 0 then (some ((0 : Int32), si σ (m + 3) 2 (nI (ph + 1)))) else (some ((1 : Int32), si σ (m + 3) 2 (nI (ph + 1))))) (fun w16 s17 => kb w16 (ss (si s17 m 11 w16) (fun s19 => bd (fX1_firstToWrite E m s19) (fun r22 s20 => ss (si s20 m 9 r22) (fun s23 => some s23))))) = some (si (si (si σ (m + 3) 2 (nI (ph + 1))) m 11 (bI (!klo s))) m 9 (nI (if klo s then 0 else T / 2))) := by
      have h1 : (if ¬ bI (klo s) = 0 then (some ((0 : Int32), si σ (m + 3) 2 (nI (ph + 1)))) else (some ((1 : Int32), si σ (m + 3) 2 (nI (ph + 1))))) = some (bI (!klo s), si σ (m + 3) 2 (nI (ph + 1))) := by cases klo s <;> rfl
      rw [h1, bd_ok, kb_b, ss_ok, c_firstW hL (b := !klo s) (h := T / 2) gs_eq (by rw [gs_ne (by omega), gs_ne (by omega)]; exact b2), bd_ok, ss_ok]
      cases klo s <;> rfl
    rw [this]
    refine ⟨_, rfl, ⟨⟨?_, ?_, ?_, ?_, ?_⟩, ⟨gs_eq, ?_, fun t h => ?_⟩, fun t h => ?_, ?_⟩, ?_, fun x k h => ?_⟩
    · rw [gs_ne (by omega), gs_ne (by omega), gs_ne (by omega)]; exact b0
    · rw [gs_ne (by omega), gs_ne (by omega), gs_ne (by omega)]; exact b1
    · rw [gs_ne (by omega), gs_ne (by omega), gs_ne (by omega)]; exact b2
    · rw [gs_ne (by omega), gs_ne (by omega), gs_ne (by omega)]; exact b3
    · rw [gs_ne (by omega), gs_ne (by omega), gs_ne (by omega)]; exact b7
    · rw [gs_ne (by omega), gs_eq]; rfl
    · rw [gs_ne (by omega), gs_ne (by omega), gs_ne (by omega)]; exact ko' t h
    · exact tp_fr (ht t h) (fun k => by rw [gs_ne (by omega), gs_ne (by omega), gs_ne (by omega)]) (fun k => by rw [gs_ne (by omega), gs_ne (by omega), gs_ne (by omega)])
    · exact hc
    · rw [gs_ne (by omega), gs_ne (by omega), gs_eq]; rfl
    · unfold esP at h; rw [gs_ne (by omega), gs_ne (by omega), gs_ne (by omega)]
  · rw [if_pos (nI_ne0 (by omega) (by omega)), if_neg hz, if_neg hz]
    have hw4 : (if (gi σ m 11) = 0 then (some (((gi σ m 2) - (1 : Int32)), σ)) else (some (((gi σ m 1) - (1 : Int32)), σ))) = some (nI (if klo s then T - 1 else T / 2 - 1), σ) := by
      rw [k11, b1, b2, i1, sub_n (by omega), sub_n (by omega)]
      cases klo s <;> rfl
    rw [hw4, bd_ok, k9]
    have hw6 : (if nI (kto s) < nI (if klo s then T - 1 else T / 2 - 1) then (some ((nI (kto s) + (1 : Int32)), σ)) else (bd (fX1_firstToWrite E m σ) (fun r10 s8 => some (r10, s8)))) = some (nI (if (if klo s then T - 1 else T / 2 - 1) ≤ kto s then (if klo s then T / 2 else 0) else kto s + 1), σ) := by
      have hb : (if klo s then T - 1 else T / 2 - 1) < 2 ^ 31 := by cases klo s <;> simp <;> omega
      by_cases hq : (if klo s then T - 1 else T / 2 - 1) ≤ kto s
      · rw [if_neg (nI_nlt hq (by omega)), if_pos hq, c_firstW hL k11 b2, bd_ok]
      · rw [if_pos (nI_lt (by omega) hb), if_neg hq, ad1]
    rw [hw6, bd_ok, ss_ok]
    refine ⟨_, rfl, ⟨⟨?_, ?_, ?_, ?_, ?_⟩, ⟨gs_eq, ?_, fun t h => ?_⟩, fun t h => ?_, hc⟩, ?_, fun x k h => ?_⟩
    · rw [gs_ne (by omega)]; exact b0
    · rw [gs_ne (by omega)]; exact b1
    · rw [gs_ne (by omega)]; exact b2
    · rw [gs_ne (by omega)]; exact b3
    · rw [gs_ne (by omega)]; exact b7
    · rw [gs_ne (by omega)]; exact k11
    · rw [gs_ne (by omega)]; exact ko' t h
    · exact tp_fr (ht t h) (fun k => by rw [gs_ne (by omega)]) (fun k => by rw [gs_ne (by omega)])
    · rw [gs_ne (by omega)]; exact hp
    · unfold esP at h; rw [gs_ne (by omega)]
theorem gvf_to {w h e : Nat} {cs : List Nat} {to : Nat} {os : List Bool} {lo : Bool} {t : Nat} (hw : w = 2) : gvf w h (cs, to, os, lo) t = gvf 2 h (cs, e, os, lo) t := by subst hw; rfl
theorem c_endN (hL : LMill E m N) (hms : MS σ m w T bk nr s tp L H) (hT : T ≤ 6) (hw : w = 0 ∨ w = 2) (hto : kto s < 6) {g : Nat → Bool} (htk : ∀ t, t < T → (gi σ (m + 4) t = -2 ↔ g t = false)) {ph : Nat} (hp : gi σ (m + 3) 2 = nI ph) :
    ∃ s', fX1_endNumberedPhase E m σ = some s' ∧ (match fstF (fun t => g t && (kc s t == 0)) T with
      | none => MS s' m w T bk nr s tp L H ∧ gi s' (m + 3) 2 = nI ph
      | some e => MS s' m w T bk nr (if w = 0 then (s.1, e, s.2.2.1, klo s) else if cntF (gvf 2 (T / 2) (s.1, e, tab (fun t => ko s t && !(t == e)) T, klo s)) T < 2 then (s.1, e, tab (fun t => !(kc s t == 0) && !(t == e)) T, klo s) else (s.1, e, tab (fun t => ko s t && !(t == e)) T, klo s)) tp L H ∧ gi s' (m + 3) 2 = nI (ph + 1)) ∧ ∀ x k, ¬ esP m x k → gi s' x k = gi σ x k := by
  obtain ⟨l0, l4, l10, l12, l13, l17, l18, l5, l6, a1, a2, a3, a4, a5, a7, a8, a9, ltp⟩ := id hL
  unfold fX1_endNumberedPhase
  rw [tk_ok l0, c_emptied hL hms hT htk, bd_ok]
  cases hf : fstF (fun t => g t && (kc s t == 0)) T with
  | none =>
    rw [if_neg (by simp [optI])]
    exact ⟨σ, rfl, ⟨hms, hp⟩, fun _ _ _ => rfl⟩
  | some e =>
    obtain ⟨q1, q2, q3⟩ := fstF_some hf
    obtain ⟨⟨b0, b1, b2, b3, b7⟩, ⟨k9, k11, ko'⟩, ht, hc⟩ := id hms
    rw [show optI (some e) = nI e from rfl, if_pos (nI_nm1 (n := e) (by omega)), dr_ok l12 a3.1, a3.2, i2, ck_n (by omega) (by omega), ck_n (by omega) (by omega), nI_clamp (by omega), hp, ad1, ss_ok, ss_ok]
    generalize hs2 : si (si σ (m + 3) 2 (nI (ph + 1))) m 9 (nI e) = s2
    have f2 : ∀ x k, ¬ (x = m ∧ k = 9) → ¬ (x = m + 3 ∧ k = 2) → gi s2 x k = gi σ x k := fun x k h1 h2 => by rw [← hs2, gs_ne (by omega), gs_ne (by omega)]
    have f9 : gi s2 m 9 = nI e := by rw [← hs2, gs_eq]
    have fp : gi s2 (m + 3) 2 = nI (ph + 1) := by rw [← hs2, gs_ne (by omega), gs_eq]
    have mk : ∀ (s3 : Sg) (os : List Bool), (∀ x k, ¬ (x = m ∧ k = 9) → ¬ (x = m + 3 ∧ k = 2) → x ≠ m + 2 → gi s3 x k = gi σ x k) → gi s3 m 9 = nI e → (∀ t, t < T → gi s3 (m + 2) t = bI (os.getD t false)) → MS s3 m w T bk nr (s.1, e, os, klo s) tp L H := by
      intro s3 os h1 h2 h3
      refine ⟨⟨?_, ?_, ?_, ?_, ?_⟩, ⟨h2, ?_, h3⟩, fun t h => tp_fr (ht t h) (fun k => h1 _ _ (by omega) (by omega) (by omega)) (fun k => h1 _ _ (by omega) (by omega) (by omega)), hc⟩
      · rw [h1 _ _ (by omega) (by omega) (by omega)]; exact b0
      · rw [h1 _ _ (by omega) (by omega) (by omega)]; exact b1
      · rw [h1 _ _ (by omega) (by omega) (by omega)]; exact b2
      · rw [h1 _ _ (by omega) (by omega) (by omega)]; exact b3
      · rw [h1 _ _ (by omega) (by omega) (by omega)]; exact b7
      · rw [h1 _ _ (by omega) (by omega) (by omega)]; exact k11
    rw [f2 m 0 (by omega) (by omega), b0]
    rcases hw with rfl | rfl
    · rw [if_pos (by decide), bd_ok]
      refine ⟨_, rfl, ⟨?_, fp⟩, fun x k h => f2 x k (by unfold esP at h; omega) (by unfold esP at h; omega)⟩
      rw [if_pos rfl]
      exact mk s2 s.2.2.1 (fun x k h1 h2 _ => f2 x k h1 h2) f9 (fun t h => by rw [f2 _ _ (by omega) (by omega)]; exact ko' t h)
    · rw [if_neg (by decide), dr_ok l10 a2.1, a2.2, ck_n (by omega) (by omega), nI_clamp (by omega), ss_ok, show vp_nar .boolean (0 : Int32) = bI false by decide]
      generalize hs3 : si s2 (m + 2) e (bI false) = s3
      have f3 : ∀ x k, ¬ (x = m + 2 ∧ k = e) → gi s3 x k = gi s2 x k := fun x k h1 => by rw [← hs3, gs_ne (by omega)]
      have hms3 : MS s3 m 2 T bk nr (s.1, e, tab (fun t => ko s t && !(t == e)) T, klo s) tp L H := by
        refine mk s3 _ (fun x k h1 h2 h3 => by rw [f3 x k (by omega)]; exact f2 x k h1 h2) (by rw [f3 _ _ (by omega)]; exact f9) (fun t h => ?_)
        rw [tab_at h]
        by_cases hte : t = e
        · subst hte; rw [← hs3, gs_eq]; simp
        · have : (t == e) = false := by simpa using hte
          rw [f3 _ _ (by omega), f2 _ _ (by omega) (by omega), ko' t h, this]; simp
      have hcl := cntF_le (gvf 2 (T / 2) (s.1, e, tab (fun t => ko s t && !(t == e)) T, klo s)) T
      rw [c_givers hL hms3 hT (by omega) (show e < 6 by omega), bd_ok]
      by_cases hq : cntF (gvf 2 (T / 2) (s.1, e, tab (fun t => ko s t && !(t == e)) T, klo s)) T < 2
      · obtain ⟨s4, e1, e2, e3⟩ := c_openPass hL hms3 hT (show e < 6 by omega)
        rw [if_neg (nI_ge hq (by omega)), e1, bv_ok, bd_ok]
        refine ⟨_, rfl, ⟨?_, ?_⟩, fun x k h => ?_⟩
        · rw [if_neg (by decide), if_pos hq]
          refine mk s4 _ (fun x k h1 h2 h3 => by rw [e3 _ _ h3, f3 _ _ (by omega)]; exact f2 x k h1 h2) (by rw [e3 _ _ (by omega), f3 _ _ (by omega)]; exact f9) (fun t h => ?_)
          rw [tab_at h, e2 t h]
        · rw [e3 _ _ (by omega), f3 _ _ (by omega)]; exact fp
        · unfold esP at h; rw [e3 _ _ (by omega), f3 _ _ (by omega), f2 _ _ (by omega) (by omega)]
      · rw [if_pos (nI_le (by omega) (by omega)), bd_ok]
        refine ⟨_, rfl, ⟨by rw [if_neg (by decide), if_neg hq]; exact hms3, ?_⟩, fun x k h => ?_⟩
        · rw [f3 _ _ (by omega)]; exact fp
        · unfold esP at h; rw [f3 _ _ (by omega), f2 _ _ (by omega) (by omega)]
end PH
