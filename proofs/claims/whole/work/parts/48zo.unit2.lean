/-! units: the reference's phases -/
theorem ugs_ok {w : Nat} {s : Sk} {sz : List Nat} : ∀ n, (ugs w s sz n).1 ≤ 2147483647 ∧ (∀ t, t < n → ugv w s t = true → (ugs w s sz n).1 ≤ kc s t) ∧ ∀ e, (ugs w s sz n).2.2 = some e → e < n ∧ ugv w s e = true ∧ (ugs w s sz n).1 ≤ kc s e
  | 0 => ⟨Nat.le_refl _, fun t ht => absurd ht (Nat.not_lt_zero t), fun e he => by cases he⟩
  | n + 1 => by
    obtain ⟨h1, h2, h3⟩ := ugs_ok (w := w) (s := s) (sz := sz) n
    unfold ugs
    by_cases hg : ugv w s n = true
    · rw [if_pos hg]
      dsimp only
      refine ⟨by omega, fun t ht hq => ?_, fun e he => ?_⟩
      · by_cases htn : t = n
        · subst htn; omega
        · have := h2 t (by omega) hq; omega
      · by_cases hl : kc s n < (ugs w s sz n).1
        · rw [if_pos hl] at he
          cases he
          exact ⟨by omega, hg, by omega⟩
        · rw [if_neg hl] at he
          obtain ⟨a1, a2, a3⟩ := h3 e he
          exact ⟨by omega, a2, by omega⟩
    · rw [if_neg hg]
      refine ⟨h1, fun t ht hq => ?_, fun e he => ?_⟩
      · by_cases htn : t = n
        · subst htn; exact absurd hq hg
        · exact h2 t (by omega) hq
      · obtain ⟨a1, a2, a3⟩ := h3 e he
        exact ⟨by omega, a2, a3⟩
def UB (σ : Sg) (w T : Nat) (s : Sk) : Prop := gi σ 396 2 = nI T ∧ gi σ 396 3 = nI w ∧ gi σ 395 23 = nI (kto s) ∧ kto s < T ∧ ∃ b v, b < 64 ∧ v < 64 ∧ gi σ 395 24 = nI b ∧ gi σ 395 25 = nI v ∧ ∀ t, t < T → ko s t = (b.testBit t && !(v.testBit t))
def UMs (σ : Sg) (w T : Nat) (s : Sk) (sz : List Nat) : Prop := UB σ w T s ∧ ∀ t, t < T → gi σ 411 t = nI (kc s t) ∧ kc s t ≤ 1000 ∧ gi σ 412 t = nI (sz.getD t 0)
theorem ub_fr {σ σ' : Sg} {w T : Nat} {s : Sk} (h : UB σ w T s) (hf : ∀ x k, x = 396 ∨ (x = 395 ∧ 23 ≤ k ∧ k ≤ 25) → gi σ' x k = gi σ x k) : UB σ' w T s := by
  obtain ⟨h1, h2, h3, h4, b, v, h5, h6, h7, h8, h9⟩ := h
  exact ⟨by rw [hf _ _ (by omega)]; exact h1, by rw [hf _ _ (by omega)]; exact h2, by rw [hf _ _ (by omega)]; exact h3, h4, b, v, h5, h6, by rw [hf _ _ (by omega)]; exact h7, by rw [hf _ _ (by omega)]; exact h8, h9⟩
section UN2
variable {E : En} {σ : Sg} {w T : Nat} {s : Sk} {sz : List Nat}
theorem m_gvU (hM : LMod E) (hM2 : LMo2 E) (hT : T ≤ 6) (hw : w = 0 ∨ w = 2) (h : UB σ w T s) {t : Nat} (ht : t < T) (hc : gi σ 411 t = nI (kc s t)) (hb : kc s t ≤ 1000) : fX7_givesUnits E 395 (nI t) σ = some (bI (ugv w s t), σ) := by
  obtain ⟨m0, m1, m2, m3, m4, m5, m6, m7, m8, m9, m10, m11, m12, m13, m14, m15, m16, m17, mz⟩ := id hM
  obtain ⟨n1, n2, n3, n4, n5, n6, n7, n8, n9, n10, n11, n12, n13, n14, n15, n16, n17, nz'⟩ := id hM2
  obtain ⟨h1, h2, h3, h4, b, v, h5, h6, h7, h8, h9⟩ := h
  have hko := h9 t ht
  unfold fX7_givesUnits ugv
  rw [tk_ok m0, h3]
  by_cases hto : t = kto s
  · rw [if_pos (by rw [hto]), bd_ok, if_pos rfl, bd_ok, kb_0, show (t == kto s) = true by simpa using hto]; rfl
  · rw [if_neg (fun q => hto ((nI_eq (by omega) (by omega)).mp q)), dr_ok m16 n16.1, n16.2, ck_n (by omega) (by omega), nI_clamp (by omega), hc, show (t == kto s) = false by simpa using hto]
    by_cases hz : kc s t = 0
    · rw [hz, if_pos (show nI 0 ≤ 0 by decide), bd_ok, if_pos rfl, bd_ok, kb_0]; rfl
    · rw [if_neg (show ¬ nI (kc s t) ≤ 0 from nI_ge (a := 0) (by omega) (by omega)), bd_ok, if_neg (by decide), m_way hM hM2, bd_ok, h2, show (kc s t == 0) = false by simpa using hz]
      rcases hw with rfl | rfl
      · rw [if_pos (show nI 0 = 0 from rfl), bd_ok, kb_1]; rfl
      · rw [if_neg (by decide), h7, h8, bt_get b h5 t (by omega), bt_get v h6 t (by omega), hko]
        cases b.testBit t <;> cases v.testBit t <;> rfl
theorem m_begU (hM : LMod E) (hM2 : LMo2 E) (hT : T ≤ 6) (h2 : gi σ 396 2 = nI T) {to : Nat} {c : Nat → Nat} (h23 : gi σ 395 23 = nI to) (hto : to < 6) (hc : ∀ t, t < T → gi σ 411 t = nI (c t) ∧ c t < 2 ^ 31) :
    ∃ s' b, fX7_beginsUnits E 395 σ = some s' ∧ b < 64 ∧ gi s' 395 24 = nI b ∧ gi s' 395 25 = nI (2 ^ to) ∧ (∀ t, t < T → b.testBit t = !(c t == 0)) ∧ ∀ x k, ¬ (x = 395 ∧ (k = 24 ∨ k = 25)) → gi s' x k = gi σ x k := by
  obtain ⟨m0, m1, m2, m3, m4, m5, m6, m7, m8, m9, m10, m11, m12, m13, m14, m15, m16, m17, mz⟩ := id hM
  obtain ⟨n1, n2, n3, n4, n5, n6, n7, n8, n9, n10, n11, n12, n13, n14, n15, n16, n17, nz'⟩ := id hM2
  unfold fX7_beginsUnits
  rw [tk_ok m0, ss_ok]
  obtain ⟨⟨u, s2⟩, e2, b, g1, g2, g3, g4⟩ := for_in (F := fun (rec : Int32 × Sg → Option (Int32 × Sg)) (a : Int32 × Sg) => bX7_beginsUnits_7 E 395 (fun u0 t => rec (u0, t)) a.1 a.2) T
    (fun i a => a.1 = nI i ∧ ∃ b, b < 64 ∧ gi a.2 395 24 = nI b ∧ (∀ t, t < 6 → b.testBit t = (decide (t < i) && !(c t == 0))) ∧ ∀ x k, ¬ (x = 395 ∧ k = 24) → gi a.2 x k = gi σ x k)
    (fun a => ∃ b, b < 64 ∧ gi a.2 395 24 = nI b ∧ (∀ t, t < 6 → b.testBit t = (decide (t < T) && !(c t == 0))) ∧ ∀ x k, ¬ (x = 395 ∧ k = 24) → gi a.2 x k = gi σ x k) (N := FU) (by show T < 1000000; omega)
    (by
      rintro i ⟨u, s2⟩ rec hi ⟨rfl, b, g1, g2, g3, g4⟩
      dsimp only at g2 g4 ⊢
      obtain ⟨c1, c2⟩ := hc i hi
      unfold bX7_beginsUnits_7
      rw [m_tapes hM hM2, bd_ok, g4 396 2 (by omega), h2, if_neg (nI_ge hi (by omega)), dr_ok m16 n16.1, n16.2, ck_n (by omega) (by omega), nI_clamp (by omega), g4 411 i (by omega), c1]
      obtain ⟨⟨o1, o2⟩, o3⟩ := bt_or b g1 i (by omega)
      by_cases hz : c i = 0
      · rw [hz, if_pos (show nI 0 ≤ 0 by decide), bd_ok, m_truth, if_pos rfl, bd_ok, g2, ss_ok, lt_ok, ad1, o3]
        refine ⟨_, rfl, rfl, b, g1, gs_eq, fun t ht => ?_, fun x k q => by dsimp only; rw [gs_ne (by omega)]; exact g4 x k q⟩
        rw [g3 t ht]
        by_cases hti : t = i
        · subst hti; rw [decide_eq_false (by omega), hz]; simp
        · by_cases hlt : t < i
          · rw [decide_eq_true hlt, decide_eq_true (by omega)]
          · rw [decide_eq_false hlt, decide_eq_false (by omega)]
      · rw [if_neg (show ¬ nI (c i) ≤ 0 from nI_ge (a := 0) (by omega) (by omega)), bd_ok, m_truth, if_neg (by decide), bd_ok, g2, ss_ok, lt_ok, ad1, o1]
        refine ⟨_, rfl, rfl, b ||| 2 ^ i, o2, gs_eq, fun t ht => ?_, fun x k q => by dsimp only; rw [gs_ne (by omega)]; exact g4 x k q⟩
        rw [bt_tb b g1 i (by omega) t ht, g3 t ht]
        by_cases hti : t = i
        · subst hti
          have hz' : (c t == 0) = false := by simpa using hz
          rw [decide_eq_true (show t < t + 1 by omega), hz']; simp
        · have hti' : (t == i) = false := by simpa using hti
          rw [hti', Bool.or_false]
          by_cases hlt : t < i
          · rw [decide_eq_true hlt, decide_eq_true (by omega)]
          · rw [decide_eq_false hlt, decide_eq_false (by omega)])
    (by
      rintro ⟨u, s2⟩ rec ⟨rfl, b, g1, g2, g3, g4⟩
      dsimp only at g2 g4 ⊢
      unfold bX7_beginsUnits_7
      rw [m_tapes hM hM2, bd_ok, g4 396 2 (by omega), h2, if_pos (nI_le (Nat.le_refl _) (by omega))]
      exact ⟨_, rfl, b, g1, g2, g3, g4⟩)
    (a := ((0 : Int32), si σ 395 24 0)) ⟨rfl, 0, by omega, gs_eq, fun t ht => by rw [decide_eq_false (by omega)]; simp, fun x k q => by dsimp only; rw [gs_ne (by omega)]⟩
  dsimp only at g2 g4
  obtain ⟨o1, o2⟩ := bt_sh to hto
  rw [e2, bd_ok, g4 395 23 (by omega), h23, ss_ok, o1]
  refine ⟨_, b, rfl, g1, by rw [gs_ne (by omega)]; exact g2, gs_eq, fun t ht => ?_, fun x k q => ?_⟩
  · rw [g3 t (by omega), decide_eq_true ht, Bool.true_and]
  · rw [gs_ne (by omega)]; exact g4 x k (by omega)
theorem m_goU (hM : LMod E) (hM2 : LMo2 E) (hT : T ≤ 6) (hw : w = 0 ∨ w = 2) (h : UMs σ w T s sz) {e : Nat} (he : (ugs w s sz T).2.2 = some e) :
    ∃ s', fX7_goesUnits E 395 σ = some (nI ((ugs w s sz T).1 * (ugs w s sz T).2.1), s') ∧ UMs s' w T (uSt w T s sz e) (usz T s sz (ugs w s sz T).2.1) ∧ ∀ x k, x ≠ 411 → x ≠ 412 → ¬ (x = 395 ∧ 23 ≤ k ∧ k ≤ 25) → gi s' x k = gi σ x k := by
  obtain ⟨m0, m1, m2, m3, m4, m5, m6, m7, m8, m9, m10, m11, m12, m13, m14, m15, m16, m17, mz⟩ := id hM
  obtain ⟨n1, n2, n3, n4, n5, n6, n7, n8, n9, n10, n11, n12, n13, n14, n15, n16, n17, nz'⟩ := id hM2
  obtain ⟨hb, hcs⟩ := h
  obtain ⟨h2, h3, h23, hto, b, v, h5, h6, h7, h8, h9⟩ := id hb
  obtain ⟨u1, u2, u3⟩ := ugs_ok (w := w) (s := s) (sz := sz) T
  obtain ⟨e1, e2, e3⟩ := u3 e he
  have hgv : ∀ t, t < T → fX7_givesUnits E 395 (nI t) σ = some (bI (ugv w s t), σ) := fun t ht => m_gvU hM hM2 hT hw hb ht (hcs t ht).1 (hcs t ht).2.1
  unfold fX7_goesUnits
  rw [tk_ok m0]
  have l1 : fx (fun rec a => bX7_goesUnits_11 E 395 (fun u0 u1 u2 u3 t => rec ((u0, u1, u2, u3), t)) a.1.1 a.1.2.1 a.1.2.2.1 a.1.2.2.2 a.2) FU (((2147483647 : Int32), (0 : Int32), (-1 : Int32), (0 : Int32)), σ) = some ((nI (ugs w s sz T).1, nI (ugs w s sz T).2.1, nI e, nI T), σ) := by
    have := for_tr (F := fun (rec : (Int32 × Int32 × Int32 × Int32) × Sg → Option ((Int32 × Int32 × Int32 × Int32) × Sg)) (a : (Int32 × Int32 × Int32 × Int32) × Sg) => bX7_goesUnits_11 E 395 (fun u0 u1 u2 u3 t => rec ((u0, u1, u2, u3), t)) a.1.1 a.1.2.1 a.1.2.2.1 a.1.2.2.2 a.2) (r := ((nI (ugs w s sz T).1, nI (ugs w s sz T).2.1, optI (ugs w s sz T).2.2, nI T), σ)) T (fun i => ((nI (ugs w s sz i).1, nI (ugs w s sz i).2.1, optI (ugs w s sz i).2.2, nI i), σ)) (N := FU) (by show T < 1000000; omega)
      (by
        intro i rec hi
        obtain ⟨w1, w2, w3⟩ := ugs_ok (w := w) (s := s) (sz := sz) i
        obtain ⟨c1, c2, c3⟩ := hcs i hi
        unfold bX7_goesUnits_11
        dsimp only
        rw [m_tapes hM hM2, bd_ok, h2, if_neg (nI_ge hi (by omega)), hgv i hi, bd_ok]
        have hs : ugs w s sz (i + 1) = if ugv w s i = true then (min (ugs w s sz i).1 (kc s i), (ugs w s sz i).2.1 + sz.getD i 0, if kc s i < (ugs w s sz i).1 then some i else (ugs w s sz i).2.2) else ugs w s sz i := rfl
        rw [hs]
        cases hq : ugv w s i with
        | false => rw [if_pos (show bI false = 0 from rfl), bd_ok, lt_ok, ad1, if_neg (by decide)]
        | true =>
          rw [if_neg (by decide), dr_ok m16 n16.1, n16.2, ck_n (by omega) (by omega), nI_clamp (by omega), c1, if_pos rfl]
          dsimp only
          by_cases hl : kc s i < (ugs w s sz i).1
          · rw [if_neg (nI_ge hl (by omega)), bd_ok, ck_n (by omega) (by omega), c1, imin_n (by omega) (by omega), lt_ok, dr_ok m17 n17.1, n17.2, ck_n (by omega) (by omega), c3, nI_add, lt_ok, bd_ok, lt_ok, ad1, if_pos hl]; rfl
          · rw [if_pos (nI_le (by omega) (by omega)), bd_ok, ck_n (by omega) (by omega), c1, imin_n (by omega) (by omega), lt_ok, dr_ok m17 n17.1, n17.2, ck_n (by omega) (by omega), c3, nI_add, lt_ok, bd_ok, lt_ok, ad1, if_neg hl])
      (by
        intro rec
        unfold bX7_goesUnits_11
        dsimp only
        rw [m_tapes hM hM2, bd_ok, h2, if_pos (nI_le (Nat.le_refl _) (by omega))])
      (a := (((2147483647 : Int32), (0 : Int32), (-1 : Int32), (0 : Int32)), σ)) rfl
    rw [he] at this
    exact this
  rw [l1, bd_ok, h23, lt_ok]
  generalize hp : (ugs w s sz T).1 = p at *
  generalize hq : (ugs w s sz T).2.1 = q at *
  dsimp only
  obtain ⟨⟨u, s2⟩, e4, g1, g2⟩ := for_in (F := fun (rec : Int32 × Sg → Option (Int32 × Sg)) (a : Int32 × Sg) => bX7_goesUnits_84 E 395 (nI p, nI q, nI e, nI T) (fun u0 t => rec (u0, t)) a.1 a.2) T
    (fun i a => a.1 = nI i ∧ (∀ t, t < T → gi a.2 411 t = nI (if t < i ∧ ugv w s t = true then kc s t - p else kc s t)) ∧ ∀ x k, x ≠ 411 → gi a.2 x k = gi σ x k)
    (fun a => (∀ t, t < T → gi a.2 411 t = nI (if ugv w s t = true then kc s t - p else kc s t)) ∧ ∀ x k, x ≠ 411 → gi a.2 x k = gi σ x k) (N := FU) (by show T < 1000000; omega)
    (by
      rintro i ⟨u, s2⟩ rec hi ⟨rfl, g1, g2⟩
      dsimp only at g1 g2 ⊢
      have c0 : gi s2 411 i = nI (kc s i) := by rw [g1 i hi, if_neg (by omega)]
      have hgi := m_gvU (σ := s2) hM hM2 hT hw (ub_fr hb (fun x k hx => g2 _ _ (by omega))) hi c0 (hcs i hi).2.1
      unfold bX7_goesUnits_84
      rw [m_tapes hM hM2, bd_ok, g2 396 2 (by omega), h2, if_neg (nI_ge hi (by omega)), dr_ok m16 n16.1, n16.2, ck_n (by omega) (by omega), nI_clamp (by omega), hgi, bd_ok, c0]
      have key : ∀ (y : Nat), y = (if ugv w s i = true then p else 0) → ∃ a', (ck (nI i) 6 (ss (si s2 411 i (nI (kc s i) - nI y)) (fun s48 => lt (nI i + (1 : Int32)) (fun v49 => rec (v49, s48))))) = rec a' ∧ (a'.1 = nI (i + 1) ∧ (∀ t, t < T → gi a'.2 411 t = nI (if t < i + 1 ∧ ugv w s t = true then kc s t - p else kc s t)) ∧ ∀ x k, x ≠ 411 → gi a'.2 x k = gi σ x k) := by
        intro y hy
        have hle : y ≤ kc s i := by
          rw [hy]
          split
          · next hz => exact u2 i hi hz
          · omega
        rw [ck_n (by omega) (by omega), ss_ok, lt_ok, ad1, sub_n hle]
        refine ⟨_, rfl, rfl, fun t ht => ?_, fun x k hx => by dsimp only; rw [gs_ne (by omega)]; exact g2 x k hx⟩
        dsimp only
        by_cases hti : t = i
        · subst hti
          rw [gs_eq, hy]
          by_cases hz : ugv w s t = true
          · rw [if_pos hz, if_pos ⟨by omega, hz⟩]
          · rw [if_neg hz, if_neg (fun z => hz z.2), Nat.sub_zero]
        · rw [gs_ne (by omega), g1 t ht, ifc (p := t < i ∧ ugv w s t = true) (q := t < i + 1 ∧ ugv w s t = true) ⟨fun z => ⟨by omega, z.2⟩, fun z => ⟨by omega, z.2⟩⟩]
      cases hz : ugv w s i with
      | false => rw [if_pos (show bI false = 0 from rfl), bd_ok]; exact key 0 (by rw [hz]; rfl)
      | true => rw [if_neg (by decide), bd_ok]; exact key p (by rw [hz]; rfl))
    (by
      rintro ⟨u, s2⟩ rec ⟨rfl, g1, g2⟩
      dsimp only at g1 g2 ⊢
      unfold bX7_goesUnits_84
      rw [m_tapes hM hM2, bd_ok, g2 396 2 (by omega), h2, if_pos (nI_le (Nat.le_refl _) (by omega))]
      exact ⟨_, rfl, fun t ht => by rw [g1 t ht, ifc (p := t < T ∧ ugv w s t = true) (q := ugv w s t = true) ⟨fun z => z.2, fun z => ⟨ht, z⟩⟩], g2⟩)
    (a := ((0 : Int32), σ)) ⟨rfl, fun t ht => by dsimp only; rw [if_neg (by omega)]; exact (hcs t ht).1, fun _ _ _ => rfl⟩
  dsimp only at g1 g2
  obtain ⟨⟨o1, o2⟩, _⟩ := bt_or v h6 e (by omega)
  rw [e4, bd_ok, dr_ok m16 n16.1, n16.2, ck_n (by omega) (by omega), nI_clamp (by omega), ss_ok, dr_ok m17 n17.1, n17.2, ck_n (by omega) (by omega), ss_ok, ss_ok, ss_ok]
  have hg25 : gi (si (si (si s2 411 (kto s) (nI p)) 412 (kto s) (nI q)) 395 23 (nI e)) 395 25 = nI v := by rw [gs_ne (by omega), gs_ne (by omega), gs_ne (by omega), g2 _ _ (by omega)]; exact h8
  rw [hg25, o1]
  generalize hs3 : si (si (si (si s2 411 (kto s) (nI p)) 412 (kto s) (nI q)) 395 23 (nI e)) 395 25 (nI (v ||| 2 ^ e)) = s3
  have f3 : ∀ x k, x ≠ 411 → x ≠ 412 → ¬ (x = 395 ∧ (k = 23 ∨ k = 25)) → gi s3 x k = gi σ x k := fun x k h1 h2 h3 => by rw [← hs3, gs_ne (by omega), gs_ne (by omega), gs_ne (by omega), gs_ne (by omega), g2 _ _ h1]
  have hpk : p ≤ 1000 := by have := (hcs e e1).2.1; omega
  have a411 : ∀ t, t < T → gi s3 411 t = nI ((ucs w T s p).getD t 0) ∧ (ucs w T s p).getD t 0 ≤ 1000 := fun t ht => by
    unfold ucs
    rw [tab_at ht, ← hs3, gs_ne (by omega), gs_ne (by omega), gs_ne (by omega)]
    have hc := (hcs t ht).2.1
    by_cases htt : t = kto s
    · subst htt; rw [gs_eq, if_pos rfl]; exact ⟨rfl, hpk⟩
    · rw [gs_ne (by omega), g1 t ht, if_neg htt]
      refine ⟨rfl, ?_⟩
      split <;> omega
  have a412 : ∀ t, t < T → gi s3 412 t = nI ((usz T s sz q).getD t 0) := fun t ht => by
    unfold usz
    rw [tab_at ht, ← hs3, gs_ne (by omega), gs_ne (by omega)]
    by_cases htt : t = kto s
    · subst htt; rw [gs_eq, if_pos rfl]
    · rw [gs_ne (by omega), gs_ne (by omega), g2 _ _ (by omega), if_neg htt]; exact (hcs t ht).2.2
  have hb3 : UB s3 w T (ucs w T s p, e, uop T s e, true) := by
    refine ⟨by rw [f3 _ _ (by omega) (by omega) (by omega)]; exact h2, by rw [f3 _ _ (by omega) (by omega) (by omega)]; exact h3, by rw [← hs3, gs_ne (by omega), gs_eq], e1, b, v ||| 2 ^ e, h5, o2, by rw [f3 _ _ (by omega) (by omega) (by omega)]; exact h7, by rw [← hs3, gs_eq], fun t ht => ?_⟩
    show (uop T s e).getD t false = _
    unfold uop
    rw [tab_at ht, h9 t ht, bt_tb v h6 e (by omega) t (by omega)]
    cases b.testBit t <;> cases v.testBit t <;> cases (t == e) <;> rfl
  have l3 : fx (fun rec a => bX7_goesUnits_162 E 395 (fun u0 u1 t => rec ((u0, u1), t)) a.1.1 a.1.2 a.2) FU (((0 : Int32), (0 : Int32)), s3) = some ((nI (cntF (ugv w (ucs w T s p, e, uop T s e, true)) T), nI T), s3) := by
    refine for_tr T (fun i => ((nI (cntF (ugv w (ucs w T s p, e, uop T s e, true)) i), nI i), s3)) (by show T < 1000000; omega) ?_ ?_ rfl
    · intro i rec hi
      unfold bX7_goesUnits_162
      dsimp only
      rw [m_tapes hM hM2, bd_ok, hb3.1, if_neg (nI_ge hi (by omega)), m_gvU hM hM2 hT hw hb3 hi (a411 i hi).1 (a411 i hi).2, bd_ok, m_truth, bd_ok, lt_ok, lt_ok, ad1]
      show rec ((nI _ + _, _), s3) = rec ((nI (_ + (if ugv w (ucs w T s p, e, uop T s e, true) i = true then 1 else 0)), _), s3)
      cases ugv w (ucs w T s p, e, uop T s e, true) i with
      | false => rw [if_pos (show bI false = 0 from rfl), if_neg (by decide)]; show rec ((nI _ + nI 0, _), s3) = _; rw [nI_add]
      | true => rw [if_neg (by decide), if_pos rfl]; show rec ((nI _ + nI 1, _), s3) = _; rw [nI_add]
    · intro rec
      unfold bX7_goesUnits_162
      dsimp only
      rw [m_tapes hM hM2, bd_ok, hb3.1, if_pos (nI_le (Nat.le_refl _) (by omega))]
  rw [l3, bd_ok]
  dsimp only
  have hcl := cntF_le (ugv w (ucs w T s p, e, uop T s e, true)) T
  unfold uSt
  rw [hp, pk_mul]
  by_cases hlt : cntF (ugv w (ucs w T s p, e, uop T s e, true)) T < 2
  · obtain ⟨s4, b4, z1, z2, z3, z4, z5, z6⟩ := m_begU (σ := s3) (to := e) (c := fun t => (ucs w T s p).getD t 0) hM hM2 hT hb3.1 hb3.2.2.1 (by omega) (fun t ht => ⟨(a411 t ht).1, by have := (a411 t ht).2; omega⟩)
    rw [if_neg (show ¬ (2 : Int32) ≤ nI (cntF (ugv w (ucs w T s p, e, uop T s e, true)) T) from nI_ge (b := 2) hlt (by omega)), z1, bv_ok, bd_ok, if_pos hlt]
    refine ⟨s4, rfl, ⟨⟨?_, ?_, ?_, e1, b4, 2 ^ e, z2, (bt_sh e (by omega)).2, z3, z4, fun t ht => ?_⟩, fun t ht => ?_⟩, fun x k y1 y2 y3 => ?_⟩
    · rw [z6 _ _ (by omega)]; exact hb3.1
    · rw [z6 _ _ (by omega)]; exact hb3.2.1
    · rw [z6 _ _ (by omega)]; exact hb3.2.2.1
    · show (opn T e (ucs w T s p)).getD t false = _
      unfold opn
      rw [tab_at ht, z5 t ht, bt_pw e (by omega) t (by omega)]
    · rw [z6 _ _ (by omega), z6 _ _ (by omega)]
      exact ⟨(a411 t ht).1, (a411 t ht).2, a412 t ht⟩
    · rw [z6 _ _ (by omega), f3 _ _ y1 y2 (by omega)]
  · rw [if_pos (show (2 : Int32) ≤ nI (cntF (ugv w (ucs w T s p, e, uop T s e, true)) T) from nI_le (a := 2) (by omega) (by omega)), bd_ok, if_neg hlt]
    exact ⟨s3, rfl, ⟨hb3, fun t ht => ⟨(a411 t ht).1, (a411 t ht).2, a412 t ht⟩⟩, fun x k y1 y2 y3 => f3 _ _ y1 y2 (by omega)⟩
theorem m_more (hM : LMod E) (hM2 : LMo2 E) (hT : T ≤ 6) (h : UMs σ w T s sz) : fX7_isMoreThanOne E 395 σ = some (bI (decide (¬ sumF (kc s) T ≤ 1)), σ) := by
  obtain ⟨m0, m1, m2, m3, m4, m5, m6, m7, m8, m9, m10, m11, m12, m13, m14, m15, m16, m17, mz⟩ := id hM
  obtain ⟨n1, n2, n3, n4, n5, n6, n7, n8, n9, n10, n11, n12, n13, n14, n15, n16, n17, nz'⟩ := id hM2
  obtain ⟨hb, hcs⟩ := h
  have hsm : lef T s ≤ 1000 * T := lef_lt (fun t ht => (hcs t ht).2.1)
  unfold lef at hsm
  have hbd : sumF (kc s) T ≤ 6000 := Nat.le_trans hsm (by omega)
  unfold fX7_isMoreThanOne
  rw [tk_ok m0]
  have l1 : fx (fun rec a => bX7_isMoreThanOne_4 E 395 (fun u0 u1 t => rec ((u0, u1), t)) a.1.1 a.1.2 a.2) FU (((0 : Int32), (0 : Int32)), σ) = some ((nI (sumF (kc s) T), nI T), σ) := by
    refine for_tr T (fun i => ((nI (sumF (kc s) i), nI i), σ)) (by show T < 1000000; omega) ?_ ?_ rfl
    · intro i rec hi
      unfold bX7_isMoreThanOne_4
      dsimp only
      rw [m_tapes hM hM2, bd_ok, hb.1, if_neg (nI_ge hi (by omega)), dr_ok m16 n16.1, n16.2, ck_n (by omega) (by omega), nI_clamp (by omega), (hcs i hi).1, nI_add, lt_ok, lt_ok, ad1]
      rfl
    · intro rec
      unfold bX7_isMoreThanOne_4
      dsimp only
      rw [m_tapes hM hM2, bd_ok, hb.1, if_pos (nI_le (Nat.le_refl _) (by omega))]
  rw [l1, bd_ok]
  dsimp only
  by_cases hq : sumF (kc s) T ≤ 1
  · rw [if_pos (show nI (sumF (kc s) T) ≤ 1 from nI_le (b := 1) hq (by omega)), bd_ok, kb_0, decide_eq_false (fun z => z hq)]; rfl
  · rw [if_neg (show ¬ nI (sumF (kc s) T) ≤ 1 from nI_ge (a := 1) (by omega) (by omega)), bd_ok, kb_1, decide_eq_true hq]; rfl
end UN2
section UR
variable {E : En} {w T : Nat}
theorem m_uRun (hM : LMod E) (hM2 : LMo2 E) (hT : T ≤ 6) (hw : w = 0 ∨ w = 2) {r : Nat} : ∀ (f N : Nat) (σ : Sg) (s : Sk) (sz : List Nat) (m : Nat), f < N → UMs σ w T s sz → uRun w T f s sz m = some r → ∃ s', fx (fun rec a => bX7_units_89 E 395 (fun u0 t => rec (u0, t)) a.1 a.2) N (nI m, σ) = some (nI r, s') ∧ ∀ x k, x ≠ 411 → x ≠ 412 → ¬ (x = 395 ∧ 23 ≤ k ∧ k ≤ 25) → gi s' x k = gi σ x k
  | 0, 0, _, _, _, _, h, _, _ => by omega
  | 0, N + 1, σ, s, sz, m, _, hu, hr => by
    unfold uRun at hr
    by_cases hq : sumF (kc s) T ≤ 1
    · rw [if_pos hq] at hr
      rw [fx_1]
      dsimp only
      unfold bX7_units_89
      rw [m_more hM hM2 hT hu, bd_ok, decide_eq_false (fun z => z hq), if_pos (show bI false = 0 from rfl)]
      exact ⟨σ, by rw [Option.some.inj hr], fun _ _ _ _ _ => rfl⟩
    · rw [if_neg hq] at hr; cases hr
  | f + 1, 0, _, _, _, _, h, _, _ => by omega
  | f + 1, N + 1, σ, s, sz, m, hN, hu, hr => by
    unfold uRun at hr
    rw [fx_1]
    dsimp only
    unfold bX7_units_89
    rw [m_more hM hM2 hT hu, bd_ok]
    by_cases hq : sumF (kc s) T ≤ 1
    · rw [if_pos hq] at hr
      rw [decide_eq_false (fun z => z hq), if_pos (show bI false = 0 from rfl)]
      exact ⟨σ, by rw [Option.some.inj hr], fun _ _ _ _ _ => rfl⟩
    · rw [if_neg hq] at hr
      rw [decide_eq_true hq, if_neg (by decide)]
      cases he : (ugs w s sz T).2.2 with
      | none => rw [he] at hr; cases hr
      | some e =>
        rw [he] at hr
        obtain ⟨s', e1, q1, q2⟩ := m_goU hM hM2 hT hw hu he
        rw [e1, bd_ok, lt_ok, nI_add]
        obtain ⟨s'', e2, q3⟩ := m_uRun hM hM2 hT hw f N s' _ _ _ (by omega) q1 hr
        exact ⟨s'', e2, fun x k h1 h2 h3 => by rw [q3 _ _ h1 h2 h3, q2 _ _ h1 h2 h3]⟩
end UR
