/-! the reference's mill: who gives, phases -/
theorem bt_get : ∀ b, b < 64 → ∀ t, t < 6 → (nI b >>> (nI t &&& 31)) &&& 1 = bI (b.testBit t) := by decide +kernel
theorem bt_or : ∀ b, b < 64 → ∀ t, t < 6 → (nI b ||| ((1 : Int32) <<< (nI t &&& 31)) = nI (b ||| 2 ^ t) ∧ b ||| 2 ^ t < 64) ∧ nI b ||| ((0 : Int32) <<< (nI t &&& 31)) = nI b := by decide +kernel
theorem bt_sh : ∀ t, t < 6 → (1 : Int32) <<< (nI t &&& 31) = nI (2 ^ t) ∧ 2 ^ t < 64 := by decide +kernel
theorem bt_tb : ∀ b, b < 64 → ∀ t, t < 6 → ∀ u, u < 6 → (b ||| 2 ^ t).testBit u = (b.testBit u || (u == t)) := by decide +kernel
theorem bt_pw : ∀ t, t < 6 → ∀ u, u < 6 → (2 ^ t).testBit u = (u == t) := by decide +kernel
def MKm (σ : Sg) (w T : Nat) (s : Sk) : Prop := gi σ 396 2 = nI T ∧ gi σ 396 3 = nI w ∧ gi σ 396 13 = nI (kto s) ∧ gi σ 396 17 = nI (if klo s then 0 else 1) ∧ ∃ b v, b < 64 ∧ v < 64 ∧ gi σ 396 15 = nI b ∧ gi σ 396 16 = nI v ∧ ∀ t, t < T → ko s t = (b.testBit t && !(v.testBit t))
def CTm (σ : Sg) (T : Nat) (s : Sk) : Prop := ∀ t, t < T → gi σ 396 (20 + t) = nI (kc s t) ∧ kc s t ≤ 256
theorem mk_fr {σ σ' : Sg} {w T : Nat} {s : Sk} (h : MKm σ w T s) (hf : ∀ k, k = 2 ∨ k = 3 ∨ k = 13 ∨ (15 ≤ k ∧ k ≤ 17) → gi σ' 396 k = gi σ 396 k) : MKm σ' w T s := by
  obtain ⟨h1, h2, h3, h4, b, v, h5, h6, h7, h8, h9⟩ := h
  exact ⟨by rw [hf _ (by omega)]; exact h1, by rw [hf _ (by omega)]; exact h2, by rw [hf _ (by omega)]; exact h3, by rw [hf _ (by omega)]; exact h4, b, v, h5, h6, by rw [hf _ (by omega)]; exact h7, by rw [hf _ (by omega)]; exact h8, h9⟩
theorem ct_fr {σ σ' : Sg} {T : Nat} {s : Sk} (h : CTm σ T s) (hT : T ≤ 6) (hf : ∀ k, 20 ≤ k → k < 26 → gi σ' 396 k = gi σ 396 k) : CTm σ' T s := fun t ht => by rw [hf _ (by omega) (by omega)]; exact h t ht
section MC
variable {E : En} {σ : Sg} {w T : Nat} {s : Sk}
theorem m_inHalf (hM : LMod E) (hM2 : LMo2 E) {t hv : Nat} {lo : Bool} (h2 : gi σ 396 2 = nI T) (hT : T ≤ 6) (ht : t < 6) (hh : hv = if lo then 0 else 1) : fX7_isInHalf E 395 (nI t) (nI hv) σ = some (bI (decide (t < T / 2) == lo), σ) := by
  unfold fX7_isInHalf
  rw [tk_ok hM.1, m_tapes hM hM2, bd_ok, h2, i2, pk_div (by omega) (by omega) (by omega)]
  have e1 : (if nI (T / 2) ≤ nI t then (some ((0 : Int32), σ)) else (some ((1 : Int32), σ))) = some (bI (decide (t < T / 2)), σ) := by
    by_cases h : T / 2 ≤ t
    · rw [if_pos (nI_le h (by omega)), decide_eq_false (by omega)]; rfl
    · rw [if_neg (nI_ge (by omega) (by omega)), decide_eq_true (by omega)]; rfl
  rw [e1, bd_ok]
  have e2 : (if ¬ nI hv = 0 then (some ((0 : Int32), σ)) else (some ((1 : Int32), σ))) = some (bI lo, σ) := by
    subst hh; cases lo <;> rfl
  rw [e2, bd_ok]
  cases decide (t < T / 2) <;> cases lo <;> rfl
theorem m_gives (hM : LMod E) (hM2 : LMo2 E) (hk : MKm σ w T s) (hc : CTm σ T s) (hT : T ≤ 6) (hT3 : 3 ≤ T) (hw : w ≤ 2) (hto : kto s < T) (hf : flg w (T / 2) s (kto s) = false) (h0 : w = 0 → ∀ t, t < T → t ≠ kto s → 0 < kc s t) {t : Nat} (ht : t < 6) : fX7_doesGive E 395 (nI t) σ = some (bI (decide (t < T) && gvf w (T / 2) s t), σ) := by
  obtain ⟨k2, k3, k13, k17, b, v, hb, hv, k15, k16, kb'⟩ := hk
  unfold fX7_doesGive
  rw [tk_ok hM.1, dr_ok hM.2.1 hM2.1.1, hM2.1.2, show (13 : Int32) = nI 13 from rfl, ck_n (by omega) (by omega), nI_clamp (by omega), k13]
  by_cases h1 : t = kto s
  · rw [if_pos (by rw [h1]), h1, gv_no hf, Bool.and_false]; rfl
  · rw [if_neg (fun q => h1 ((nI_eq (by omega) (by omega)).mp q)), m_tapes hM hM2, bd_ok, k2, i1, sub_n (by omega), i0]
    by_cases h2 : t < T
    · rw [m_inN (by omega), bd_ok, if_pos (by decide), m_way hM hM2, bd_ok, k3, decide_eq_true h2, Bool.true_and]
      obtain ⟨c1, c2⟩ := hc t h2
      rcases (show w = 0 ∨ w = 1 ∨ w = 2 by omega) with rfl | rfl | rfl
      · rw [if_pos rfl]
        have := h0 rfl t h2 h1
        rw [gv_of (w := 0) (by show (!(t == kto s)) = true; simpa using h1) this]; rfl
      · rw [if_neg (by decide), if_pos rfl, show (17 : Int32) = nI 17 from rfl, ck_n (by omega) (by omega), nI_clamp (by omega), k17, m_inHalf hM hM2 (lo := klo s) k2 hT ht rfl, bd_ok]
        rw [show gvf 1 (T / 2) s t = (!(kc s t == 0) && (decide (t < T / 2) == klo s)) from rfl]
        cases hq : (decide (t < T / 2) == klo s) with
        | false => rw [if_pos (by rfl), bd_ok, kb_n0, Bool.and_false]; rfl
        | true =>
          rw [if_neg (by decide), show (20 : Int32) = nI 20 from rfl, nI_add, ck_n (by omega) (by omega), nI_clamp (by omega), c1, Bool.and_true]
          by_cases hz : kc s t = 0
          · rw [hz, if_pos (by decide), bd_ok, kb_n0]; rfl
          · have hz' : (kc s t == 0) = false := by simpa using hz
            rw [if_neg (show ¬ nI (kc s t) ≤ nI 0 from nI_nle (by omega) (by omega)), bd_ok, kb_n1, hz']; rfl
      · rw [if_neg (by decide), if_neg (by decide), show (15 : Int32) = nI 15 from rfl, ck_n (by omega) (by omega), nI_clamp (by omega), k15, show nI 1 = (1 : Int32) from rfl, bt_get b hb t ht]
        rw [show gvf 2 (T / 2) s t = (!(kc s t == 0) && ko s t) from rfl, kb' t h2]
        cases hq : b.testBit t with
        | false => rw [if_pos (by decide), bd_ok, kb_n0, Bool.false_and, Bool.and_false]; rfl
        | true =>
          rw [if_neg (by decide), show (16 : Int32) = nI 16 from rfl, ck_n (by omega) (by omega), nI_clamp (by omega), k16, bt_get v hv t ht, Bool.true_and]
          cases hq2 : v.testBit t with
          | true => rw [if_pos (by decide), bd_ok, kb_n0]; simp; rfl
          | false =>
            rw [if_neg (by decide), show (20 : Int32) = nI 20 from rfl, nI_add, ck_n (by omega) (by omega), nI_clamp (by omega), c1]
            by_cases hz : kc s t = 0
            · rw [hz, if_pos (by decide), bd_ok, kb_n0]; rfl
            · have hz' : (kc s t == 0) = false := by simpa using hz
              rw [if_neg (show ¬ nI (kc s t) ≤ nI 0 from nI_nle (by omega) (by omega)), bd_ok, kb_1, hz']; rfl
    · rw [m_inO (by omega), bd_ok, if_neg (by simp; rfl), decide_eq_false h2, Bool.false_and]; rfl
theorem fstF_ext {p : Nat → Bool} {m : Nat} : ∀ {n : Nat}, m ≤ n → (∀ t, m ≤ t → t < n → p t = false) → fstF p n = fstF p m
  | 0, h, _ => by rw [show m = 0 by omega]
  | n + 1, h, hp => by
    by_cases hm : m = n + 1
    · rw [hm]
    · have ih := fstF_ext (n := n) (by omega) (fun t h1 h2 => hp t h1 (by omega))
      have e : fstF p (n + 1) = match fstF p n with | some x => some x | none => if p n then some n else none := rfl
      rw [e, ih, hp n (by omega) (by omega)]
      cases fstF p m with
      | none => rfl
      | some e => rfl
theorem m_emptied (hM : LMod E) (hM2 : LMo2 E) (hc : CTm σ T s) (hT : T ≤ 6) {g : Nat → Bool} (htk : ∀ t, t < 6 → (gi σ 407 t = -1 ↔ (decide (t < T) && g t) = false)) : fX7_emptied E 395 σ = some (optI (fstF (fun t => g t && (kc s t == 0)) T), σ) := by
  obtain ⟨m0, m1, m2, m3, m4, m5, m6, m7, m8, m9, m10, m11, m12, mz⟩ := id hM
  obtain ⟨n1, n2, n3, n4, n5, n6, n7, n8, n9, n10, n11, n12, nz⟩ := id hM2
  have body : ∀ i rec, i < 6 → bX7_emptied_2 E 395 rec (nI i) σ = if (decide (i < T) && (g i && (kc s i == 0))) = true then some (.inr (nI i), σ) else rec (nI (i + 1)) σ := by
    intro i rec hi
    unfold bX7_emptied_2
    rw [i6, if_neg (nI_ge hi (by omega)), dr_ok m12 n12.1, n12.2, ck_n (by omega) (by omega), nI_clamp (by omega)]
    by_cases hg : (decide (i < T) && g i) = false
    · rw [if_pos ((htk i hi).mpr hg), lt_ok, ad1, if_neg]
      rw [← Bool.and_assoc, hg]; simp
    · have hg' : (decide (i < T) && g i) = true := by simpa using hg
      have hiT : i < T := by simp at hg'; exact hg'.1
      obtain ⟨c1, c2⟩ := hc i hiT
      rw [if_neg (fun q => hg ((htk i hi).mp q)), dr_ok m1 n1.1, n1.2, show (20 : Int32) = nI 20 from rfl, nI_add, ck_n (by omega) (by omega), nI_clamp (by omega), c1, ← Bool.and_assoc, hg', Bool.true_and]
      by_cases hz : kc s i = 0
      · rw [hz, if_neg (by simp; rfl), if_pos (by rfl)]
      · have hz' : (kc s i == 0) = false := by simpa using hz
        rw [if_pos (nI_ne0 (by omega) (by omega)), lt_ok, ad1, hz', if_neg (by decide)]
  unfold fX7_emptied
  rw [tk_ok m0]
  have he : fstF (fun t => decide (t < T) && (g t && (kc s t == 0))) 6 = fstF (fun t => g t && (kc s t == 0)) T := by
    rw [fstF_ext hT (fun t h1 h2 => by rw [decide_eq_false (by omega), Bool.false_and])]
    exact fstF_congr (fun t ht => by rw [decide_eq_true ht, Bool.true_and])
  rw [← he]
  cases hf : fstF (fun t => decide (t < T) && (g t && (kc s t == 0))) 6 with
  | some e =>
    obtain ⟨q1, q2, q3⟩ := fstF_some hf
    refine bd_tr (Sum.inr (nI e), σ) e (fun i => (nI i, σ)) (by show e < 1000000; omega) (fun i rec hi => ?_) (fun rec => ?_) rfl
    · dsimp only; rw [body i _ (by omega), if_neg (by rw [q3 i hi]; decide)]
    · dsimp only; rw [body e _ q1, if_pos q2]
  | none =>
    have q3 := fstF_none hf
    refine bd_tr (Sum.inl (nI 6), σ) 6 (fun i => (nI i, σ)) (by show 6 < 1000000; omega) (fun i rec hi => ?_) (fun rec => ?_) rfl
    · dsimp only; rw [body i _ (by omega), if_neg (by rw [q3 i hi]; decide)]
    · unfold bX7_emptied_2
      dsimp only
      rw [i6, if_pos (nI_le (Nat.le_refl _) (by omega))]
/-- a pass begins: bits -/
theorem m_begPass (hM : LMod E) (hM2 : LMo2 E) (hT : T ≤ 6) (h2 : gi σ 396 2 = nI T) {to : Nat} {c : Nat → Nat} (h13 : gi σ 396 13 = nI to) (hto : to < 6) (hc : ∀ t, t < T → gi σ 396 (20 + t) = nI (c t) ∧ c t < 2 ^ 31) :
    ∃ s' b, fX7_beginsPass E 395 σ = some s' ∧ b < 64 ∧ gi s' 396 15 = nI b ∧ gi s' 396 16 = nI (2 ^ to) ∧ (∀ t, t < T → b.testBit t = !(c t == 0)) ∧ ∀ x k, ¬ (x = 396 ∧ (k = 15 ∨ k = 16)) → gi s' x k = gi σ x k := by
  unfold fX7_beginsPass
  rw [tk_ok hM.1, dr_ok hM.2.1 hM2.1.1, hM2.1.2, show (15 : Int32) = nI 15 from rfl, ck_n (by omega) (by omega), nI_clamp (by omega), ss_ok]
  obtain ⟨⟨u, s2⟩, e2, b, g1, g2, g3, g4⟩ := for_in (F := fun (rec : Int32 × Sg → Option (Int32 × Sg)) (a : Int32 × Sg) => bX7_beginsPass_10 E 395 396 (fun u0 t => rec (u0, t)) a.1 a.2) T
    (fun i a => a.1 = nI i ∧ ∃ b, b < 64 ∧ gi a.2 396 15 = nI b ∧ (∀ t, t < 6 → b.testBit t = (decide (t < i) && !(c t == 0))) ∧ ∀ x k, ¬ (x = 396 ∧ k = 15) → gi a.2 x k = gi σ x k)
    (fun a => ∃ b, b < 64 ∧ gi a.2 396 15 = nI b ∧ (∀ t, t < 6 → b.testBit t = (decide (t < T) && !(c t == 0))) ∧ ∀ x k, ¬ (x = 396 ∧ k = 15) → gi a.2 x k = gi σ x k) (N := FU) (by show T < 1000000; omega)
    (by
      rintro i ⟨u, s2⟩ rec hi ⟨rfl, b, g1, g2, g3, g4⟩
      dsimp only at g2 g4 ⊢
      obtain ⟨c1, c2⟩ := hc i hi
      unfold bX7_beginsPass_10
      rw [m_tapes hM hM2, bd_ok, g4 396 2 (by omega), h2, if_neg (nI_ge hi (by omega)), hM2.1.2, show (15 : Int32) = nI 15 from rfl, ck_n (by omega) (by omega), show (20 : Int32) = nI 20 from rfl, nI_add, ck_n (by omega) (by omega), nI_clamp (by omega), g4 396 (20 + i) (by omega), c1]
      obtain ⟨⟨o1, o2⟩, o3⟩ := bt_or b g1 i (by omega)
      by_cases hz : c i = 0
      · rw [hz, if_pos (show nI 0 ≤ 0 by decide), bd_ok, m_truth, if_pos rfl, bd_ok, ck_n (by omega) (by omega), nI_clamp (by omega), g2, ss_ok, lt_ok, ad1, o3]
        refine ⟨_, rfl, rfl, b, g1, gs_eq, fun t ht => ?_, fun x k q => by dsimp only; rw [gs_ne (by omega)]; exact g4 x k q⟩
        rw [g3 t ht]
        by_cases hti : t = i
        · subst hti; rw [decide_eq_false (by omega), hz]; simp
        · by_cases hlt : t < i
          · rw [decide_eq_true hlt, decide_eq_true (by omega)]
          · rw [decide_eq_false hlt, decide_eq_false (by omega)]
      · rw [if_neg (nI_nle (by omega) (by omega)), bd_ok, m_truth, if_neg (by decide), bd_ok, ck_n (by omega) (by omega), nI_clamp (by omega), g2, ss_ok, lt_ok, ad1, o1]
        refine ⟨_, rfl, rfl, b ||| 2 ^ i, o2, gs_eq, fun t ht => ?_, fun x k q => by dsimp only; rw [gs_ne (by omega)]; exact g4 x k q⟩
        rw [bt_tb b g1 i (by omega) t ht, g3 t ht]
        by_cases hti : t = i
        · subst hti
          have hz' : (c t == 0) = false := by simpa using hz
          rw [decide_eq_true (show t < t + 1 by omega), hz']; simp
        · have hti' : (t == i) = false := by simpa using hti
          rw [hti', Bool.or_false]
          by_cases hlt : t < i
          · rw [decide_eq_true hlt, decide_eq_true (by omega)]
          · rw [decide_eq_false hlt, decide_eq_false (by omega)])
    (by
      rintro ⟨u, s2⟩ rec ⟨rfl, b, g1, g2, g3, g4⟩
      dsimp only at g2 g4 ⊢
      unfold bX7_beginsPass_10
      rw [m_tapes hM hM2, bd_ok, g4 396 2 (by omega), h2, if_pos (nI_le (Nat.le_refl _) (by omega))]
      exact ⟨_, rfl, b, g1, g2, g3, g4⟩)
    (a := ((0 : Int32), si σ 396 15 0)) ⟨rfl, 0, by omega, gs_eq, fun t ht => by rw [decide_eq_false (by omega)]; simp, fun x k q => by dsimp only; rw [gs_ne (by omega)]⟩
  dsimp only at g2 g4
  obtain ⟨o1, o2⟩ := bt_sh to hto
  rw [e2, bd_ok, show (13 : Int32) = nI 13 from rfl, ck_n (by omega) (by omega), show (16 : Int32) = nI 16 from rfl, ck_n (by omega) (by omega), nI_clamp (by omega), nI_clamp (by omega), g4 396 13 (by omega), h13, ss_ok, o1]
  refine ⟨_, b, rfl, g1, by rw [gs_ne (by omega)]; exact g2, gs_eq, fun t ht => ?_, fun x k q => ?_⟩
  · rw [g3 t (by omega), decide_eq_true ht, Bool.true_and]
  · rw [gs_ne (by omega)]; exact g4 x k (by omega)
end MC
