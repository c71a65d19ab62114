/-! the reference goes through a plan -/
def unl (sd : Nat → List Nat) : Nat → List (List Nat)
  | 0 => []
  | n + 1 => addU (unl sd n) (sd n)
theorem unl_len {sd : Nat → List Nat} : ∀ n, (unl sd n).length ≤ n
  | 0 => Nat.le_refl _
  | n + 1 => by
    have := unl_len (sd := sd) n
    unfold unl addU
    split
    · omega
    · rw [List.length_append, List.length_singleton]; omega
def sdI (w T nr i : Nat) : List Nat := sdS T (ski w T (skA w T nr) i)
noncomputable def plA (w T : Nat) (bk : Bool) (c : Cu) (j : Nat) : Int32 := match j with
  | 0 => nI (mMo (mil w T bk (frC c) (tuC c) (glC c) (nrC c) (kst w T (nrC c))))
  | 1 => nI (mSt (mil w T bk (frC c) (tuC c) (glC c) (nrC c) (kst w T (nrC c))))
  | 2 => nI (mPh (mil w T bk (frC c) (tuC c) (glC c) (nrC c) (kst w T (nrC c))))
  | 3 => nI (mTu (mil w T bk (frC c) (tuC c) (glC c) (nrC c) (kst w T (nrC c))))
  | 4 => nI (dmN w T (nrC c))
  | _ => lvI w T (nrC c)
section SPT
variable {MG MM : (Nat → Int32) → Cu → Prop} {a : Ab}
/-- a call that lays the row back as it was -/
theorem spm_t {f : Sg → Option (Int32 × Sg)} {r : Int32} (H : ∀ σ, RM MG MM σ a → ∃ s, f σ = some (r, s) ∧ (∀ k, k < 7827 → gi s 396 k = gi σ 396 k) ∧ (∀ x k, esM x k → x ≠ 396 → gi s x k = gi σ x k) ∧ ∀ x k, x < 395 → gi s x k = gi σ x k) : SpM MG MM f r a a := by
  intro σ hc
  obtain ⟨s, e, h0, h, h2⟩ := H σ hc
  refine ⟨s, e, ?_, h2⟩
  obtain ⟨h1, h2, h3, h4, h5⟩ := hc
  have e7 : rw7 s 396 0 = rw7 σ 396 0 := by
    funext k
    unfold rw7
    split
    · rw [Nat.zero_add]; exact h0 k (by assumption)
    · rfl
  refine ⟨(h _ _ (by unfold esM; omega) (by omega)).trans h1, fun i hi => by rw [h 400 i (by unfold esM; omega) (by omega)]; exact h2 i hi, ?_, ?_, ?_⟩
  · rw [e7]; exact h3
  · exact hm_same h4 (h _ _ (by unfold esM; omega) (by omega)) (fun k => h _ _ (by unfold esM; omega) (by omega))
  · exact sm_same h5 (h _ _ (by unfold esM; omega) (by omega)) (fun k => h _ _ (by unfold esM; omega) (by omega))
end SPT
def esTh (x k : Nat) : Prop := x ≠ 396 ∧ x ≠ 397 ∧ ¬ (403 ≤ x ∧ x ≤ 410) ∧ ¬ (x = 395 ∧ (k = 15 ∨ k = 20))
section TH
variable {E : En} {σ : Sg} {c : Cu} {x : Nat}
theorem rmm_ct {F ro gl : Nat → Nat} {n nr w T : Nat} {bk : Bool} {A : Mi} (hT : T ≤ 6) (ha : AI T nr A) (h : RMm σ F n ro gl w T bk A) : CTm σ T (mK A) := by
  obtain ⟨X, h1, h2⟩ := h.2.1
  exact xm_ct hT h2.1 h1 ha
theorem m_through (hM : LMod E) (hM2 : LMo2 E) (hw : Wf c) (h1 : 1 ≤ cT c) {w T b : Nat} (hg : Gok w T (nrC c)) (hb : b ≤ 1) (h : MR MG' MM' (rw7 σ 396 0) c x) {j : Nat} (hj : j ≤ 5) :
    ∃ s, fX7_goesThrough E 395 (nI w) (nI T) (nI b) (nI j) σ = some (plA w T (b == 1) c j, s) ∧ gi s 395 20 = nI (unl (sdI w T (nrC c)) (kst w T (nrC c) + 1)).length ∧ (∀ k, k < 7827 → gi s 396 k = gi σ 396 k) ∧ ∀ x k, esTh x k → gi s x k = gi σ x k := by
  obtain ⟨m0, m1, m2, mz⟩ := id hM
  obtain ⟨n1, n2, nz'⟩ := id hM2
  have hn := hw.1
  have h0 := hw.2.2.2.2.1 h1
  obtain ⟨k1, k2, k3, k4, k5⟩ := mr_g hn h
  have kg := mr_mg hw h h1
  obtain ⟨hw2, hT3, hT, hn1, _, hcap, hgd⟩ := id hg
  have hK : kst w T (nrC c) ≤ 699 := hgd.1
  obtain ⟨r1, r2⟩ := nr_c hw h0
  have hgv := gv_c hw h0
  obtain ⟨s2, e2, f2⟩ := mkeep (σ := σ) (off := 0) hM hM2 n2 (by omega) (by omega) (by omega)
  unfold fX7_goesThrough
  rw [tk_ok m0, dr_ok m2 n2.1, show (0 : Int32) = nI 0 from rfl, e2, bv_ok, dr_ok m1 n1.1, n1.2, i2, i3, i5, ck_n (by omega) (by omega), ss_ok, ck_n (by omega) (by omega), ss_ok, ck_n (by omega) (by omega), ss_ok, ss_ok, nI_clamp (by omega), nI_clamp (by omega), nI_clamp (by omega)]
  generalize hs4 : si (si (si (si s2 396 2 (nI T)) 396 3 (nI w)) 396 5 (nI b)) 395 20 (nI 0) = s4
  have f4 : ∀ k, k ≠ 2 → k ≠ 3 → k ≠ 5 → gi s4 396 k = gi σ 396 k := fun k q1 q2 q3 => by rw [← hs4, gs_ne (by omega), gs_ne (by omega), gs_ne (by omega), gs_ne (by omega), f2, if_neg (by omega)]
  have f4' : ∀ x k, x ≠ 396 → x ≠ 397 → ¬ (x = 395 ∧ k = 20) → gi s4 x k = gi σ x k := fun x k q1 q2 q3 => by rw [← hs4, gs_ne (by omega), gs_ne (by omega), gs_ne (by omega), gs_ne (by omega), f2, if_neg (by omega)]
  have g397 : ∀ k, k < 7827 → gi s4 397 k = gi σ 396 k := fun k hk => by rw [← hs4, gs_ne (by omega), gs_ne (by omega), gs_ne (by omega), gs_ne (by omega), f2, if_pos (by omega), Nat.sub_zero]
  have hsr : SR s4 (cF c) (cN c) w T (b == 1) := by
    refine ⟨by rw [f4 _ (by omega) (by omega) (by omega)]; exact k1, ?_, ?_, ?_, fun i hi => by rw [f4 _ (by omega) (by omega) (by omega)]; exact k2 i hi⟩
    · rw [← hs4, gs_ne (by omega), gs_ne (by omega), gs_ne (by omega), gs_eq]
    · rw [← hs4, gs_ne (by omega), gs_ne (by omega), gs_eq]
    · rw [← hs4, gs_ne (by omega), gs_eq]; exact n_b hb
  have hgo : GOm s4 (cF c) (cN c) (roC c) (glC c) (bgC c) (olC c) (tuC c) (nrC c) := by
    obtain ⟨o1, ⟨q5, o2, o2', o2''⟩, o3, o4, o5, o6, o7⟩ := go_c hw h0 k3 kg
    exact ⟨by rw [f4 _ (by omega) (by omega) (by omega)]; exact o1, ⟨q5, by rw [f4 _ (by omega) (by omega) (by omega)]; exact o2, o2', o2''⟩, fun r hr => by rw [f4 _ (by omega) (by omega) (by omega)]; exact o3 r hr, fun p hp => by rw [f4 _ (by omega) (by omega) (by omega)]; exact o4 p hp, o5, o6, o7⟩
  have h4 : gi s4 396 4 = nI (if frC c then 1 else 0) := by rw [f4 _ (by omega) (by omega) (by omega), ← n_b (st_1 hw (by omega))]; exact k3 3 (by omega)
  obtain ⟨s5, e5, r5, g57, g518, g519, f5⟩ := m_spreads (fr := frC c) hM hM2 hgv hg (by omega) (fun q => sm_ok hw2 hT3 hT r2 q) hsr h4 hgo
  have hai := fun i (hi : i ≤ kst w T (nrC c)) => mil_ai (bk := b == 1) (fr := frC c) (tu := tuC c) (gl := glC c) hg hi
  have u5 : UM s5 [] := ⟨by rw [f5 _ _ (by unfold esY; omega), ← hs4, gs_eq]; rfl, fun k hk => absurd hk (Nat.not_lt_zero k)⟩
  have hsd : ∀ i, sdS T (mK (mil w T (b == 1) (frC c) (tuC c) (glC c) (nrC c) i)) = sdI w T (nrC c) i := fun i => by unfold sdI; rw [mil_K hg]
  obtain ⟨s6, e6, u6, f6⟩ := m_notes (T := T) (s := mK (mil w T (b == 1) (frC c) (tuC c) (glC c) (nrC c) 0)) hM hM2 hT r5.1.2.1 (rmm_ct hT (hai 0 (by omega)) r5) u5 (by simp)
  rw [hsd] at u6
  rw [e5, bv_ok, e6, bv_ok]
  have t7 : ∀ s, gi s 396 7 = (if lef T (skA w T (nrC c)) = 1 then (3 : Int32) else 2) → gi s 396 7 = if 0 = kst w T (nrC c) then 3 else 2 := fun s q => by
    rw [q]
    by_cases hz : lef T (skA w T (nrC c)) = 1
    · rw [if_pos hz, if_pos ((kst_0 hg).mp hz)]
    · rw [if_neg hz, if_neg (fun z => hz ((kst_0 hg).mpr z))]
  obtain ⟨⟨v, s7⟩, e7, l1, l2, l3, l4, l5⟩ := for_in (F := fun (rec : Unit × Sg → Option (Unit × Sg)) (a : Unit × Sg) => bX7_goesThrough_43 E 396 395 (fun t => rec ((), t)) a.2) (kst w T (nrC c))
    (fun i a => RMm a.2 (cF c) (cN c) (roC c) (glC c) w T (b == 1) (mil w T (b == 1) (frC c) (tuC c) (glC c) (nrC c) i) ∧ gi a.2 396 7 = (if i = kst w T (nrC c) then 3 else 2) ∧ UM a.2 (unl (sdI w T (nrC c)) (i + 1)) ∧ (gi a.2 396 18 = nI (dmN w T (nrC c)) ∧ gi a.2 396 19 = lvI w T (nrC c)) ∧ ∀ x k, x ≠ 396 → ¬ (403 ≤ x ∧ x ≤ 410) → ¬ (x = 395 ∧ (k = 15 ∨ k = 20)) → gi a.2 x k = gi s4 x k)
    (fun a => RMm a.2 (cF c) (cN c) (roC c) (glC c) w T (b == 1) (mil w T (b == 1) (frC c) (tuC c) (glC c) (nrC c) (kst w T (nrC c))) ∧ UM a.2 (unl (sdI w T (nrC c)) (kst w T (nrC c) + 1)) ∧ (gi a.2 396 18 = nI (dmN w T (nrC c)) ∧ gi a.2 396 19 = lvI w T (nrC c)) ∧ (∀ x k, x ≠ 396 → ¬ (403 ≤ x ∧ x ≤ 410) → ¬ (x = 395 ∧ (k = 15 ∨ k = 20)) → gi a.2 x k = gi s4 x k) ∧ True) (N := FU) (by show kst w T (nrC c) < 1000000; omega)
    (by
      rintro i ⟨v, s⟩ rec hi ⟨q1, q2, q3, q4, q5⟩
      dsimp only at q1 q2 q3 q4 q5 ⊢
      obtain ⟨o1, o2⟩ := mil_ok (bk := b == 1) (fr := frC c) (tu := tuC c) (gl := glC c) hg hi
      obtain ⟨s', a1, a2, a3, a4⟩ := m_step hM hM2 hgv hT hT3 hw2 (hai i (by omega)) o1 q1
      have a2 : RMm s' (cF c) (cN c) (roC c) (glC c) w T (b == 1) (mil w T (b == 1) (frC c) (tuC c) (glC c) (nrC c) (i + 1)) := a2
      have a3 : gi s' 396 7 = if lef T (mK (mil w T (b == 1) (frC c) (tuC c) (glC c) (nrC c) (i + 1))) = 1 then 3 else gi s 396 7 := a3
      have hul := unl_len (sd := sdI w T (nrC c)) (i + 1)
      obtain ⟨s'', b1, b2, b3⟩ := m_notes (T := T) (s := mK (mil w T (b == 1) (frC c) (tuC c) (glC c) (nrC c) (i + 1))) hM hM2 hT a2.1.2.1 (rmm_ct hT (hai (i + 1) (by omega)) a2) (um_fr q3 (a4 _ _ (by unfold esQ; omega)) (fun k => a4 _ _ (by unfold esQ; omega))) (by omega)
      rw [hsd] at b2
      unfold bX7_goesThrough_43
      rw [n1.2, i7, ck_n (by omega) (by omega), nI_clamp (by omega), q2, if_neg (show ¬ i = kst w T (nrC c) by omega), if_neg (by simp), a1, bd_ok, b1, bv_ok]
      refine ⟨_, rfl, rmm_tr hn hT a2 (fun k _ _ _ => b3 _ _ (by omega) (by omega)), ?_, b2, ⟨?_, ?_⟩, fun x k p1 p2 p3 => ?_⟩
      · dsimp only
        rw [b3 _ _ (by omega) (by omega), a3, q2, if_neg (show ¬ i = kst w T (nrC c) by omega)]
        by_cases hz : i + 1 = kst w T (nrC c)
        · rw [if_pos ((kst_s hg hi).mpr hz), if_pos hz]
        · rw [if_neg (fun z => hz ((kst_s hg hi).mp z)), if_neg hz]
      · dsimp only; rw [b3 _ _ (by omega) (by omega), a4 _ _ (by unfold esQ; omega)]; exact q4.1
      · dsimp only; rw [b3 _ _ (by omega) (by omega), a4 _ _ (by unfold esQ; omega)]; exact q4.2
      · dsimp only; rw [b3 _ _ (by omega) (by omega), a4 _ _ (by unfold esQ; omega)]; exact q5 x k p1 p2 p3)
    (by
      rintro ⟨v, s⟩ rec ⟨q1, q2, q3, q4, q5⟩
      dsimp only at q1 q2 q3 q4 q5 ⊢
      unfold bX7_goesThrough_43
      rw [n1.2, i7, ck_n (by omega) (by omega), nI_clamp (by omega), q2, if_pos rfl, if_pos (by decide)]
      exact ⟨_, rfl, q1, q3, q4, q5, trivial⟩)
    (a := ((), s6)) ⟨rmm_tr hn hT r5 (fun k _ _ _ => f6 _ _ (by omega) (by omega)), t7 s6 (by rw [f6 _ _ (by omega) (by omega)]; exact g57), u6, ⟨by dsimp only; rw [f6 _ _ (by omega) (by omega)]; exact g518, by dsimp only; rw [f6 _ _ (by omega) (by omega)]; exact g519⟩, fun x k p1 p2 p3 => by dsimp only; rw [f6 _ _ (by omega) (by omega), f5 _ _ (by unfold esY; omega)]⟩
  dsimp only at l1 l2 l3 l4
  rw [e7, bd_ok]
  have hans : (if (4 : Int32) ≤ nI j then (if ¬ nI j = (4 : Int32) then (ck (19 : Int32) 7827 (some ((gi s7 396 (19 : Int32).toNatClampNeg), s7))) else (ck (18 : Int32) 7827 (some ((gi s7 396 (18 : Int32).toNatClampNeg), s7)))) else (ck ((9 : Int32) + nI j) 7827 (some ((gi s7 396 ((9 : Int32) + nI j).toNatClampNeg), s7)))) = some (plA w T (b == 1) c j, s7) := by
    obtain ⟨_, _, _, t9, t10, t11, t12⟩ := l1
    rcases (show j = 0 ∨ j = 1 ∨ j = 2 ∨ j = 3 ∨ j = 4 ∨ j = 5 by omega) with rfl | rfl | rfl | rfl | rfl | rfl
    · rw [if_neg (by decide), show (9 : Int32) + nI 0 = nI 9 from rfl, ck_n (by omega) (by omega), nI_clamp (by omega), t9]; rfl
    · rw [if_neg (by decide), show (9 : Int32) + nI 1 = nI 10 from rfl, ck_n (by omega) (by omega), nI_clamp (by omega), t10]; rfl
    · rw [if_neg (by decide), show (9 : Int32) + nI 2 = nI 11 from rfl, ck_n (by omega) (by omega), nI_clamp (by omega), t11]; rfl
    · rw [if_neg (by decide), show (9 : Int32) + nI 3 = nI 12 from rfl, ck_n (by omega) (by omega), nI_clamp (by omega), t12]; rfl
    · rw [if_pos (by decide), if_neg (by decide), show (18 : Int32) = nI 18 from rfl, ck_n (by omega) (by omega), nI_clamp (by omega), l3.1]; rfl
    · rw [if_pos (by decide), if_pos (by decide), show (19 : Int32) = nI 19 from rfl, ck_n (by omega) (by omega), nI_clamp (by omega), l3.2]; rfl
  rw [hans, bd_ok]
  obtain ⟨s8, e8, f8⟩ := mlays (σ := s7) (off := 0) hM hM2 n2 (by omega) (by omega) (by omega)
  rw [e8, bv_ok]
  refine ⟨s8, rfl, ?_, fun k hk => ?_, fun x k he => ?_⟩
  · rw [f8, if_neg (by omega)]; exact l2.1
  · rw [f8, if_pos ⟨rfl, hk⟩, Nat.zero_add, l4 _ _ (by omega) (by omega) (by omega)]; exact g397 k hk
  · unfold esTh at he
    rw [f8, if_neg (by omega), l4 _ _ (by omega) (by omega) (by omega), f4' _ _ (by omega) (by omega) (by omega)]
end TH
