/-! the reference spreads: all of it -/
/-- what growth has left in the reference's row, ahead of spreading -/
def GOm (σ : Sg) (F : Nat → Nat) (n : Nat) (ro gl bg : Nat → Nat) (ol : Nat → Nat) (tu : Bool) (nr : Nat) : Prop := gi σ 396 14 = nI nr ∧ (∃ s5, gi σ 396 6 = nI s5 ∧ s5 ≤ 1 ∧ tu = (s5 == 1)) ∧ (∀ r, r ≤ nr → gi σ 396 (926 + r) = nI (bg r)) ∧ (∀ p, p < n → gi σ 396 (626 + p) = nI (ol p)) ∧ bg 0 = 0 ∧ (∀ r, r < nr → bg r + gl r = bg (r + 1) ∧ bg (r + 1) ≤ n) ∧ ∀ r, r < nr → ∀ i, i < gl r → ol (bg r + i) = (cnt F n ro (rnj tu r)).getD i 0
def esY (x k : Nat) : Prop := (x ≠ 396 ∨ k < 7 ∨ k = 8 ∨ k = 14 ∨ (26 ≤ k ∧ k < 1227)) ∧ ¬ (x = 395 ∧ k = 15) ∧ ¬ (403 ≤ x ∧ x ≤ 409)
section SY
variable {E : En} {σ : Sg} {F : Nat → Nat} {n nr w T : Nat} {ro gl bg ol : Nat → Nat} {bk tu fr : Bool}
theorem ai_a0 (hT3 : 3 ≤ T) (hc : Cap w T nr) : AI T nr (tp0 w T bk fr tu nr, skI w T (tp0 w T bk fr tu nr), 0, 0, 0, 0) := by
  refine ⟨tp0_oc hT3 hc, fun t ht => ?_, fun t ht => tp0_out hT3 hc ht, fun t r hr hz => ?_⟩
  · show (tab (fun t => (tp0 w T bk fr tu nr t).length) T).getD t 0 = _
    rw [tab_at ht]
  · rcases tp0_mem hr with rfl | ⟨j, rfl⟩
    · rfl
    · cases hz
theorem m_spreads (hM : LMod E) (hM2 : LMo2 E) (hgv : GV F n ro gl nr) (hok : Gok w T nr) (hnr : nr ≤ 300) (hsm : w ≠ 1 → smp w (T - 1) (lvA w T nr) ≤ 700) (hs : SR σ F n w T bk) (h4 : gi σ 396 4 = nI (if fr then 1 else 0)) (hg : GOm σ F n ro gl bg ol tu nr) :
    ∃ s, fX7_spreads E 395 σ = some s ∧ RMm s F n ro gl w T bk (mi0 w T bk fr tu gl nr) ∧ gi s 396 7 = (if lef T (skA w T nr) = 1 then 3 else 2) ∧ gi s 396 18 = nI (dmN w T nr) ∧ gi s 396 19 = lvI w T nr ∧ ∀ x k, esY x k → gi s x k = gi σ x k := by
  obtain ⟨m0, m1, mz⟩ := id hM
  obtain ⟨n1, nz'⟩ := id hM2
  obtain ⟨hn, hF, hgl⟩ := id hgv
  obtain ⟨hw, hT3, hT, hn1, _, hc, hgd⟩ := id hok
  obtain ⟨o1, o2, o3, o4, o5, o6, o7⟩ := id hg
  unfold fX7_spreads
  rw [tk_ok m0, ss_ok]
  -- counts are cleared
  obtain ⟨s1, e1, a9, a10, a11, a12, f1⟩ : ∃ s1, fX7_clearsCounts E 395 (si σ 395 15 0) = some s1 ∧ gi s1 396 9 = nI 0 ∧ gi s1 396 10 = nI 0 ∧ gi s1 396 11 = nI 0 ∧ gi s1 396 12 = nI 0 ∧ ∀ x k, ¬ (x = 396 ∧ 9 ≤ k ∧ k ≤ 12) → gi s1 x k = gi (si σ 395 15 0) x k := by
    unfold fX7_clearsCounts
    rw [tk_ok m0, dr_ok m1 n1.1, n1.2, show (9 : Int32) = nI 9 from rfl, show (10 : Int32) = nI 10 from rfl, show (11 : Int32) = nI 11 from rfl, show (12 : Int32) = nI 12 from rfl, ck_n (by omega) (by omega), ss_ok, ck_n (by omega) (by omega), ss_ok, ck_n (by omega) (by omega), ss_ok, ck_n (by omega) (by omega), ss_ok, nI_clamp (by omega), nI_clamp (by omega), nI_clamp (by omega), nI_clamp (by omega)]
    refine ⟨_, rfl, ?_, ?_, ?_, ?_, fun x k q => ?_⟩
    · rw [gs_ne (by omega), gs_ne (by omega), gs_ne (by omega), gs_eq]; rfl
    · rw [gs_ne (by omega), gs_ne (by omega), gs_eq]; rfl
    · rw [gs_ne (by omega), gs_eq]; rfl
    · rw [gs_eq]; rfl
    · rw [gs_ne (by omega), gs_ne (by omega), gs_ne (by omega), gs_ne (by omega)]
  rw [e1, bv_ok]
  obtain ⟨⟨v, s2⟩, e2, p1, p2⟩ := for_in (F := fun (rec : Int32 × Sg → Option (Int32 × Sg)) (a : Int32 × Sg) => bX7_spreads_11 E 395 (fun u0 t => rec (u0, t)) a.1 a.2) 6
    (fun i b => b.1 = nI i ∧ (∀ t, t < i → gi b.2 396 (20 + t) = nI 0) ∧ ∀ x k, ¬ (x = 396 ∧ 20 ≤ k ∧ k < 26) → gi b.2 x k = gi s1 x k) (fun b => (∀ t, t < 6 → gi b.2 396 (20 + t) = nI 0) ∧ ∀ x k, ¬ (x = 396 ∧ 20 ≤ k ∧ k < 26) → gi b.2 x k = gi s1 x k) (N := FU) (by show 6 < 1000000; omega)
    (by
      rintro i ⟨v, s⟩ rec hi ⟨rfl, q1, q2⟩
      dsimp only at q1 q2 ⊢
      unfold bX7_spreads_11
      rw [i6, if_neg (nI_ge hi (by omega)), dr_ok m1 n1.1, n1.2, show (20 : Int32) = nI 20 from rfl, nI_add, ck_n (by omega) (by omega), nI_clamp (by omega), ss_ok, lt_ok, ad1]
      refine ⟨_, rfl, rfl, fun t ht => ?_, fun x k q => by dsimp only; rw [gs_ne (by omega)]; exact q2 x k q⟩
      dsimp only
      by_cases hti : t = i
      · subst hti; rw [gs_eq]; rfl
      · rw [gs_ne (by omega)]; exact q1 t (by omega))
    (by
      rintro ⟨v, s⟩ rec ⟨rfl, q⟩
      unfold bX7_spreads_11
      rw [i6, if_pos (nI_le (Nat.le_refl _) (by omega))]
      exact ⟨_, rfl, q⟩)
    (a := ((0 : Int32), s1)) ⟨rfl, fun j hj => absurd hj (Nat.not_lt_zero j), fun _ _ _ => rfl⟩
  dsimp only at p1 p2
  rw [e2, bd_ok]
  have f2 : ∀ x k, ¬ (x = 396 ∧ ((9 ≤ k ∧ k ≤ 12) ∨ (20 ≤ k ∧ k < 26))) → ¬ (x = 395 ∧ k = 15) → gi s2 x k = gi σ x k := fun x k q1 q2 => by rw [p2 _ _ (by omega), f1 _ _ (by omega), gs_ne (by omega)]
  obtain ⟨⟨v, s3⟩, e3, g1, g2⟩ := for_in (F := fun (rec : Int32 × Sg → Option (Int32 × Sg)) (a : Int32 × Sg) => bX7_spreads_35 E 395 (fun u0 t => rec (u0, t)) a.1 a.2) n
    (fun i b => b.1 = nI i ∧ (∀ j, j < i → gi b.2 396 (7527 + j) = nI (ol j)) ∧ ∀ x k, ¬ (x = 396 ∧ 7527 ≤ k) → gi b.2 x k = gi s2 x k) (fun b => (∀ j, j < n → gi b.2 396 (7527 + j) = nI (ol j)) ∧ ∀ x k, ¬ (x = 396 ∧ 7527 ≤ k) → gi b.2 x k = gi s2 x k) (N := FU) (by show n < 1000000; omega)
    (by
      rintro i ⟨v, s⟩ rec hi ⟨rfl, q1, q2⟩
      dsimp only at q1 q2 ⊢
      unfold bX7_spreads_35
      rw [m_many hM hM2, bd_ok, q2 _ _ (by omega), f2 _ _ (by omega) (by omega), hs.1, if_neg (nI_ge hi (by omega)), dr_ok m1 n1.1, n1.2, show (626 : Int32) = nI 626 from rfl, nI_add, ck_n (by omega) (by omega), show (7527 : Int32) = nI 7527 from rfl, nI_add, ck_n (by omega) (by omega), nI_clamp (by omega), nI_clamp (by omega), q2 _ _ (by omega), f2 _ _ (by omega) (by omega), o4 i hi, ss_ok, lt_ok, ad1]
      refine ⟨_, rfl, rfl, fun j hj => ?_, fun x k q => by dsimp only; rw [gs_ne (by omega)]; exact q2 x k q⟩
      dsimp only
      by_cases hji : j = i
      · subst hji; rw [gs_eq]
      · rw [gs_ne (by omega)]; exact q1 j (by omega))
    (by
      rintro ⟨v, s⟩ rec ⟨rfl, q1, q2⟩
      dsimp only at q1 q2 ⊢
      unfold bX7_spreads_35
      rw [m_many hM hM2, bd_ok, q2 _ _ (by omega), f2 _ _ (by omega) (by omega), hs.1, if_pos (nI_le (Nat.le_refl _) (by omega))]
      exact ⟨_, rfl, q1, q2⟩)
    (a := ((0 : Int32), s2)) ⟨rfl, fun j hj => absurd hj (Nat.not_lt_zero j), fun _ _ _ => rfl⟩
  dsimp only at g1 g2
  rw [e3, bd_ok, dr_ok m1 n1.1, n1.2, show (17 : Int32) = nI 17 from rfl, ck_n (by omega) (by omega), nI_clamp (by omega), ss_ok]
  generalize hs4 : si s3 396 17 (0 : Int32) = s4
  have f4 : ∀ x k, ¬ (x = 396 ∧ ((9 ≤ k ∧ k ≤ 12) ∨ k = 17 ∨ (20 ≤ k ∧ k < 26) ∨ 7527 ≤ k)) → ¬ (x = 395 ∧ k = 15) → gi s4 x k = gi σ x k := fun x k q1 q2 => by rw [← hs4, gs_ne (by omega), g2 _ _ (by omega), f2 _ _ (by omega) q2]
  have g17 : gi s4 396 17 = nI 0 := by rw [← hs4, gs_eq]; rfl
  have f43 : ∀ k, k ≠ 17 → k < 7527 → gi s4 396 k = gi s2 396 k := fun k h1 h2 => by rw [← hs4, gs_ne (by omega), g2 _ _ (by omega)]
  have hs' : SR s4 F n w T bk := sr_fr hs hn (fun k hk => f4 _ _ (by omega) (by omega))
  have hgr : GRm s4 F n ro gl bg tu nr := by
    refine ⟨by rw [f4 _ _ (by omega) (by omega)]; exact o1, ?_, fun r hr => by rw [f4 _ _ (by omega) (by omega)]; exact o3 r hr, o6, fun r hr i hi => ?_⟩
    · obtain ⟨s5, q1, q2, q3⟩ := o2
      exact ⟨s5, by rw [f4 _ _ (by omega) (by omega)]; exact q1, q2, q3⟩
    · have := o6 r hr
      rw [← hs4, gs_ne (by omega), show 7527 + bg r + i = 7527 + (bg r + i) by omega, g1 _ (by omega), o7 r hr i hi]
  have hx0 : DLr s4 F n ro gl (fun _ => []) 0 0 := by
    refine ⟨fun t ht => ⟨by rw [f43 _ (by omega) (by omega)]; exact p1 t ht, Nat.zero_le _, fun k hk => absurd hk (Nat.not_lt_zero k)⟩, ?_, fun z hz => ?_, ?_⟩
    · rw [← hs4, gs_ne (by omega), g2 _ _ (by omega), p2 _ _ (by omega), f1 _ _ (by omega), gs_eq]; rfl
    · obtain ⟨t, _, hzt⟩ := catX_mem.mp hz
      cases hzt
    · have : catX (fun _ => ([] : List Dn)) 6 = [] := rfl
      rw [this]; exact List.Pairwise.nil
  rw [m_way hM hM2, bd_ok, hs'.2.2.1]
  -- dealing, of either kind
  obtain ⟨s5, X, m5, e5, d5, x5, g13, g18, g19, f5⟩ : ∃ s5 X m5, (if ¬ nI w = (1 : Int32) then (bv (fX7_spreadsPerfectly E 395 s4) (fun s40 => some ((), s40))) else (ck (18 : Int32) 7827 (ss (si s4 396 (18 : Int32).toNatClampNeg (0 : Int32)) (fun s43 => ck (19 : Int32) 7827 (ss (si s43 396 (19 : Int32).toNatClampNeg (-1 : Int32)) (fun s45 => bd (fX7_tapes E 395 s45) (fun r48 s46 => lt (r48 / (2 : Int32)) (fun v49 => bd (fx (fun rec a => bX7_spreads_110 E 396 v49 395 (fun u0 t => rec (u0, t)) a.1 a.2) FU ((0 : Int32), s46)) (fun o61 s62 => ck (13 : Int32) 7827 (ss (si s62 396 (13 : Int32).toNatClampNeg v49) (fun s64 => some ((), s64)))))))))))) = some ((), s5) ∧ DLr s5 F n ro gl X m5 (bg nr) ∧ (∀ t, (X t).map (fun z => z.2.2) = tp0 w T bk fr tu nr t) ∧ gi s5 396 13 = nI (to0 w T) ∧ gi s5 396 18 = nI (dmN w T nr) ∧ gi s5 396 19 = lvI w T nr ∧ ∀ x k, esR x k → ¬ (403 ≤ x ∧ x ≤ 406) → ¬ (x = 396 ∧ (k = 13 ∨ k = 18 ∨ k = 19)) → gi s5 x k = gi s4 x k := by
    by_cases hw1 : w = 1
    · subst hw1
      have hcap := hc
      unfold Cap at hcap
      rw [if_pos rfl] at hcap
      rw [if_neg (by simp; rfl), show (18 : Int32) = nI 18 from rfl, ck_n (by omega) (by omega), nI_clamp (by omega), ss_ok, show (19 : Int32) = nI 19 from rfl, ck_n (by omega) (by omega), nI_clamp (by omega), ss_ok, m_tapes hM hM2, bd_ok, gs_ne (by omega), gs_ne (by omega), hs'.2.1, lt_ok, i2, pk_div (by omega) (by omega) (by omega)]
      generalize hs45 : si (si s4 396 18 (0 : Int32)) 396 19 (-1 : Int32) = s45
      have f45 : ∀ x k, ¬ (x = 396 ∧ (k = 18 ∨ k = 19)) → gi s45 x k = gi s4 x k := fun x k q => by rw [← hs45, gs_ne (by omega), gs_ne (by omega)]
      have g458 : gi s45 396 18 = nI 0 := by rw [← hs45, gs_ne (by omega), gs_eq]; rfl
      have g459 : gi s45 396 19 = -1 := by rw [← hs45, gs_eq]
      have hx45 : DLr s45 F n ro gl (fun _ => []) 0 0 := by
        obtain ⟨y1, y2, y3, y4⟩ := hx0
        exact ⟨xt_fr y1 (fun k _ => f45 _ _ (by omega)), by rw [f45 _ _ (by omega)]; exact y2, fun z hz => (by
          obtain ⟨t, _, hzt⟩ := catX_mem.mp hz
          cases hzt), y4⟩
      have hh : 0 < T / 2 := by omega
      obtain ⟨⟨v, s6⟩, e6, X6, w1, w2, w3⟩ := for_in (F := fun (rec : Int32 × Sg → Option (Int32 × Sg)) (a : Int32 × Sg) => bX7_spreads_110 E 396 (nI (T / 2)) 395 (fun u0 t => rec (u0, t)) a.1 a.2) nr
        (fun r b => b.1 = nI r ∧ ∃ X, DLr b.2 F n ro gl X r (bg r) ∧ (∀ t, (X t).map (fun z => z.2.2) = tpi bk tu (fun _ => 0) (dlb (T / 2) r) t) ∧ ∀ x k, esR x k → gi b.2 x k = gi s45 x k)
        (fun b => ∃ X, DLr b.2 F n ro gl X nr (bg nr) ∧ (∀ t, (X t).map (fun z => z.2.2) = tpi bk tu (fun _ => 0) (dlb (T / 2) nr) t) ∧ ∀ x k, esR x k → gi b.2 x k = gi s45 x k) (N := FU) (by show nr < 1000000; omega)
        (by
          rintro r ⟨v, s⟩ rec hr ⟨rfl, X, w1, w2, w3⟩
          dsimp only at w1 w3 ⊢
          have hlt := Nat.mod_lt r hh
          have hXl : (X (r % (T / 2))).length = (dlb (T / 2) r (r % (T / 2))).length := by rw [← List.length_map (f := fun z : Dn => z.2.2), w2, tpi_len, Nat.zero_add]
          have hX2 : (X (r % (T / 2))).length < 256 := by
            rw [hXl, dlb_len hh r _ hlt]
            have : (r + T / 2 - 1 - r % (T / 2)) / (T / 2) ≤ (r + T / 2 - 1 - r % (T / 2)) / 2 := Nat.div_le_div_left (by omega) (by omega)
            omega
          have h4s : ∀ k, k < 13 ∨ k = 14 ∨ (26 ≤ k ∧ k < 1227) ∨ 7527 ≤ k → gi s 396 k = gi s4 396 k := fun k hk => by rw [w3 _ _ (by unfold esR; omega), f45 _ _ (by omega)]
          obtain ⟨s7, e7, d7, f7⟩ := m_dealRun (σ := s) (w := 1) (tu := tu) (d := 0) (t := r % (T / 2)) hM hM2 hn hnr (sr_fr hs' hn (fun k hk => h4s _ (by omega))) (gr_fr hgr hnr (fun k hk => h4s _ (by omega))) w1 (by omega) (by omega) hX2 hr (by omega) (Nat.zero_le _) (fun _ => by rw [if_pos rfl])
          unfold bX7_spreads_110
          rw [n1.2, show (14 : Int32) = nI 14 from rfl, ck_n (by omega) (by omega), nI_clamp (by omega), h4s _ (by omega), hgr.1, if_neg (nI_ge hr (by omega))]
          unfold nz
          rw [if_neg (nI_ne0 hh (by omega)), im_n (by omega) hh (by omega), e7, bv_ok, lt_ok, ad1]
          refine ⟨_, rfl, rfl, _, d7, fun t => ?_, fun x k he => by dsimp only; rw [f7 x k he]; exact w3 x k he⟩
          exact tpi_add (d := fun _ => 0) (dl := dlb (T / 2) r) (dl' := dlb (T / 2) (r + 1)) (w2 t) rfl)
        (by
          rintro ⟨v, s⟩ rec ⟨rfl, X, w1, w2, w3⟩
          dsimp only at w1 w3 ⊢
          unfold bX7_spreads_110
          rw [n1.2, show (14 : Int32) = nI 14 from rfl, ck_n (by omega) (by omega), nI_clamp (by omega), w3 _ _ (by unfold esR; omega), f45 _ _ (by omega), hgr.1, if_pos (nI_le (Nat.le_refl _) (by omega))]
          exact ⟨_, rfl, X, w1, w2, w3⟩)
        (a := ((0 : Int32), s45)) ⟨rfl, fun _ => [], by rw [o5]; exact hx45, fun t => by unfold tpi; cases bk <;> rfl, fun _ _ _ => rfl⟩
      dsimp only at w1 w3
      rw [e6, bd_ok, show (13 : Int32) = nI 13 from rfl, ck_n (by omega) (by omega), nI_clamp (by omega), ss_ok]
      refine ⟨_, X6, nr, rfl, ?_, fun t => ?_, ?_, ?_, ?_, fun x k he h1 h2 => ?_⟩
      · obtain ⟨q1, q2, q3, q4⟩ := w1
        exact ⟨xt_fr q1 (fun k _ => gs_ne (by omega)), by rw [gs_ne (by omega)]; exact q2, fun z hz => ⟨(q3 z hz).1, dd_fr (q3 z hz).2.1 (gs_ne (by omega)) (gs_ne (by omega)) (gs_ne (by omega)) (fun i _ => gs_ne (by omega)), (q3 z hz).2.2⟩, q4⟩
      · rw [w2 t]; unfold tp0; rw [if_pos rfl]
      · rw [gs_eq]; unfold to0; rw [if_pos rfl]
      · rw [gs_ne (by omega), w3 _ _ (by unfold esR; omega), g458]; unfold dmN; rw [if_pos rfl]
      · rw [gs_ne (by omega), w3 _ _ (by unfold esR; omega), g459]; unfold lvI; rw [if_pos rfl]
      · rw [gs_ne (by omega), w3 x k he, f45 _ _ (by omega)]
    · obtain ⟨s5, X, e5, d5, x5, g13, g18, g19, f5⟩ := m_spreadsP (fr := fr) hM hM2 hn hnr hT hT3 (show w = 0 ∨ w = 2 by omega) hc (hsm hw1) hs' (by rw [f4 _ _ (by omega) (by omega)]; exact h4) hgr o5 hx0 hn1
      rw [i1, if_pos (fun q => hw1 ((nI_eq (by omega) (by omega)).mp q)), e5, bv_ok]
      exact ⟨s5, X, _, rfl, d5, x5, by rw [g13]; unfold to0; rw [if_neg hw1], by rw [g18]; unfold dmN; rw [if_neg hw1], by rw [g19]; unfold lvI; rw [if_neg hw1], f5⟩
  rw [e5, bd_ok]
  have hai := ai_a0 (bk := bk) (fr := fr) (tu := tu) hT3 hc
  have hto : to0 w T < 6 := by unfold to0; split <;> omega
  have f5k : ∀ k, ¬ (k = 13 ∨ k = 18 ∨ k = 19 ∨ (20 ≤ k ∧ k < 26) ∨ (1227 ≤ k ∧ k < 7527)) → gi s5 396 k = gi s4 396 k := fun k hk => f5 _ _ (by unfold esR; omega) (by omega) (by omega)
  have hlen : ∀ t, (X t).length = (tp0 w T bk fr tu nr t).length := fun t => by rw [← x5 t, List.length_map]
  obtain ⟨s6, b6, e6, q1, q2, q3, q4, f6⟩ := m_begPass (c := fun t => (X t).length) hM hM2 hT (by rw [f5k _ (by omega)]; exact hs'.2.1) g13 hto (fun t ht => ⟨(d5.1 t (by omega)).1, by have := (d5.1 t (by omega)).2.1; omega⟩)
  rw [e6, bv_ok, i7, ck_n (by omega) (by omega), nI_clamp (by omega), ss_ok]
  have f6k : ∀ k, k ≠ 7 → k ≠ 15 → k ≠ 16 → gi (si s6 396 7 (2 : Int32)) 396 k = gi s5 396 k := fun k h1 h2 h3 => by rw [gs_ne (by omega), f6 _ _ (by omega)]
  have hRM : RMm (si s6 396 7 (2 : Int32)) F n ro gl w T bk (tp0 w T bk fr tu nr, skI w T (tp0 w T bk fr tu nr), 0, 0, 0, 0) := by
    refine ⟨sr_fr hs' hn (fun k hk => by rw [f6k _ (by omega) (by omega) (by omega), f5k _ (by omega)]), ⟨X, x5, xt_fr d5.1 (fun k hk => f6k _ (by omega) (by omega) (by omega)), fun z hz => ?_, d5.2.2.2⟩, ⟨?_, ?_, ?_, ?_, b6, 2 ^ to0 w T, q1, (bt_sh _ hto).2, ?_, ?_, fun t ht => ?_⟩, ?_, ?_, ?_, ?_⟩
    · obtain ⟨_, z2, _⟩ := d5.2.2.1 z hz
      exact dd_fr z2 (f6k _ (by omega) (by omega) (by omega)) (f6k _ (by omega) (by omega) (by omega)) (f6k _ (by omega) (by omega) (by omega)) (fun i _ => f6k _ (by omega) (by omega) (by omega))
    · rw [f6k _ (by omega) (by omega) (by omega), f5k _ (by omega)]; exact hs'.2.1
    · rw [f6k _ (by omega) (by omega) (by omega), f5k _ (by omega)]; exact hs'.2.2.1
    · rw [f6k _ (by omega) (by omega) (by omega)]; exact g13
    · rw [f6k _ (by omega) (by omega) (by omega), f5k _ (by omega)]; exact g17
    · rw [gs_ne (by omega)]; exact q2
    · rw [gs_ne (by omega)]; exact q3
    · show (opn T (to0 w T) (tab (fun t => (tp0 w T bk fr tu nr t).length) T)).getD t false = _
      unfold opn
      rw [tab_at ht, tab_at ht, q4 t ht, bt_pw _ hto t (by omega), hlen t]
    · rw [f6k _ (by omega) (by omega) (by omega), f5k _ (by omega), f43 _ (by omega) (by omega), p2 _ _ (by omega)]; exact a9
    · rw [f6k _ (by omega) (by omega) (by omega), f5k _ (by omega), f43 _ (by omega) (by omega), p2 _ _ (by omega)]; exact a10
    · rw [f6k _ (by omega) (by omega) (by omega), f5k _ (by omega), f43 _ (by omega) (by omega), p2 _ _ (by omega)]; exact a11
    · rw [f6k _ (by omega) (by omega) (by omega), f5k _ (by omega), f43 _ (by omega) (by omega), p2 _ _ (by omega)]; exact a12
  obtain ⟨s7, e7, r7, g7, f7⟩ := m_looks hM hM2 hgv hT hai hRM
  rw [e7, bv_ok]
  refine ⟨s7, rfl, r7, ?_, ?_, ?_, fun x k he => ?_⟩
  · rw [g7, gs_eq]
    rw [← sk_tp0 (bk := bk) (fr := fr) (tu := tu) hT3 hc]
  · rw [f7 _ _ (by unfold esQ; omega), f6k _ (by omega) (by omega) (by omega)]; exact g18
  · rw [f7 _ _ (by unfold esQ; omega), f6k _ (by omega) (by omega) (by omega)]; exact g19
  · have he' := he
    unfold esY at he'
    rw [f7 _ _ (by unfold esQ; omega), gs_ne (by omega), f6 _ _ (by omega), f5 _ _ (by unfold esR; omega) (by omega) (by omega), f4 _ _ (by omega) (by omega)]
end SY
