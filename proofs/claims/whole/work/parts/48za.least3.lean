/-! least: the query -/
theorem nz_n {β : Type} {d : Nat} {k : Option β} (h : 0 < d) (h2 : d < 2 ^ 31) : nz (nI d) k = k := by unfold nz; rw [if_neg (nI_ne0 h h2)]
theorem sum_bg {c : Cu} (hw : Wf c) (h0 : 0 < cN c) : ∀ r, r ≤ nrC c → sumF (glC c) r = bgC c r
  | 0, _ => by rw [(bg_c hw h0).1]; rfl
  | r + 1, h => by
    have := ((bg_c hw h0).2.1 r (by omega)).1
    unfold sumF
    rw [sum_bg hw h0 r (by omega)]; exact this
theorem gl_srt {c : Cu} (hw : Wf c) (h0 : 0 < cN c) : GL (srtW (glC c) (nrC c)) := by
  obtain ⟨n1, n2⟩ := nr_c hw h0
  refine ⟨srtW_srt _ _, ?_, by rw [srtW_len]; omega⟩
  rw [srtW_sm, sum_bg hw h0 _ (Nat.le_refl _)]
  have := ((bg_c hw h0).2.1 (nrC c - 1) (by omega)).2
  rw [show nrC c - 1 + 1 = nrC c by omega] at this
  have := hw.1
  omega
def leaA (k nr : Nat) (S : List Nat) : Nat := if nr ≤ 1 then 0 else smL (S.take (k - padZ k nr)) + leaS k 400 (insS (smL (S.take (k - padZ k nr))) (S.drop (k - padZ k nr)))
section LE3
variable {E : En}
theorem c_least {σ : Sg} {k nr : Nat} {S : List Nat} (h0 : cd E 0 = 6) (hc : rf E 0 12 = some 63) (hl : LArr E 63 100 300) (h2 : 2 ≤ k) (h5 : k ≤ 5) (hn : 1 ≤ nr) (hg : GL S) (hlen : S.length = nr) (h : WS σ 63 S) : ∃ r s, fx (fun (rec : (Int32 × Int32 × Int32 × Int32) × Sg → Option ((Int32 × Int32 × Int32 × Int32) × Sg)) a => bX6_least_81 E 0 63 (nI k) (fun u0 u1 u2 u3 t => rec ((u0, u1, u2, u3), t)) a.1.1 a.1.2.1 a.1.2.2.1 a.1.2.2.2 a.2) FU ((nI nr, nI (k - padZ k nr), (0 : Int32), (0 : Int32)), σ) = some (r, s) ∧ r.2.2.1 = nI (leaA k nr S) ∧ ∀ y k, y ≠ 63 → gi s y k = gi σ y k := by
  have g3 := hg.2.2
  obtain ⟨p1, p2, p3, p4, p5, p6⟩ := pad_ar h2 h5 hn
  have key : ∀ N, 500 < N → ∃ r s, fx (fun (rec : (Int32 × Int32 × Int32 × Int32) × Sg → Option ((Int32 × Int32 × Int32 × Int32) × Sg)) a => bX6_least_81 E 0 63 (nI k) (fun u0 u1 u2 u3 t => rec ((u0, u1, u2, u3), t)) a.1.1 a.1.2.1 a.1.2.2.1 a.1.2.2.2 a.2) N ((nI nr, nI (k - padZ k nr), nI 0, nI 0), σ) = some (r, s) ∧ r.2.2.1 = nI (leaA k nr S) ∧ ∀ y k, y ≠ 63 → gi s y k = gi σ y k := by
    intro N hN
    obtain ⟨N', rfl⟩ : ∃ N', N = N' + 1 := ⟨N - 1, by omega⟩
    rw [fx_1]
    dsimp only
    by_cases h1 : nr ≤ 1
    · refine ⟨(nI nr, nI (k - padZ k nr), nI 0, nI 0), σ, ?_, ?_, fun _ _ _ => rfl⟩
      · generalize fx _ N' = rr
        unfold bX6_least_81
        rw [show (300 : Int32) = nI 300 from rfl, if_neg (nI_ge (by omega) (by omega)), i1, if_pos (nI_le h1 (by omega))]
      · unfold leaA; rw [if_pos h1]
    · have p6 := p6 (by omega)
      obtain ⟨s, e1, e2, e3⟩ := c_mrg (k := k) (cost := 0) (it := 0) (w := k - padZ k nr) h0 hc hl hg (by omega) (by omega) (by omega) (by omega) h (fun u0 u1 u2 u3 t => fx (fun (rec : (Int32 × Int32 × Int32 × Int32) × Sg → Option ((Int32 × Int32 × Int32 × Int32) × Sg)) a => bX6_least_81 E 0 63 (nI k) (fun u0 u1 u2 u3 t => rec ((u0, u1, u2, u3), t)) a.1.1 a.1.2.1 a.1.2.2.1 a.1.2.2.2 a.2) N' ((u0, u1, u2, u3), t))
      obtain ⟨q1, q2⟩ := gl_mrg hg (w := k - padZ k nr) (by omega) (by omega)
      have hm : ((insS (smL (S.take (k - padZ k nr))) (S.drop (k - padZ k nr))).length - 1) % (k - 1) = 0 := by
        rw [q2, hlen, show nr - (k - padZ k nr) + 1 - 1 = nr + padZ k nr - 1 - (k - 1) by omega]
        exact mod_sub' (mod_ge (by omega) p4) p4
      obtain ⟨r, s2, f1, f2, f3⟩ := c_out h0 hc hl h2 400 N' (insS (smL (S.take (k - padZ k nr))) (S.drop (k - padZ k nr))) (0 + smL (S.take (k - padZ k nr))) (0 + 1) s q1 (by omega) hm (by omega) (by omega) (by omega) e2
      rw [hlen] at e1
      rw [e1]
      refine ⟨r, s2, f1, ?_, fun y k hy => by rw [f3 y k hy, e3 y k hy]⟩
      rw [f2]; unfold leaA; rw [if_neg h1, Nat.zero_add]
  exact key FU (by decide)
theorem m_least {σ : Sg} {k nr : Nat} {S : List Nat} (h0 : cd E 395 = 7) (hc : rf E 395 26 = some 413) (hl : LArr E 413 100 306) (h2 : 2 ≤ k) (h5 : k ≤ 5) (hn : 1 ≤ nr) (hnr : nr ≤ 150) (hg : GL S) (hlen : S.length = nr) (h : WS σ 413 S) : ∃ s, fx (fun (rec : Int32 × Sg → Option (Int32 × Sg)) a => bX7_least_56 E (nI k) 395 (fun u0 t => rec (u0, t)) a.1 a.2) FU (nI nr, σ) = some (nI (nr + padZ k nr), s) ∧ (∃ r s2, fx (fun (rec : (Int32 × Int32) × Sg → Option ((Int32 × Int32) × Sg)) a => bX7_least_81 E (nI k) 395 (fun u0 u1 t => rec ((u0, u1), t)) a.1.1 a.1.2 a.2) FU ((nI (nr + padZ k nr), (0 : Int32)), s) = some (r, s2) ∧ r.2 = nI (leaA k nr S) ∧ ∀ y k, y ≠ 413 → gi s2 y k = gi s y k) ∧ ∀ y k, y ≠ 413 → gi s y k = gi σ y k := by
  obtain ⟨p1, p2, p3, p4, p5, p6⟩ := pad_ar h2 h5 hn
  have hll : ∀ i, (List.replicate i 0 ++ S).length = nr + i := fun i => by rw [List.length_append, List.length_replicate, hlen]; omega
  obtain ⟨⟨v, s⟩, e, e1, e2, e3⟩ := for_in (F := fun (rec : Int32 × Sg → Option (Int32 × Sg)) a => bX7_least_56 E (nI k) 395 (fun u0 t => rec (u0, t)) a.1 a.2) (padZ k nr)
    (fun i b => b.1 = nI (nr + i) ∧ WS b.2 413 (List.replicate i 0 ++ S) ∧ ∀ y k, y ≠ 413 → gi b.2 y k = gi σ y k)
    (fun b => b.1 = nI (nr + padZ k nr) ∧ WS b.2 413 (List.replicate (padZ k nr) 0 ++ S) ∧ ∀ y k, y ≠ 413 → gi b.2 y k = gi σ y k) (N := FU) (by show padZ k nr < 1000000; omega)
    (by
      rintro i ⟨v, s⟩ rec hi ⟨rfl, f2, f3⟩
      dsimp only at f2 f3 ⊢
      have hne := p3 i hi
      have hlt := Nat.mod_lt (nr + i - 1) (show 0 < k - 1 by omega)
      unfold bX7_least_56
      rw [i1, sub_n (by omega), nz_n (by omega) (by omega), sub_n (by omega), im_n (by omega) (by omega) (by omega), if_neg (nI_ne0 (by omega) (by omega)), hc, dr_s, hl.1, hl.2, tk_s, ck_m (by omega), nI_clamp (by omega), ss_ok, lt_ok, nI_add]
      refine ⟨_, rfl, rfl, ?_, fun y k hy => by dsimp only; rw [gs_ne (by omega), f3 y k hy]⟩
      have := ws_push (s := 0) f2
      rw [ins0, hll] at this
      rw [List.replicate_succ, List.cons_append]
      exact this)
    (by
      rintro ⟨v, s⟩ rec ⟨rfl, f2, f3⟩
      unfold bX7_least_56
      dsimp only
      rw [i1, sub_n (by omega), nz_n (by omega) (by omega), sub_n (by omega), im_n (by omega) (by omega) (by omega), p4, if_pos (show nI 0 = (0 : Int32) from rfl)]
      exact ⟨_, rfl, rfl, f2, f3⟩)
    (a := (nI nr, σ)) ⟨rfl, h, fun _ _ _ => rfl⟩
  dsimp only at e1 e2 e3
  subst e1
  refine ⟨s, e, ?_, e3⟩
  have hg' : GL (List.replicate (padZ k nr) 0 ++ S) := ⟨pad_srt hg.1 _, by rw [pad_sm]; exact hg.2.1, by rw [hll]; omega⟩
  obtain ⟨r, s2, f1, f2, f3⟩ := m_out h0 hc hl h2 401 FU (List.replicate (padZ k nr) 0 ++ S) 0 s hg' (by rw [hll]; omega) (by rw [hll]; exact p4) (by rw [hll]; omega) (by decide) e2
  rw [hll] at f1
  refine ⟨r, s2, f1, ?_, f3⟩
  rw [f2, Nat.zero_add]
  unfold leaA
  by_cases h1 : nr ≤ 1
  · have hz : padZ k nr = 0 := by unfold padZ; rw [show nr - 1 = 0 by omega, Nat.zero_mod, if_pos rfl]
    rw [if_pos h1]
    show nI (if (List.replicate (padZ k nr) 0 ++ S).length ≤ 1 then 0 else _) = _
    rw [if_pos (by rw [hll]; omega)]
  · obtain ⟨t1, t2⟩ := pad_tk (padZ k nr) k S (by omega)
    rw [if_neg h1]
    show nI (if (List.replicate (padZ k nr) 0 ++ S).length ≤ 1 then 0 else _) = _
    rw [if_neg (by rw [hll]; omega), t1, t2]
theorem ok_least (hR : LRun E) (hM : LMod E) (hM2 : LMo2 E) (p0 : Int32) : Ok (JJ CG' CM' MG' MM') (fX6_least E 0 p0) (fX7_least E 395 p0) := by
  refine ok_of (fun a hw => ?_)
  obtain ⟨r0, r1, r3, r4, r5, r8, r9, r10, r11, r12, r13, l1, l2, l35, l36, l37, l38, l39, l61, l63, l64, lp, ls⟩ := id hR
  obtain ⟨b0, rb0, rb1, rb3, rb4, rb5, rb6, lr, la4, lg, lm, la31, la32⟩ := id l2
  have rb3 : rf E 2 3 = some 7 := rb3
  have lg : LGro E 7 := lg
  have m0 := hM.1
  have hwc := hw.2.2.1
  have hn := hwc.1
  have ht3 := hwc.2.2.2.1
  rcases pin p0 (lo := 2) (hi := 5) (by omega) (by omega) with ⟨k, k2, k5, rfl⟩ | ⟨hq, hq2⟩
  · have hin : ∀ σ, fX7_in E (nI k) (2 : Int32) (5 : Int32) σ = some (1, σ) := fun σ => m_inN (l := 2) (h := 5) (by omega)
    have hk2 : ¬ nI k < (2 : Int32) := (nI_nlt k2 (by omega) : ¬ nI k < nI 2)
    have hk5 : ¬ (5 : Int32) < nI k := (nI_nlt k5 (by omega) : ¬ nI 5 < nI k)
    by_cases ht : 1 ≤ cT (aC a)
    · have h0 := hwc.2.2.2.2.1 ht
      obtain ⟨n1, n2⟩ := nr_c hwc h0
      have hgs := gl_srt hwc h0
      have hsl := srtW_len (glC (aC a)) (nrC (aC a))
      obtain ⟨p1, p2, p3, p4, p5, p6⟩ := pad_ar k2 k5 n1
      refine ⟨nI (leaA k (nrC (aC a)) (srtW (glC (aC a)) (nrC (aC a)))), a, hw, spc_q (fun σ hc => ?_), spm_q (fun σ hc => ?_)⟩
      · obtain ⟨j1, j2, j3⟩ := cs_rr hc.2.2.2.1
        obtain ⟨g1, g2, g3, g4⟩ := cs_g hc.2.2.2.1 ht
        have hlt := Nat.mod_lt (nrC (aC a) - 1) (show 0 < k - 1 by omega)
        have hws : WS (sc σ 9 63 0 0 (nrC (aC a))) 63 (srtW (glC (aC a)) (nrC (aC a))) := ws_srt (fun i hi => by rw [gi_sc, if_pos (by omega), show 0 + (i - 0) = i by omega]; exact g4 i hi)
        obtain ⟨r, s, e1, e2, e3⟩ := c_least r0 r12 l63 k2 k5 n1 hgs hsl hws
        refine ⟨s, ?_, fun x j hx => ?_, fun x j hx => ?_⟩
        · unfold fX6_least
          rw [tk_ok r0, if_neg hk2, if_neg hk5, dr_ok r3 l2.1, j3, if_pos (show (1 : Int32) ≤ nI (cT (aC a)) from (nI_le ht (by omega) : nI 1 ≤ nI (cT (aC a)))), dr_ok rb3 lg.1, g1, lt_ok, dr_ok lg.2.2.1 lg.2.2.2.2.2.1.1, dr_ok r12 l63.1]
          show acp E σ 9 (nI 0) 63 (nI 0) (nI (nrC (aC a))) _ = _
          have l9 : ln E 9 = 300 := lg.2.2.2.2.2.1.2
          rw [acp_n (by rw [l9]; omega) (by rw [l63.2]; omega) (by omega), i1, sub_n (by omega), nz_n (by omega) (by omega), sub_n (by omega), im_n (by omega) (by omega) (by omega), lt_ok]
          by_cases hz : (nrC (aC a) - 1) % (k - 1) = 0
          · rw [if_pos hz] at p5
            rw [hz, if_neg (by simp; rfl), bd_ok]
            rw [p5] at e1
            rw [e1, bd_ok, e2]
          · rw [if_neg hz] at p5
            rw [if_pos (nI_ne0 (by omega) (by omega)), nI_add, bd_ok]
            rw [p5] at e1
            rw [e1, bd_ok, e2]
        · rw [e3 _ _ (by unfold esC at hx; omega), gi_sc, if_neg (by unfold esC at hx; omega)]
        · rw [e3 _ _ (by omega), gi_sc, if_neg (by omega)]
      · obtain ⟨j1, j2, j3, j4, j5⟩ := mr_g hn hc.2.2.1
        obtain ⟨g1, g2, g3, g4⟩ := mr_mg hwc hc.2.2.1 ht
        have rc : rf E 395 26 = some 413 := hM.2.2.2.2.2.2.2.2.2.2.2.2.2.2.2.2.2.2.1
        have lc' : LArr E 413 100 306 := hM2.2.2.2.2.2.2.2.2.2.2.2.2.2.2.2.2.2.1
        obtain ⟨⟨v, s⟩, e, e1, e2, e3⟩ := for_in (F := fun (rec : (Int32 × Int32) × Sg → Option ((Int32 × Int32) × Sg)) a => bX7_least_25 E 396 395 (fun u0 u1 t => rec ((u0, u1), t)) a.1.1 a.1.2 a.2) (nrC (aC a))
          (fun i b => b.1 = (nI i, nI i) ∧ (∀ j, j < i → gi b.2 413 j = nI (glC (aC a) j)) ∧ ∀ y k, y ≠ 413 → gi b.2 y k = gi σ y k)
          (fun b => b.1 = (nI (nrC (aC a)), nI (nrC (aC a))) ∧ (∀ j, j < nrC (aC a) → gi b.2 413 j = nI (glC (aC a) j)) ∧ ∀ y k, y ≠ 413 → gi b.2 y k = gi σ y k) (N := FU) (by show nrC (aC a) < 1000000; omega)
          (by
            rintro i ⟨v, s⟩ rec hi ⟨rfl, f2, f3⟩
            dsimp only at f2 f3 ⊢
            obtain ⟨y1, y2⟩ := (bg_c hwc h0).2.1 i hi
            have hrs : fX7_runSize E 395 (nI i) s = some (nI (glC (aC a) i), s) := by
              unfold fX7_runSize
              rw [tk_ok m0, dr_ok hM.2.1 hM2.1.1, hM2.1.2, show (926 : Int32) = nI 926 from rfl, i1, nI_add, nI_add, ck_n (by omega) (by omega), ck_n (by omega) (by omega), nI_clamp (by omega), nI_clamp (by omega), show 926 + i + 1 = 926 + (i + 1) by omega, f3 _ _ (by omega), f3 _ _ (by omega), g2 _ (by omega), g2 _ (by omega), sub_n (by omega), show bgC (aC a) (i + 1) - bgC (aC a) i = glC (aC a) i by omega]
            unfold bX7_least_25
            rw [hM2.1.2, show (14 : Int32) = nI 14 from rfl, ck_m (by omega), nI_clamp (by omega), f3 _ _ (by omega), g1, if_neg (nI_ge hi (by omega)), rc, dr_s, lc'.1, lc'.2, tk_s, hrs, bd_ok, ck_m (by omega), nI_clamp (by omega), ss_ok, lt_ok, lt_ok, i1, nI_add]
            refine ⟨_, rfl, rfl, fun j hj => ?_, fun y k hy => by dsimp only; rw [gs_ne (by omega), f3 y k hy]⟩
            dsimp only
            by_cases z : j = i
            · subst z; exact gs_eq
            · rw [gs_ne (by omega)]; exact f2 j (by omega))
          (by
            rintro ⟨v, s⟩ rec ⟨rfl, f2, f3⟩
            unfold bX7_least_25
            dsimp only at f2 f3 ⊢
            rw [hM2.1.2, show (14 : Int32) = nI 14 from rfl, ck_m (by omega), nI_clamp (by omega), f3 _ _ (by omega), g1, if_pos (nI_le (Nat.le_refl _) (by omega))]
            exact ⟨_, rfl, rfl, f2, f3⟩)
          (a := (((0 : Int32), (0 : Int32)), σ)) ⟨rfl, fun j hj => by omega, fun _ _ _ => rfl⟩
        dsimp only at e1 e2 e3
        subst e1
        obtain ⟨s2, q1, ⟨r, s3, q2, q3, q4⟩, q5⟩ := m_least m0 rc lc' k2 k5 n1 n2 hgs hsl (ws_srt e2)
        refine ⟨s3, ?_, fun x j hx => ?_, fun x j hx => ?_⟩
        · unfold fX7_least
          rw [tk_ok m0, hin, bd_ok, if_neg (by decide), dr_ok hM.2.1 hM2.1.1, hM2.1.2, i7, ck_n (by omega) (by omega), nI_clamp (by omega), j4, if_pos (nI_ne0 (by omega) (by omega)), e, bd_ok]
          dsimp only
          rw [q1, bd_ok, q2, bd_ok, q3]
        · rw [q4 _ _ (by unfold esM at hx; omega), q5 _ _ (by unfold esM at hx; omega), e3 _ _ (by unfold esM at hx; omega)]
        · rw [q4 _ _ (by omega), q5 _ _ (by omega), e3 _ _ (by omega)]
    · refine ⟨-1, a, hw, spc_q (fun σ hc => ⟨σ, ?_, fun _ _ _ => rfl, fun _ _ _ => rfl⟩), spm_q (fun σ hc => ⟨σ, ?_, fun _ _ _ => rfl, fun _ _ _ => rfl⟩)⟩
      · obtain ⟨j1, j2, j3⟩ := cs_rr hc.2.2.2.1
        unfold fX6_least
        rw [tk_ok r0, if_neg hk2, if_neg hk5, dr_ok r3 l2.1, j3, show cT (aC a) = 0 by omega, if_neg (by decide)]
      · obtain ⟨j1, j2, j3, j4, j5⟩ := mr_g hn hc.2.2.1
        unfold fX7_least
        rw [tk_ok m0, hin, bd_ok, if_neg (by decide), dr_ok hM.2.1 hM2.1.1, hM2.1.2, i7, ck_n (by omega) (by omega), nI_clamp (by omega), j4, show cT (aC a) = 0 by omega, if_neg (by simp; rfl)]
  · refine ⟨-1, a, hw, spc_q (fun σ hc => ⟨σ, ?_, fun _ _ _ => rfl, fun _ _ _ => rfl⟩), spm_q (fun σ hc => ⟨σ, ?_, fun _ _ _ => rfl, fun _ _ _ => rfl⟩)⟩
    · unfold fX6_least
      rw [tk_ok r0]
      rcases hq2 with h | ⟨h1, h2⟩
      · rw [if_pos (show p0 < 2 from h)]
      · rw [if_neg (show ¬ p0 < 2 from h1), if_pos (show (5 : Int32) < p0 from h2)]
    · unfold fX7_least
      rw [tk_ok m0, show fX7_in E p0 (2 : Int32) (5 : Int32) σ = some (0, σ) from m_inF hq, bd_ok, if_pos rfl]
end LE3
