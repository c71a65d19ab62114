/-! on -/
section ON2
variable {E : En}
theorem c_tapeRec {σ : Sg} {n nr k : Nat} {F ro gl : Nat → Nat} {q : Rn} (hL : LSta E 2) (h1 : gi σ 3 2 = nI n) (hn : n ≤ 300) (h3 : ∀ i, i < n → gi σ 5 i = nI ((rs F n).getD i 0)) (h7 : gi σ 11 7 = nI nr) (hnr : nr ≤ 300) (hrd : RD σ 11 gl nr q) (h8 : ∀ x, x < n → gi σ 8 x = nI (ro x) ∧ ro x < nr) (hh : ∀ j, j < nr → (gi σ 33 j = idI q.1 ↔ q.1.contains j = true)) (hk : k < (cnt F n ro q).length) : fX4_tapeRecord E 2 (idI q.1) (nI k) σ = some (nI ((cnt F n ro q).getD k 0), σ) := by
  obtain ⟨b0, rb0, rb1, rb3, rb4, rb5, rb6, lr, la4, lg, lm, la31, la32⟩ := id hL
  have lm : LMill E 11 300 := lm
  have rb4 : rf E 2 4 = some 11 := rb4
  have rb5 : rf E 2 5 = some 33 := rb5
  have la31 : LArr E 33 100 300 := la31
  have he : cnt F n ro q = (lst F n q.2).filter (fun x => q.1.contains (ro x)) := rfl
  rw [he] at hk ⊢
  generalize hl : lst F n q.2 = l at *
  have hll : l.length = n := by rw [← hl]; exact lst_len
  have hkn : k < n := by have := List.length_filter_le (fun x => q.1.contains (ro x)) l; omega
  obtain ⟨i0', q1, q2⟩ := fst_flt hk
  rw [hll] at q1
  unfold fX4_tapeRecord
  rw [tk_ok b0, for_fst n (fun i => ((nI (cnP (fun j => q.1.contains (ro (l.getD j 0))) i), nI i), σ)) (fun i => (q.1.contains (ro (l.getD i 0))) && (cnP (fun j => q.1.contains (ro (l.getD j 0))) i == k)) (fun i => (.inr (nI (l.getD i 0)), σ)) (.inl (nI (cnP (fun j => q.1.contains (ro (l.getD j 0))) n), nI n), σ) (by show n < 1000000; omega) ?_ ?_ (a := (((0 : Int32), (0 : Int32)), σ)) rfl]
  · rw [q1, ← q2]; rfl
  · intro i rec hi
    have hx : l.getD i 0 < n := by rw [← hl]; exact lst_lt hi
    obtain ⟨x1, x2⟩ := h8 _ hx
    have hcl := cnP_le (fun j => q.1.contains (ro (l.getD j 0))) i
    have hhj := hh _ x2
    unfold bX4_tapeRecord_5
    dsimp only
    rw [dr_ok rb0 lr.1, show gi σ (2 + 1) 2 = nI n from h1, if_neg (nI_ge hi (by omega)), dr_ok rb4 lm.1, c_isDown lm h7 hnr (by omega) hrd, bd_ok, c_ranked (F := F) lr h1 hn h3 hi, bd_ok, hl, dr_ok rb5 la31.1, dr_ok rb3 lg.1, lg.2.1, dr_s, lg.2.2.2.2.1.1, lg.2.2.2.2.1.2, tk_s, ck_m (by omega), nI_clamp (by omega), show gi σ (2 + 5 + 1) (l.getD i 0) = nI (ro (l.getD i 0)) from x1, la31.2, ck_m (by omega), nI_clamp (by omega)]
    have e : cnP (fun j => q.1.contains (ro (l.getD j 0))) (i + 1) = cnP (fun j => q.1.contains (ro (l.getD j 0))) i + (if q.1.contains (ro (l.getD i 0)) = true then 1 else 0) := rfl
    by_cases hb : q.1.contains (ro (l.getD i 0)) = true
    · rw [if_neg (fun z => z (hhj.mpr hb))]
      by_cases hc2 : cnP (fun j => q.1.contains (ro (l.getD j 0))) i = k
      · rw [if_neg (by rw [hc2]; simp), if_pos (by rw [hb, hc2]; simp)]
      · rw [if_pos (fun q => hc2 ((nI_eq (by omega) (by omega)).mp q)), if_neg (by rw [hb, Bool.true_and]; simpa using hc2), lt_ok, lt_ok, i1, nI_add, nI_add, e, if_pos hb]
    · rw [if_pos (fun z => hb (hhj.mp z)), if_neg (fun z => hb (by rw [Bool.and_eq_true] at z; exact z.1)), lt_ok, i1, nI_add, e, if_neg hb]; rfl
  · intro rec
    unfold bX4_tapeRecord_5
    dsimp only
    rw [dr_ok rb0 lr.1, show gi σ (2 + 1) 2 = nI n from h1, if_pos (nI_le (Nat.le_refl _) (by omega))]
theorem c_atNo {σ : Sg} {a L H : Nat} {bk : Bool} {l : List Rn} {p : Int32} {b : Int32} (hL : LTape E a) (h : TP σ a bk l L H) (hp : p < 0 ∨ (¬ p < 0 ∧ ¬ p < nI l.length)) : fX5_at E a p b σ = some (-2, σ) := by
  obtain ⟨t1, t2, t3, t4, t5, t6⟩ := h
  unfold fX5_at
  rw [tk_ok hL.1]
  rcases hp with h | ⟨h1, h2⟩
  · rw [if_pos h]
  · rw [if_neg h1, tape_size hL t1 t2 t3, bd_ok, t5, if_neg h2]
theorem ok_on (hR : LRun E) (hM : LMod E) (hM2 : LMo2 E) (p0 p1 p2 : Int32) : Ok (JJ CG' CM' MG' MM') (fX6_on E 0 p0 p1 p2) (fX7_on E 395 p0 p1 p2) := by
  refine ok_of (fun a hw => ?_)
  obtain ⟨r0, r1, r3, r4, r5, r8, r9, r10, r11, r12, r13, l1, l2, lx⟩ := id hR
  obtain ⟨b0, rb0, rb1, rb3, rb4, rb5, rb6, lr, la4, lg, lm, la31, la32⟩ := id l2
  have lm : LMill E 11 300 := lm
  have rb4 : rf E 2 4 = some 11 := rb4
  have m0 := hM.1
  have hwc := hw.2.2.1
  have hn := hwc.1
  by_cases ht : 2 ≤ cT (aC a)
  · have h0 := hwc.2.2.2.2.1 (by omega)
    obtain ⟨n1, n2⟩ := nr_c hwc h0
    obtain ⟨_, _, v⟩ := gv_c hwc h0
    have hT2 := (hwc.2.2.1 1 (by omega)).2
    have hT2 : cS (aC a) 1 ≤ 6 := hT2
    rcases below p0 (n := cS (aC a) 1) (by omega) with ⟨t, htT, rfl⟩ | ⟨hq, hq2⟩
    · obtain ⟨lm0, lm4, _, _, _, _, _, _, _, lma, _, _, _, _, _, _, _, lmt⟩ := id lm
      obtain ⟨lt1, lt2⟩ := lmt t (by omega)
      have lt1 : rf E 12 t = some (21 + 2 * t) := lt1
      have lt2 : LTape E (21 + 2 * t) := lt2
      by_cases hlen : (mT (miC (aC a)) t).length ≤ 256
      · rcases below p1 (n := (mT (miC (aC a)) t).length) (by omega) with ⟨k, hk, rfl⟩ | ⟨hq, hq2⟩
        · generalize hqd : (mT (miC (aC a)) t).getD k dum = q
          have hmem : q ∈ mT (miC (aC a)) t := by
            rw [← hqd, List.getD_eq_getElem?_getD, List.getElem?_eq_getElem hk]
            exact List.getElem_mem _
          -- the class, up to the run
          have hC : ∀ σ, RC CG' CM' σ a → (-2 : Int32) ≤ p2 → fX6_on E 0 (nI t) (nI k) p2 σ = (if ¬ p2 = (-2 : Int32) then (if ¬ p2 = (-1 : Int32) then (bd (if nI (szl (glC (aC a)) q.1) ≤ p2 then (some ((-3 : Int32), σ)) else (bd (fX4_tapeRecord E 2 (idI q.1) p2 σ) (fun r19 s17 => some (r19, s17)))) (fun w15 s16 => some (w15, s16))) else (some (nI (szl (glC (aC a)) q.1), σ))) else (some (bI q.2, σ))) ∧ RD σ 11 (glC (aC a)) (nrC (aC a)) q ∧ (q.1 ≠ [] → ∀ j, j < nrC (aC a) → (gi σ 33 j = idI q.1 ↔ q.1.contains j = true)) ∧ gi σ 11 7 = nI (nrC (aC a)) ∧ szl (glC (aC a)) q.1 = (cnt (cF (aC a)) (cN (aC a)) (roC (aC a)) q).length ∧ idI q.1 ≠ -2 := by
            intro σ hc hp
            obtain ⟨f1, ⟨f2, f3, f4, f5⟩, f6, f7, f8, f9, f10⟩ := c_tapes hR hw ht hc
            obtain ⟨L, H, t1, t2, t3, t4, t5, t6⟩ := f6 t htT
            have hrd := f7 t htT q hmem
            have hi2 : idI q.1 ≠ -2 := by
              cases hq1 : q.1 with
              | nil => decide
              | cons i l =>
                have := oc_lt f1.1 htT hmem (j := i) (by rw [hq1]; simp)
                exact nI_m2 (j := i) (by omega)
            have h6 : gi σ (21 + 2 * t + 1) (if bkC (aC a) then H - 1 - k else L + k) = idI q.1 := by rw [← hqd]; exact t6 k hk
            refine ⟨?_, hrd, fun hne j hj => hol_iff f1 (by omega) f8 htT hmem hne hj, f4, ?_, hi2⟩
            · unfold fX6_on
              rw [tk_ok r0, f10 t htT, bd_ok, if_neg (by decide), if_pos hp, dr_ok r3 l2.1, dr_ok rb4 lm.1, lm4, dr_s, lma.1, lma.2, tk_s, ck_m (by omega), nI_clamp (by omega), show rf E (11 + 1) t = some (21 + 2 * t) from lt1, dr_s, lt2.1, tk_s, f3, tape_at lt2 (bkC (aC a)) t1 t2 t3 t4 (by omega), bd_ok, if_pos (show k < H - L by omega), h6, if_pos (show ¬ idI q.1 = -2 from hi2), c_sizeOf lm f4 (by omega) (by omega) hrd, bd_ok, c_isDown lm f4 (by omega) (by omega) hrd, bd_ok]
              cases q.2
              · rw [if_pos (show bI false = 0 from rfl), bd_ok]; rfl
              · rw [if_neg (show ¬ bI true = 0 by decide), bd_ok]; rfl
            · exact (cnt_len v (oc_nd f1.1 htT hmem) (fun j hj => oc_lt f1.1 htT hmem hj)).symm
          have hCn : ∀ σ, RC CG' CM' σ a → ¬ (-2 : Int32) ≤ p2 → fX6_on E 0 (nI t) (nI k) p2 σ = some (-1, σ) := by
            intro σ hc hp
            obtain ⟨f1, ⟨f2, f3, f4, f5⟩, f6, f7, f8, f9, f10⟩ := c_tapes hR hw ht hc
            unfold fX6_on
            rw [tk_ok r0, f10 t htT, bd_ok, if_neg (by decide), if_neg hp]
          -- the reference, up to the run
          have hMm : ∀ σ, RM MG' MM' σ a → ∃ z : Dn, z.2.2 = q ∧ DD σ (cF (aC a)) (cN (aC a)) (roC (aC a)) (glC (aC a)) z ∧ fX7_on E 395 (nI t) (nI k) p2 σ = (if (-2 : Int32) ≤ p2 then (if ¬ p2 = (-2 : Int32) then (bd (if ¬ p2 = (-1 : Int32) then (ck ((1927 : Int32) + nI z.1) 7827 (if (gi σ 396 ((1927 : Int32) + nI z.1).toNatClampNeg) ≤ p2 then (some ((-3 : Int32), σ)) else (ck ((1227 : Int32) + nI z.1) 7827 (ck (((7527 : Int32) + (gi σ 396 ((1227 : Int32) + nI z.1).toNatClampNeg)) + p2) 7827 (some ((gi σ 396 (((7527 : Int32) + (gi σ 396 ((1227 : Int32) + nI z.1).toNatClampNeg)) + p2).toNatClampNeg), σ)))))) else (ck ((1927 : Int32) + nI z.1) 7827 (some ((gi σ 396 ((1927 : Int32) + nI z.1).toNatClampNeg), σ)))) (fun w18 s19 => some (w18, s19))) else (ck ((2627 : Int32) + nI z.1) 7827 (some ((gi σ 396 ((2627 : Int32) + nI z.1).toNatClampNeg), σ)))) else (some ((-1 : Int32), σ))) := by
            intro σ hc
            obtain ⟨f1, ⟨f2, f3⟩, f4, X, f5, f6, f7⟩ := m_tapesF hM hM2 hw ht hc
            obtain ⟨x1, x2, x3⟩ := f6 t (by omega)
            have hk' : k < (X t).length := by rw [(f5 t).1]; exact hk
            have hr := m_runAt (E := E) (σ := σ) hM hM2 (t := t) (k := k) (by omega) (by omega)
            rw [x3 k hk'] at hr
            refine ⟨(X t).getD k d0, by rw [(f5 t).2 k hk']; exact hqd, f7 t (by omega) k hk', ?_⟩
            unfold fX7_on
            rw [tk_ok m0, f4, bd_ok, if_neg (by decide), m_tapes hM hM2, bd_ok, f2, show fX7_in E (nI t) (0 : Int32) (nI (cS (aC a) 1) - 1) σ = some (1, σ) from m_inB htT (by omega), bd_ok, if_neg (by decide), dr_ok hM.2.1 hM2.1.1, hM2.1.2, show (20 : Int32) = nI 20 from rfl, nI_add, ck_n (by omega) (by omega), nI_clamp (by omega), x1, show fX7_in E (nI k) (0 : Int32) (nI (X t).length - 1) σ = some (1, σ) from m_inB hk' (by omega), bd_ok, if_neg (by decide), hr, bd_ok]
          rcases m2_split p2 with hb | rfl | rfl | ⟨m, hm, rfl⟩
          · refine ⟨-1, a, hw, spc_q (fun σ hc => ⟨σ, ?_, fun _ _ _ => rfl, fun _ _ _ => rfl⟩), spm_q (fun σ hc => ⟨σ, ?_, fun _ _ _ => rfl, fun _ _ _ => rfl⟩)⟩
            · exact hCn σ hc hb
            · obtain ⟨z, z1, z2, z3⟩ := hMm σ hc
              rw [z3, if_neg hb]
          · refine ⟨bI q.2, a, hw, spc_q (fun σ hc => ⟨σ, ?_, fun _ _ _ => rfl, fun _ _ _ => rfl⟩), spm_q (fun σ hc => ⟨σ, ?_, fun _ _ _ => rfl, fun _ _ _ => rfl⟩)⟩
            · rw [(hC σ hc (by decide)).1, if_neg (by simp)]
            · obtain ⟨z, z1, ⟨d1, d2, d3, d4, d5, d6⟩, z3⟩ := hMm σ hc
              rw [z3, if_pos (by decide), if_neg (by simp), show (2627 : Int32) = nI 2627 from rfl, nI_add, ck_n (by omega) (by omega), nI_clamp (by omega), d4, z1]
          · refine ⟨nI (szl (glC (aC a)) q.1), a, hw, spc_q (fun σ hc => ⟨σ, ?_, fun _ _ _ => rfl, fun _ _ _ => rfl⟩), spm_q (fun σ hc => ⟨σ, ?_, fun _ _ _ => rfl, fun _ _ _ => rfl⟩)⟩
            · rw [(hC σ hc (by decide)).1, if_pos (by decide), if_neg (by simp)]
            · obtain ⟨z, z1, ⟨d1, d2, d3, d4, d5, d6⟩, z3⟩ := hMm σ hc
              rw [z3, if_pos (by decide), if_pos (by decide), if_neg (by simp), show (1927 : Int32) = nI 1927 from rfl, nI_add, ck_n (by omega) (by omega), nI_clamp (by omega), d3, bd_ok]
              show some (nI (szl (glC (aC a)) z.2.2.1), σ) = _
              rw [z1]
          · by_cases hkg : szl (glC (aC a)) q.1 ≤ m
            · refine ⟨-3, a, hw, spc_q (fun σ hc => ⟨σ, ?_, fun _ _ _ => rfl, fun _ _ _ => rfl⟩), spm_q (fun σ hc => ⟨σ, ?_, fun _ _ _ => rfl, fun _ _ _ => rfl⟩)⟩
              · rw [(hC σ hc (m2_le hm)).1, if_pos (nI_m2 hm), if_pos (nI_m1 hm), if_pos (nI_le hkg hm), bd_ok]
              · obtain ⟨z, z1, ⟨d1, d2, d3, d4, d5, d6⟩, z3⟩ := hMm σ hc
                have hzz : zz (glC (aC a)) z = szl (glC (aC a)) q.1 := by unfold zz; rw [z1]
                rw [z3, if_pos (m2_le hm), if_pos (nI_m2 hm), if_pos (nI_m1 hm), show (1927 : Int32) = nI 1927 from rfl, nI_add, ck_n (by omega) (by omega), nI_clamp (by omega), d3, hzz, if_pos (nI_le hkg hm), bd_ok]
            · refine ⟨nI ((cnt (cF (aC a)) (cN (aC a)) (roC (aC a)) q).getD m 0), a, hw, spc_q (fun σ hc => ⟨σ, ?_, fun _ _ _ => rfl, fun _ _ _ => rfl⟩), spm_q (fun σ hc => ⟨σ, ?_, fun _ _ _ => rfl, fun _ _ _ => rfl⟩)⟩
              · obtain ⟨f1, f2, f3, f4, f5, f6⟩ := hC σ hc (m2_le hm)
                obtain ⟨k1, k2, k3⟩ := cs_rr hc.2.2.2.1
                obtain ⟨g1, g2, g3, g4⟩ := cs_g hc.2.2.2.1 (by omega)
                have hsz : szl (glC (aC a)) q.1 ≤ 300 := by
                  rw [f5]
                  have := List.length_filter_le (fun x => q.1.contains (roC (aC a) x)) (lst (cF (aC a)) (cN (aC a)) q.2)
                  rw [lst_len] at this
                  exact Nat.le_trans this hn
                have hne : q.1 ≠ [] := fun z => by rw [z] at hkg; exact hkg (Nat.zero_le _)
                rw [f1, if_pos (nI_m2 hm), if_pos (nI_m1 hm), if_neg (nI_ge (by omega) (by omega)), c_tapeRec l2 k1.1 hn k1.2.2.1 f4 (by omega) f2 (fun x hx => ⟨g3 x hx, v.2 x hx⟩) (f3 hne) (by omega), bd_ok, bd_ok]
              · obtain ⟨z, z1, ⟨d1, d2, d3, d4, d5, d6⟩, z3⟩ := hMm σ hc
                have hzz : zz (glC (aC a)) z = szl (glC (aC a)) q.1 := by unfold zz; rw [z1]
                rw [hzz] at d5 d6
                rw [z3, if_pos (m2_le hm), if_pos (nI_m2 hm), if_pos (nI_m1 hm), show (1927 : Int32) = nI 1927 from rfl, nI_add, ck_n (by omega) (by omega), nI_clamp (by omega), d3, hzz, if_neg (nI_ge (by omega) (by omega)), show (1227 : Int32) = nI 1227 from rfl, nI_add, ck_n (by omega) (by omega), nI_clamp (by omega), d2, show (7527 : Int32) = nI 7527 from rfl, nI_add, nI_add, ck_n (by omega) (by omega), nI_clamp (by omega), d6 m (by omega), z1, bd_ok]
        · refine ⟨-1, a, hw, spc_q (fun σ hc => ⟨σ, ?_, fun _ _ _ => rfl, fun _ _ _ => rfl⟩), spm_q (fun σ hc => ⟨σ, ?_, fun _ _ _ => rfl, fun _ _ _ => rfl⟩)⟩
          · obtain ⟨f1, ⟨f2, f3, f4, f5⟩, f6, f7, f8, f9, f10⟩ := c_tapes hR hw ht hc
            obtain ⟨L, H, htp⟩ := f6 t htT
            unfold fX6_on
            rw [tk_ok r0, f10 t htT, bd_ok, if_neg (by decide)]
            by_cases hp : (-2 : Int32) ≤ p2
            · rw [if_pos hp, dr_ok r3 l2.1, dr_ok rb4 lm.1, lm4, dr_s, lma.1, lma.2, tk_s, ck_m (by omega), nI_clamp (by omega), show rf E (11 + 1) t = some (21 + 2 * t) from lt1, dr_s, lt2.1, tk_s, c_atNo lt2 htp hq, bd_ok, if_neg (by simp)]
            · rw [if_neg hp]
          · obtain ⟨f1, ⟨f2, f3⟩, f4, X, f5, f6, f7⟩ := m_tapesF hM hM2 hw ht hc
            obtain ⟨x1, x2, x3⟩ := f6 t (by omega)
            unfold fX7_on
            rw [tk_ok m0, f4, bd_ok, if_neg (by decide), m_tapes hM hM2, bd_ok, f2, show fX7_in E (nI t) (0 : Int32) (nI (cS (aC a) 1) - 1) σ = some (1, σ) from m_inB htT (by omega), bd_ok, if_neg (by decide), dr_ok hM.2.1 hM2.1.1, hM2.1.2, show (20 : Int32) = nI 20 from rfl, nI_add, ck_n (by omega) (by omega), nI_clamp (by omega), x1, (f5 t).1, show fX7_in E p1 (0 : Int32) (nI (mT (miC (aC a)) t).length - 1) σ = some (0, σ) from m_inF hq2, bd_ok, if_pos rfl]
      · refine ⟨-1, a, hw, spc_q (fun σ hc => ?_), spm_q (fun σ hc => ?_)⟩
        · obtain ⟨f1, f2, f6, f7⟩ := c_tapes hR hw ht hc
          obtain ⟨L, H, t1, t2, t3, t4, t5, t6⟩ := f6 t htT
          omega
        · obtain ⟨f1, f2, f4, X, f5, f6, f7⟩ := m_tapesF hM hM2 hw ht hc
          obtain ⟨x1, x2, x3⟩ := f6 t (by omega)
          have := (f5 t).1
          omega
    · refine ⟨-1, a, hw, spc_q (fun σ hc => ⟨σ, ?_, fun _ _ _ => rfl, fun _ _ _ => rfl⟩), spm_q (fun σ hc => ⟨σ, ?_, fun _ _ _ => rfl, fun _ _ _ => rfl⟩)⟩
      · obtain ⟨f1, f2, f6, f7, f8, f9, f10⟩ := c_tapes hR hw ht hc
        unfold fX6_on
        rw [tk_ok r0, f9 p0 hq, bd_ok, if_pos rfl]
      · obtain ⟨f1, ⟨f2, f3⟩, f4, X, f5, f6, f7⟩ := m_tapesF hM hM2 hw ht hc
        unfold fX7_on
        rw [tk_ok m0, f4, bd_ok, if_neg (by decide), m_tapes hM hM2, bd_ok, f2, show fX7_in E p0 (0 : Int32) (nI (cS (aC a) 1) - 1) σ = some (0, σ) from m_inF hq2, bd_ok, if_pos rfl]
  · obtain ⟨q1, q2⟩ := spread_no hR hM hM2 hw ht
    refine ⟨-1, a, hw, spc_q (fun σ hc => ⟨σ, ?_, fun _ _ _ => rfl, fun _ _ _ => rfl⟩), spm_q (fun σ hc => ⟨σ, ?_, fun _ _ _ => rfl, fun _ _ _ => rfl⟩)⟩
    · unfold fX6_on
      rw [tk_ok r0, q1 σ p0 hc, bd_ok, if_pos rfl]
    · unfold fX7_on
      rw [tk_ok m0, q2 σ hc, bd_ok, if_pos rfl]
end ON2
