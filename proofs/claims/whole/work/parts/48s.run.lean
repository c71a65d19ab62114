/-! run -/
theorem cnP_cons {p : Nat → Bool} {x : Nat} {l : List Nat} : ∀ i, cnP (fun j => p ((x :: l).getD j 0)) (i + 1) = (if p x = true then 1 else 0) + cnP (fun j => p (l.getD j 0)) i
  | 0 => by simp [cnP]
  | i + 1 => by
    have ih := cnP_cons (p := p) (x := x) (l := l) i
    show cnP (fun j => p ((x :: l).getD j 0)) (i + 1) + (if p ((x :: l).getD (i + 1) 0) = true then 1 else 0) = _
    rw [ih]
    show _ = (if p x = true then 1 else 0) + (cnP (fun j => p (l.getD j 0)) i + (if p (l.getD i 0) = true then 1 else 0))
    rw [List.getD_cons_succ]
    omega
theorem flt_at {p : Nat → Bool} : ∀ {l : List Nat} {k : Nat}, k < (l.filter p).length → ∃ i, i < l.length ∧ p (l.getD i 0) = true ∧ cnP (fun j => p (l.getD j 0)) i = k ∧ l.getD i 0 = (l.filter p).getD k 0
  | [], k, h => by simp at h
  | x :: l, k, h => by
    by_cases hp : p x = true
    · rw [List.filter_cons, if_pos hp] at h ⊢
      cases k with
      | zero => exact ⟨0, by simp, hp, rfl, rfl⟩
      | succ k =>
        obtain ⟨i, h1, h2, h3, h4⟩ := flt_at (p := p) (l := l) (k := k) (by simpa using h)
        exact ⟨i + 1, by simpa using h1, by rw [List.getD_cons_succ]; exact h2, by rw [cnP_cons, if_pos hp, h3]; omega, by rw [List.getD_cons_succ, List.getD_cons_succ]; exact h4⟩
    · rw [List.filter_cons, if_neg hp] at h ⊢
      obtain ⟨i, h1, h2, h3, h4⟩ := flt_at (p := p) (l := l) (k := k) h
      exact ⟨i + 1, by simpa using h1, by rw [List.getD_cons_succ]; exact h2, by rw [cnP_cons, if_neg hp, h3]; omega, by rw [List.getD_cons_succ]; exact h4⟩
theorem cnP_mono (p : Nat → Bool) {i : Nat} : ∀ {j : Nat}, i ≤ j → cnP p i ≤ cnP p j
  | 0, h => by rw [show i = 0 by omega]; exact Nat.le_refl _
  | j + 1, h => by
    rcases Nat.lt_or_ge i (j + 1) with z | z
    · have := cnP_mono p (i := i) (j := j) (by omega)
      show cnP p i ≤ cnP p j + _
      omega
    · rw [show i = j + 1 by omega]; exact Nat.le_refl _
theorem fst_flt {p : Nat → Bool} {l : List Nat} {k : Nat} (h : k < (l.filter p).length) : ∃ i, fstF (fun i => p (l.getD i 0) && (cnP (fun j => p (l.getD j 0)) i == k)) l.length = some i ∧ l.getD i 0 = (l.filter p).getD k 0 := by
  obtain ⟨i, h1, h2, h3, h4⟩ := flt_at h
  refine ⟨i, fstF_is h1 (by simp only [h2, h3, Bool.true_and, beq_self_eq_true]) (fun j hj => ?_), h4⟩
  cases hb : p (l.getD j 0) with
  | false => rfl
  | true =>
    have e : cnP (fun j => p (l.getD j 0)) (j + 1) = cnP (fun j => p (l.getD j 0)) j + 1 := by
      show cnP (fun j => p (l.getD j 0)) j + (if p (l.getD j 0) = true then 1 else 0) = _
      rw [hb, if_pos rfl]
    have := cnP_mono (fun j => p (l.getD j 0)) (show j + 1 ≤ i by omega)
    simp only [Bool.true_and, beq_eq_false_iff_ne]
    omega
/-- from -2 on -/
theorem m2_split (p : Int32) : ¬ (-2 : Int32) ≤ p ∨ p = -2 ∨ p = -1 ∨ ∃ m, m < 2 ^ 31 ∧ p = nI m := by
  by_cases h : (-2 : Int32) ≤ p
  · by_cases h2 : p = -2
    · exact Or.inr (Or.inl h2)
    · by_cases h1 : p = -1
      · exact Or.inr (Or.inr (Or.inl h1))
      · refine Or.inr (Or.inr (Or.inr ?_))
        by_cases h0 : p < 0
        · exfalso
          rw [Int32.lt_iff_toInt_lt] at h0
          rw [Int32.le_iff_toInt_le] at h
          have e0 : (0 : Int32).toInt = 0 := by decide
          have e1 : (-1 : Int32).toInt = -1 := by decide
          have e2 : (-2 : Int32).toInt = -2 := by decide
          have q1 : p.toInt ≠ -1 := fun q => h1 (Int32.toInt_inj.mp (q.trans e1.symm))
          have q2 : p.toInt ≠ -2 := fun q => h2 (Int32.toInt_inj.mp (q.trans e2.symm))
          omega
        · obtain ⟨m, hm, e⟩ := nI_of h0
          exact ⟨m, hm, e⟩
  · exact Or.inl h
theorem nI_m1 {j : Nat} (hj : j < 2 ^ 31) : ¬ nI j = (-1 : Int32) := fun h => by
  have := nI_pos hj
  rw [h] at this
  exact this (by decide)
theorem m2_le {m : Nat} (hm : m < 2 ^ 31) : (-2 : Int32) ≤ nI m := Int32.le_trans (by decide : (-2 : Int32) ≤ 0) (nI_pos' hm)
section RN
variable {E : En} {σ : Sg} {n : Nat} {F : Nat → Nat}
theorem c_ranked {a i : Nat} {f : Bool} (hL : LRec E a) (h1 : gi σ a 2 = nI n) (hn : n ≤ 300) (h3 : ∀ i, i < n → gi σ (a + 2) i = nI ((rs F n).getD i 0)) (hi : i < n) : fX3_ranked E a (nI i) (bI f) σ = some (nI ((lst F n f).getD i 0), σ) := by
  obtain ⟨l0, l1, l2, l3, l4⟩ := hL
  unfold fX3_ranked
  rw [tk_ok l0, l2, dr_s, l4.1, l4.2, tk_s, lst_at hi]
  cases f with
  | false => rw [if_pos (show bI false = 0 from rfl), bd_ok, ck_m (by omega), nI_clamp (by omega), h3 i hi]; rfl
  | true => rw [if_neg (by decide), h1, i1, sub_n (by omega), sub_n (by omega), bd_ok, ck_m (by omega), nI_clamp (by omega), h3 _ (by omega)]; rfl
theorem lst_lt {f : Bool} {i : Nat} (hi : i < n) : (lst F n f).getD i 0 < n := by
  have := lst_mem (F := F) (n := n) (f := f) (x := (lst F n f).getD i 0)
  apply this.mp
  rw [List.getD_eq_getElem?_getD, List.getElem?_eq_getElem (by rw [lst_len]; exact hi)]
  exact List.getElem_mem _
theorem c_grownRec (hL : LSta E 2) {r k : Nat} {ro : Nat → Nat} {tu : Bool} (h1 : gi σ 3 2 = nI n) (hn : n ≤ 300) (h3 : ∀ i, i < n → gi σ 5 i = nI ((rs F n).getD i 0)) (h7 : gi σ 7 3 = bI tu) (h8 : ∀ x, x < n → gi σ 8 x = nI (ro x) ∧ ro x < 2 ^ 31) (hr : r < 2 ^ 31) (hk : k < (cnt F n ro (rnj tu r)).length) : fX4_grownRecord E 2 (nI r) (nI k) σ = some (nI ((cnt F n ro (rnj tu r)).getD k 0), σ) := by
  obtain ⟨b0, rb0, rb1, rb3, rb4, rb5, rb6, lr, la4, lg, lm, la31, la32⟩ := id hL
  have he : cnt F n ro (rnj tu r) = (lst F n (fal tu r)).filter (fun x => ro x == r) := by
    unfold cnt rnj
    show (lst F n (fal tu r)).filter _ = _
    congr 1
    funext x
    rw [List.contains_cons]; simp
  rw [he] at hk ⊢
  generalize hl : lst F n (fal tu r) = l at *
  have hll : l.length = n := by rw [← hl]; exact lst_len
  have hkn : k < n := by have := List.length_filter_le (fun x => ro x == r) l; omega
  obtain ⟨i0', q1, q2⟩ := fst_flt hk
  rw [hll] at q1
  unfold fX4_grownRecord
  rw [tk_ok b0, for_fst n (fun i => ((nI (cnP (fun j => ro (l.getD j 0) == r) i), nI i), σ)) (fun i => (ro (l.getD i 0) == r) && (cnP (fun j => ro (l.getD j 0) == r) i == k)) (fun i => (.inr (nI (l.getD i 0)), σ)) (.inl (nI (cnP (fun j => ro (l.getD j 0) == r) n), nI n), σ) (by show n < 1000000; omega) ?_ ?_ (a := (((0 : Int32), (0 : Int32)), σ)) rfl]
  · rw [q1, ← q2]; rfl
  · intro i rec hi
    have hx : l.getD i 0 < n := by rw [← hl]; exact lst_lt hi
    obtain ⟨x1, x2⟩ := h8 _ hx
    have hcl := cnP_le (fun j => ro (l.getD j 0) == r) i
    unfold bX4_grownRecord_5
    dsimp only
    rw [dr_ok rb0 lr.1, show gi σ (2 + 1) 2 = nI n from h1, if_neg (nI_ge hi (by omega)), dr_ok rb3 lg.1, c_falls lg (show gi σ (2 + 5) 3 = bI tu from h7) hr, bd_ok, c_ranked (F := F) lr h1 hn h3 hi, bd_ok, hl, lg.2.1, dr_s, lg.2.2.2.2.1.1, lg.2.2.2.2.1.2, tk_s, ck_m (by omega), nI_clamp (by omega), show gi σ (2 + 5 + 1) (l.getD i 0) = nI (ro (l.getD i 0)) from x1]
    have e : cnP (fun j => ro (l.getD j 0) == r) (i + 1) = cnP (fun j => ro (l.getD j 0) == r) i + (if (ro (l.getD i 0) == r) = true then 1 else 0) := rfl
    by_cases hc : ro (l.getD i 0) = r
    · have hb : (ro (l.getD i 0) == r) = true := by simpa using hc
      rw [if_neg (by rw [hc]; simp)]
      by_cases hc2 : cnP (fun j => ro (l.getD j 0) == r) i = k
      · rw [if_neg (by rw [hc2]; simp), if_pos (by rw [hb, hc2]; simp)]
      · rw [if_pos (fun q => hc2 ((nI_eq (by omega) (by omega)).mp q)), if_neg (by rw [hb, Bool.true_and]; simpa using hc2), lt_ok, lt_ok, i1, nI_add, nI_add, e, if_pos hb]
    · have hb : ¬ (ro (l.getD i 0) == r) = true := by simpa using hc
      rw [if_pos (fun q => hc ((nI_eq (by omega) (by omega)).mp q)), if_neg (fun q => hb (by rw [Bool.and_eq_true] at q; exact q.1)), lt_ok, i1, nI_add, e, if_neg hb]; rfl
  · intro rec
    unfold bX4_grownRecord_5
    dsimp only
    rw [dr_ok rb0 lr.1, show gi σ (2 + 1) 2 = nI n from h1, if_pos (nI_le (Nat.le_refl _) (by omega))]
end RN
section RN2
variable {E : En}
theorem ok_run (hR : LRun E) (hM : LMod E) (hM2 : LMo2 E) (p0 p1 : Int32) : Ok (JJ CG' CM' MG' MM') (fX6_run E 0 p0 p1) (fX7_run E 395 p0 p1) := by
  refine ok_of (fun a hw => ?_)
  obtain ⟨r0, r1, r3, r4, r5, r8, r9, r10, r11, r12, r13, l1, l2, lx⟩ := id hR
  obtain ⟨b0, rb0, rb1, rb3, rb4, rb5, rb6, lr, la4, lg, lm, la31, la32⟩ := id l2
  have m0 := hM.1
  have hwc := hw.2.2.1
  have hn := hwc.1
  have ht3 := hwc.2.2.2.1
  by_cases ht : 1 ≤ cT (aC a)
  · have h0 := hwc.2.2.2.2.1 ht
    obtain ⟨n1, n2⟩ := nr_c hwc h0
    obtain ⟨y1, y2, y3⟩ := bg_c hwc h0
    obtain ⟨_, _, v3, v4⟩ := gv_c hwc h0
    rcases below p0 (n := nrC (aC a)) (by omega) with ⟨r, hr, rfl⟩ | ⟨hq, hq2⟩
    · obtain ⟨z1, z2⟩ := y2 r hr
      have hs1 := (hwc.2.2.1 5 (by omega)).2
      have hs1 : cS (aC a) 5 ≤ 1 := hs1
      have hlen : (cnt (cF (aC a)) (cN (aC a)) (roC (aC a)) (rnj (tuC (aC a)) r)).length = glC (aC a) r := by
        have hj1 : ∀ j, j ∈ (rnj (tuC (aC a)) r).1 → j < nrC (aC a) := fun j hj => by
          have hj : j ∈ [r] := hj
          rw [List.mem_singleton.mp hj]; exact hr
        rw [cnt_len ⟨v3, v4⟩ (q := rnj (tuC (aC a)) r) (by show [r].Nodup; simp) hj1]
        show glC (aC a) r + 0 = _
        omega
      have hC : ∀ σ, RC CG' CM' σ a → fX6_isRun E 0 (nI r) σ = some (1, σ) ∧ fX0_falls E 7 (nI r) σ = some (bI (fal (tuC (aC a)) r), σ) ∧ gi σ 9 r = nI (glC (aC a) r) := fun σ hc => by
        obtain ⟨k1, k2, k3⟩ := cs_rr hc.2.2.2.1
        obtain ⟨g1, g2, g3, g4⟩ := cs_g hc.2.2.2.1 ht
        refine ⟨?_, c_falls lg g2 (by omega), g4 r hr⟩
        unfold fX6_isRun
        rw [tk_ok r0, dr_ok r3 l2.1, k3, i1, if_neg (nI_nlt ht (by omega)), if_neg (nI_pos (by omega)), dr_ok rb3 lg.1]
        show bd (if gi σ 7 2 ≤ nI r then _ else _) _ = _
        rw [g1, if_neg (nI_ge hr (by omega)), bd_ok, ← i1, kb_1]
      have hMd : ∀ σ, RM MG' MM' σ a → gi σ 396 7 = nI (cT (aC a)) ∧ gi σ 396 14 = nI (nrC (aC a)) ∧ fX7_in E (nI r) (0 : Int32) (nI (nrC (aC a)) - 1) σ = some (1, σ) ∧ fX7_doesFall E 395 (nI r) σ = some (bI (fal (tuC (aC a)) r), σ) ∧ fX7_runSize E 395 (nI r) σ = some (nI (glC (aC a) r), σ) := fun σ hc => by
        obtain ⟨k1, k2, k3, k4, k5⟩ := mr_g hn hc.2.2.1
        obtain ⟨g1, g2, g3, g4⟩ := mr_mg hwc hc.2.2.1 ht
        refine ⟨k4, g1, m_inB hr (by omega), m_doesFall hM hM2 (k3 5 (by omega)) hs1 (by omega), ?_⟩
        unfold fX7_runSize
        rw [tk_ok m0, dr_ok hM.2.1 hM2.1.1, hM2.1.2, show (926 : Int32) = nI 926 from rfl, i1, nI_add, nI_add, ck_n (by omega) (by omega), ck_n (by omega) (by omega), nI_clamp (by omega), nI_clamp (by omega), show 926 + r + 1 = 926 + (r + 1) by omega, g2 _ (by omega), g2 _ (by omega), sub_n (by omega), show bgC (aC a) (r + 1) - bgC (aC a) r = glC (aC a) r by omega]
      rcases m2_split p1 with hb | rfl | rfl | ⟨k, hk, rfl⟩
      · refine ⟨-1, a, hw, spc_q (fun σ hc => ⟨σ, ?_, fun _ _ _ => rfl, fun _ _ _ => rfl⟩), spm_q (fun σ hc => ⟨σ, ?_, fun _ _ _ => rfl, fun _ _ _ => rfl⟩)⟩
        · obtain ⟨e1, e2, e3⟩ := hC σ hc
          unfold fX6_run
          rw [tk_ok r0, e1, bd_ok, if_neg (by decide), if_neg hb]
        · obtain ⟨e1, e2, e3, e4, e5⟩ := hMd σ hc
          unfold fX7_run
          rw [tk_ok m0, dr_ok hM.2.1 hM2.1.1, hM2.1.2, i7, ck_n (by omega) (by omega), nI_clamp (by omega), e1, if_neg (nI_ne0 (by omega) (by omega)), show (14 : Int32) = nI 14 from rfl, ck_n (by omega) (by omega), nI_clamp (by omega), e2, e3, bd_ok, if_neg (by decide), if_neg hb]
      · refine ⟨if fal (tuC (aC a)) r = true then 1 else 0, a, hw, spc_q (fun σ hc => ⟨σ, ?_, fun _ _ _ => rfl, fun _ _ _ => rfl⟩), spm_q (fun σ hc => ⟨σ, ?_, fun _ _ _ => rfl, fun _ _ _ => rfl⟩)⟩
        · obtain ⟨e1, e2, e3⟩ := hC σ hc
          unfold fX6_run
          rw [tk_ok r0, e1, bd_ok, if_neg (by decide), if_pos (by decide), dr_ok r3 l2.1, dr_ok rb3 lg.1, show fX0_falls E (2 + 5) (nI r) σ = _ from e2, bd_ok, if_neg (by simp)]
          cases fal (tuC (aC a)) r
          · rw [if_pos (show bI false = 0 from rfl), bd_ok]; rfl
          · rw [if_neg (by decide), bd_ok]; rfl
        · obtain ⟨e1, e2, e3, e4, e5⟩ := hMd σ hc
          unfold fX7_run
          rw [tk_ok m0, dr_ok hM.2.1 hM2.1.1, hM2.1.2, i7, ck_n (by omega) (by omega), nI_clamp (by omega), e1, if_neg (nI_ne0 (by omega) (by omega)), show (14 : Int32) = nI 14 from rfl, ck_n (by omega) (by omega), nI_clamp (by omega), e2, e3, bd_ok, if_neg (by decide), if_pos (by decide), if_neg (by decide), if_pos (by decide), e4, bd_ok, m_truth, bd_ok, bd_ok]
          cases fal (tuC (aC a)) r
          · rw [if_pos (show bI false = 0 from rfl), if_neg (by simp)]
          · rw [if_neg (by decide), if_pos rfl]
      · refine ⟨nI (glC (aC a) r), a, hw, spc_q (fun σ hc => ⟨σ, ?_, fun _ _ _ => rfl, fun _ _ _ => rfl⟩), spm_q (fun σ hc => ⟨σ, ?_, fun _ _ _ => rfl, fun _ _ _ => rfl⟩)⟩
        · obtain ⟨e1, e2, e3⟩ := hC σ hc
          unfold fX6_run
          rw [tk_ok r0, e1, bd_ok, if_neg (by decide), if_pos (by decide), dr_ok r3 l2.1, dr_ok rb3 lg.1, show fX0_falls E (2 + 5) (nI r) σ = _ from e2, bd_ok, if_pos (by decide), if_neg (by simp), lg.2.2.1, dr_s, lg.2.2.2.2.2.1.1, lg.2.2.2.2.2.1.2, tk_s, ck_m (by omega), nI_clamp (by omega)]
          show some (gi σ 9 r, σ) = _
          rw [e3]
        · obtain ⟨e1, e2, e3, e4, e5⟩ := hMd σ hc
          unfold fX7_run
          rw [tk_ok m0, dr_ok hM.2.1 hM2.1.1, hM2.1.2, i7, ck_n (by omega) (by omega), nI_clamp (by omega), e1, if_neg (nI_ne0 (by omega) (by omega)), show (14 : Int32) = nI 14 from rfl, ck_n (by omega) (by omega), nI_clamp (by omega), e2, e3, bd_ok, if_neg (by decide), if_pos (by decide), if_neg (by decide), if_neg (by simp), e5, bd_ok, bd_ok]
      · by_cases hkg : glC (aC a) r ≤ k
        · refine ⟨-3, a, hw, spc_q (fun σ hc => ⟨σ, ?_, fun _ _ _ => rfl, fun _ _ _ => rfl⟩), spm_q (fun σ hc => ⟨σ, ?_, fun _ _ _ => rfl, fun _ _ _ => rfl⟩)⟩
          · obtain ⟨e1, e2, e3⟩ := hC σ hc
            unfold fX6_run
            rw [tk_ok r0, e1, bd_ok, if_neg (by decide), if_pos (m2_le hk), dr_ok r3 l2.1, dr_ok rb3 lg.1, show fX0_falls E (2 + 5) (nI r) σ = _ from e2, bd_ok, if_pos (nI_m2 hk), if_pos (nI_m1 hk), lg.2.2.1, dr_s, lg.2.2.2.2.2.1.1, lg.2.2.2.2.2.1.2, tk_s, ck_m (by omega), nI_clamp (by omega), show gi σ (2 + 5 + 2) r = _ from e3, if_pos (nI_le hkg hk), bd_ok]
          · obtain ⟨e1, e2, e3, e4, e5⟩ := hMd σ hc
            unfold fX7_run
            rw [tk_ok m0, dr_ok hM.2.1 hM2.1.1, hM2.1.2, i7, ck_n (by omega) (by omega), nI_clamp (by omega), e1, if_neg (nI_ne0 (by omega) (by omega)), show (14 : Int32) = nI 14 from rfl, ck_n (by omega) (by omega), nI_clamp (by omega), e2, e3, bd_ok, if_neg (by decide), if_pos (m2_le hk), if_pos (nI_pos' hk), e5, bd_ok, if_pos (nI_le hkg hk), bd_ok]
        · refine ⟨nI ((cnt (cF (aC a)) (cN (aC a)) (roC (aC a)) (rnj (tuC (aC a)) r)).getD k 0), a, hw, spc_q (fun σ hc => ⟨σ, ?_, fun _ _ _ => rfl, fun _ _ _ => rfl⟩), spm_q (fun σ hc => ⟨σ, ?_, fun _ _ _ => rfl, fun _ _ _ => rfl⟩)⟩
          · obtain ⟨e1, e2, e3⟩ := hC σ hc
            obtain ⟨k1, k2, k3⟩ := cs_rr hc.2.2.2.1
            obtain ⟨g1, g2, g3, g4⟩ := cs_g hc.2.2.2.1 ht
            unfold fX6_run
            rw [tk_ok r0, e1, bd_ok, if_neg (by decide), if_pos (m2_le hk), dr_ok r3 l2.1, dr_ok rb3 lg.1, show fX0_falls E (2 + 5) (nI r) σ = _ from e2, bd_ok, if_pos (nI_m2 hk), if_pos (nI_m1 hk), lg.2.2.1, dr_s, lg.2.2.2.2.2.1.1, lg.2.2.2.2.2.1.2, tk_s, ck_m (by omega), nI_clamp (by omega), show gi σ (2 + 5 + 2) r = _ from e3, if_neg (nI_ge (by omega) (by omega)), c_grownRec l2 k1.1 hn k1.2.2.1 g2 (fun x hx => ⟨g3 x hx, by have := v4 x hx; omega⟩) (by omega) (by rw [hlen]; omega), bd_ok, bd_ok]
          · obtain ⟨e1, e2, e3, e4, e5⟩ := hMd σ hc
            obtain ⟨g1, g2, g3, g4⟩ := mr_mg hwc hc.2.2.1 ht
            unfold fX7_run
            rw [tk_ok m0, dr_ok hM.2.1 hM2.1.1, hM2.1.2, i7, ck_n (by omega) (by omega), nI_clamp (by omega), e1, if_neg (nI_ne0 (by omega) (by omega)), show (14 : Int32) = nI 14 from rfl, ck_n (by omega) (by omega), nI_clamp (by omega), e2, e3, bd_ok, if_neg (by decide), if_pos (m2_le hk), if_pos (nI_pos' hk), e5, bd_ok, if_neg (nI_ge (by omega) (by omega)), show (926 : Int32) = nI 926 from rfl, nI_add, ck_n (by omega) (by omega), nI_clamp (by omega), g2 r (by omega), show (626 : Int32) = nI 626 from rfl, nI_add, nI_add, ck_n (by omega) (by omega), nI_clamp (by omega), show 626 + bgC (aC a) r + k = 626 + (bgC (aC a) r + k) by omega, g3 _ (by omega), y3 r hr k (by omega), bd_ok]
    · refine ⟨-1, a, hw, spc_q (fun σ hc => ⟨σ, ?_, fun _ _ _ => rfl, fun _ _ _ => rfl⟩), spm_q (fun σ hc => ⟨σ, ?_, fun _ _ _ => rfl, fun _ _ _ => rfl⟩)⟩
      · obtain ⟨k1, k2, k3⟩ := cs_rr hc.2.2.2.1
        obtain ⟨g1, g2, g3, g4⟩ := cs_g hc.2.2.2.1 ht
        have : fX6_isRun E 0 p0 σ = some (0, σ) := by
          unfold fX6_isRun
          rw [tk_ok r0, dr_ok r3 l2.1, k3, i1, if_neg (nI_nlt ht (by omega))]
          rcases hq with h | ⟨h1, h2⟩
          · rw [if_pos h, bd_ok, kb_0]
          · rw [if_neg h1, dr_ok rb3 lg.1]
            show bd (if gi σ 7 2 ≤ p0 then _ else _) _ = _
            rw [g1, if_pos (Int32.not_lt.mp h2), bd_ok, kb_0]
        unfold fX6_run
        rw [tk_ok r0, this, bd_ok, if_pos rfl]
      · obtain ⟨k1, k2, k3, k4, k5⟩ := mr_g hn hc.2.2.1
        obtain ⟨g1, g2, g3, g4⟩ := mr_mg hwc hc.2.2.1 ht
        unfold fX7_run
        rw [tk_ok m0, dr_ok hM.2.1 hM2.1.1, hM2.1.2, i7, ck_n (by omega) (by omega), nI_clamp (by omega), k4, if_neg (nI_ne0 (by omega) (by omega)), show (14 : Int32) = nI 14 from rfl, ck_n (by omega) (by omega), nI_clamp (by omega), g1, show fX7_in E p0 (0 : Int32) (nI (nrC (aC a)) - 1) σ = some (0, σ) from m_inF hq2, bd_ok, if_pos rfl]
  · refine ⟨-1, a, hw, spc_q (fun σ hc => ⟨σ, ?_, fun _ _ _ => rfl, fun _ _ _ => rfl⟩), spm_q (fun σ hc => ⟨σ, ?_, fun _ _ _ => rfl, fun _ _ _ => rfl⟩)⟩
    · obtain ⟨k1, k2, k3⟩ := cs_rr hc.2.2.2.1
      have : fX6_isRun E 0 p0 σ = some (0, σ) := by
        unfold fX6_isRun
        rw [tk_ok r0, dr_ok r3 l2.1, k3, i1, if_pos (nI_lt (by omega) (by omega)), bd_ok, kb_0]
      unfold fX6_run
      rw [tk_ok r0, this, bd_ok, if_pos rfl]
    · obtain ⟨k1, k2, k3, k4, k5⟩ := mr_g hn hc.2.2.1
      unfold fX7_run
      rw [tk_ok m0, dr_ok hM.2.1 hM2.1.1, hM2.1.2, i7, ck_n (by omega) (by omega), nI_clamp (by omega), k4, show cT (aC a) = 0 by omega, if_pos (show nI 0 = (0 : Int32) from rfl)]
end RN2
