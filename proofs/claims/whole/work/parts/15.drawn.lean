/-! drawn -/
theorem lm31 {a : Nat} (h : a < 2 ^ 64) : lN a &&& (2147483647 : Int64) = lN (a % 2 ^ 31) := by
  apply Int64.toBitVec_inj.mp
  rw [Int64.toBitVec_and]
  apply BitVec.eq_of_toNat_eq
  rw [BitVec.toNat_and, show (lN a).toBitVec.toNat = a from by show (BitVec.ofNat 64 a).toNat = a; rw [BitVec.toNat_ofNat, Nat.mod_eq_of_lt h], show (2147483647 : Int64).toBitVec.toNat = 2 ^ 31 - 1 from by decide, Nat.and_two_pow_sub_one_eq_mod]
  show a % 2 ^ 31 = (BitVec.ofNat 64 (a % 2 ^ 31)).toNat
  rw [BitVec.toNat_ofNat, Nat.mod_eq_of_lt (a := a % 2 ^ 31) (by omega)]
def nx (x : Nat) : Nat := (x * 1103515245 + 12345) % 2 ^ 31
theorem nx_lt (x : Nat) : nx x < 2 ^ 31 := Nat.mod_lt _ (by decide)
def nxs (x : Nat) : Nat → Nat
  | 0 => x
  | n + 1 => nx (nxs x n)
theorem nxs_lt {x : Nat} (h : x < 2 ^ 31) : ∀ i, nxs x i < 2 ^ 31
  | 0 => h
  | _ + 1 => nx_lt _
theorem c_drawOf {E : En} {σ : Sg} {x m : Nat} (hE : cd E 0 = 6) (h : gi σ 0 2 = nI x) (hx : x < 2 ^ 31) (h1 : 1 ≤ m) (hm : m ≤ 256) : fX6_drawOf E 0 (nI m) σ = some (nI (nx x / 65536 % m), si σ 0 2 (nI (nx x))) := by
  unfold fX6_drawOf
  have hn := nx_lt x
  have h6 : nx x / 65536 < 2 ^ 31 := by omega
  rw [tk_ok hE, ss_ok, h, nI_l hx, show (1103515245 : Int64) = lN 1103515245 from rfl, show (12345 : Int64) = lN 12345 from rfl, lN_mul, lN_add, lm31 (by omega), lN_i, gs_eq, show x * 1103515245 + 12345 = x * 1103515245 + 12345 from rfl]
  show bd (if (1 : Int32) ≤ nI m then _ else _) _ = _
  rw [show (x * 1103515245 + 12345) % 2 ^ 31 = nx x from rfl, show (65536 : Int32) = nI 65536 from rfl, pk_div hn (by omega) (by omega), im_n h6 (by omega) (by omega), i1, if_pos (nI_le h1 (by omega))]
  unfold nz
  rw [if_neg (nI_ne0 (by omega) (by omega)), bd_ok]
theorem m_drawnOf {E : En} {σ : Sg} {x m : Nat} (hM : LMod E) (hM2 : LMo2 E) (h : gi σ 396 8 = nI x) (hx : x < 2 ^ 31) (h1 : 1 ≤ m) (hm : m ≤ 256) : fX7_drawnOf E 395 (nI m) σ = some (nI (nx x / 65536 % m), si σ 396 8 (nI (nx x))) := by
  unfold fX7_drawnOf
  have hn := nx_lt x
  have h6 : nx x / 65536 < 2 ^ 31 := by omega
  rw [tk_ok hM.1, dr_ok hM.2.1 hM2.1.1, hM2.1.2, i8, ck_n (by omega) (by omega), ck_n (by omega) (by omega), nI_clamp (by omega), ss_ok, h, nI_l hx, show (1103515245 : Int64) = lN 1103515245 from rfl, show (12345 : Int64) = lN 12345 from rfl, lN_mul, lN_add, show (2147483648 : Int64) = lN 2147483648 from rfl]
  unfold iml
  rw [pk_lRem (by omega) (by omega) (by omega), lN_i, gs_eq, ck_n (by omega) (by omega), show (x * 1103515245 + 12345) % 2147483648 = nx x from rfl, show (65536 : Int32) = nI 65536 from rfl, pk_div hn (by omega) (by omega), im_n h6 (by omega) (by omega)]
  unfold nz
  rw [if_neg (nI_ne0 (by omega) (by omega))]
section DR
variable {CG CM : (Nat → Nat → Int32) → Cu → Prop} {MG MM : (Nat → Int32) → Cu → Prop} {E : En}
theorem ok_drawn (hR : LRun E) (hM : LMod E) (hM2 : LMo2 E) (hcp : CPY E CG CM) (p q : Int32) : Ok (JJ CG CM MG MM) (fX6_drawn E 0 p q) (fX7_drawn E 395 p q) := by
  refine ok_of (fun a hw => ?_)
  have hwc := hw.2.2.1
  have hn := hwc.1
  obtain ⟨r0, r1, r3, r4, r5, r8, r9, r10, r11, r12, r13, l1, l2, lx⟩ := id hR
  have l3 : LRec E 3 := l2.2.2.2.2.2.2.2.1
  have m0 := hM.1
  by_cases h1 : p < 1
  · refine ⟨-1, a, hw, spc_q (fun σ hc => ⟨σ, ?_, fun _ _ _ => rfl, fun _ _ _ => rfl⟩), spm_q (fun σ hc => ⟨σ, ?_, fun _ _ _ => rfl, fun _ _ _ => rfl⟩)⟩
    · unfold fX6_drawn; rw [tk_ok r0, if_pos h1]
    · unfold fX7_drawn; rw [tk_ok m0, m_inF (fun q => absurd q.1 (Int32.not_le.mpr h1)), bd_ok, if_pos rfl]
  by_cases h2 : 100 < p
  · refine ⟨-1, a, hw, spc_q (fun σ hc => ⟨σ, ?_, fun _ _ _ => rfl, fun _ _ _ => rfl⟩), spm_q (fun σ hc => ⟨σ, ?_, fun _ _ _ => rfl, fun _ _ _ => rfl⟩)⟩
    · unfold fX6_drawn; rw [tk_ok r0, if_neg h1, if_pos h2]
    · unfold fX7_drawn; rw [tk_ok m0, m_inF (fun q => absurd q.2 (Int32.not_le.mpr h2)), bd_ok, if_pos rfl]
  have hin : (1 : Int32) ≤ p ∧ p ≤ 100 := ⟨Int32.not_lt.mp h1, Int32.not_lt.mp h2⟩
  by_cases h3 : q < 1
  · refine ⟨-1, a, hw, spc_q (fun σ hc => ⟨σ, ?_, fun _ _ _ => rfl, fun _ _ _ => rfl⟩), spm_q (fun σ hc => ⟨σ, ?_, fun _ _ _ => rfl, fun _ _ _ => rfl⟩)⟩
    · unfold fX6_drawn; rw [tk_ok r0, if_neg h1, if_neg h2, if_pos h3]
    · unfold fX7_drawn; rw [tk_ok m0, m_inT hin, bd_ok, if_neg (by decide), m_inF (fun q => absurd q.1 (Int32.not_le.mpr h3)), bd_ok, if_pos rfl]
  by_cases h4 : 256 < q
  · refine ⟨-1, a, hw, spc_q (fun σ hc => ⟨σ, ?_, fun _ _ _ => rfl, fun _ _ _ => rfl⟩), spm_q (fun σ hc => ⟨σ, ?_, fun _ _ _ => rfl, fun _ _ _ => rfl⟩)⟩
    · unfold fX6_drawn; rw [tk_ok r0, if_neg h1, if_neg h2, if_neg h3, if_pos h4]
    · unfold fX7_drawn; rw [tk_ok m0, m_inT hin, bd_ok, if_neg (by decide), m_inF (fun q => absurd q.2 (Int32.not_le.mpr h4)), bd_ok, if_pos rfl]
  have hin2 : (1 : Int32) ≤ q ∧ q ≤ 256 := ⟨Int32.not_lt.mp h3, Int32.not_lt.mp h4⟩
  obtain ⟨n, hn0, rfl⟩ := nI_of (x := p) (Int32.not_lt.mpr (Int32.le_trans (by decide) hin.1))
  obtain ⟨m, hm0, rfl⟩ := nI_of (x := q) (Int32.not_lt.mpr (Int32.le_trans (by decide) hin2.1))
  have hn1 : 1 ≤ n := (nI_leI (by omega) hn0).mp hin.1
  have hn2 : n ≤ 100 := (nI_leI hn0 (by omega)).mp hin.2
  have hm1 : 1 ≤ m := (nI_leI (by omega) hm0).mp hin2.1
  have hm2 : m ≤ 256 := (nI_leI hm0 (by omega)).mp hin2.2
  have hsz : ∀ σ, RC CG CM σ a → gi σ 3 2 = nI (cN (aC a)) := fun σ hc => (cs_rr hc.2.2.2.1).1.1
  by_cases h5 : cN (aC a) + n ≤ 300
  · have hx := hw.2.2.2.1
    let F : Nat → Nat := fun j => if j < cN (aC a) then cF (aC a) j else nxs (aX a) (j - cN (aC a) + 1) / 65536 % m
    have hFlo : ∀ i, i < cN (aC a) → cF (aC a) i = F i := fun i hi => by show _ = if _ then _ else _; rw [if_pos hi]
    have hFhi : ∀ i, nx (nxs (aX a) i) / 65536 % m = F (cN (aC a) + i) := fun i => by show _ = if _ then _ else _; rw [if_neg (by omega), show cN (aC a) + i - cN (aC a) = i by omega]; rfl
    have hF : ∀ i, i < cN (aC a) + n → F i < 256 := by
      intro i hi
      by_cases q : i < cN (aC a)
      · rw [← hFlo i q]; exact hwc.2.1 i q
      · rw [show i = cN (aC a) + (i - cN (aC a)) by omega, ← hFhi]; have := Nat.mod_lt (nx (nxs (aX a) (i - cN (aC a))) / 65536) (show 0 < m by omega); omega
    refine ⟨nI (cN (aC a) + n), (aB a, aN a, (F, cN (aC a) + n, cS (aC a), 0, 0), nxs (aX a) n, (rem a).2.2.2.2), ?_, fun σ hc => ?_, fun σ hc => ?_⟩
    · obtain ⟨g1, g2, g3, g4, g5, g6, g7⟩ := rem_wf hw
      exact ⟨g1, g2, ⟨h5, hF, hwc.2.2.1, Nat.zero_le _, fun h => absurd h (by show ¬ 1 ≤ 0; omega), fun h => absurd h (by show ¬ 2 ≤ 0; omega)⟩, nxs_lt hx n, g5, g6, g7⟩
    · obtain ⟨s, e1, e2, e3, e4⟩ := c_rem hR hcp hw hc
      obtain ⟨k1, k2, k3⟩ := cs_rr e2.2.2.2.1
      have d3 : gi s 0 2 = nI (aX a) := e2.2.2.1
      unfold fX6_drawn
      rw [tk_ok r0, if_neg h1, if_neg h2, if_neg h3, if_neg h4, dr_ok r3 l2.1, dr_ok l2.2.1 l3.1, hsz σ hc, nI_add, show (300 : Int32) = nI 300 from rfl, if_pos (nI_le h5 (by omega)), e1, bv_ok]
      obtain ⟨⟨v, s2⟩, f0, f1, f2, f3⟩ := for_in (F := fun (rec : Int32 × Sg → Option (Int32 × Sg)) (b : Int32 × Sg) => bX6_drawn_49 E (nI n) 0 (nI m) 3 (fun u0 t => rec (u0, t)) b.1 b.2) n
        (fun i b => b.1 = nI i ∧ RR b.2 F (cN (aC a) + i) ∧ gi b.2 0 2 = nI (nxs (aX a) i) ∧ ∀ x k, x ≠ 3 → x ≠ 4 → x ≠ 5 → ¬ (x = 0 ∧ k = 2) → gi b.2 x k = gi s x k)
        (fun b => RR b.2 F (cN (aC a) + n) ∧ gi b.2 0 2 = nI (nxs (aX a) n) ∧ ∀ x k, x ≠ 3 → x ≠ 4 → x ≠ 5 → ¬ (x = 0 ∧ k = 2) → gi b.2 x k = gi s x k) (N := FU) (by show n < 1000000; omega)
        (by
          rintro i ⟨v, s2⟩ rec hi ⟨rfl, f1, f2, f3⟩
          dsimp only at f1 f2 f3 ⊢
          obtain ⟨s3, g1, g2, g3⟩ := c_add l3 (σ := si s2 0 2 (nI (nx (nxs (aX a) i)))) (m := cN (aC a) + i) (F := F) (by omega) (fun j hj => hF j (by omega)) ⟨by rw [gs_ne (by omega)]; exact f1.1, fun j hj => by rw [gs_ne (by omega)]; exact f1.2.1 j hj, fun j hj => by rw [gs_ne (by omega)]; exact f1.2.2.1 j hj, by rw [gs_ne (by omega)]; exact f1.2.2.2⟩
          unfold bX6_drawn_49
          rw [if_neg (nI_ge hi (by omega)), c_drawOf r0 f2 (nxs_lt hx i) hm1 hm2, bd_ok, hFhi, g1, bv_ok, lt_ok, ad1]
          refine ⟨_, rfl, rfl, g2, ?_, fun x k h3 h4 h5 h6 => ?_⟩
          · dsimp only; rw [g3 _ _ (by omega) (by omega) (by omega), gs_eq]; rfl
          · dsimp only; rw [g3 _ _ (by omega) (by omega) (by omega), gs_ne (by omega)]; exact f3 x k h3 h4 h5 h6)
        (by
          rintro ⟨v, s2⟩ rec ⟨rfl, f1, f2, f3⟩
          unfold bX6_drawn_49
          rw [if_pos (nI_le (Nat.le_refl _) (by omega))]
          exact ⟨_, rfl, f1, f2, f3⟩)
        (a := ((0 : Int32), s)) ⟨rfl, rr_congr k1 hFlo, d3, fun _ _ _ _ _ _ => rfl⟩
      dsimp only at f1 f2 f3
      rw [f0, bd_ok, ss_ok]
      refine ⟨si s2 2 2 0, ?_, rc_act e2 (c := (F, cN (aC a) + n, cS (aC a), 0, 0)) (rr_cs ⟨?_, fun i hi => ?_, fun i hi => ?_, ?_⟩ (fun j hj => ?_) gs_eq) ?_ (fun x k g1 g2 g3 => ?_), fun x k g => ?_⟩
      · show some (gi (si s2 2 2 0) 3 2, _) = _
        rw [gs_ne (by omega), f1.1]
      · rw [gs_ne (by omega)]; exact f1.1
      · rw [gs_ne (by omega)]; exact f1.2.1 i hi
      · rw [gs_ne (by omega)]; exact f1.2.2.1 i hi
      · rw [gs_ne (by omega)]; exact f1.2.2.2
      · rw [gs_ne (by omega), f3 _ _ (by omega) (by omega) (by omega) (by omega)]; exact k2 j hj
      · rw [gs_ne (by omega)]; exact f2
      · rw [gs_ne (by omega), f3 _ _ (by omega) (by omega) (by omega) (by omega)]
      · rw [gs_ne (by omega), f3 _ _ (by omega) (by omega) (by omega) (by omega)]; exact e4 x k g
    · obtain ⟨s, e1, e2, e3, e4⟩ := m_rem hM hM2 hw hc
      obtain ⟨k1, k2, k3, k4, k5⟩ := mr_g hn hc.2.2.1
      unfold fX7_drawn
      rw [tk_ok m0, m_inT hin, bd_ok, if_neg (by decide), m_inT hin2, bd_ok, if_neg (by decide), m_many hM hM2, bd_ok, k1, nI_add, show (300 : Int32) = nI 300 from rfl, if_pos (nI_le h5 (by omega)), e1, bv_ok]
      obtain ⟨⟨v, s2⟩, f0, f1, f2, f3, f4, f5⟩ := for_in (F := fun (rec : Int32 × Sg → Option (Int32 × Sg)) (b : Int32 × Sg) => bX7_drawn_41 E (nI n) 395 (nI m) (fun u0 t => rec (u0, t)) b.1 b.2) n
        (fun i b => b.1 = nI i ∧ gi b.2 396 0 = nI (cN (aC a) + i) ∧ (∀ j, j < cN (aC a) + i → gi b.2 396 (26 + j) = nI (F j)) ∧ gi b.2 396 8 = nI (nxs (aX a) i) ∧ (∀ j, 0 < j → j < 8 → gi b.2 396 j = gi σ 396 j) ∧ ∀ x k, x ≠ 396 → gi b.2 x k = gi s x k)
        (fun b => gi b.2 396 0 = nI (cN (aC a) + n) ∧ (∀ j, j < cN (aC a) + n → gi b.2 396 (26 + j) = nI (F j)) ∧ gi b.2 396 8 = nI (nxs (aX a) n) ∧ (∀ j, 0 < j → j < 8 → gi b.2 396 j = gi σ 396 j) ∧ ∀ x k, x ≠ 396 → gi b.2 x k = gi s x k) (N := FU) (by show n < 1000000; omega)
        (by
          rintro i ⟨v, s2⟩ rec hi ⟨rfl, f1, f2, f3, f4, f5⟩
          dsimp only at f1 f2 f3 f4 f5 ⊢
          unfold bX7_drawn_41
          rw [if_neg (nI_ge hi (by omega)), m_drawnOf hM hM2 f3 (nxs_lt hx i) hm1 hm2, bd_ok, m_comes hM hM2 (n := cN (aC a) + i) (by rw [gs_ne (by omega)]; exact f1) (by omega), bv_ok, lt_ok, ad1, hFhi]
          refine ⟨_, rfl, rfl, gs_eq, fun j hj => ?_, ?_, fun j h3 h4 => ?_, fun x k hx => ?_⟩
          · dsimp only
            rw [gs_ne (by omega)]
            by_cases qq : j = cN (aC a) + i
            · subst qq; exact gs_eq
            · rw [gs_ne (by omega), gs_ne (by omega)]; exact f2 j (by omega)
          · dsimp only; rw [gs_ne (by omega), gs_ne (by omega), gs_eq]; rfl
          · dsimp only; rw [gs_ne (by omega), gs_ne (by omega), gs_ne (by omega)]; exact f4 j h3 h4
          · dsimp only; rw [gs_ne (by omega), gs_ne (by omega), gs_ne (by omega)]; exact f5 x k hx)
        (by
          rintro ⟨v, s2⟩ rec ⟨rfl, f1⟩
          unfold bX7_drawn_41
          rw [if_pos (nI_le (Nat.le_refl _) (by omega))]
          exact ⟨_, rfl, f1⟩)
        (a := ((0 : Int32), s)) ⟨rfl, (e3 0).trans k1, fun j hj => by dsimp only; rw [e3, k2 j hj, hFlo j hj], (e3 8).trans k5, fun j _ _ => e3 j, fun _ _ _ => rfl⟩
      dsimp only at f1 f2 f3 f4 f5
      obtain ⟨s3, g1, g2, g3, g4⟩ := m_begins hM hM2 (σ := s2)
      have g3' : ∀ k, k < 7 ∨ k = 8 ∨ 26 ≤ k → gi s3 396 k = gi s2 396 k := fun k hk => g3 k (by omega) (by omega) (by omega) (by omega) (by omega) (by omega) (by omega)
      rw [f0, bd_ok, g1, bv_ok, m_many hM hM2, bd_ok, g3' 0 (by omega), f1]
      refine ⟨_, rfl, rm_act e2 (g_mr h5 (by rw [g3' _ (by omega)]; exact f1) (fun i hi => by rw [g3' _ (by omega)]; exact f2 i hi) (fun j hj => by rw [g3' _ (by omega), f4 _ (by omega) (by omega)]; exact k3 j hj) g2 (by rw [g3' _ (by omega)]; exact f3)) (fun x k g => ?_), fun x k g => ?_⟩
      · rw [g4 _ _ (by omega), f5 _ _ (by omega)]
      · rw [g4 _ _ (by omega), f5 _ _ (by omega)]; exact e4 x k g
  · have h6 : ¬ nI (cN (aC a) + n) ≤ nI 300 := nI_ge (by omega) (by omega)
    refine ⟨-1, a, hw, spc_q (fun σ hc => ⟨σ, ?_, fun _ _ _ => rfl, fun _ _ _ => rfl⟩), spm_q (fun σ hc => ⟨σ, ?_, fun _ _ _ => rfl, fun _ _ _ => rfl⟩)⟩
    · unfold fX6_drawn
      rw [tk_ok r0, if_neg h1, if_neg h2, if_neg h3, if_neg h4, dr_ok r3 l2.1, dr_ok l2.2.1 l3.1, hsz σ hc, nI_add, show (300 : Int32) = nI 300 from rfl, if_neg h6]
    · obtain ⟨k1, k2, k3, k4, k5⟩ := mr_g hn hc.2.2.1
      unfold fX7_drawn
      rw [tk_ok m0, m_inT hin, bd_ok, if_neg (by decide), m_inT hin2, bd_ok, if_neg (by decide), m_many hM hM2, bd_ok, k1, nI_add, show (300 : Int32) = nI 300 from rfl, if_neg h6]
end DR
