theorem tb_1 {E : En} (hR : LRun E) {a : Int32} {rec : Int32 → Sg → Option (Int32 × Sg)} {s n : Nat} {σ : Sg} (hs : s < 2 ^ 31) (h : gi σ 0 1 = nI n) (hn : n < 200) : bX6_takeBytes_3 E 0 a rec (nI s) σ = rec (nI s + (-8)) (si (si σ 1 n (iu a (nI s) &&& 255)) 0 1 (nI (n + 1))) := by
  unfold bX6_takeBytes_3
  rw [if_neg (nI_pos hs), h, show (200 : Int32) = nI 200 from rfl, if_neg (nI_ge hn (by omega)), dr_ok hR.2.1 hR.2.2.2.2.2.2.2.2.2.2.2.1.1, hR.2.2.2.2.2.2.2.2.2.2.2.1.2, ck_n hn (by omega), ss_ok, ss_ok, nI_clamp (by omega), gs_ne (by omega), h, ad1, lt_ok]
theorem pu_1 {E : En} (hM : LMod E) (hM2 : LMo2 E) {a : Int32} {rec : Int32 → Sg → Option (Int32 × Sg)} {s n : Nat} {σ : Sg} (hs : s < 2 ^ 31) (h : gi σ 395 7 = nI n) (hn : n < 200) : bX7_puts_3 E 395 a rec (nI s) σ = rec (nI s + (-8)) (si (si σ 400 n ((a >>> (nI s &&& 31)).toInt8.toInt32)) 395 7 (nI (n + 1))) := by
  unfold bX7_puts_3
  rw [if_neg (nI_pos hs), h, dr_ok hM.2.2.2.2.2.1 hM2.2.2.2.2.1.1, hM2.2.2.2.2.1.2, ck_n hn (by omega), ss_ok, ss_ok, nI_clamp (by omega), gs_ne (by omega), h, ad1, lt_ok, by_nar]
theorem take4 {E : En} (hR : LRun E) {a : Int32} {n : Nat} {σ : Sg} (h : gi σ 0 1 = nI n) (hn : n + 4 ≤ 200) : ∃ σ', fX6_takeBytes E 0 a σ = some σ' ∧ gi σ' 0 1 = nI (n + 4) ∧ (∀ i, i < 4 → gi σ' 1 (n + i) = iu a (nI (24 - 8 * i)) &&& 255) ∧ ∀ x k, ¬ (x = 0 ∧ k = 1) → ¬ (x = 1 ∧ n ≤ k ∧ k < n + 4) → gi σ' x k = gi σ x k := by
  unfold fX6_takeBytes
  rw [tk_ok hR.1, show FU = 999995 + 1 + 1 + 1 + 1 + 1 from rfl, fx_1]
  dsimp only
  rw [show (24 : Int32) = nI 24 from rfl, tb_1 hR (by omega) h (by omega), fx_1]
  dsimp only
  rw [show nI 24 + (-8 : Int32) = nI 16 from by decide, tb_1 hR (by omega) gs_eq (by omega), fx_1]
  dsimp only
  rw [show nI 16 + (-8 : Int32) = nI 8 from by decide, tb_1 hR (by omega) gs_eq (by omega), fx_1]
  dsimp only
  rw [show nI 8 + (-8 : Int32) = nI 0 from by decide, tb_1 hR (by omega) gs_eq (by omega), fx_1]
  dsimp only
  rw [show nI 0 + (-8 : Int32) = -8 from by decide]
  unfold bX6_takeBytes_3
  rw [if_pos (by decide), bd_ok]
  refine ⟨_, rfl, gs_eq, fun i hi => ?_, fun x k h1 h2 => ?_⟩
  · rcases (show i = 0 ∨ i = 1 ∨ i = 2 ∨ i = 3 by omega) with rfl | rfl | rfl | rfl
    · rw [gs_ne (by omega), gs_ne (by omega), gs_ne (by omega), gs_ne (by omega), gs_ne (by omega), gs_ne (by omega), gs_ne (by omega)]; exact gs_eq
    · rw [gs_ne (by omega), gs_ne (by omega), gs_ne (by omega), gs_ne (by omega), gs_ne (by omega)]; exact gs_eq
    · rw [gs_ne (by omega), gs_ne (by omega), gs_ne (by omega)]; exact gs_eq
    · rw [gs_ne (by omega)]; exact gs_eq
  · rw [gs_ne (by omega), gs_ne (by omega), gs_ne (by omega), gs_ne (by omega), gs_ne (by omega), gs_ne (by omega), gs_ne (by omega), gs_ne (by omega)]
theorem put4 {E : En} (hM : LMod E) (hM2 : LMo2 E) {a : Int32} {n : Nat} {σ : Sg} (h : gi σ 395 7 = nI n) (hn : n + 4 ≤ 200) : ∃ σ', fX7_puts E 395 a σ = some σ' ∧ gi σ' 395 7 = nI (n + 4) ∧ (∀ i, i < 4 → gi σ' 400 (n + i) &&& 255 = iu a (nI (24 - 8 * i)) &&& 255) ∧ ∀ x k, ¬ (x = 395 ∧ k = 7) → ¬ (x = 400 ∧ n ≤ k ∧ k < n + 4) → gi σ' x k = gi σ x k := by
  unfold fX7_puts
  rw [tk_ok hM.1, show FU = 999995 + 1 + 1 + 1 + 1 + 1 from rfl, fx_1]
  dsimp only
  rw [show (24 : Int32) = nI 24 from rfl, pu_1 hM hM2 (by omega) h (by omega), fx_1]
  dsimp only
  rw [show nI 24 + (-8 : Int32) = nI 16 from by decide, pu_1 hM hM2 (by omega) gs_eq (by omega), fx_1]
  dsimp only
  rw [show nI 16 + (-8 : Int32) = nI 8 from by decide, pu_1 hM hM2 (by omega) gs_eq (by omega), fx_1]
  dsimp only
  rw [show nI 8 + (-8 : Int32) = nI 0 from by decide, pu_1 hM hM2 (by omega) gs_eq (by omega), fx_1]
  dsimp only
  rw [show nI 0 + (-8 : Int32) = -8 from by decide]
  unfold bX7_puts_3
  rw [if_pos (by decide), bd_ok]
  refine ⟨_, rfl, gs_eq, fun i hi => ?_, fun x k h1 h2 => ?_⟩
  · rcases (show i = 0 ∨ i = 1 ∨ i = 2 ∨ i = 3 by omega) with rfl | rfl | rfl | rfl
    · rw [gs_ne (by omega), gs_ne (by omega), gs_ne (by omega), gs_ne (by omega), gs_ne (by omega), gs_ne (by omega), gs_ne (by omega), Nat.add_zero, gs_eq]; exact by_eq a (by omega)
    · rw [gs_ne (by omega), gs_ne (by omega), gs_ne (by omega), gs_ne (by omega), gs_ne (by omega), gs_eq]; exact by_eq a (by omega)
    · rw [gs_ne (by omega), gs_ne (by omega), gs_ne (by omega), show n + 2 = n + 1 + 1 from rfl, gs_eq]; exact by_eq a (by omega)
    · rw [gs_ne (by omega), show n + 3 = n + 1 + 1 + 1 from rfl, gs_eq]; exact by_eq a (by omega)
  · rw [gs_ne (by omega), gs_ne (by omega), gs_ne (by omega), gs_ne (by omega), gs_ne (by omega), gs_ne (by omega), gs_ne (by omega), gs_ne (by omega)]
/-- the class takes twenty bytes -/
theorem take20 {E : En} (hR : LRun E) {p : Nat → Int32} {n : Nat} {σ : Sg} (h : gi σ 0 1 = nI n) (hn : n + 20 ≤ 200) : ∃ σ', fX6_feed E 0 (p 0) (p 1) (p 2) (p 3) (p 4) σ = some (nI (n + 20), σ') ∧ gi σ' 0 1 = nI (n + 20) ∧ (∀ i, i < 20 → gi σ' 1 (n + i) = iu (p (i / 4)) (nI (24 - 8 * (i % 4))) &&& 255) ∧ ∀ x k, ¬ (x = 0 ∧ k = 1) → ¬ (x = 1 ∧ n ≤ k ∧ k < n + 20) → gi σ' x k = gi σ x k := by
  unfold fX6_feed
  rw [tk_ok hR.1, h, show (20 : Int32) = nI 20 from rfl, nI_add, show (200 : Int32) = nI 200 from rfl, if_pos (nI_le hn (by omega))]
  obtain ⟨s1, e1, a1, b1, c1⟩ := take4 hR (a := p 0) h (by omega)
  obtain ⟨s2, e2, a2, b2, c2⟩ := take4 hR (a := p 1) a1 (by omega)
  obtain ⟨s3, e3, a3, b3, c3⟩ := take4 hR (a := p 2) a2 (by omega)
  obtain ⟨s4, e4, a4, b4, c4⟩ := take4 hR (a := p 3) a3 (by omega)
  obtain ⟨s5, e5, a5, b5, c5⟩ := take4 hR (a := p 4) a4 (by omega)
  rw [e1, bv_ok, e2, bv_ok, e3, bv_ok, e4, bv_ok, e5, bv_ok, a5]
  refine ⟨s5, by rw [show n + 4 + 4 + 4 + 4 + 4 = n + 20 by omega], by rw [a5, show n + 4 + 4 + 4 + 4 + 4 = n + 20 by omega], fun i hi => ?_, fun x k g1 g2 => ?_⟩
  · rcases (show i < 4 ∨ (4 ≤ i ∧ i < 8) ∨ (8 ≤ i ∧ i < 12) ∨ (12 ≤ i ∧ i < 16) ∨ (16 ≤ i ∧ i < 20) by omega) with q | q | q | q | q
    · rw [c5 _ _ (by omega) (by omega), c4 _ _ (by omega) (by omega), c3 _ _ (by omega) (by omega), c2 _ _ (by omega) (by omega), b1 i (by omega), show i / 4 = 0 by omega, show i % 4 = i by omega]
    · rw [c5 _ _ (by omega) (by omega), c4 _ _ (by omega) (by omega), c3 _ _ (by omega) (by omega), show n + i = n + 4 + (i - 4) by omega, b2 (i - 4) (by omega), show i / 4 = 1 by omega, show i % 4 = i - 4 by omega]
    · rw [c5 _ _ (by omega) (by omega), c4 _ _ (by omega) (by omega), show n + i = n + 4 + 4 + (i - 8) by omega, b3 (i - 8) (by omega), show i / 4 = 2 by omega, show i % 4 = i - 8 by omega]
    · rw [c5 _ _ (by omega) (by omega), show n + i = n + 4 + 4 + 4 + (i - 12) by omega, b4 (i - 12) (by omega), show i / 4 = 3 by omega, show i % 4 = i - 12 by omega]
    · rw [show n + i = n + 4 + 4 + 4 + 4 + (i - 16) by omega, b5 (i - 16) (by omega), show i / 4 = 4 by omega, show i % 4 = i - 16 by omega]
  · rw [c5 _ _ g1 (by omega), c4 _ _ g1 (by omega), c3 _ _ g1 (by omega), c2 _ _ g1 (by omega), c1 _ _ g1 (by omega)]
theorem put20 {E : En} (hM : LMod E) (hM2 : LMo2 E) {p : Nat → Int32} {n : Nat} {σ : Sg} (h : gi σ 395 7 = nI n) (hn : n + 20 ≤ 200) : ∃ σ', fX7_feed E 395 (p 0) (p 1) (p 2) (p 3) (p 4) σ = some (nI (n + 20), σ') ∧ gi σ' 395 7 = nI (n + 20) ∧ (∀ i, i < 20 → gi σ' 400 (n + i) &&& 255 = iu (p (i / 4)) (nI (24 - 8 * (i % 4))) &&& 255) ∧ ∀ x k, ¬ (x = 395 ∧ k = 7) → ¬ (x = 400 ∧ n ≤ k ∧ k < n + 20) → gi σ' x k = gi σ x k := by
  unfold fX7_feed
  rw [tk_ok hM.1, h, show (20 : Int32) = nI 20 from rfl, nI_add, show (200 : Int32) = nI 200 from rfl, if_pos (nI_le hn (by omega))]
  obtain ⟨s1, e1, a1, b1, c1⟩ := put4 hM hM2 (a := p 0) h (by omega)
  obtain ⟨s2, e2, a2, b2, c2⟩ := put4 hM hM2 (a := p 1) a1 (by omega)
  obtain ⟨s3, e3, a3, b3, c3⟩ := put4 hM hM2 (a := p 2) a2 (by omega)
  obtain ⟨s4, e4, a4, b4, c4⟩ := put4 hM hM2 (a := p 3) a3 (by omega)
  obtain ⟨s5, e5, a5, b5, c5⟩ := put4 hM hM2 (a := p 4) a4 (by omega)
  rw [e1, bv_ok, e2, bv_ok, e3, bv_ok, e4, bv_ok, e5, bv_ok, a5]
  refine ⟨s5, by rw [show n + 4 + 4 + 4 + 4 + 4 = n + 20 by omega], by rw [a5, show n + 4 + 4 + 4 + 4 + 4 = n + 20 by omega], fun i hi => ?_, fun x k g1 g2 => ?_⟩
  · rcases (show i < 4 ∨ (4 ≤ i ∧ i < 8) ∨ (8 ≤ i ∧ i < 12) ∨ (12 ≤ i ∧ i < 16) ∨ (16 ≤ i ∧ i < 20) by omega) with q | q | q | q | q
    · rw [c5 _ _ (by omega) (by omega), c4 _ _ (by omega) (by omega), c3 _ _ (by omega) (by omega), c2 _ _ (by omega) (by omega), b1 i (by omega), show i / 4 = 0 by omega, show i % 4 = i by omega]
    · rw [c5 _ _ (by omega) (by omega), c4 _ _ (by omega) (by omega), c3 _ _ (by omega) (by omega), show n + i = n + 4 + (i - 4) by omega, b2 (i - 4) (by omega), show i / 4 = 1 by omega, show i % 4 = i - 4 by omega]
    · rw [c5 _ _ (by omega) (by omega), c4 _ _ (by omega) (by omega), show n + i = n + 4 + 4 + (i - 8) by omega, b3 (i - 8) (by omega), show i / 4 = 2 by omega, show i % 4 = i - 8 by omega]
    · rw [c5 _ _ (by omega) (by omega), show n + i = n + 4 + 4 + 4 + (i - 12) by omega, b4 (i - 12) (by omega), show i / 4 = 3 by omega, show i % 4 = i - 12 by omega]
    · rw [show n + i = n + 4 + 4 + 4 + 4 + (i - 16) by omega, b5 (i - 16) (by omega), show i / 4 = 4 by omega, show i % 4 = i - 16 by omega]
  · rw [c5 _ _ g1 (by omega), c4 _ _ g1 (by omega), c3 _ _ g1 (by omega), c2 _ _ g1 (by omega), c1 _ _ g1 (by omega)]
theorem ok_feed {CG CM : (Nat → Nat → Int32) → Cu → Prop} {MG MM : (Nat → Int32) → Cu → Prop} {E : En} (hR : LRun E) (hM : LMod E) (hM2 : LMo2 E) (p0 p1 p2 p3 p4 : Int32) : Ok (JJ CG CM MG MM) (fX6_feed E 0 p0 p1 p2 p3 p4) (fX7_feed E 395 p0 p1 p2 p3 p4) := by
  refine ok_of (fun a hw => ?_)
  by_cases h1 : aN a + 20 ≤ 200
  · let p : Nat → Int32 := fun i => match i with | 0 => p0 | 1 => p1 | 2 => p2 | 3 => p3 | _ => p4
    have hb : ∀ i : Nat, ∃ j : Nat, j < 256 ∧ iu (p (i / 4)) (nI (24 - 8 * (i % 4))) &&& 255 = nI j := fun i => by_rng _
    have hex : ∃ bf : Nat → Nat, ∀ i, bf i < 256 ∧ iu (p (i / 4)) (nI (24 - 8 * (i % 4))) &&& 255 = nI (bf i) := ⟨fun i => (hb i).choose, fun i => (hb i).choose_spec⟩
    obtain ⟨bf, hbf⟩ := hex
    refine ⟨nI (aN a + 20), (fun i => if i < aN a then aB a i else bf (i - aN a), aN a + 20, a.2.2), ⟨h1, fun i hi => ?_, hw.2.2⟩, fun σ hc => ?_, fun σ hc => ?_⟩
    · show (if i < aN a then aB a i else bf (i - aN a)) < 256
      split
      · exact hw.2.1 i (by assumption)
      · exact (hbf _).1
    · obtain ⟨s1, e1, a1, a2, a3⟩ := take20 hR (p := p) hc.1 h1
      refine ⟨s1, e1, ⟨a1, fun i hi => ?_, ?_, ?_, ?_, ?_⟩, fun x k hx => a3 _ _ (by omega) (by omega)⟩
      · show gi s1 1 i = nI (if i < aN a then aB a i else bf (i - aN a))
        have hi : i < aN a + 20 := hi
        by_cases q : i < aN a
        · rw [if_pos q, a3 _ _ (by omega) (by omega)]; exact hc.2.1 i q
        · rw [if_neg q, show i = aN a + (i - aN a) by omega, a2 (i - aN a) (by omega), (hbf _).2, show aN a + (i - aN a) - aN a = i - aN a by omega]
      · rw [a3 _ _ (by omega) (by omega)]; exact hc.2.2.1
      · rw [lc_same (σ := σ) (fun x k g1 g2 => a3 _ _ (by omega) (by omega))]; exact hc.2.2.2.1
      · exact hc_same hc.2.2.2.2.1 (a3 _ _ (by omega) (by omega)) (a3 _ _ (by omega) (by omega)) (fun k => a3 _ _ (by omega) (by omega)) (fun x k g1 g2 => a3 _ _ (by omega) (by omega))
      · exact sc_same hc.2.2.2.2.2 (fun k => a3 _ _ (by omega) (by omega)) (fun x k g1 g2 => a3 _ _ (by omega) (by omega))
    · obtain ⟨s1, e1, a1, a2, a3⟩ := put20 hM hM2 (p := p) hc.1 h1
      refine ⟨s1, e1, ⟨a1, fun i hi => ?_, ?_, ?_, ?_⟩, fun x k hx => a3 _ _ (by omega) (by omega)⟩
      · show gi s1 400 i &&& 255 = nI (if i < aN a then aB a i else bf (i - aN a))
        have hi : i < aN a + 20 := hi
        by_cases q : i < aN a
        · rw [if_pos q, a3 _ _ (by omega) (by omega)]; exact hc.2.1 i q
        · rw [if_neg q, show i = aN a + (i - aN a) by omega, a2 (i - aN a) (by omega), (hbf _).2, show aN a + (i - aN a) - aN a = i - aN a by omega]
      · rw [rw_same (σ := σ) (fun k => a3 _ _ (by omega) (by omega))]; exact hc.2.2.1
      · exact hm_same hc.2.2.2.1 (a3 _ _ (by omega) (by omega)) (fun k => a3 _ _ (by omega) (by omega))
      · exact sm_same hc.2.2.2.2 (a3 _ _ (by omega) (by omega)) (fun k => a3 _ _ (by omega) (by omega))
  · have hn := hw.1
    have hq : ¬ nI (aN a) + (20 : Int32) ≤ 200 := by
      rw [show (20 : Int32) = nI 20 from rfl, nI_add, show (200 : Int32) = nI 200 from rfl]
      exact nI_ge (by omega) (by omega)
    refine ⟨-1, a, hw, spc_q (fun σ hc => ⟨σ, ?_, fun _ _ _ => rfl, fun _ _ _ => rfl⟩), spm_q (fun σ hc => ⟨σ, ?_, fun _ _ _ => rfl, fun _ _ _ => rfl⟩)⟩
    · unfold fX6_feed; rw [tk_ok hR.1, hc.1, if_neg hq]
    · unfold fX7_feed; rw [tk_ok hM.1, hc.1, if_neg hq]
