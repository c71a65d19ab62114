/-! what a state's cells say: grown runs, the mill; states are copied -/
abbrev tuC (c : Cu) : Bool := cS c 5 == 1
abbrev bkC (c : Cu) : Bool := cS c 4 == 1
abbrev frC (c : Cu) : Bool := cS c 3 == 1
def gF (c : Cu) : Gr := gst (cF c) (cN c) (cS c 0) (tuC c) (cN c)
def nrC (c : Cu) : Nat := nrG (gF c)
def glC (c : Cu) : Nat → Nat := glG (cN c) (gF c)
def roC (c : Cu) : Nat → Nat := gR (gF c)
def bgC (c : Cu) : Nat → Nat := bgG (cN c) (gF c)
def olC (c : Cu) : Nat → Nat := fun p => (gO (gF c)).getD p 0
def miC (c : Cu) : Mi := mil (cS c 2) (cS c 1) (bkC c) (frC c) (tuC c) (glC c) (nrC c) (cI c)
noncomputable def KC (c : Cu) : Nat := kst (cS c 2) (cS c 1) (nrC c)
def lgs (l : Nat → Nat → Int32) : Sg := (l, fun _ _ => 0)
def rgs (r : Nat → Int32) : Sg := (fun _ k => r k, fun _ _ => 0)
theorem gi_lgs {l : Nat → Nat → Int32} {x k : Nat} : gi (lgs l) x k = l x k := rfl
theorem gi_rgs {r : Nat → Int32} {x k : Nat} : gi (rgs r) x k = r k := rfl
/-- of each that grew the run that has its records now -/
def HOl (T : Nat) (h : Nat → Int32) (A : Mi) : Prop := ∀ t r j, t < T → r ∈ mT A t → j ∈ r.1 → h j = idI r.1
def CG' (l : Nat → Nat → Int32) (c : Cu) : Prop := l 5 2 = nI (nrC c) ∧ l 5 3 = bI (tuC c) ∧ (∀ x, x < cN c → l 6 x = nI (roC c x)) ∧ ∀ r, r < nrC c → l 7 r = nI (glC c r)
def CM' (l : Nat → Nat → Int32) (c : Cu) : Prop := cI c ≤ KC c ∧ (cT c = 3 ↔ cI c = KC c) ∧ RMl (lgs l) 9 (cS c 2) (cS c 1) (bkC c) (glC c) (nrC c) (miC c) ∧ HOl (cS c 1) (l 31) (miC c)
def MG' (r : Nat → Int32) (c : Cu) : Prop := r 14 = nI (nrC c) ∧ (∀ j, j ≤ nrC c → r (926 + j) = nI (bgC c j)) ∧ (∀ p, p < cN c → r (626 + p) = nI (olC c p)) ∧ ∀ x, x < cN c → r (326 + x) = nI (roC c x)
def MM' (r : Nat → Int32) (c : Cu) : Prop := (cN c ≤ 300 ∧ cS c 1 ≤ 6) ∧ cI c ≤ KC c ∧ (cT c = 3 ↔ cI c = KC c) ∧ RMm (rgs r) (cF c) (cN c) (roC c) (glC c) (cS c 2) (cS c 1) (bkC c) (miC c)
theorem rml_tr {σ σ' : Sg} {m m' w T nr : Nat} {bk : Bool} {gl : Nat → Nat} {A : Mi} (hT : T ≤ 6) (h : RMl σ m w T bk gl nr A) (hf : ∀ x k, x < 22 → gi σ' (m' + x) k = gi σ (m + x) k) : RMl σ' m' w T bk gl nr A := by
  obtain ⟨L, H, ⟨⟨b0, b1, b2, b3, b7⟩, ⟨k9, k11, kop⟩, htp, hkc⟩, hl0, hD, h8, t0, t1, t2, t3⟩ := h
  have f0 : ∀ k, gi σ' m' k = gi σ m k := fun k => hf 0 k (by omega)
  refine ⟨L, H, ⟨⟨by rw [f0]; exact b0, by rw [f0]; exact b1, by rw [f0]; exact b2, by rw [f0]; exact b3, by rw [f0]; exact b7⟩, ⟨by rw [f0]; exact k9, by rw [f0]; exact k11, fun t ht => by rw [hf 2 _ (by omega)]; exact kop t ht⟩, fun t ht => ?_, hkc⟩, hl0, fun t ht r hr => ?_, by rw [f0]; exact h8, by rw [hf 3 _ (by omega)]; exact t0, by rw [hf 3 _ (by omega)]; exact t1, by rw [hf 3 _ (by omega)]; exact t2, by rw [hf 3 _ (by omega)]; exact t3⟩
  · obtain ⟨p1, p2, p3, p4, p5, p6⟩ := htp t ht
    have e1 : ∀ k, gi σ' (m' + 10 + 2 * t) k = gi σ (m + 10 + 2 * t) k := fun k => by have := hf (10 + 2 * t) k (by omega); rw [show m' + (10 + 2 * t) = m' + 10 + 2 * t by omega, show m + (10 + 2 * t) = m + 10 + 2 * t by omega] at this; exact this
    have e2 : ∀ k, gi σ' (m' + 10 + 2 * t + 1) k = gi σ (m + 10 + 2 * t + 1) k := fun k => by have := hf (11 + 2 * t) k (by omega); rw [show m' + (11 + 2 * t) = m' + 10 + 2 * t + 1 by omega, show m + (11 + 2 * t) = m + 10 + 2 * t + 1 by omega] at this; exact this
    exact ⟨by rw [e1]; exact p1, by rw [e1]; exact p2, p3, p4, p5, fun k hk => by rw [e2]; exact p6 k hk⟩
  · obtain ⟨d1, d2⟩ := hD t ht r hr
    refine ⟨d1, fun i l hz => ?_⟩
    obtain ⟨z1, z2, z3⟩ := d2 i l hz
    exact ⟨z1, by rw [hf 8 _ (by omega)]; exact z2, by rw [hf 9 _ (by omega)]; exact z3⟩
theorem rml_lc {σ : Sg} {b w T nr : Nat} {bk : Bool} {gl : Nat → Nat} {A : Mi} (hT : T ≤ 6) : RMl (lgs (lc σ b)) 9 w T bk gl nr A ↔ RMl σ (b + 9) w T bk gl nr A := by
  constructor
  · intro h
    refine rml_tr hT h (fun x k hx => ?_)
    rw [gi_lgs, lc_at (by omega), show b + (9 + x) = b + 9 + x by omega]
  · intro h
    refine rml_tr hT h (fun x k hx => ?_)
    rw [gi_lgs, lc_at (by omega), show b + (9 + x) = b + 9 + x by omega]
theorem rmm_tr {σ σ' : Sg} {F : Nat → Nat} {n w T : Nat} {ro gl : Nat → Nat} {bk : Bool} {A : Mi} (hn : n ≤ 300) (hT : T ≤ 6) (h : RMm σ F n ro gl w T bk A) (hf : ∀ k, k < 7827 → k ≠ 8 → k ≠ 7 → gi σ' 396 k = gi σ 396 k) : RMm σ' F n ro gl w T bk A := by
  obtain ⟨hs, ⟨X, hm, hx, hd, hp⟩, hk, t9, t10, t11, t12⟩ := h
  refine ⟨sr_fr hs hn (fun k hk => hf k (by omega) (by omega) (by omega)), ⟨X, hm, xt_fr hx (fun k hk => hf k (by omega) (by omega) (by omega)), fun z hz => ?_, hp⟩, mk_fr hk (fun k hk => hf k (by omega) (by omega) (by omega)), by rw [hf _ (by omega) (by omega) (by omega)]; exact t9, by rw [hf _ (by omega) (by omega) (by omega)]; exact t10, by rw [hf _ (by omega) (by omega) (by omega)]; exact t11, by rw [hf _ (by omega) (by omega) (by omega)]; exact t12⟩
  have hz' := hd z hz
  have := hz'.1
  have := hz'.2.2.2.2.1
  exact dd_fr hz' (hf _ (by omega) (by omega) (by omega)) (hf _ (by omega) (by omega) (by omega)) (hf _ (by omega) (by omega) (by omega)) (fun i hi => hf _ (by omega) (by omega) (by omega))
theorem rmm_rw {σ : Sg} {F : Nat → Nat} {n w T : Nat} {ro gl : Nat → Nat} {bk : Bool} {A : Mi} (hn : n ≤ 300) (hT : T ≤ 6) : RMm (rgs (rw7 σ 396 0)) F n ro gl w T bk A ↔ RMm σ F n ro gl w T bk A := by
  constructor
  · intro h; exact rmm_tr hn hT h (fun k hk _ _ => by rw [gi_rgs, rw_at hk, Nat.zero_add])
  · intro h; exact rmm_tr hn hT h (fun k hk _ _ => by rw [gi_rgs, rw_at hk, Nat.zero_add])
/-- x isn't spoken of -/
theorem hmx' : ∀ r r' c, (∀ j, j ≠ 8 → r' j = r j) → (MG' r c → MG' r' c) ∧ (MM' r c → MM' r' c) := by
  intro r r' c hf
  refine ⟨fun h => ?_, fun h => ?_⟩
  · obtain ⟨h1, h2, h3, h4⟩ := h
    exact ⟨by rw [hf _ (by omega)]; exact h1, fun j hj => by rw [hf _ (by omega)]; exact h2 j hj, fun p hp => by rw [hf _ (by omega)]; exact h3 p hp, fun x hx => by rw [hf _ (by omega)]; exact h4 x hx⟩
  · obtain ⟨h0, h1, h2, h3⟩ := h
    exact ⟨h0, h1, h2, rmm_tr h0.1 h0.2 h3 (fun k _ h8 _ => by rw [gi_rgs, gi_rgs]; exact hf k h8)⟩
/-- growth is well -/
theorem gi_c {c : Cu} (hw : Wf c) : GI (cF c) (cN c) (cS c 0) (tuC c) (cN c) (gF c) := gi_all (hw.2.2.1 0 (by omega)).1 (Nat.le_refl _)
theorem nr_c {c : Cu} (hw : Wf c) (h0 : 0 < cN c) : 1 ≤ nrC c ∧ nrC c ≤ 150 := gf_nr h0 (gi_c hw) hw.1
theorem gok_c {c : Cu} (hw : Wf c) (h0 : 0 < cN c) (h1 : cS c 2 ≠ 1 ∨ 3 < cS c 1) : Gok (cS c 2) (cS c 1) (nrC c) := by
  obtain ⟨n1, n2⟩ := nr_c hw h0
  exact gok (hw.2.2.1 2 (by omega)).2 (hw.2.2.1 1 (by omega)).1 (hw.2.2.1 1 (by omega)).2 n1 n2 h1
theorem cpy_ok {E : En} : CPY E CG' CM' := by
  intro σ b b2 c hb hb2 hab hw hc
  obtain ⟨b0, rb0, rb1, rb3, rb4, rb5, rb6, lr, la4, lg, lm, la31, la32⟩ := id hb
  obtain ⟨d0, rd0, rd1, rd3, rd4, rd5, rd6, mr, ma4, mg, mm, ma31, ma32⟩ := id hb2
  obtain ⟨c1, c2, c3, c4, c5, c6, c7, c8⟩ := hc
  have hn := hw.1
  have hT := (hw.2.2.1 1 (by omega)).2
  simp only [lc_at (show (1 : Nat) < 33 by omega), lc_at (show (2 : Nat) < 33 by omega), lc_at (show (3 : Nat) < 33 by omega), lc_at (show (4 : Nat) < 33 by omega), lc_at (show (0 : Nat) < 33 by omega)] at c1 c2 c3 c4 c5 c6
  rw [Nat.add_zero] at c6
  unfold fX4_copyFrom
  rw [tk_ok b0, tk_ok d0, dr_ok rb0 lr.1, dr_ok rd0 mr.1]
  -- records
  obtain ⟨s1, e1, r2, r3, rk, rr, f1⟩ : ∃ s1, fX3_copyFrom E (b + 1) (b2 + 1) σ = some s1 ∧ gi s1 (b + 1) 2 = nI (cN c) ∧ gi s1 (b + 1) 3 = nI (inv (cF c) (cN c)) ∧ (∀ i, i < cN c → gi s1 (b + 2) i = gi σ (b2 + 2) i) ∧ (∀ i, i < cN c → gi s1 (b + 3) i = gi σ (b2 + 3) i) ∧ ∀ x k, x ≠ b + 1 → x ≠ b + 2 → x ≠ b + 3 → gi s1 x k = gi σ x k := by
    unfold fX3_copyFrom
    have e3 : gi (si σ (b + 1) 2 (gi σ (b2 + 1) 2)) (b2 + 1) 3 = nI (inv (cF c) (cN c)) := by rw [gs_ne (by omega)]; exact c4
    rw [tk_ok lr.1, tk_ok mr.1, ss_ok, ss_ok, e3, c1, dr_ok mr.2.1 mr.2.2.2.1.1, dr_ok lr.2.1 lr.2.2.2.1.1]
    have e2 : gi (si (si σ (b + 1) 2 (nI (cN c))) (b + 1) 3 (nI (inv (cF c) (cN c)))) (b + 1) 2 = nI (cN c) := by rw [gs_ne (by omega), gs_eq]
    rw [e2, i0, acp_n (by rw [mr.2.2.2.1.2]; omega) (by rw [lr.2.2.2.1.2]; omega) (by omega), dr_ok mr.2.2.1 mr.2.2.2.2.1, dr_ok lr.2.2.1 lr.2.2.2.2.1, gc_out (by omega), e2, acp_n (by rw [mr.2.2.2.2.2]; omega) (by rw [lr.2.2.2.2.2]; omega) (by omega)]
    refine ⟨_, rfl, ?_, ?_, fun i hi => ?_, fun i hi => ?_, fun x k h1 h2 h3 => ?_⟩
    · rw [gc_out (by omega), gc_out (by omega)]; exact e2
    · rw [gc_out (by omega), gc_out (by omega), gs_eq]
    · rw [gc_out (by omega), gc_in (by omega), gs_ne (by omega), gs_ne (by omega), show 0 + (i - 0) = i by omega]
    · rw [gc_in (by omega), gc_out (by omega), gs_ne (by omega), gs_ne (by omega), show 0 + (i - 0) = i by omega]
    · rw [gc_out (by omega), gc_out (by omega), gs_ne (by omega), gs_ne (by omega)]
  rw [e1, bv_ok, dr_ok rd1 ma4.1, dr_ok rb1 la4.1, i0, i6, acp_n (by rw [ma4.2]; omega) (by rw [la4.2]; omega) (by omega), ss_ok]
  have e6 : gi (sc s1 (b2 + 4) (b + 4) 0 0 6) b2 2 = nI (cT c) := by rw [gc_out (by omega), f1 _ _ (by omega) (by omega) (by omega)]; exact c6
  rw [e6]
  generalize hs2 : si (sc s1 (b2 + 4) (b + 4) 0 0 6) b 2 (nI (cT c)) = s2
  have f2 : ∀ x k, x ≠ b → x ≠ b + 4 → gi s2 x k = gi s1 x k := fun x k h1 h2 => by rw [← hs2, gs_ne (by omega), gc_out (by omega)]
  have g24 : ∀ j, j < 6 → gi s2 (b + 4) j = nI (cS c j) := fun j hj => by rw [← hs2, gs_ne (by omega), gc_in (by omega), f1 _ _ (by omega) (by omega) (by omega), show 0 + (j - 0) = j by omega]; exact c5 j hj
  have g22 : gi s2 b 2 = nI (cT c) := by rw [← hs2, gs_eq]
  have ht3 := hw.2.2.2.1
  have old : ∀ x k, (x < b ∨ b + 33 ≤ x) → gi s2 x k = gi σ x k := fun x k h => by rw [f2 _ _ (by omega) (by omega), f1 _ _ (by omega) (by omega) (by omega)]
  rw [g22]
  -- what grew
  obtain ⟨s3, e3, hg3, f3⟩ : ∃ s3, (if nI (cT c) < (1 : Int32) then (some ((), s2)) else (dr (rf E b 3) E 0 (fun x11 => dr (rf E b2 3) E 0 (fun x12 => bv (fX0_copyFrom E x11 x12 (gi s2 (b + 1) 2) s2) (fun s13 => some ((), s13)))))) = some ((), s3) ∧ (1 ≤ cT c → gi s3 (b + 5) 2 = nI (nrC c) ∧ gi s3 (b + 5) 3 = bI (tuC c) ∧ (∀ x, x < cN c → gi s3 (b + 6) x = nI (roC c x)) ∧ ∀ r, r < nrC c → gi s3 (b + 7) r = nI (glC c r)) ∧ ∀ x k, x ≠ b + 5 → x ≠ b + 6 → x ≠ b + 7 → gi s3 x k = gi s2 x k := by
    by_cases hs : cT c < 1
    · rw [i1, if_pos (nI_lt hs (by omega))]
      exact ⟨s2, rfl, fun h => by omega, fun _ _ _ _ _ => rfl⟩
    · obtain ⟨k1, k2, k3, k4⟩ := c7 (by omega)
      rw [lc_at (by omega)] at k1 k2
      have hnr := (nr_c hw (hw.2.2.2.2.1 (by omega))).2
      rw [i1, if_neg (nI_nlt (by omega) (by omega)), dr_ok rb3 lg.1, dr_ok rd3 mg.1]
      unfold fX0_copyFrom
      have q3 : gi (si s2 (b + 5) 2 (gi s2 (b2 + 5) 2)) (b2 + 5) 3 = bI (tuC c) := by rw [gs_ne (by omega), old _ _ (by omega)]; exact k2
      have q2 : gi s2 (b2 + 5) 2 = nI (nrC c) := by rw [old _ _ (by omega)]; exact k1
      have qn : gi s2 (b + 1) 2 = nI (cN c) := by rw [f2 _ _ (by omega) (by omega)]; exact r2
      rw [tk_ok lg.1, tk_ok mg.1, ss_ok, q3, kb_b, ss_ok, q2, dr_ok mg.2.1 mg.2.2.2.2.1.1, dr_ok lg.2.1 lg.2.2.2.2.1.1, qn, i0, acp_n (by rw [mg.2.2.2.2.1.2]; omega) (by rw [lg.2.2.2.2.1.2]; omega) (by omega), dr_ok mg.2.2.1 mg.2.2.2.2.2.1.1, dr_ok lg.2.2.1 lg.2.2.2.2.2.1.1]
      have q5 : gi (sc (si (si s2 (b + 5) 2 (nI (nrC c))) (b + 5) 3 (bI (tuC c))) (b2 + 5 + 1) (b + 5 + 1) 0 0 (cN c)) (b + 5) 2 = nI (nrC c) := by rw [gc_out (by omega), gs_ne (by omega), gs_eq]
      rw [q5, acp_n (by rw [mg.2.2.2.2.2.1.2]; omega) (by rw [lg.2.2.2.2.2.1.2]; omega) (by omega), bv_ok]
      refine ⟨_, rfl, fun _ => ⟨?_, ?_, fun x hx => ?_, fun r hr => ?_⟩, fun x k h1 h2 h3 => ?_⟩
      · rw [gc_out (by omega)]; exact q5
      · rw [gc_out (by omega), gc_out (by omega), gs_eq]
      · rw [gc_out (by omega), gc_in (by omega), gs_ne (by omega), gs_ne (by omega), old _ _ (by omega), show 0 + (x - 0) = x by omega]
        have := k3 x hx; rw [lc_at (by omega)] at this; exact this
      · rw [gc_in (by omega), gc_out (by omega), gs_ne (by omega), gs_ne (by omega), old _ _ (by omega), show 0 + (r - 0) = r by omega]
        have := k4 r hr; rw [lc_at (by omega)] at this; exact this
      · rw [gc_out (by omega), gc_out (by omega), gs_ne (by omega), gs_ne (by omega)]
  rw [e3, bd_ok, f3 b 2 (by omega) (by omega) (by omega), g22]
  have old3 : ∀ x k, (x < b ∨ b + 33 ≤ x) → gi s3 x k = gi σ x k := fun x k h => by rw [f3 _ _ (by omega) (by omega) (by omega), old _ _ h]
  -- the mill
  obtain ⟨s4, e4, hm4, f4⟩ : ∃ s4, (if nI (cT c) < (2 : Int32) then (some ((), s3)) else (dr (rf E b 4) E 1 (fun x17 => dr (rf E b2 4) E 1 (fun x18 => bv (fX1_copyFrom E x17 x18 s3) (fun s19 => dr (rf E b2 5) E 100 (fun x21 => dr (rf E b 5) E 100 (fun x22 => dr (rf E b 3) E 0 (fun x23 => acp E s19 x21 (nI 0) x22 (nI 0) (gi s19 x23 2) (fun s24 => some ((), s24)))))))))) = some ((), s4) ∧ (2 ≤ cT c → CM' (lc s4 b) c) ∧ ∀ x k, (x < b + 9 ∨ b + 32 ≤ x) → gi s4 x k = gi s3 x k := by
    by_cases hs : cT c < 2
    · rw [i2, if_pos (nI_lt hs (by omega))]
      exact ⟨s3, rfl, fun h => by omega, fun _ _ _ => rfl⟩
    · obtain ⟨k1, k2, k3, k4⟩ := c8 (by omega)
      have h0 := hw.2.2.2.2.1 (by omega)
      have hnr := (nr_c hw h0).2
      obtain ⟨y1, y2, y3, y4⟩ := hg3 (by omega)
      have hR : RMl s3 (b2 + 9) (cS c 2) (cS c 1) (bkC c) (glC c) (nrC c) (miC c) := rml_tr hT k3 (fun x k hx => by rw [gi_lgs, lc_at (by omega), old3 _ _ (by omega), show b2 + (9 + x) = b2 + 9 + x by omega])
      obtain ⟨s5, e5, r5, f5⟩ := c_cpMill lm mm (by omega) hT (by omega) (by omega) (by omega) (by omega) hR
      have h52 : gi s5 (b + 5) 2 = nI (nrC c) := by rw [f5 _ _ (by omega)]; exact y1
      rw [i2, if_neg (nI_nlt (by omega) (by omega)), dr_ok rb4 lm.1, dr_ok rd4 mm.1, e5, bv_ok, dr_ok rd5 ma31.1, dr_ok rb5 la31.1, dr_ok rb3 lg.1, h52, acp_n (by rw [ma31.2]; omega) (by rw [la31.2]; omega) (by omega)]
      refine ⟨_, rfl, fun _ => ⟨k1, k2, ?_, fun t r j ht hr hj => ?_⟩, fun x k h => ?_⟩
      · exact (rml_lc hT).mpr (rml_tr hT r5 (fun x k hx => gc_out (by omega)))
      · have hjn := oc_lt (mil_ai (gok_c hw h0 (hw.2.2.2.2.2 (by omega))) k1).1 ht hr hj
        have := k4 t r j ht hr hj
        rw [lc_at (by omega)] at this
        rw [lc_at (by omega), gc_in (by omega), f5 _ _ (by omega), old3 _ _ (by omega), show 0 + (j - 0) = j by omega]; exact this
      · rw [gc_out (by omega), f5 _ _ (by omega)]
  rw [e4, bd_ok]
  have lo : ∀ x k, x < 9 → gi s4 (b + x) k = gi s3 (b + x) k := fun x k hx => f4 _ _ (by omega)
  refine ⟨s4, rfl, ⟨?_, fun i hi => ?_, fun i hi => ?_, ?_, fun j hj => ?_, ?_, fun h => ?_, hm4⟩, fun x k h => ?_⟩
  · rw [lc_at (by omega), lo _ _ (by omega), f3 _ _ (by omega) (by omega) (by omega), f2 _ _ (by omega) (by omega)]; exact r2
  · rw [lc_at (by omega), lo _ _ (by omega), f3 _ _ (by omega) (by omega) (by omega), f2 _ _ (by omega) (by omega), rk i hi]; exact c2 i hi
  · rw [lc_at (by omega), lo _ _ (by omega), f3 _ _ (by omega) (by omega) (by omega), f2 _ _ (by omega) (by omega), rr i hi]; exact c3 i hi
  · rw [lc_at (by omega), lo _ _ (by omega), f3 _ _ (by omega) (by omega) (by omega), f2 _ _ (by omega) (by omega)]; exact r3
  · rw [lc_at (by omega), lo _ _ (by omega), f3 _ _ (by omega) (by omega) (by omega)]; exact g24 j hj
  · rw [lc_at (by omega), lo _ _ (by omega), f3 _ _ (by omega) (by omega) (by omega)]; exact g22
  · obtain ⟨y1, y2, y3, y4⟩ := hg3 h
    exact ⟨by rw [lc_at (by omega), lo _ _ (by omega)]; exact y1, by rw [lc_at (by omega), lo _ _ (by omega)]; exact y2, fun x hx => by rw [lc_at (by omega), lo _ _ (by omega)]; exact y3 x hx, fun r hr => by rw [lc_at (by omega), lo _ _ (by omega)]; exact y4 r hr⟩
  · rw [f4 _ _ (by omega), f3 _ _ (by omega) (by omega) (by omega), old _ _ h]
