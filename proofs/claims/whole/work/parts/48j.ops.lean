/-! a state's own acts in the class: runs are laid, merged once -/
section OP
variable {E : En} {σ : Sg} {w T nr b m N : Nat} {bk tu fr : Bool} {gl : Nat → Nat} {A : Mi}
theorem c_layRuns (hb : LSta E b) (hL : LMill E m N) (hd : b + 8 ≤ m ∨ m + 22 ≤ b) (h2 : gi σ (b + 5) 2 = nI nr) (h3 : gi σ (b + 5) 3 = bI tu) (hlen : ∀ r, r < nr → gi σ (b + 7) r = nI (gl r)) {f3 : Nat} (hf3 : gi σ (b + 4) 3 = nI f3) (hfl : f3 ≤ 1) (hfr : fr = (f3 == 1)) (h : LD σ m w T bk 0 gl tu) (hn : nr ≤ N) (hN : N ≤ 700) (hnr : nr ≤ 300) (hw : w ≤ 2) (hT : T ≤ 6) (hT3 : 3 ≤ T) (hc : Cap w T nr) :
    ∃ s, fX4_layRuns E b m σ = some s ∧ RMl s m w T bk gl nr (mi0 w T bk fr tu gl nr) ∧ gi s (m + 3) 4 = nI (dmN w T nr) ∧ gi s (m + 3) 5 = lvI w T nr ∧ ∀ x k, (x < m ∨ m + 22 ≤ x) → gi s x k = gi σ x k := by
  obtain ⟨b0, rb0, rb1, rb3, rb4, rb5, rb6, lr, la4, lg, lm, la31, la32⟩ := id hb
  unfold fX4_layRuns
  rw [tk_ok b0, tk_ok hL.1]
  refine bd_in nr (fun i a => a.1 = nI i ∧ LD a.2 m w T bk i gl tu ∧ ∀ x k, (x < m ∨ m + 22 ≤ x) → gi a.2 x k = gi σ x k) (fun a => LD a.2 m w T bk nr gl tu ∧ ∀ x k, (x < m ∨ m + 22 ≤ x) → gi a.2 x k = gi σ x k) (by show nr < 1000000; omega) ⟨rfl, h, fun _ _ _ => rfl⟩ ?_ ?_ ?_
  · rintro i ⟨v, s⟩ rec hi ⟨rfl, q1, q2⟩
    dsimp only at q1 q2 ⊢
    obtain ⟨s3, e3, g1, g2⟩ := c_load hL q1 (by omega) hN
    unfold bX4_layRuns_2
    rw [dr_ok rb3 lg.1, q2 _ _ (by omega), h2, if_neg (nI_ge hi (by omega)), dr_ok lg.2.2.1 lg.2.2.2.2.2.1.1, lg.2.2.2.2.2.1.2, ck_n (by omega) (by omega), nI_clamp (by omega), c_falls lg (tu := tu) (by rw [q2 _ _ (by omega)]; exact h3) (by omega), bd_ok, q2 _ _ (by omega), hlen i hi]
    rw [show fal tu i = (tu && (i % 2 == 1)) from rfl, e3, bv_ok, lt_ok, ad1]
    exact ⟨_, rfl, rfl, g1, fun x k hx => by dsimp only; rw [g2 x k hx]; exact q2 x k hx⟩
  · rintro ⟨v, s⟩ rec ⟨rfl, q1, q2⟩
    dsimp only at q1 q2 ⊢
    unfold bX4_layRuns_2
    rw [dr_ok rb3 lg.1, q2 _ _ (by omega), h2, if_pos (nI_le (Nat.le_refl _) (by omega))]
    exact ⟨_, rfl, q1, q2⟩
  · rintro v s ⟨q1, q2⟩
    dsimp only at q1 q2
    obtain ⟨s3, e3, r3, g4, g5, f3'⟩ := c_layOut (fr := fr) hL q1 hw hT hT3 hn hN hc
    rw [dr_ok rb1 la4.1, la4.2, i3, ck_n (by omega) (by omega), nI_clamp (by omega), q2 _ _ (by omega), hf3]
    have hsel : (if ¬ nI f3 = (1 : Int32) then (some ((0 : Int32), s)) else (some ((1 : Int32), s))) = some (bI fr, s) := by
      rw [hfr]
      rcases (show f3 = 0 ∨ f3 = 1 by omega) with rfl | rfl <;> rfl
    rw [hsel, bd_ok, e3, bv_ok]
    exact ⟨s3, rfl, r3, g4, g5, fun x k hx => by rw [f3' x k hx]; exact q2 x k hx⟩
theorem c_takenFrom (hL : LMill E m N) (hT : T ≤ 6) (h1 : gi σ m 1 = nI T) {v : Nat → Int32} (h4 : ∀ t, t < T → gi σ (m + 4) t = v t) {i : Nat} (hi : i < 2 ^ 31) : fX1_takenFrom E m (nI i) σ = some (optI (fstF (fun t => decide (v t = nI i)) T), σ) := by
  obtain ⟨l0, l4, l10, l12, l13, l17, l18, l5, l6, a1, a2, a3, a4, a5, a7, a8, a9, ltp⟩ := id hL
  have body : ∀ j rec, j < T → bX1_takenFrom_2 E m (nI i) rec (nI j) σ = if decide (v j = nI i) = true then some (.inr (nI j), σ) else rec (nI (j + 1)) σ := by
    intro j rec hj
    unfold bX1_takenFrom_2
    rw [h1, if_neg (nI_ge hj (by omega)), if_neg (nI_pos hi), dr_ok l13 a4.1, a4.2, ck_n (by omega) (by omega), nI_clamp (by omega), h4 j hj]
    by_cases hq : v j = nI i
    · rw [if_neg (fun z => z hq), decide_eq_true hq, if_pos rfl]
    · rw [if_pos hq, lt_ok, ad1, decide_eq_false hq, if_neg (by decide)]
  unfold fX1_takenFrom
  rw [tk_ok l0]
  cases hf : fstF (fun t => decide (v t = nI i)) T with
  | some e =>
    obtain ⟨q1, q2, q3⟩ := fstF_some hf
    refine bd_tr (Sum.inr (nI e), σ) e (fun i => (nI i, σ)) (by show e < 1000000; omega) (fun j rec hj => ?_) (fun rec => ?_) rfl
    · dsimp only; rw [body j _ (by omega), if_neg (by rw [q3 j hj]; decide)]
    · dsimp only; rw [body e _ q1, if_pos q2]
  | none =>
    have q3 := fstF_none hf
    refine bd_tr (Sum.inl (nI T), σ) T (fun i => (nI i, σ)) (by show T < 1000000; omega) (fun j rec hj => ?_) (fun rec => ?_) rfl
    · dsimp only; rw [body j _ (by omega), if_neg (by rw [q3 j hj]; decide)]
    · unfold bX1_takenFrom_2
      dsimp only
      rw [h1, if_pos (nI_le (Nat.le_refl _) (by omega))]
/-- where a run that grew is -/
theorem oc_ex {tp : Nat → List Rn} (h : Oc T nr tp) {j : Nat} (hj : j < nr) : ∃ t r, t < T ∧ r ∈ tp t ∧ j ∈ r.1 := by
  have h1 := h j
  rw [if_pos hj] at h1
  obtain ⟨t, ht, h2, _⟩ := sum_one h1
  have : ∀ l : List Rn, 0 < occL j l → ∃ r, r ∈ l ∧ j ∈ r.1 := by
    intro l
    induction l with
    | nil => intro h; simp [occL] at h
    | cons a l ih =>
      intro h
      unfold occL at h
      by_cases hc : 0 < a.1.count j
      · exact ⟨a, List.mem_cons_self, List.count_pos_iff.mp hc⟩
      · obtain ⟨r, h1, h2⟩ := ih (by omega)
        exact ⟨r, List.mem_cons_of_mem _ h1, h2⟩
  obtain ⟨r, q1, q2⟩ := this (tp t) (by omega)
  exact ⟨t, r, ht, q1, q2⟩
/-- one that is with one of a head is in that head -/
theorem dj_same {tp : Nat → List Rn} (h : Dj T tp) {t t' j : Nat} {r : Rn} (ht : t < T) (ht' : t' < T) (hl : 0 < (tp t).length) (hj : j ∈ (hdr (tp t)).1) (hr : r ∈ tp t') (hjr : j ∈ r.1) : r = hdr (tp t) ∧ t' = t := by
  by_cases he : t' = t
  · subst he
    refine ⟨?_, rfl⟩
    cases hq : tp t' with
    | nil => rw [hq] at hr; cases hr
    | cons a l =>
      rw [hq] at hr
      rcases List.mem_cons.mp hr with q | q
      · exact q
      · exact absurd hjr (dj_hd h ht ht' hl hj (r := r) (by rw [if_pos rfl, hq]; exact q))
  · exact absurd hjr (dj_hd h ht ht' hl hj (r := r) (by rw [if_neg he]; exact hr))
/-- by the number of a run that is taken it is known -/
theorem taken_iff {g : Nat → Bool} {tp : Nat → List Rn} (h : Oc T nr tp) (hnr : nr ≤ 700) (hg : ∀ t, t < T → g t = true → 0 < (tp t).length) {t' j : Nat} {r : Rn} (ht' : t' < T) (hr : r ∈ tp t') (hj : j ∈ r.1) : ∀ t, t < T → (tkI g tp t = idI r.1 ↔ g t = true ∧ t = t' ∧ r = hdr (tp t)) := by
  intro t ht
  obtain ⟨i0, l0, hz⟩ : ∃ i l, r.1 = i :: l := by
    cases hq : r.1 with
    | nil => rw [hq] at hj; cases hj
    | cons i l => exact ⟨i, l, rfl⟩
  have hi0 := oc_lt h ht' hr (j := i0) (by rw [hz]; simp)
  unfold tkI
  by_cases hgt : g t = true
  · rw [if_pos hgt, hz]
    constructor
    · intro q
      refine ⟨hgt, ?_⟩
      have hin : i0 ∈ (hdr (tp t)).1 := by
        cases hq : (hdr (tp t)).1 with
        | nil => rw [hq] at q; exact absurd q.symm (nI_nm1 (n := i0) (by omega))
        | cons i l =>
          rw [hq] at q
          have hi := oc_lt h ht (hdr_mem (hg t ht hgt)) (j := i) (by rw [hq]; simp)
          have := (nI_eq (by omega) (by omega)).mp q
          rw [this]; simp
      have := dj_same (oc_dj h) ht ht' (hg t ht hgt) hin hr (by rw [hz]; simp)
      exact ⟨this.2.symm, this.1⟩
    · rintro ⟨_, _, q⟩
      rw [← q, hz]
  · rw [if_neg hgt, hz]
    constructor
    · intro q; exact absurd q.symm (nI_nm2 (n := i0) (by omega))
    · rintro ⟨q, _⟩; exact absurd q hgt
theorem c_mergeOnce (hb : LSta E b) (h : RMl σ (b + 9) w T bk gl nr A) (hT : T ≤ 6) (hT3 : 3 ≤ T) (hw : w ≤ 2) (hnr : nr ≤ 300) (h2 : gi σ (b + 5) 2 = nI nr) (ha : AI T nr A) (hok : oks w T (T / 2) (mK A) = true) (ho : HOl T (gi σ (b + 31)) A) :
    ∃ s, fX4_mergeOnce E b σ = some s ∧ RMl s (b + 9) w T bk gl nr (stp w T bk gl A) ∧ HOl T (gi s (b + 31)) (stp w T bk gl A) ∧ gi s b 2 = (if lef T (mK (stp w T bk gl A)) = 1 then 3 else gi σ b 2) ∧ ∀ x k, (x < b + 9 ∨ b + 32 ≤ x) → ¬ (x = b ∧ k = 2) → gi s x k = gi σ x k := by
  obtain ⟨b0, rb0, rb1, rb3, rb4, rb5, rb6, lr, la4, lg, lm, la31, la32⟩ := id hb
  obtain ⟨s1, e1, r1, g16, g4, f1⟩ := c_adv lm h hT hT3 hw hnr (by omega) (oc_dj ha.1) hok
  obtain ⟨o1, o2, o3, o4, o5⟩ := oks_un hok
  have hgl : ∀ t, t < T → gvf w (T / 2) (mK A) t = true → 0 < (mT A t).length := fun t ht q => by rw [← ha.2.1 t ht]; exact (gv_fl q).2
  have hmT : gi s1 (b + 9) 1 = nI T := by obtain ⟨L, H, hms, _⟩ := r1; exact hms.1.2.1
  have h8 : gi s1 (b + 9) 8 = nI (lef T (mK (stp w T bk gl A))) := by obtain ⟨L, H, _, _, _, q, _⟩ := r1; exact q
  have hlef : lef T (mK (stp w T bk gl A)) ≤ 1536 := by obtain ⟨L, H, hms, _⟩ := r1; exact ms_lef hT hms
  have hlp : 0 < lef T (mK (stp w T bk gl A)) := by
    rw [stp_K]
    have h1 : kc (skn w T (T / 2) (mK A)).1 (kto (mK A)) ≤ lef T (skn w T (T / 2) (mK A)).1 := sumF_pos (f := kc (skn w T (T / 2) (mK A)).1) o2
    have h2 : kc (skn w T (T / 2) (mK A)).1 (kto (mK A)) = kc (mK A) (kto (mK A)) + 1 := by
      show (skn w T (T / 2) (mK A)).1.1.getD _ 0 = _
      rw [skn_1, skc_at o2, if_pos rfl]
    omega
  unfold fX4_mergeOnce
  rw [tk_ok b0, dr_ok rb4 lm.1, e1, bv_ok]
  generalize hgd : gvf w (T / 2) (mK A) = g at *
  generalize hcd : catF g (mT A) T = c at *
  refine bd_in nr (fun i a => a.1 = nI i ∧ (∀ j, j < nr → gi a.2 (b + 31) j = if j < i ∧ j ∈ c then idI c else gi σ (b + 31) j) ∧ ∀ x k, x ≠ b + 31 → gi a.2 x k = gi s1 x k) (fun a => (∀ j, j < nr → gi a.2 (b + 31) j = if j ∈ c then idI c else gi σ (b + 31) j) ∧ ∀ x k, x ≠ b + 31 → gi a.2 x k = gi s1 x k) (by show nr < 1000000; omega) ⟨rfl, fun j hj => ?_, fun _ _ _ => rfl⟩ ?_ ?_ ?_
  · dsimp only; rw [if_neg (by omega), f1 _ _ (by unfold esA; omega)]
  · rintro i ⟨v, s⟩ rec hi ⟨rfl, q1, q2⟩
    dsimp only at q1 q2 ⊢
    obtain ⟨t', r, ht', hr, hj⟩ := oc_ex ha.1 hi
    have hhold : gi s (b + 31) i = idI r.1 := by rw [q1 i hi, if_neg (by omega)]; exact ho t' r i ht' hr hj
    obtain ⟨i0, l0, hz⟩ : ∃ i l, r.1 = i :: l := by
      cases hq : r.1 with
      | nil => rw [hq] at hj; cases hj
      | cons i l => exact ⟨i, l, rfl⟩
    have hi0 := oc_lt ha.1 ht' hr (j := i0) (by rw [hz]; simp)
    have hti := taken_iff ha.1 (by omega) hgl ht' hr hj
    have htf := c_takenFrom (σ := s) lm hT (by rw [q2 _ _ (by omega)]; exact hmT) (v := tkI g (mT A)) (fun t ht => by rw [q2 _ _ (by omega)]; exact g4 t ht) (i := i0) (by omega)
    have hidr : idI r.1 = nI i0 := by rw [hz]; rfl
    rw [hidr] at hti
    unfold bX4_mergeOnce_9
    rw [dr_ok rb3 lg.1, q2 _ _ (by omega), f1 _ _ (by unfold esA; omega), h2, if_neg (nI_ge hi (by omega)), dr_ok rb5 la31.1, la31.2, ck_n (by omega) (by omega), nI_clamp (by omega), hhold, hidr, htf, bd_ok]
    have hic : i ∈ c ↔ ∃ e, fstF (fun t => decide (tkI g (mT A) t = nI i0)) T = some e := by
      rw [← hcd]
      constructor
      · intro hm'
        obtain ⟨t, q3, q4, q5⟩ := cat_memI.mp hm'
        have := dj_same (oc_dj ha.1) q3 ht' (hgl t q3 q4) q5 hr hj
        obtain ⟨e, he, _⟩ := fstF_ex (p := fun t => decide (tkI g (mT A) t = nI i0)) q3 (by rw [decide_eq_true_eq]; exact (hti t q3).mpr ⟨q4, this.2.symm, this.1⟩)
        exact ⟨e, he⟩
      · rintro ⟨e, he⟩
        obtain ⟨w1, w2, w3⟩ := fstF_some he
        rw [decide_eq_true_eq] at w2
        obtain ⟨w4, w5, w6⟩ := (hti e w1).mp w2
        exact cat_memI.mpr ⟨e, w1, w4, by rw [← w6]; exact hj⟩
    cases hfs : fstF (fun t => decide (tkI g (mT A) t = nI i0)) T with
    | none =>
      have hnc : i ∉ c := fun z => by obtain ⟨e, he⟩ := hic.mp z; rw [hfs] at he; cases he
      rw [if_pos (show optI none = -1 from rfl), bd_ok, lt_ok, ad1]
      refine ⟨_, rfl, rfl, fun j hj' => ?_, q2⟩
      dsimp only
      rw [q1 j hj']
      by_cases hji : j = i
      · subst hji; rw [if_neg (by omega), if_neg (fun z => hnc z.2)]
      · rw [ifc (p := j < i ∧ j ∈ c) (q := j < i + 1 ∧ j ∈ c) ⟨fun z => ⟨by omega, z.2⟩, fun z => ⟨by omega, z.2⟩⟩]
    | some e =>
      have hyc : i ∈ c := hic.mpr ⟨e, hfs⟩
      have he := (fstF_some hfs).1
      rw [if_neg (show ¬ optI (some e) = -1 from nI_nm1 (n := e) (by omega)), ck_n (by omega) (by omega), q2 _ _ (by omega), g16, ss_ok, bd_ok, lt_ok, ad1]
      refine ⟨_, rfl, rfl, fun j hj' => ?_, fun x k hx => by dsimp only; rw [gs_ne (by omega)]; exact q2 x k hx⟩
      dsimp only
      by_cases hji : j = i
      · subst hji; rw [gs_eq, if_pos ⟨by omega, hyc⟩]
      · rw [gs_ne (by omega), q1 j hj', ifc (p := j < i ∧ j ∈ c) (q := j < i + 1 ∧ j ∈ c) ⟨fun z => ⟨by omega, z.2⟩, fun z => ⟨by omega, z.2⟩⟩]
  · rintro ⟨v, s⟩ rec ⟨rfl, q1, q2⟩
    dsimp only at q1 q2 ⊢
    unfold bX4_mergeOnce_9
    rw [dr_ok rb3 lg.1, q2 _ _ (by omega), f1 _ _ (by unfold esA; omega), h2, if_pos (nI_le (Nat.le_refl _) (by omega))]
    refine ⟨_, rfl, fun j hj => ?_, q2⟩
    dsimp only
    rw [q1 j hj, ifc (p := j < nr ∧ j ∈ c) (q := j ∈ c) ⟨fun z => z.2, fun z => ⟨hj, z⟩⟩]
  · rintro v s2 ⟨q1, q2⟩
    dsimp only at q1 q2
    have hR2 : RMl s2 (b + 9) w T bk gl nr (stp w T bk gl A) := rml_tr hT r1 (fun x k hx => q2 _ _ (by omega))
    have hH2 : HOl T (gi s2 (b + 31)) (stp w T bk gl A) := by
      intro t r j ht hr hj
      -- runs behind the step, flags aside
      have hr0 : ∃ r0, r0 ∈ mT (stp0 w T bk gl A) t ∧ r0.1 = r.1 := by
        unfold stp tul at hr
        split at hr
        · have hr : r ∈ upr (mT (stp0 w T bk gl A) t) := hr
          unfold upr at hr
          obtain ⟨r0, h1, rfl⟩ := List.mem_map.mp hr
          exact ⟨r0, h1, rfl⟩
        · exact ⟨r, hr, rfl⟩
      obtain ⟨r0, hr0, he0⟩ := hr0
      have hai := ai_stp0 (bk := bk) (gl := gl) ha hok
      have hjn : j < nr := oc_lt hai.1 ht hr0 (by rw [he0]; exact hj)
      rw [q1 j hjn, ← he0]
      rw [← he0] at hj
      have hr0' : r0 ∈ tpn T (kto (mK A)) bk g (c, bk && (ldD g (mT A) T == some false)) (mT A) t := by rw [← hcd, ← hgd]; exact hr0
      unfold tpn at hr0'
      have old : ∀ r0, r0 ∈ mT A t → (g t = true → r0 ∈ (mT A t).tail) → j ∈ r0.1 → (if j ∈ c then idI c else gi σ (b + 31) j) = idI r0.1 := by
        intro r0 hm1 hm2 hj0
        have hnc : j ∉ c := fun z => by
          rw [← hcd] at z
          obtain ⟨u, u1, u2, u3⟩ := cat_memI.mp z
          refine dj_hd (oc_dj ha.1) u1 ht (hgl u u1 u2) u3 (r := r0) ?_ hj0
          by_cases hut : t = u
          · subst hut; rw [if_pos rfl]; exact hm2 u2
          · rw [if_neg hut]; exact hm1
        rw [if_neg hnc]
        exact ho t r0 j ht hm1 hj0
      by_cases hto : t = kto (mK A)
      · rw [if_pos hto] at hr0'
        rcases psh_mem hr0' with rfl | hm1
        · rw [if_pos hj]
        · exact old r0 hm1 (fun z => by rw [hto, ← hgd, gv_no o3] at z; cases z) hj
      · rw [if_neg hto] at hr0'
        by_cases hgt : t < T ∧ g t = true
        · rw [if_pos hgt] at hr0'; exact old r0 (List.mem_of_mem_tail hr0') (fun _ => hr0') hj
        · rw [if_neg hgt] at hr0'; exact old r0 hr0' (fun z => absurd ⟨ht, z⟩ hgt) hj
    rw [q2 _ _ (by omega), h8, i1]
    by_cases h1 : lef T (mK (stp w T bk gl A)) = 1
    · rw [if_neg (nI_nlt (by omega) (by omega)), ss_ok, bd_ok]
      refine ⟨_, rfl, rml_tr hT hR2 (fun x k hx => gs_ne (by omega)), fun t r j ht hr hj => by rw [gs_ne (by omega)]; exact hH2 t r j ht hr hj, by rw [gs_eq, if_pos h1], fun x k hx hk => ?_⟩
      rw [gs_ne (by omega), q2 _ _ (by omega), f1 _ _ (by unfold esA; omega)]
    · rw [if_pos (nI_lt (by omega) (by omega)), bd_ok]
      refine ⟨s2, rfl, hR2, hH2, by rw [if_neg h1, q2 _ _ (by omega), f1 _ _ (by unfold esA; omega)], fun x k hx hk => ?_⟩
      rw [q2 _ _ (by omega), f1 _ _ (by unfold esA; omega)]
end OP
