/-! depth -/
theorem cntF_uq {p : Nat → Bool} {a : Nat} : ∀ {n : Nat}, a < n → p a = true → (∀ b, b < n → p b = true → b = a) → cntF p n = 1
  | 0, h, _, _ => absurd h (Nat.not_lt_zero a)
  | n + 1, h, hp, hu => by
    unfold cntF
    by_cases hq : a = n
    · subst hq
      rw [if_pos hp]
      have : cntF p a = cntF (fun _ => false) a := cntF_congr (fun t ht => by
        cases hc : p t with
        | false => rfl
        | true => have := hu t (by omega) hc; omega)
      rw [this]
      have z : ∀ m, cntF (fun _ => false) m = 0 := fun m => by
        induction m with
        | zero => rfl
        | succ m ih => unfold cntF; rw [ih]; rfl
      rw [z]
    · rw [cntF_uq (n := n) (by omega) hp (fun b hb h => hu b (by omega) h), if_neg (fun z => hq (hu n (by omega) z).symm)]
theorem cntF_nil {p : Nat → Bool} : ∀ {n : Nat}, (∀ b, b < n → p b = false) → cntF p n = 0
  | 0, _ => rfl
  | n + 1, h => by unfold cntF; rw [cntF_nil (n := n) (fun b hb => h b (by omega)), h n (by omega)]; rfl
abbrev ctA (w T : Nat) (A : Mi) : List Nat := catF (gvf w (T / 2) (mK A)) (mT A) T
section DE
variable {E : En} {σ : Sg} {m N w T nr n : Nat} {bk fr tu : Bool} {gl F ro : Nat → Nat} {A : Mi}
theorem hol_stp (ha : AI T nr A) (hok : oks w T (T / 2) (mK A) = true) {h : Nat → Int32} (ho : HOl T h A) : HOl T (fun j => if j ∈ ctA w T A then idI (ctA w T A) else h j) (stp w T bk gl A) := by
  obtain ⟨o1, o2, o3, o4, o5⟩ := oks_un hok
  have hgl : ∀ t, t < T → gvf w (T / 2) (mK A) t = true → 0 < (mT A t).length := fun t ht q => by rw [← ha.2.1 t ht]; exact (gv_fl q).2
  intro t r j ht hr hj
  have hr0 : ∃ r0, r0 ∈ mT (stp0 w T bk gl A) t ∧ r0.1 = r.1 := by
    unfold stp tul at hr
    split at hr
    · have hr : r ∈ upr (mT (stp0 w T bk gl A) t) := hr
      unfold upr at hr
      obtain ⟨r0, h1, rfl⟩ := List.mem_map.mp hr
      exact ⟨r0, h1, rfl⟩
    · exact ⟨r, hr, rfl⟩
  obtain ⟨r0, hr0, he0⟩ := hr0
  rw [← he0]
  rw [← he0] at hj
  show (if j ∈ ctA w T A then idI (ctA w T A) else h j) = idI r0.1
  have hr0' : r0 ∈ tpn T (kto (mK A)) bk (gvf w (T / 2) (mK A)) (ctA w T A, bk && (ldD (gvf w (T / 2) (mK A)) (mT A) T == some false)) (mT A) t := hr0
  unfold tpn at hr0'
  have old : ∀ r0, r0 ∈ mT A t → (gvf w (T / 2) (mK A) t = true → r0 ∈ (mT A t).tail) → j ∈ r0.1 → (if j ∈ ctA w T A then idI (ctA w T A) else h j) = idI r0.1 := by
    intro r0 hm1 hm2 hj0
    have hnc : j ∉ ctA w T A := fun z => by
      obtain ⟨u, u1, u2, u3⟩ := cat_memI.mp z
      refine dj_hd (oc_dj ha.1) u1 ht (hgl u u1 u2) u3 (r := r0) ?_ hj0
      by_cases hut : t = u
      · subst hut; rw [if_pos rfl]; exact hm2 u2
      · rw [if_neg hut]; exact hm1
    rw [if_neg hnc]
    exact ho t r0 j ht hm1 hj0
  by_cases hto : t = kto (mK A)
  · rw [if_pos hto] at hr0'
    rcases psh_mem hr0' with rfl | hm1
    · rw [if_pos hj]
    · exact old r0 hm1 (fun z => by rw [hto, gv_no o3] at z; cases z) hj
  · rw [if_neg hto] at hr0'
    by_cases hgt : t < T ∧ gvf w (T / 2) (mK A) t = true
    · rw [if_pos hgt] at hr0'; exact old r0 (List.mem_of_mem_tail hr0') (fun _ => hr0') hj
    · rw [if_neg hgt] at hr0'; exact old r0 hr0' (fun z => absurd ⟨ht, z⟩ hgt) hj
theorem hol_0 : HOl T (fun j => nI j) (mi0 w T bk fr tu gl nr) := by
  intro t r j ht hr hj
  have hr0 : ∃ r0, r0 ∈ tp0 w T bk fr tu nr t ∧ r0.1 = r.1 := by
    unfold mi0 tul at hr
    split at hr
    · have hr : r ∈ upr (tp0 w T bk fr tu nr t) := hr
      unfold upr at hr
      obtain ⟨r0, h1, rfl⟩ := List.mem_map.mp hr
      exact ⟨r0, h1, rfl⟩
    · exact ⟨r, hr, rfl⟩
  obtain ⟨r0, h1, h2⟩ := hr0
  rw [← h2] at hj ⊢
  rcases tp0_mem h1 with rfl | ⟨i, rfl⟩
  · cases hj
  · have : j = i := by simpa [rnj] using hj
    rw [this]; rfl
/-- the tape that gives the run that has j's records -/
theorem hol_tk (hL : LMill E m N) (hT : T ≤ 6) (hnr : nr ≤ 700) (ha : AI T nr A) {h : Nat → Int32} (ho : HOl T h A) (h1 : gi σ m 1 = nI T) (h4 : ∀ t, t < T → gi σ (m + 4) t = tkI (gvf w (T / 2) (mK A)) (mT A) t) {j : Nat} (hj : j < nr) : ∃ o, fX1_takenFrom E m (h j) σ = some (optI o, σ) ∧ (∀ e, o = some e → e < T ∧ gvf w (T / 2) (mK A) e = true ∧ j ∈ (hdr (mT A e)).1) ∧ (o = none → j ∉ ctA w T A) := by
  have hgl : ∀ t, t < T → gvf w (T / 2) (mK A) t = true → 0 < (mT A t).length := fun t ht q => by rw [← ha.2.1 t ht]; exact (gv_fl q).2
  obtain ⟨t', r, ht', hr, hjr⟩ := oc_ex ha.1 hj
  obtain ⟨i0, l0, hz⟩ : ∃ i l, r.1 = i :: l := by
    cases hq : r.1 with
    | nil => rw [hq] at hjr; cases hjr
    | cons i l => exact ⟨i, l, rfl⟩
  have hi0 := oc_lt ha.1 ht' hr (j := i0) (by rw [hz]; simp)
  have hti := taken_iff ha.1 hnr hgl ht' hr hjr
  have hidr : idI r.1 = nI i0 := by rw [hz]; rfl
  rw [hidr] at hti
  refine ⟨fstF (fun t => decide (tkI (gvf w (T / 2) (mK A)) (mT A) t = nI i0)) T, ?_, fun e he => ?_, fun hno z => ?_⟩
  · rw [ho t' r j ht' hr hjr, hidr]
    exact c_takenFrom hL hT h1 h4 (by omega)
  · obtain ⟨w1, w2, w3⟩ := fstF_some he
    rw [decide_eq_true_eq] at w2
    obtain ⟨w4, w5, w6⟩ := (hti e w1).mp w2
    exact ⟨w1, w4, by rw [← w6]; exact hjr⟩
  · obtain ⟨t, q3, q4, q5⟩ := cat_memI.mp z
    have := dj_same (oc_dj ha.1) q3 ht' (hgl t q3 q4) q5 hr hjr
    have hf := fstF_none hno t q3
    rw [decide_eq_false_iff_not] at hf
    exact hf ((hti t q3).mpr ⟨q4, this.2.symm, this.1⟩)
theorem rx_hc (hT : T ≤ 6) (hg : GV F n ro gl nr) (ha : AI T nr A) {X : Nat → List Dn} (hm : Xm X (mT A)) (hx : RX σ F n ro gl X) (h407 : ∀ t, t < 6 → gi σ 407 t = tkO (hdO (gT w T (mK A)) X t)) : HC' σ n gl (fun z => cnt F n ro z.2.2) (hdO (gT w T (mK A)) X) := by
  refine ⟨h407, fun t z ht hz => ?_⟩
  unfold hdO at hz
  by_cases hgi : gT w T (mK A) t = true
  · rw [if_pos hgi] at hz
    cases hz
    obtain ⟨hiT, l, hX, hr, hl⟩ := hd_run hm ha hgi
    have hzm : (X t).getD 0 d0 ∈ catX X 6 := catX_mem.mpr ⟨t, ht, by rw [hX]; simp⟩
    obtain ⟨d1, d2, d3, d4, d5, d6⟩ := hx.2.1 _ hzm
    refine ⟨d1, d2, d3, d5, ?_, d6⟩
    show (cnt F n ro ((X t).getD 0 d0).2.2).length = _
    have hmem := hdr_mem hl
    rw [hr, cnt_len hg.2.2 (oc_nd ha.1 hiT hmem) (fun j hj => oc_lt ha.1 hiT hmem hj)]
    unfold zz
    rw [hr]
  · rw [if_neg hgi] at hz; cases hz
/-- a record of a run that is taken stands at one place of those that are -/
theorem one_at (hT : T ≤ 6) (hg : GV F n ro gl nr) (ha : AI T nr A) {X : Nat → List Dn} (hm : Xm X (mT A)) (hx : RX σ F n ro gl X) {x : Nat} (hxn : x < n) : cntF (fun at' => decide (gi σ 396 (7527 + at') = nI x) && inT gl (catX (hds (hdO (gT w T (mK A)) X)) 6) at') n = if ro x ∈ ctA w T A then 1 else 0 := by
  have hn := hg.1
  have hd : ∀ b, b < n → (decide (gi σ 396 (7527 + b) = nI x) && inT gl (catX (hds (hdO (gT w T (mK A)) X)) 6) b) = true → ∃ t i, t < T ∧ gvf w (T / 2) (mK A) t = true ∧ ro x ∈ (hdr (mT A t)).1 ∧ i < (cnt F n ro (hdr (mT A t))).length ∧ (cnt F n ro (hdr (mT A t))).getD i 0 = x ∧ b = ((X t).getD 0 d0).2.1 + i := by
    intro b hb hq
    rw [Bool.and_eq_true, decide_eq_true_eq] at hq
    obtain ⟨q1, q2⟩ := hq
    unfold inT at q2
    obtain ⟨z, z1, z2⟩ := List.any_eq_true.mp q2
    obtain ⟨t, ht, hzt⟩ := catX_mem.mp z1
    unfold hds hdO at hzt
    by_cases hgi : gT w T (mK A) t = true
    · rw [if_pos hgi] at hzt
      have hze : z = (X t).getD 0 d0 := by simpa using hzt
      obtain ⟨hiT, l, hX, hr, hl⟩ := hd_run hm ha hgi
      have hzm : (X t).getD 0 d0 ∈ catX X 6 := catX_mem.mpr ⟨t, ht, by rw [hX]; simp⟩
      obtain ⟨d1, d2, d3, d4, d5, d6⟩ := hx.2.1 _ hzm
      have hmem := hdr_mem hl
      have hcl : (cnt F n ro (hdr (mT A t))).length = zz gl ((X t).getD 0 d0) := by
        rw [cnt_len hg.2.2 (oc_nd ha.1 hiT hmem) (fun j hj => oc_lt ha.1 hiT hmem hj)]
        unfold zz
        rw [hr]
      unfold hit at z2
      rw [decide_eq_true_eq, hze] at z2
      have hi := d6 (b - ((X t).getD 0 d0).2.1) (by omega)
      rw [show 7527 + ((X t).getD 0 d0).2.1 + (b - ((X t).getD 0 d0).2.1) = 7527 + b by omega, q1, hr] at hi
      have hlt : b - ((X t).getD 0 d0).2.1 < (cnt F n ro (hdr (mT A t))).length := by omega
      have hcm := cnt_mem.mp (getD_mem hlt)
      have hix := (nI_eq (by omega) (by omega)).mp hi
      rw [← hix] at hcm
      unfold gT at hgi
      rw [Bool.and_eq_true] at hgi
      exact ⟨t, b - ((X t).getD 0 d0).2.1, hiT, hgi.2, hcm.2, hlt, hix.symm, by omega⟩
    · rw [if_neg hgi] at hzt; cases hzt
  by_cases hc : ro x ∈ ctA w T A
  · rw [if_pos hc]
    obtain ⟨t, q3, q4, q5⟩ := cat_memI.mp hc
    have hgi : gT w T (mK A) t = true := by unfold gT; rw [decide_eq_true q3, q4]; rfl
    obtain ⟨hiT, l, hX, hr, hl⟩ := hd_run hm ha hgi
    have hzm : (X t).getD 0 d0 ∈ catX X 6 := catX_mem.mpr ⟨t, by omega, by rw [hX]; simp⟩
    obtain ⟨d1, d2, d3, d4, d5, d6⟩ := hx.2.1 _ hzm
    have hmem := hdr_mem hl
    have hcl : (cnt F n ro (hdr (mT A t))).length = zz gl ((X t).getD 0 d0) := by
      rw [cnt_len hg.2.2 (oc_nd ha.1 hiT hmem) (fun j hj => oc_lt ha.1 hiT hmem hj)]
      unfold zz
      rw [hr]
    obtain ⟨i, i1, i2⟩ := mem_getD (cnt_mem (F := F) (n := n) (ro := ro) (q := hdr (mT A t)) (x := x).mpr ⟨hxn, q5⟩)
    refine cntF_uq (a := ((X t).getD 0 d0).2.1 + i) (by omega) ?_ (fun b hb hq => ?_)
    · rw [Bool.and_eq_true, decide_eq_true_eq]
      refine ⟨?_, ?_⟩
      · have := d6 i (by omega)
        rw [hr, i2] at this
        rw [← this, Nat.add_assoc]
      · unfold inT
        refine List.any_eq_true.mpr ⟨(X t).getD 0 d0, catX_mem.mpr ⟨t, by omega, ?_⟩, ?_⟩
        · unfold hds hdO; rw [if_pos hgi]; simp
        · unfold hit; rw [decide_eq_true_eq]; omega
    · obtain ⟨t', i', a1, a2, a3, a4, a5, a6⟩ := hd b hb hq
      have hmem' := gv_hd ha a1 a2
      have := dj_same (oc_dj ha.1) q3 a1 hl q5 hmem' a3
      obtain ⟨_, rfl⟩ := this
      have hpw := cnt_srt (F := F) (n := n) (ro := ro) (q := hdr (mT A t'))
      have : i' = i := by
        rcases Nat.lt_trichotomy i' i with hlt | he | hgt
        · have := pw_at hpw hlt i1
          rw [a5, i2] at this
          exact absurd this (fun z => bet_asym z z)
        · exact he
        · have := pw_at hpw hgt a4
          rw [a5, i2] at this
          exact absurd this (fun z => bet_asym z z)
      rw [a6, this]
  · rw [if_neg hc]
    refine cntF_nil (fun b hb => ?_)
    cases hq : (decide (gi σ 396 (7527 + b) = nI x) && inT gl (catX (hds (hdO (gT w T (mK A)) X)) 6) b) with
    | false => rfl
    | true =>
      obtain ⟨t, i, a1, a2, a3, a4, a5, a6⟩ := hd b hb hq
      exact absurd (cat_memI.mpr ⟨t, a1, a2, a3⟩) hc
theorem m_dep80 (hM : LMod E) (hM2 : LMo2 E) (hT : T ≤ 6) (hg : GV F n ro gl nr) (ha : AI T nr A) {X : Nat → List Dn} (h0 : gi σ 396 0 = nI n) (hm : Xm X (mT A)) (hx : RX σ F n ro gl X) (h407 : ∀ t, t < 6 → gi σ 407 t = tkO (hdO (gT w T (mK A)) X t)) {x : Nat} (hxn : x < n) (v : Nat) : fx (fun rec a => bX7_depth_80 E 395 396 (nI x) (fun u0 u1 t => rec ((u0, u1), t)) a.1.1 a.1.2 a.2) FU ((nI v, (0 : Int32)), σ) = some ((nI (v + if ro x ∈ ctA w T A then 1 else 0), nI n), σ) := by
  obtain ⟨m0, m1, mz⟩ := id hM
  obtain ⟨n1, nz'⟩ := id hM2
  have hn := hg.1
  have hhc := rx_hc hT hg ha hm hx h407
  rw [← one_at (w := w) (σ := σ) hT hg ha hm hx hxn]
  generalize hp : (fun at' => decide (gi σ 396 (7527 + at') = nI x) && inT gl (catX (hds (hdO (gT w T (mK A)) X)) 6) at') = p
  have hp' : ∀ i, p i = (decide (gi σ 396 (7527 + i) = nI x) && inT gl (catX (hds (hdO (gT w T (mK A)) X)) 6) i) := fun i => by rw [← hp]
  refine for_tr n (fun i => ((nI (v + cntF p i), nI i), σ)) (by show n < 1000000; omega) ?_ ?_ rfl
  · intro i rec hi
    unfold bX7_depth_80
    dsimp only
    have hs : cntF p (i + 1) = cntF p i + if p i = true then 1 else 0 := rfl
    rw [m_many hM hM2, bd_ok, h0, if_neg (nI_ge hi (by omega)), n1.2, show (7527 : Int32) = nI 7527 from rfl, nI_add, ck_n (by omega) (by omega), nI_clamp (by omega), m_isInT hM hM2 hn hhc hi, bd_ok]
    have hsel : (if ¬ gi σ 396 (7527 + i) = nI x then some ((0 : Int32), σ) else if bI (inT gl (catX (hds (hdO (gT w T (mK A)) X)) 6) i) = 0 then some (0, σ) else some (1, σ)) = some (bI (p i), σ) := by
      rw [hp']
      by_cases hq : gi σ 396 (7527 + i) = nI x
      · rw [if_neg (fun z => z hq), decide_eq_true hq, Bool.true_and]
        cases inT gl (catX (hds (hdO (gT w T (mK A)) X)) 6) i <;> rfl
      · rw [if_pos hq, decide_eq_false hq, Bool.false_and]; rfl
    rw [hsel, bd_ok, m_truth, bd_ok, lt_ok, lt_ok, ad1, hs]
    cases p i with
    | false => rw [if_pos (show bI false = 0 from rfl), if_neg (by decide)]; show rec ((nI _ + nI 0, _), σ) = _; rw [nI_add]; rfl
    | true => rw [if_neg (by decide), if_pos rfl]; show rec ((nI _ + nI 1, _), σ) = _; rw [nI_add]; rfl
  · intro rec
    unfold bX7_depth_80
    dsimp only
    rw [m_many hM hM2, bd_ok, h0, if_pos (nI_le (Nat.le_refl _) (by omega))]
end DE
