/-! a whole step of the reference's mill -/
theorem cat_split {X Y : Nat → List Dn} {Hd : Nat → Option Dn} : ∀ {n : Nat}, (∀ t, t < n → X t = (Hd t).toList ++ Y t) → (catX X n).Perm (catX (hds Hd) n ++ catX Y n)
  | 0, _ => List.Perm.refl _
  | n + 1, h => by
    have ih := cat_split (X := X) (Y := Y) (Hd := Hd) (n := n) (fun t ht => h t (by omega))
    show (catX X n ++ X n).Perm ((catX (hds Hd) n ++ hds Hd n) ++ (catX Y n ++ Y n))
    rw [h n (by omega)]
    refine (ih.append_right _).trans ?_
    rw [List.append_assoc, List.append_assoc]
    exact (List.perm_append_comm_assoc (catX Y n) (hds Hd n) (Y n)).append_left _
theorem ps_perm {bk : Bool} {z : Dn} {l : List Dn} : (psX bk z l).Perm (z :: l) := by
  unfold psX
  cases bk
  · exact List.perm_append_singleton z l
  · exact List.Perm.refl _
theorem cat_ps {bk : Bool} {z : Dn} {Y : Nat → List Dn} {to : Nat} : ∀ {n : Nat}, to < n → (catX (fun t => if t = to then psX bk z (Y t) else Y t) n).Perm (z :: catX Y n)
  | 0, h => by omega
  | n + 1, h => by
    show (catX _ n ++ (if n = to then psX bk z (Y n) else Y n)).Perm (z :: (catX Y n ++ Y n))
    by_cases hq : n = to
    · subst hq
      rw [if_pos rfl]
      have : ∀ m, m ≤ n → catX (fun t => if t = n then psX bk z (Y t) else Y t) m = catX Y m := by
        intro m
        induction m with
        | zero => intro _; rfl
        | succ m ih => intro hm; show catX _ m ++ (if m = n then _ else Y m) = _; rw [ih (by omega), if_neg (by omega)]; rfl
      rw [this n (Nat.le_refl _)]
      exact (ps_perm.append_left _).trans List.perm_middle
    · rw [if_neg hq]
      exact (cat_ps (n := n) (by omega)).append_right _
theorem cat_map {f : Dn → Dn} {Y : Nat → List Dn} : ∀ n, catX (fun t => (Y t).map f) n = (catX Y n).map f
  | 0 => rfl
  | n + 1 => by show catX _ n ++ _ = (catX Y n ++ Y n).map f; rw [cat_map n, List.map_append]
theorem xt_map {σ : Sg} {f : Dn → Dn} {Y : Nat → List Dn} (hf : ∀ z, (f z).1 = z.1) (h : XT σ Y) : XT σ (fun t => (Y t).map f) := fun t ht => by
  obtain ⟨h1, h2, h3⟩ := h t ht
  dsimp only
  rw [List.length_map]
  refine ⟨h1, h2, fun k hk => ?_⟩
  rw [h3 k hk, List.getD_eq_getElem?_getD, List.getD_eq_getElem?_getD, List.getElem?_map, List.getElem?_eq_getElem hk]
  show nI _ = nI (f _).1
  rw [hf]; rfl
section MS2
variable {E : En} {σ : Sg} {F : Nat → Nat} {n nr w T : Nat} {ro gl : Nat → Nat} {bk : Bool} {A : Mi}
theorem ai_stp0 (h : AI T nr A) (hok : oks w T (T / 2) (mK A) = true) : AI T nr (stp0 w T bk gl A) := by
  obtain ⟨o1, o2, o3, o4, o5⟩ := oks_un hok
  obtain ⟨h1, h2, h3, h4⟩ := h
  have hg : gvf w (T / 2) (mK A) (kto (mK A)) = false := gv_no o3
  have hl : ∀ t, t < T → gvf w (T / 2) (mK A) t = true → 0 < (mT A t).length := fun t ht q => by rw [← h2 t ht]; exact (gv_fl q).2
  refine ⟨oc_step h1 o2 hg hl, fun t ht => ?_, fun t ht => ?_, fun t r hr hz => ?_⟩
  · show (skn w T (T / 2) (mK A)).1.1.getD t 0 = (tpn T (kto (mK A)) bk (gvf w (T / 2) (mK A)) _ (mT A) t).length
    rw [skn_1, skc_at ht]
    unfold tpn
    have := h2 t ht
    by_cases q1 : t = kto (mK A)
    · rw [if_pos q1, if_pos q1, psh_len, this]
    · rw [if_neg q1, if_neg q1]
      by_cases q2 : gvf w (T / 2) (mK A) t = true
      · rw [if_pos q2, if_pos ⟨ht, q2⟩, List.length_tail, this]
      · rw [if_neg q2, if_neg (fun q => q2 q.2), this]
  · show tpn T (kto (mK A)) bk (gvf w (T / 2) (mK A)) _ (mT A) t = []
    unfold tpn
    rw [if_neg (by omega), if_neg (by omega)]; exact h3 t ht
  · have hr : r ∈ tpn T (kto (mK A)) bk (gvf w (T / 2) (mK A)) (catF (gvf w (T / 2) (mK A)) (mT A) T, bk && (ldD (gvf w (T / 2) (mK A)) (mT A) T == some false)) (mT A) t := hr
    unfold tpn at hr
    by_cases q1 : t = kto (mK A)
    · rw [if_pos q1] at hr
      rcases psh_mem hr with rfl | hr
      · dsimp only at hz ⊢
        rw [ld_none hz]; simp
      · exact h4 t r hr hz
    · rw [if_neg q1] at hr
      by_cases q2 : t < T ∧ gvf w (T / 2) (mK A) t = true
      · rw [if_pos q2] at hr; exact h4 t r (List.mem_of_mem_tail hr) hz
      · rw [if_neg q2] at hr; exact h4 t r hr hz
theorem cat_memI {g : Nat → Bool} {tp : Nat → List Rn} {j : Nat} : ∀ {m : Nat}, (j ∈ catF g tp m ↔ ∃ t, t < m ∧ g t = true ∧ j ∈ (hdr (tp t)).1)
  | 0 => ⟨fun h => absurd h List.not_mem_nil, fun ⟨t, h, _⟩ => absurd h (Nat.not_lt_zero t)⟩
  | m + 1 => by
    show j ∈ catF g tp m ++ (if g m then (hdr (tp m)).1 else []) ↔ _
    rw [List.mem_append, cat_memI]
    constructor
    · rintro (⟨t, h1, h2⟩ | h)
      · exact ⟨t, by omega, h2⟩
      · by_cases hg : g m = true
        · rw [if_pos hg] at h; exact ⟨m, by omega, hg, h⟩
        · rw [if_neg hg] at h; cases h
    · rintro ⟨t, h1, h2, h3⟩
      by_cases hq : t = m
      · subst hq; right; rw [if_pos h2]; exact h3
      · exact Or.inl ⟨t, by omega, h2, h3⟩
theorem cat_nd {g : Nat → Bool} {tp : Nat → List Rn} (h : Oc T nr tp) (hl : ∀ t, t < T → g t = true → 0 < (tp t).length) : (catF g tp T).Nodup := by
  rw [List.nodup_iff_count]
  intro j
  rw [cat_cnt]
  have h1 := h j
  have : sumF (fun t => if g t then (hdr (tp t)).1.count j else 0) T ≤ sumF (fun t => occL j (tp t)) T := sum_le (fun t ht => by
    by_cases hg : g t = true
    · rw [if_pos hg]; have := occ_hd (j := j) (hl t ht hg); omega
    · rw [if_neg hg]; exact Nat.zero_le _)
  split at h1 <;> omega
theorem cnts_nd {g : Nat → Bool} {X : Nat → List Dn} {tp : Nat → List Rn} (hr : ∀ t, g t = true → ((X t).getD 0 d0).2.2 = hdr (tp t)) : ∀ {m : Nat}, (catF g tp m).Nodup → (catX (cnts (fun z => cnt F n ro z.2.2) (hdO g X)) m).Nodup ∧ ∀ x, x ∈ catX (cnts (fun z => cnt F n ro z.2.2) (hdO g X)) m ↔ x < n ∧ ro x ∈ catF g tp m
  | 0, _ => ⟨List.nodup_nil, fun x => ⟨fun h => absurd h List.not_mem_nil, fun h => absurd h.2 List.not_mem_nil⟩⟩
  | m + 1, h => by
    have h : (catF g tp m ++ (if g m then (hdr (tp m)).1 else [])).Nodup := h
    obtain ⟨n1, n2, n3⟩ := List.nodup_append.mp h
    obtain ⟨i1', i2'⟩ := cnts_nd (X := X) hr n1
    have ec : cnts (fun z => cnt F n ro z.2.2) (hdO g X) m = if g m then cnt F n ro (hdr (tp m)) else [] := by
      unfold cnts hdO
      by_cases hg : g m = true
      · rw [if_pos hg, if_pos hg, ← hr m hg]
      · rw [if_neg hg, if_neg hg]
    have em : ∀ x, x ∈ (if g m then cnt F n ro (hdr (tp m)) else []) ↔ x < n ∧ ro x ∈ (if g m then (hdr (tp m)).1 else []) := fun x => by
      by_cases hg : g m = true
      · rw [if_pos hg, if_pos hg]; exact cnt_mem
      · rw [if_neg hg, if_neg hg]; exact ⟨fun h => absurd h List.not_mem_nil, fun h => absurd h.2 List.not_mem_nil⟩
    show (catX _ m ++ cnts _ _ m).Nodup ∧ ∀ x, x ∈ catX _ m ++ cnts _ _ m ↔ x < n ∧ ro x ∈ catF g tp m ++ (if g m then (hdr (tp m)).1 else [])
    rw [ec]
    refine ⟨List.nodup_append.mpr ⟨i1', ?_, fun a ha b hb e => ?_⟩, fun x => ?_⟩
    · by_cases hg : g m = true
      · rw [if_pos hg]; exact bet_nodup cnt_srt
      · rw [if_neg hg]; exact List.nodup_nil
    · subst e
      exact n3 _ ((i2' a).mp ha).2 _ ((em a).mp hb).2 rfl
    · rw [List.mem_append, List.mem_append, i2' x, em x]
      constructor
      · rintro (⟨q1, q2⟩ | ⟨q1, q2⟩)
        · exact ⟨q1, Or.inl q2⟩
        · exact ⟨q1, Or.inr q2⟩
      · rintro ⟨q1, q2 | q2⟩
        · exact Or.inl ⟨q1, q2⟩
        · exact Or.inr ⟨q1, q2⟩
set_option maxHeartbeats 1600000 in
theorem m_step (hM : LMod E) (hM2 : LMo2 E) (hg : GV F n ro gl nr) (hT : T ≤ 6) (hT3 : 3 ≤ T) (hw : w ≤ 2) (ha : AI T nr A) (hok : oks w T (T / 2) (mK A) = true) (h : RMm σ F n ro gl w T bk A) :
    ∃ s', fX7_steps E 395 σ = some (nI (szl gl (catF (gvf w (T / 2) (mK A)) (mT A) T)), s') ∧ RMm s' F n ro gl w T bk (stp w T bk gl A) ∧ gi s' 396 7 = (if lef T (mK (stp w T bk gl A)) = 1 then 3 else gi σ 396 7) ∧ ∀ x k, esQ x k → gi s' x k = gi σ x k := by
  obtain ⟨m0, m1, mz⟩ := id hM
  obtain ⟨n1, nz⟩ := id hM2
  obtain ⟨hn, hF, hgl⟩ := id hg
  obtain ⟨o1, o2, o3, o4, o5⟩ := oks_un hok
  obtain ⟨hs, ⟨X, hm, hx⟩, hk, t9, t10, t11, t12⟩ := id h
  obtain ⟨hx1, hx2, hx3⟩ := id hx
  obtain ⟨s1, e1, p407, f1⟩ := m_laysTaken hM hM2 hg hT hT3 hw ha hok hs hm hx hk
  have hx1' : RX s1 F n ro gl X := ⟨xt_fr hx1 (fun k _ => f1 _ _ (by omega)), fun z hz => dd_fr (hx2 z hz) (f1 _ _ (by omega)) (f1 _ _ (by omega)) (f1 _ _ (by omega)) (fun i _ => f1 _ _ (by omega)), hx3⟩
  have hs1 : SR s1 F n w T bk := sr_fr hs hn (fun k _ => f1 _ _ (by omega))
  obtain ⟨⟨⟨sz, into, y⟩, s2⟩, e2, q1, q2, q3, q4, f2⟩ := m_takeAll (ld := ldD (gvf w (T / 2) (mK A)) (mT A) T) hM hM2 hg hT ha hs1 hm hx1' p407 (tu := mTu A) (by rw [f1 _ _ (by omega)]; exact t12) (fun q t ht hgt => by
    unfold gT at hgt
    simp only [Bool.and_eq_true, decide_eq_true_eq] at hgt
    have hln : ldF (gvf w (T / 2) (mK A)) (mT A) T = none := by
      unfold ldD at q
      cases hq : ldF (gvf w (T / 2) (mK A)) (mT A) T with
      | none => rfl
      | some e => rw [hq] at q; cases q
    have := fstF_none hln t hgt.1
    rw [hgt.2] at this
    simpa using this)
  dsimp only at q1 q2 q3 q4 f2
  rw [catF_6 hT] at q1
  rw [sumF_6 hT] at q3
  generalize hldd : ldD (gvf w (T / 2) (mK A)) (mT A) T = ld at *
  unfold fX7_steps
  rw [tk_ok m0, e1, bd_ok, e2, bd_ok]
  dsimp only
  -- the first that gives
  obtain ⟨t0, ht0, hgt0⟩ := cntF_pos o1
  obtain ⟨e, hfe, hle⟩ := fstF_ex (p := gT w T (mK A)) (n := 6) (j := t0) (by omega) (by unfold gT; rw [decide_eq_true ht0, hgt0]; rfl)
  obtain ⟨he1, he2, he3⟩ := fstF_some hfe
  have hinto := q2 e hfe
  subst q1; subst hinto
  have hgr : ∀ t, gT w T (mK A) t = true → t < T ∧ ∃ l, X t = (X t).getD 0 d0 :: l ∧ ((X t).getD 0 d0).2.2 = hdr (mT A t) ∧ 0 < (mT A t).length := fun t q => hd_run hm ha q
  have hXT : ∀ t, T ≤ t → X t = [] := fun t ht => xm_nil hm (ha.2.2.1 t ht)
  have hgo : ∀ t, T ≤ t → gT w T (mK A) t = false := fun t ht => by unfold gT; rw [decide_eq_false (by omega)]; rfl
  have hge : ∀ t, t < T → gT w T (mK A) t = gvf w (T / 2) (mK A) t := fun t ht => by unfold gT; rw [decide_eq_true ht, Bool.true_and]
  have hlN : ∀ t, T ≤ t → lft (gT w T (mK A)) X t = [] := fun t ht => by unfold lft; rw [hgo t ht, if_neg (by decide)]; exact hXT t ht
  have hsplit := cat_split (X := X) (Y := lft (gT w T (mK A)) X) (Hd := hdO (gT w T (mK A)) X) (n := 6) (fun t ht => by
    unfold hdO lft
    by_cases hgt : gT w T (mK A) t = true
    · obtain ⟨_, l, hX, _, _⟩ := hgr t hgt
      rw [if_pos hgt, if_pos hgt, Option.toList_some]
      conv => lhs; rw [hX]
      conv => rhs; rw [hX]
      rfl
    · rw [if_neg hgt, if_neg hgt]; rfl)
  have eY6 : catX (lft (gT w T (mK A)) X) 6 = catX (lft (gT w T (mK A)) X) T := catX_ext hT (fun t h1 _ => hlN t h1)
  have hpw := hx3.perm hsplit (fun {x y} q => apt_symm q)
  rw [eY6] at hpw
  have hnd : (catF (gT w T (mK A)) (mT A) 6).Nodup := by
    rw [catF_6 hT]
    exact cat_nd ha.1 (fun t ht q => by have := (gv_fl q).2; rw [ha.2.1 t ht] at this; exact this)
  obtain ⟨cn1, cn2⟩ := cnts_nd (F := F) (n := n) (ro := ro) (g := gT w T (mK A)) (X := X) (tp := mT A) (fun t q => (hgr t q).2.choose_spec.2.1) hnd
  rw [catF_6 hT] at cn2
  generalize hgd : gT w T (mK A) = g at *
  -- membership in the old tapes
  have hHm : ∀ t z, t < 6 → hdO g X t = some z → z ∈ catX X 6 ∧ z.2.2 ∈ mT A t ∧ t < T := fun t z ht hq => by
    unfold hdO at hq
    by_cases hgt : g t = true
    · rw [if_pos hgt] at hq
      injection hq with hq
      obtain ⟨w1, l, hX, w2, w3⟩ := hgr t hgt
      rw [hq] at hX w2
      exact ⟨catX_mem.mpr ⟨t, ht, by rw [hX]; simp⟩, by rw [w2]; exact hdr_mem w3, w1⟩
    · rw [if_neg hgt] at hq; cases hq
  have hYm : ∀ z, z ∈ catX (lft g X) T → z ∈ catX X 6 := fun z hz => by
    obtain ⟨t, ht, hzt⟩ := catX_mem.mp hz
    refine catX_mem.mpr ⟨t, by omega, ?_⟩
    unfold lft at hzt
    split at hzt
    · exact List.mem_of_mem_tail hzt
    · exact hzt
  have f2s : ∀ x k, ¬ (x = 396 ∧ (k = 12 ∨ (20 ≤ k ∧ k < 26) ∨ (3327 ≤ k ∧ k < 7527))) → x ≠ 407 → gi s2 x k = gi σ x k := fun x k z1 z2 => by rw [f2 x k z1, f1 x k z2]
  have hzlen : ∀ t z, t < 6 → hdO g X t = some z → (cnt F n ro z.2.2).length = zz gl z := fun t z ht hq => by
    obtain ⟨_, h2, h3⟩ := hHm t z ht hq
    exact cnt_len hgl (oc_nd ha.1 h3 h2) (fun j hj => oc_lt ha.1 h3 h2 hj)
  have hHC : HC' s2 n gl (fun z => cnt F n ro z.2.2) (hdO g X) := by
    refine ⟨fun t ht => by rw [f2 _ _ (by omega)]; exact p407 t ht, fun t z ht hq => ?_⟩
    obtain ⟨z1, z2, z3, z4, z5, z6⟩ := hx2 z (hHm t z ht hq).1
    exact ⟨z1, by rw [f2s _ _ (by omega) (by omega)]; exact z2, by rw [f2s _ _ (by omega) (by omega)]; exact z3, z5, hzlen t z ht hq, fun i hi => by rw [f2s _ _ (by omega) (by omega)]; exact z6 i hi⟩
  have hYC : YC s2 n T (lft g X) := fun z hz => by
    obtain ⟨z1, z2, z3, z4, z5, z6⟩ := hx2 z (hYm z hz)
    exact ⟨z1, by rw [f2s _ _ (by omega) (by omega)]; exact z2, by omega⟩
  obtain ⟨s3, e3, gl1, gl2, gl3, gl4, f3, gl5⟩ := m_gathers hM hM2 hn hT (by rw [f2s _ _ (by omega) (by omega)]; exact hs.1) (by rw [f2s _ _ (by omega) (by omega)]; exact hs.2.1) hHC q4 hYC hpw
  obtain ⟨hpH, hpY, hpX⟩ := List.pairwise_append.mp hpw
  -- the number of the run that is made
  obtain ⟨_, le, hXe, hre, hpe⟩ := hgr e he2
  generalize hid : ((X e).getD 0 d0).1 = id' at *
  have hoe : hdO g X e = some ((X e).getD 0 d0) := by unfold hdO; rw [if_pos he2]
  have hid7 : id' < 700 := by rw [← hid]; exact (hx2 _ (hHm e _ he1 hoe).1).1
  have hidY : ∀ z, z ∈ catX (lft g X) T → z.1 ≠ id' := fun z hz q => by
    have := (hpX ((X e).getD 0 d0) (catX_mem.mpr ⟨e, he1, by unfold hds; rw [hoe]; simp⟩) z hz).1
    rw [hid] at this; exact this q.symm
  generalize hH : catX (hds (hdO g X)) 6 = H at *
  generalize hCL : catX (cnts (fun z => cnt F n ro z.2.2) (hdO g X)) 6 = CL at *
  generalize hc : catF (gvf w (T / 2) (mK A)) (mT A) T = c at *
  have hszc : CL.length = szl gl c := by
    have hcn : (cnt F n ro (c, true)).length = szl gl c := cnt_len (q := (c, true)) hgl (by show c.Nodup; rw [← hc, ← catF_6 (w := w) (s := mK A) hT, hgd]; exact hnd) (fun j hj => by
      rw [← hc] at hj
      obtain ⟨t, h1, h2, h3⟩ := cat_memI.mp hj
      exact oc_lt ha.1 h1 (hdr_mem (by have := (gv_fl h2).2; rw [ha.2.1 t h1] at this; exact this)) h3)
    rw [← hcn]
    have : CL.Perm (cnt F n ro (c, true)) := (List.perm_ext_iff_of_nodup cn1 (bet_nodup cnt_srt)).mpr (fun x => by rw [cn2 x]; exact (cnt_mem (q := (c, true))).symm)
    exact this.length_eq
  have hc0 : szl gl c = 0 ↔ c = [] := szl_zero hgl (fun j hj => by
      rw [← hc] at hj
      obtain ⟨t, h1, h2, h3⟩ := cat_memI.mp hj
      exact oc_lt ha.1 h1 (hdr_mem (by have := (gv_fl h2).2; rw [ha.2.1 t h1] at this; exact this)) h3)
  generalize hfl : (bk && (ld == some false)) = fl
  have hrf : rsg bk ld = !fl := by
    rw [← hfl]
    cases ld with
    | none => cases bk <;> rfl
    | some d => cases bk <;> cases d <;> rfl
  have hfc : c = [] → fl = false := fun q => by
    rw [← hfl, ← hldd]
    rw [← hc] at q
    rw [ld_none q]; simp
  have hszb : szl gl c ≤ 300 := by omega
  rw [e3, bd_ok, dr_ok m1 n1.1, n1.2, show (1227 : Int32) = nI 1227 from rfl, nI_add, ck_n (by omega) (by omega), nI_clamp (by omega), ss_ok, show (1927 : Int32) = nI 1927 from rfl, nI_add, ck_n (by omega) (by omega), nI_clamp (by omega), ss_ok]
  generalize hs4 : si (si s3 396 (1227 + id') (nI (nu gl H n))) 396 (1927 + id') (nI (szl gl c)) = s4
  have hdn : (if ¬ bI (rsg bk ld) = 0 then (some ((0 : Int32), s4)) else (if nI (szl gl c) ≤ 0 then (some ((0 : Int32), s4)) else (some ((1 : Int32), s4)))) = some (bI fl, s4) := by
    rw [hrf]
    cases hfl' : fl with
    | false => rw [if_pos (by decide)]; rfl
    | true =>
      have hcn : c ≠ [] := fun q => by have := hfc q; rw [hfl'] at this; cases this
      have h0 : szl gl c ≠ 0 := fun q => hcn (hc0.mp q)
      rw [if_neg (by simp; rfl), if_neg (nI_nle (by omega) (by omega))]; rfl
  rw [hdn, bd_ok, m_truth, bd_ok, show (2627 : Int32) = nI 2627 from rfl, nI_add, ck_n (by omega) (by omega), nI_clamp (by omega), ss_ok]
  have hbb : (if bI fl = 0 then (0 : Int32) else 1) = bI fl := by cases fl <;> rfl
  rw [hbb]
  generalize hs5 : si s4 396 (2627 + id') (bI fl) = s5
  have f5 : ∀ x k, ¬ (x = 396 ∧ (k = 1227 + id' ∨ k = 1927 + id' ∨ k = 2627 + id')) → gi s5 x k = gi s3 x k := fun x k q => by rw [← hs5, ← hs4, gs_ne (by omega), gs_ne (by omega), gs_ne (by omega)]
  have g51 : gi s5 396 (1227 + id') = nI (nu gl H n) := by rw [← hs5, ← hs4, gs_ne (by omega), gs_ne (by omega), gs_eq]
  have g52 : gi s5 396 (1927 + id') = nI (szl gl c) := by rw [← hs5, ← hs4, gs_ne (by omega), gs_eq]
  have g53 : gi s5 396 (2627 + id') = bI fl := by rw [← hs5, gs_eq]
  have f5s : ∀ x k, ¬ (x = 396 ∧ (k = 12 ∨ (20 ≤ k ∧ k < 26) ∨ 1227 ≤ k)) → x ≠ 407 → x ≠ 408 → x ≠ 409 → gi s5 x k = gi σ x k := fun x k z1 z2 z3 z4 => by rw [f5 _ _ (by omega), f3 _ _ (by omega) (by omega) z3 z4, f2s _ _ (by omega) z2]
  obtain ⟨s6, e6, ⟨L', l1, l2, l3⟩, f6⟩ := m_sorts (σ := s5) (first := nu gl H n) (rising := rsg bk ld) (L := CL) hM hM2 hn (fun i hi => by rw [f5s _ _ (by omega) (by omega) (by omega) (by omega)]; exact hs.2.2.2.2 i hi) hF (fun x hx => ((cn2 x).mp hx).1) cn1 (by omega) (fun i hi => by rw [f5 _ _ (by omega)]; exact gl4 i hi)
  rw [hszc] at e6 l3 f6
  rw [e6, bv_ok]
  have f6s : ∀ x k, ¬ (x = 396 ∧ (k = 12 ∨ (20 ≤ k ∧ k < 26) ∨ 1227 ≤ k)) → x ≠ 407 → x ≠ 408 → x ≠ 409 → gi s6 x k = gi σ x k := fun x k z1 z2 z3 z4 => by rw [f6 _ _ (by omega), f5s _ _ z1 z2 z3 z4]
  rw [m_isBack hM hM2 (bk := bk) (by rw [f6s _ _ (by omega) (by omega) (by omega) (by omega)]; exact hs.2.2.2.1), bd_ok]
  -- the tapes
  have hxY : XT s6 (fun t => (lft g X t).map (fun z => ((z.1, nu gl H z.2.1, z.2.2) : Dn))) := xt_map (fun _ => rfl) (xt_fr q4 (fun k hk => by rw [f6 _ _ (by omega), f5 _ _ (by omega), f3 _ _ (by omega) (by omega) (by omega) (by omega)]))
  have h13 : gi s6 396 13 = nI (kto (mK A)) := by rw [f6s _ _ (by omega) (by omega) (by omega) (by omega)]; exact hk.2.2.1
  have hgto : g (kto (mK A)) = false := by rw [hge _ o2]; exact gv_no o3
  have hlto : ((fun t => (lft g X t).map (fun z => ((z.1, nu gl H z.2.1, z.2.2) : Dn))) (kto (mK A))).length < 256 := by
    dsimp only
    rw [List.length_map]
    unfold lft
    rw [hgto, if_neg (by decide), xm_len hm, ← ha.2.1 _ o2]; exact o4
  generalize hYd : (fun t => (lft g X t).map (fun z => ((z.1, nu gl H z.2.1, z.2.2) : Dn))) = Y' at *
  obtain ⟨s7, e7, x7, f7⟩ : ∃ s7, (if bI bk = 0 then (ck (13 : Int32) 7827 (bv (fX7_comesLast E 395 (gi s6 396 (13 : Int32).toNatClampNeg) (nI id') s6) (fun s75 => some ((), s75)))) else (ck (13 : Int32) 7827 (bv (fX7_comesFirst E 395 (gi s6 396 (13 : Int32).toNatClampNeg) (nI id') s6) (fun s78 => some ((), s78))))) = some ((), s7) ∧ XT s7 (fun t => if t = kto (mK A) then psX bk (id', nu gl H n, c, fl) (Y' t) else Y' t) ∧ ∀ x k, ¬ (x = 396 ∧ ((20 ≤ k ∧ k < 26) ∨ (3327 ≤ k ∧ k < 7527))) → gi s7 x k = gi s6 x k := by
    rw [show (13 : Int32) = nI 13 from rfl, ck_n (by omega) (by omega), ck_n (by omega) (by omega), nI_clamp (by omega), h13]
    have hcg : ∀ s7 : Sg, ∀ l, XT s7 (upX Y' (kto (mK A)) l) → l = psX bk ((id', nu gl H n, c, fl) : Dn) (Y' (kto (mK A))) → XT s7 (fun t => if t = kto (mK A) then psX bk (id', nu gl H n, c, fl) (Y' t) else Y' t) := by
      intro s7 l h1 h2 t ht
      have := h1 t ht
      unfold upX at this
      dsimp only
      by_cases hq : t = kto (mK A)
      · rw [if_pos hq] at this ⊢
        rw [hq] at this ⊢
        rw [← h2]; exact this
      · rw [if_neg hq] at this ⊢; exact this
    cases hbk : bk with
    | false =>
      obtain ⟨s7, e7, x7, f7⟩ := m_last hM hM2 hxY (t := kto (mK A)) (by omega) (id', nu gl H n, c, fl) hlto
      rw [if_pos (by rfl), e7, bv_ok]
      rw [hbk] at hcg
      exact ⟨s7, rfl, hcg s7 _ x7 rfl, fun x k q => f7 x k (by omega)⟩
    | true =>
      obtain ⟨s7, e7, x7, f7⟩ := m_first hM hM2 hxY (t := kto (mK A)) (by omega) (id', nu gl H n, c, fl) hlto
      rw [if_neg (by decide), e7, bv_ok]
      rw [hbk] at hcg
      exact ⟨s7, rfl, hcg s7 _ x7 rfl, fun x k q => f7 x k (by omega)⟩
  rw [e7, bd_ok]
  have f7s : ∀ x k, ¬ (x = 396 ∧ (k = 12 ∨ (20 ≤ k ∧ k < 26) ∨ 1227 ≤ k)) → x ≠ 407 → x ≠ 408 → x ≠ 409 → gi s7 x k = gi σ x k := fun x k z1 z2 z3 z4 => by rw [f7 _ _ (by omega), f6s _ _ z1 z2 z3 z4]
  rw [show (9 : Int32) = nI 9 from rfl, ck_n (by omega) (by omega), ck_n (by omega) (by omega), nI_clamp (by omega), f7s 396 9 (by omega) (by omega) (by omega) (by omega), t9, nI_add, ss_ok, show (10 : Int32) = nI 10 from rfl, ck_n (by omega) (by omega), ck_n (by omega) (by omega), nI_clamp (by omega), gs_ne (by omega), f7s 396 10 (by omega) (by omega) (by omega) (by omega), t10, ad1, ss_ok]
  generalize hs8 : si (si s7 396 9 (nI (mMo A + szl gl c))) 396 10 (nI (mSt A + 1)) = s8
  have f8 : ∀ x k, ¬ (x = 396 ∧ (k = 9 ∨ k = 10)) → gi s8 x k = gi s7 x k := fun x k q => by rw [← hs8, gs_ne (by omega), gs_ne (by omega)]
  have g89 : gi s8 396 9 = nI (mMo A + szl gl c) := by rw [← hs8, gs_ne (by omega), gs_eq]
  have g80 : gi s8 396 10 = nI (mSt A + 1) := by rw [← hs8, gs_eq]
  have f8s : ∀ x k, ¬ (x = 396 ∧ (k = 9 ∨ k = 10 ∨ k = 12 ∨ (20 ≤ k ∧ k < 26) ∨ 1227 ≤ k)) → x ≠ 407 → x ≠ 408 → x ≠ 409 → gi s8 x k = gi σ x k := fun x k z1 z2 z3 z4 => by rw [f8 _ _ (by omega), f7s _ _ (by omega) z2 z3 z4]
  have x8 : XT s8 (fun t => if t = kto (mK A) then psX bk (id', nu gl H n, c, fl) (Y' t) else Y' t) := xt_fr x7 (fun k hk => f8 _ _ (by omega))
  -- what is on the tapes now
  have hXm : Xm (fun t => if t = kto (mK A) then psX bk (id', nu gl H n, c, fl) (Y' t) else Y' t) (mT (stp0 w T bk gl A)) := by
    intro t
    have eY : (Y' t).map (fun z => z.2.2) = if t < T ∧ gvf w (T / 2) (mK A) t = true then (mT A t).tail else mT A t := by
      rw [← hYd]
      dsimp only
      rw [List.map_map]
      show (lft g X t).map (fun z => z.2.2) = _
      unfold lft
      by_cases hgt : g t = true
      · have htT := (hgr t hgt).1
        rw [if_pos hgt, if_pos ⟨htT, by rw [← hge t htT]; exact hgt⟩, ← hm t, List.map_tail]
      · rw [if_neg hgt, if_neg (fun q => hgt (by rw [hge t q.1]; exact q.2)), hm t]
    have eT : mT (stp0 w T bk gl A) t = if t = kto (mK A) then psh bk (c, fl) (mT A t) else if t < T ∧ gvf w (T / 2) (mK A) t = true then (mT A t).tail else mT A t := by
      rw [← hfl, ← hldd, ← hc]; rfl
    rw [eT]
    dsimp only
    by_cases hq : t = kto (mK A)
    · rw [if_pos hq, if_pos hq]
      have hnt : ¬ (t < T ∧ gvf w (T / 2) (mK A) t = true) := fun z => by rw [hq, gv_no o3] at z; exact absurd z.2 (by decide)
      rw [if_neg hnt] at eY
      rw [← eY]
      unfold psX psh
      cases bk
      · simp
      · simp
    · rw [if_neg hq, if_neg hq]; exact eY
  have hai := ai_stp0 (bk := bk) (gl := gl) ha hok
  have hCT : CTm s8 T (skc w T (T / 2) (mK A), (mK A).2) := fun t ht => by
    obtain ⟨c1, c2, _⟩ := x8 t (by omega)
    have h1 := xm_len hXm t
    have h2 := hai.2.1 t ht
    have h3 : kc (mK (stp0 w T bk gl A)) t = (skc w T (T / 2) (mK A)).getD t 0 := by
      show (skn w T (T / 2) (mK A)).1.1.getD t 0 = _
      rw [skn_1]
    have h4 : kc (skc w T (T / 2) (mK A), (mK A).2) t = (skc w T (T / 2) (mK A)).getD t 0 := rfl
    rw [h4, ← h3, h2, ← h1]
    exact ⟨c1, c2⟩
  have h84 : ∀ t, t < 6 → gi s8 407 t = gi s1 407 t := fun t ht => by rw [f8 _ _ (by omega), f7 _ _ (by omega), f6 _ _ (by omega), f5 _ _ (by omega), f3 _ _ (by omega) (by omega) (by omega) (by omega), f2 _ _ (by omega)]
  obtain ⟨s9, e9, k9, g9, f9⟩ := m_goesOn hM hM2 (mk_fr hk (fun k hk => f8s _ _ (by omega) (by omega) (by omega) (by omega))) hCT hT hT3 hw o2 o3 (fun t ht => by
    rw [h84 t ht, p407 t ht]
    have hgg : (decide (t < T) && gvf w (T / 2) (mK A) t) = g t := by rw [← hgd]; rfl
    rw [hgg]
    unfold hdO
    by_cases hgt : g t = true
    · rw [if_pos hgt, hgt]
      obtain ⟨_, l, hX, _, _⟩ := hgr t hgt
      have := (hx2 ((X t).getD 0 d0) (catX_mem.mpr ⟨t, ht, by rw [hX]; simp⟩)).1
      exact ⟨fun q => absurd q (nI_nm1 (by omega)), fun q => by cases q⟩
    · rw [if_neg hgt]
      exact ⟨fun _ => by simpa using hgt, fun _ => rfl⟩) (ph := mPh A) (by rw [f8s _ _ (by omega) (by omega) (by omega) (by omega)]; exact t11)
  rw [e9, bv_ok]
  have hRM : RMm s9 F n ro gl w T bk (stp0 w T bk gl A) := by
    have f9s : ∀ k, ¬ (k = 11 ∨ k = 13 ∨ (15 ≤ k ∧ k ≤ 17)) → gi s9 396 k = gi s8 396 k := fun k q => f9 _ _ (by omega)
    have hst : mMo (stp0 w T bk gl A) = mMo A + szl gl c ∧ mSt (stp0 w T bk gl A) = mSt A + 1 ∧ mPh (stp0 w T bk gl A) = mPh A + (if (skn w T (T / 2) (mK A)).2 then 1 else 0) ∧ mTu (stp0 w T bk gl A) = mTu A + sumF (tuF gl (gvf w (T / 2) (mK A)) (mT A) (bk && (ld == some true))) T := by
      rw [← hldd, ← hc]; exact ⟨rfl, rfl, rfl, rfl⟩
    refine ⟨sr_fr hs hn (fun k hk => by rw [f9s _ (by omega), f8s _ _ (by omega) (by omega) (by omega) (by omega)]), ⟨_, hXm, xt_fr x8 (fun k hk => f9s _ (by omega)), fun z hz => ?_, ?_⟩, k9, ?_, ?_, ?_, ?_⟩
    · -- data of each run
      have fr : ∀ k, 1227 ≤ k → ¬ (3327 ≤ k ∧ k < 7527) → gi s9 396 k = gi s6 396 k := fun k k1 k2 => by rw [f9s _ (by omega), f8 _ _ (by omega), f7 _ _ (by omega)]
      have old : ∀ z, z ∈ catX Y' T → DD s9 F n ro gl z := by
        intro z hz
        rw [← hYd, cat_map] at hz
        obtain ⟨z', hz', rfl⟩ := List.mem_map.mp hz
        obtain ⟨z1, z2, z3, z4, z5, z6⟩ := hx2 z' (hYm z' hz')
        have hne := hidY z' hz'
        have hno : ∀ i, i < zz gl z' → inT gl H (z'.2.1 + i) = false := fun i hi => by
          cases hq : inT gl H (z'.2.1 + i) with
          | false => rfl
          | true =>
            unfold inT at hq
            obtain ⟨y', hy', hyh⟩ := List.any_eq_true.mp hq
            unfold hit at hyh
            simp only [decide_eq_true_eq] at hyh
            have := (hpX y' hy' z' hz').2
            omega
        have hrun := nu_run (f := z'.2.1) hno
        have hlef : nu gl H z'.2.1 + zz gl z' ≤ nu gl H n := by rw [← hrun _ (Nat.le_refl _)]; exact nu_mono z5
        refine ⟨z1, ?_, ?_, ?_, by show nu gl H z'.2.1 + zz gl z' ≤ n; omega, fun i hi => ?_⟩
        · show gi s9 396 (1227 + z'.1) = _
          rw [fr _ (by omega) (by omega), f6 _ _ (by omega), f5 _ _ (by omega)]; exact gl2 z' hz'
        · show gi s9 396 (1927 + z'.1) = _
          rw [fr _ (by omega) (by omega), f6 _ _ (by omega), f5 _ _ (by omega), f3 _ _ (by omega) (by omega) (by omega) (by omega), f2s _ _ (by omega) (by omega)]; exact z3
        · show gi s9 396 (2627 + z'.1) = _
          rw [fr _ (by omega) (by omega), f6 _ _ (by omega), f5 _ _ (by omega), f3 _ _ (by omega) (by omega) (by omega) (by omega), f2s _ _ (by omega) (by omega)]; exact z4
        · show gi s9 396 (7527 + nu gl H z'.2.1 + i) = _
          have hi : i < zz gl z' := hi
          have hlt := nu_inj (gl := gl) (H := H) (hno i hi) (show z'.2.1 + i < n by omega)
          have hri := hrun i (by omega)
          rw [fr _ (by omega) (by omega), f6 _ _ (by omega), f5 _ _ (by omega), show 7527 + nu gl H z'.2.1 + i = 7527 + nu gl H (z'.2.1 + i) by omega, gl3 _ (by omega) (hno i hi), f2s _ _ (by omega) (by omega), show 7527 + (z'.2.1 + i) = 7527 + z'.2.1 + i by omega]; exact z6 i hi
      have hz' : z = (id', nu gl H n, c, fl) ∨ z ∈ catX Y' T := by
        have := (cat_ps (bk := bk) (z := ((id', nu gl H n, c, fl) : Dn)) (Y := Y') (to := kto (mK A)) (n := 6) (by omega)).mem_iff.mp hz
        rcases List.mem_cons.mp this with q | q
        · exact Or.inl q
        · right
          rw [catX_ext hT (fun t h1 _ => by rw [← hYd]; dsimp only; rw [hlN t h1]; rfl)] at q
          exact q
      rcases hz' with rfl | hz'
      · refine ⟨hid7, ?_, ?_, ?_, by show nu gl H n + szl gl c ≤ n; omega, fun i hi => ?_⟩
        · rw [fr _ (by omega) (by omega), f6 _ _ (by omega)]; exact g51
        · rw [fr _ (by omega) (by omega), f6 _ _ (by omega)]; exact g52
        · rw [fr _ (by omega) (by omega), f6 _ _ (by omega)]; exact g53
        · have hi : i < szl gl c := hi
          have hL' : L' = cnt F n ro (c, fl) := by
            refine srt_uniq (F := F) (f := fl) ?_ (cnt_srt (q := (c, fl))) (fun x => by rw [l1.mem_iff, cn2 x]; exact (cnt_mem (q := (c, fl))).symm)
            rw [hrf, Bool.not_not] at l2; exact l2
          show gi s9 396 (7527 + nu gl H n + i) = nI ((cnt F n ro (c, fl)).getD i 0)
          rw [fr _ (by omega) (by omega), l3 i hi, hL']
      · exact old z hz'
    · -- unlike numbers, places apart
      refine ((cat_ps (bk := bk) (z := ((id', nu gl H n, c, fl) : Dn)) (Y := Y') (to := kto (mK A)) (n := 6) (by omega)).symm.pairwise ?_ (fun {x y} q => apt_symm q))
      rw [catX_ext hT (fun t h1 _ => by rw [← hYd]; dsimp only; rw [hlN t h1]; rfl), ← hYd, cat_map]
      have hno : ∀ z', z' ∈ catX (lft g X) T → ∀ i, i < zz gl z' → inT gl H (z'.2.1 + i) = false := fun z' hz' i hi => by
        cases hq : inT gl H (z'.2.1 + i) with
        | false => rfl
        | true =>
          unfold inT at hq
          obtain ⟨y', hy', hyh⟩ := List.any_eq_true.mp hq
          unfold hit at hyh
          simp only [decide_eq_true_eq] at hyh
          have := (hpX y' hy' z' hz').2
          omega
      have hend : ∀ z', z' ∈ catX (lft g X) T → ∀ k, z'.2.1 + zz gl z' ≤ k → nu gl H z'.2.1 + zz gl z' ≤ nu gl H k := fun z' hz' k hk' => by
        rw [← nu_run (hno z' hz') _ (Nat.le_refl _)]; exact nu_mono hk'
      refine List.pairwise_cons.mpr ⟨fun z hz => ?_, ?_⟩
      · obtain ⟨z', hz', rfl⟩ := List.mem_map.mp hz
        exact ⟨fun q => hidY z' hz' q.symm, Or.inr (hend z' hz' n (hx2 z' (hYm z' hz')).2.2.2.2.1)⟩
      · rw [List.pairwise_map]
        refine hpY.imp_of_mem (fun {a b} ha' hb' hab => ⟨hab.1, ?_⟩)
        rcases hab.2 with q | q
        · exact Or.inl (hend a ha' _ q)
        · exact Or.inr (hend b hb' _ q)
    · rw [f9s _ (by omega), g89, hst.1]
    · rw [f9s _ (by omega), g80, hst.2.1]
    · rw [g9, hst.2.2.1]
    · rw [f9s _ (by omega), f8 _ _ (by omega), f7 _ _ (by omega), f6 _ _ (by omega), f5 _ _ (by omega), f3 _ _ (by omega) (by omega) (by omega) (by omega), q3, hst.2.2.2]
  obtain ⟨s10, e10, r10, g10, f10⟩ := m_looks hM hM2 hg hT hai hRM
  rw [e10, bv_ok]
  refine ⟨s10, rfl, r10, ?_, fun x k he => ?_⟩
  · rw [g10, f9 _ _ (by omega), f8s _ _ (by omega) (by omega) (by omega) (by omega)]
    unfold stp
    rw [tul_K]
  · have he' := he
    unfold esQ at he'
    rw [f10 x k he, f9 _ _ (by omega), f8s _ _ (by omega) (by omega) (by omega) (by omega)]
end MS2
