/-! forecast: the reference's writes -/
section MW
variable {E : En} {σ : Sg} {w T nr n : Nat} {bk : Bool} {gl F ro : Nat → Nat} {A : Mi}
theorem m_ins (hM : LMod E) (hM2 : LMo2 E) {y t : Nat} {tpf : Nat → Nat} {rising : Bool} {P : List Nat} (hn : n ≤ 300) (hk : ∀ i, i < n → gi σ 396 (26 + i) = nI (F i)) (hF : ∀ i, i < n → F i < 256) (hPn : ∀ x, x ∈ P → x < n) (hy : y < n) (hyP : y ∉ P) (hl : P.length < 300) (p2 : P.Pairwise (bet F (!rising))) (hty : tpf y = t) (hc : ∀ i, i < P.length → gi σ 414 i = nI (P.getD i 0) ∧ gi σ 415 i = nI (tpf (P.getD i 0))) :
    ∃ (j : Nat) (s : Sg) (P' : List Nat), fx (fun rec a => bX7_laysWrites_87 E 395 (nI y) (bI rising) (fun u0 t => rec (u0, t)) a.1 a.2) FU (nI P.length, σ) = some (nI j, s) ∧ j ≤ P.length ∧ P'.Perm (y :: P) ∧ P'.Pairwise (bet F (!rising)) ∧ (∀ i, i < P.length + 1 → gi (si (si s 414 j (nI y)) 415 j (nI t)) 414 i = nI (P'.getD i 0) ∧ gi (si (si s 414 j (nI y)) 415 j (nI t)) 415 i = nI (tpf (P'.getD i 0))) ∧ ∀ x k, x ≠ 414 → x ≠ 415 → gi s x k = gi σ x k := by
  obtain ⟨m0, m1, m2, m3, m4, m5, m6, m7, m8, m9, m10, m11, m12, m13, m14, m15, m16, m17, m18, m19, m20, m21⟩ := id hM
  obtain ⟨n1, n2, n3, n4, n5, n6, n7, n8, n9, n10, n11, n12, n13, n14, n15, n16, n17, n18, n19, n20, n21⟩ := id hM2
  have key := fx_ok (F := fun (rec : Int32 × Sg → Option (Int32 × Sg)) (b : Int32 × Sg) => bX7_laysWrites_87 E 395 (nI y) (bI rising) (fun u0 t => rec (u0, t)) b.1 b.2)
    (fun j b => b.1 = nI j ∧ j ≤ P.length ∧ (∀ k, k < j → gi b.2 414 k = nI (P.getD k 0) ∧ gi b.2 415 k = nI (tpf (P.getD k 0))) ∧ (∀ k, j ≤ k → k < P.length → (gi b.2 414 (k + 1) = nI (P.getD k 0) ∧ gi b.2 415 (k + 1) = nI (tpf (P.getD k 0))) ∧ bet F (!rising) y (P.getD k 0)) ∧ (∀ x k, x ≠ 414 → x ≠ 415 → gi b.2 x k = gi σ x k))
    (fun b => ∃ j, b.1 = nI j ∧ j ≤ P.length ∧ (∀ k, k < j → gi b.2 414 k = nI (P.getD k 0) ∧ gi b.2 415 k = nI (tpf (P.getD k 0))) ∧ (∀ k, j ≤ k → k < P.length → (gi b.2 414 (k + 1) = nI (P.getD k 0) ∧ gi b.2 415 (k + 1) = nI (tpf (P.getD k 0))) ∧ bet F (!rising) y (P.getD k 0)) ∧ (∀ x k, x ≠ 414 → x ≠ 415 → gi b.2 x k = gi σ x k) ∧ (0 < j → bet F (!rising) (P.getD (j - 1) 0) y))
    ?_ FU P.length (nI P.length, σ) (by show P.length < 1000000; omega) ⟨rfl, Nat.le_refl _, fun k hk => hc k hk, fun k z1 z2 => by omega, fun _ _ _ _ => rfl⟩
  · obtain ⟨⟨u, s2⟩, e, j, g0, g1, g2, g3, g4, g5⟩ := key
    dsimp only at g0 g2 g3 g4
    subst g0
    refine ⟨j, s2, P.take j ++ y :: P.drop j, e, g1, ?_, ?_, fun k hk => ?_, g4⟩
    · have := List.perm_middle (a := y) (l₁ := P.take j) (l₂ := P.drop j)
      rw [List.take_append_drop] at this; exact this
    · have hlow : ∀ k, k < j → bet F (!rising) (P.getD k 0) y := fun k hk => by
        by_cases hq : k = j - 1
        · subst hq; exact g5 (by omega)
        · exact bet_trans (pw_at p2 (show k < j - 1 by omega) (by omega)) (g5 (by omega))
      rw [List.pairwise_append]
      refine ⟨p2.sublist (List.take_sublist _ _), List.pairwise_cons.mpr ⟨fun b hb => ?_, p2.sublist (List.drop_sublist _ _)⟩, fun a ha b hb => ?_⟩
      · obtain ⟨k, hk', e'⟩ := mem_getD hb
        rw [List.length_drop] at hk'
        rw [List.getD_eq_getElem?_getD, List.getElem?_drop, ← List.getD_eq_getElem?_getD] at e'
        rw [← e']
        exact (g3 (j + k) (by omega) (by omega)).2
      · obtain ⟨k, hk', e'⟩ := mem_getD ha
        rw [List.length_take] at hk'
        rw [List.getD_eq_getElem?_getD, List.getElem?_take_of_lt (by omega), ← List.getD_eq_getElem?_getD] at e'
        rcases List.mem_cons.mp hb with rfl | hb
        · rw [← e']; exact hlow k (by omega)
        · obtain ⟨k2, hk2, e2⟩ := mem_getD hb
          rw [List.length_drop] at hk2
          rw [List.getD_eq_getElem?_getD, List.getElem?_drop, ← List.getD_eq_getElem?_getD] at e2
          rw [← e', ← e2]
          exact pw_at p2 (by omega) (by omega)
    · rw [ins_get (by omega)]
      by_cases c1 : k < j
      · rw [if_pos c1, gs_ne (by omega), gs_ne (by omega), gs_ne (by omega), gs_ne (by omega)]; exact g2 k c1
      · rw [if_neg c1]
        by_cases c2 : k = j
        · rw [if_pos c2, c2, gs_ne (by omega), gs_eq, gs_eq, hty]; exact ⟨rfl, rfl⟩
        · rw [if_neg c2, gs_ne (by omega), gs_ne (by omega), gs_ne (by omega), gs_ne (by omega)]
          have := (g3 (k - 1) (by omega) (by omega)).1
          rw [show k - 1 + 1 = k by omega] at this
          exact this
  · rintro j ⟨u, s2⟩ rec2 ⟨g0, g1, g2, g3, g4⟩ IH
    dsimp only at g0 g2 g3 g4 ⊢
    subst g0
    unfold bX7_laysWrites_87
    by_cases hj : j = 0
    · subst hj
      rw [if_pos (show nI 0 ≤ 0 from nI_le (b := 0) (Nat.le_refl _) (by omega))]
      exact ⟨_, rfl, 0, rfl, by omega, g2, g3, g4, fun h => by omega⟩
    · have hpj : P.getD (j - 1) 0 ∈ P := getD_mem (by omega)
      have hpn := hPn _ hpj
      have hne : y ≠ P.getD (j - 1) 0 := fun q => hyP (q ▸ hpj)
      rw [if_neg (show ¬ nI j ≤ 0 from nI_ge (a := 0) (by omega) (by omega)), dr_ok m19 n19.1, n19.2, i1, sub_n (by omega), ck_n (by omega) (by omega), nI_clamp (by omega), (g2 (j - 1) (by omega)).1, m_isLess hM hM2 hy hpn hn (fun j hj => by rw [g4 _ _ (by omega) (by omega)]; exact hk j hj) hF, bd_ok]
      by_cases hc' : lsB F y (P.getD (j - 1) 0) = rising
      · have hb : bet F (!rising) y (P.getD (j - 1) 0) := (bet_ls hne).mp (by rw [hc']; cases rising <;> rfl)
        rw [if_neg (fun q => q (by rw [hc'])), ck_n (by omega) (by omega), ck_n (by omega) (by omega), nI_clamp (by omega), ss_ok, dr_ok m20 n20.1, n20.2, ck_n (by omega) (by omega), ck_n (by omega) (by omega), gs_ne (by omega), (g2 (j - 1) (by omega)).2, ss_ok, lt_ok, show nI j + -nI 1 = nI (j - 1) from sb_m1 (by omega)]
        refine IH (j - 1) _ (by omega) ⟨rfl, by omega, fun k hk => ?_, fun k z1 z2 => ?_, fun x k q1 q2 => ?_⟩
        · dsimp only; rw [gs_ne (by omega), gs_ne (by omega), gs_ne (by omega), gs_ne (by omega)]; exact g2 k (by omega)
        · dsimp only
          by_cases hkj : k = j - 1
          · subst hkj
            rw [show j - 1 + 1 = j by omega, gs_ne (by omega), gs_eq, gs_eq]
            exact ⟨⟨(g2 (j - 1) (by omega)).1, rfl⟩, hb⟩
          · rw [gs_ne (by omega), gs_ne (by omega), gs_ne (by omega), gs_ne (by omega)]; exact g3 k (by omega) z2
        · dsimp only; rw [gs_ne (by omega), gs_ne (by omega)]; exact g4 x k q1 q2
      · rw [if_pos (by rw [bI_e]; exact hc')]
        refine ⟨_, rfl, j, rfl, g1, g2, g3, g4, fun _ => ?_⟩
        rcases bet_tot (F := F) (f := !rising) hne with z | z
        · have := (bet_ls hne).mpr z
          exfalso; apply hc'
          revert this
          cases lsB F y (P.getD (j - 1) 0) <;> cases rising <;> simp
        · exact z
theorem take_sn {l : List Nat} {i : Nat} (h : i < l.length) : l.take (i + 1) = l.take i ++ [l.getD i 0] := by
  rw [List.take_succ_eq_append_getElem h, List.getD_eq_getElem?_getD, List.getElem?_eq_getElem h]; rfl
theorem m_writes (hM : LMod E) (hM2 : LMo2 E) (hg : GV F n ro gl nr) (hT : T ≤ 6) (hT3 : 3 ≤ T) (hw : w ≤ 2) (ha : AI T nr A) (hok : oks w T (T / 2) (mK A) = true) (h : RMm σ F n ro gl w T bk A) :
    ∃ s X, fX7_laysWrites E 395 σ = some (nI ((lst F n (!(rsg bk (ldD (gvf w (T / 2) (mK A)) (mT A) T)))).filter (fun x => (ctA w T A).contains (ro x))).length, s) ∧ (∀ i, i < ((lst F n (!(rsg bk (ldD (gvf w (T / 2) (mK A)) (mT A) T)))).filter (fun x => (ctA w T A).contains (ro x))).length → gi s 415 i = nI ((tko w T ro A (((lst F n (!(rsg bk (ldD (gvf w (T / 2) (mK A)) (mT A) T)))).filter (fun x => (ctA w T A).contains (ro x))).getD i 0)).getD 0)) ∧ (∀ t, t < 6 → gi s 416 t = nI 0) ∧ HC' s n gl (fun z => cnt F n ro z.2.2) (hdO (gT w T (mK A)) X) ∧ Xm X (mT A) ∧ ∀ x k, x ≠ 407 → ¬ (414 ≤ x ∧ x ≤ 416) → gi s x k = gi σ x k := by
  obtain ⟨m0, m1, m2, m3, m4, m5, m6, m7, m8, m9, m10, m11, m12, m13, m14, m15, m16, m17, m18, m19, m20, m21⟩ := id hM
  obtain ⟨n1, n2, n3, n4, n5, n6, n7, n8, n9, n10, n11, n12, n13, n14, n15, n16, n17, n18, n19, n20, n21⟩ := id hM2
  have hn := hg.1
  obtain ⟨hs, ⟨X, hm, hx⟩, hk, hz⟩ := id h
  obtain ⟨s', y1, y2, y3⟩ := m_laysTaken hM hM2 hg hT hT3 hw ha hok hs hm hx hk
  have hx' : RX s' F n ro gl X := ⟨xt_fr hx.1 (fun k _ => y3 _ _ (by omega)), fun z hz => dd_fr (hx.2.1 z hz) (y3 _ _ (by omega)) (y3 _ _ (by omega)) (y3 _ _ (by omega)) (fun i _ => y3 _ _ (by omega)), hx.2.2⟩
  have hhc := rx_hc hT hg ha hm hx' y2
  have hkeys : ∀ i, i < n → gi s' 396 (26 + i) = nI (F i) := fun i hi => by rw [y3 _ _ (by omega)]; exact hs.2.2.2.2 i hi
  generalize hrd : rsg bk (ldD (gvf w (T / 2) (mK A)) (mT A) T) = rising at *
  generalize hHd : hdO (gT w T (mK A)) X = Hd at *
  have hgl : ∀ t, t < T → gvf w (T / 2) (mK A) t = true → 0 < (mT A t).length := fun t ht q => by rw [← ha.2.1 t ht]; exact (gv_fl q).2
  obtain ⟨cn1, cn2⟩ := cnts_nd (F := F) (n := n) (ro := ro) (g := gT w T (mK A)) (X := X) (tp := mT A) (fun t q => by obtain ⟨_, l, _, hr, _⟩ := hd_run hm ha q; exact hr) (m := 6) (by rw [catF_6 hT]; exact cat_nd ha.1 hgl)
  rw [hHd] at cn1 cn2
  rw [catF_6 hT] at cn2
  have hCl : (catX (cnts (fun z => cnt F n ro z.2.2) Hd) 6).length ≤ n := by
    have : (catX (cnts (fun z => cnt F n ro z.2.2) Hd) 6).Perm (cnt F n ro (ctA w T A, true)) := (List.perm_ext_iff_of_nodup cn1 (bet_nodup cnt_srt)).mpr (fun x => by rw [cn2 x]; exact (cnt_mem (q := (ctA w T A, true))).symm)
    rw [this.length_eq]
    unfold cnt
    exact Nat.le_trans (List.length_filter_le _ _) (by rw [lst_len]; exact Nat.le_refl _)
  generalize hC : cnts (fun z => cnt F n ro z.2.2) Hd = C at *
  have hCt : ∀ t, t < 6 → ∀ x, x ∈ C t → x < n ∧ tko w T ro A x = some t := by
    intro t ht x hxc
    rw [← hC, ← hHd] at hxc
    unfold cnts hdO at hxc
    by_cases hgi : gT w T (mK A) t = true
    · rw [if_pos hgi] at hxc
      obtain ⟨hiT, l, hX, hr, hl⟩ := hd_run hm ha hgi
      have hxc : x ∈ cnt F n ro ((X t).getD 0 d0).2.2 := hxc
      rw [hr] at hxc
      have := cnt_mem.mp hxc
      unfold gT at hgi
      rw [Bool.and_eq_true] at hgi
      exact ⟨this.1, tko_in ha hiT hgi.2 this.2⟩
    · rw [if_neg hgi] at hxc; cases hxc
  unfold fX7_laysWrites
  rw [tk_ok m0, y1, bd_ok]
  have inner : ∀ (t : Nat) (s : Sg) (P : List Nat), t < 6 → P.Perm (catX C t) → P.Pairwise (bet F (!rising)) → (∀ i, i < P.length → gi s 414 i = nI (P.getD i 0) ∧ gi s 415 i = nI ((tko w T ro A (P.getD i 0)).getD 0)) → (∀ x k, ¬ (414 ≤ x ∧ x ≤ 416) → gi s x k = gi s' x k) → ∃ b, fx (fun rec a => bX7_laysWrites_25 E 395 (nI t) (bI rising) (fun u0 u1 t => rec ((u0, u1), t)) a.1.1 a.1.2 a.2) FU ((nI P.length, (0 : Int32)), s) = some b ∧ (∃ P' : List Nat, b.1.1 = nI P'.length ∧ P'.Perm (catX C (t + 1)) ∧ P'.Pairwise (bet F (!rising)) ∧ (∀ i, i < P'.length → gi b.2 414 i = nI (P'.getD i 0) ∧ gi b.2 415 i = nI ((tko w T ro A (P'.getD i 0)).getD 0)) ∧ ∀ x k, x ≠ 414 → x ≠ 415 → gi b.2 x k = gi s x k) := by
    intro t s P ht hp hps hpc hfr
    have hsub : (catX C t ++ C t).Sublist (catX C 6) := catX_sub (X := C) (n := 6) (m := t + 1) (by omega)
    have hTk : gi s 407 t = tkO (Hd t) := by rw [hfr _ _ (by omega)]; exact hhc.1 t ht
    refine for_in (C t).length (fun i (b : (Int32 × Int32) × Sg) => ∃ P' : List Nat, b.1 = (nI P'.length, nI i) ∧ P'.Perm (catX C t ++ (C t).take i) ∧ P'.Pairwise (bet F (!rising)) ∧ (∀ i, i < P'.length → gi b.2 414 i = nI (P'.getD i 0) ∧ gi b.2 415 i = nI ((tko w T ro A (P'.getD i 0)).getD 0)) ∧ ∀ x k, x ≠ 414 → x ≠ 415 → gi b.2 x k = gi s x k) (fun (b : (Int32 × Int32) × Sg) => ∃ P' : List Nat, b.1.1 = nI P'.length ∧ P'.Perm (catX C (t + 1)) ∧ P'.Pairwise (bet F (!rising)) ∧ (∀ i, i < P'.length → gi b.2 414 i = nI (P'.getD i 0) ∧ gi b.2 415 i = nI ((tko w T ro A (P'.getD i 0)).getD 0)) ∧ ∀ x k, x ≠ 414 → x ≠ 415 → gi b.2 x k = gi s x k) (by show (C t).length < 1000000; have := hsub.length_le; rw [List.length_append] at this; omega) ?_ ?_ ⟨P, rfl, by simpa using hp, hps, hpc, fun _ _ _ _ => rfl⟩
    · rintro i ⟨v, s2⟩ rec hi ⟨P', f0, f1, f2, f3, f4⟩
      dsimp only at f0 f3 f4 ⊢
      subst f0
      dsimp only
      have hCe : C t = cnts (fun z => cnt F n ro z.2.2) Hd t := by rw [← hC]
      cases hq : Hd t with
      | none =>
        have : C t = [] := by rw [hCe]; unfold cnts; rw [hq]
        rw [this] at hi; exact absurd hi (Nat.not_lt_zero i)
      | some z =>
        rw [hq] at hTk
        obtain ⟨z1, z2, z3, z4, z5, z6⟩ := hhc.2 t z ht hq
        have hCz : C t = cnt F n ro z.2.2 := by rw [hCe]; unfold cnts; rw [hq]
        have hlen : (C t).length = zz gl z := by rw [hCz]; exact z5
        have hyc : (C t).getD i 0 ∈ C t := getD_mem hi
        obtain ⟨hy1, hy2⟩ := hCt t ht _ hyc
        have hcell : gi s2 396 (7527 + z.2.1 + i) = nI ((C t).getD i 0) := by rw [f4 _ _ (by omega) (by omega), hfr _ _ (by omega), hCz]; exact z6 i (by omega)
        have hnd : (catX C t ++ (C t).take (i + 1)).Nodup := (((List.Sublist.refl (catX C t)).append (List.take_sublist (i + 1) (C t))).trans hsub).nodup cn1
        rw [take_sn hi, ← List.append_assoc] at hnd
        have hyP : (C t).getD i 0 ∉ P' := fun hm' => by
          have h1 := f1.mem_iff.mp hm'
          exact (List.nodup_append.mp hnd).2.2 _ h1 _ (List.mem_singleton.mpr rfl) rfl
        have hPl : P'.length = (catX C t).length + i := by rw [f1.length_eq, List.length_append, List.length_take]; omega
        have hsl := hsub.length_le
        rw [List.length_append] at hsl
        have hPn : ∀ x, x ∈ P' → x < n := fun x hxp => by
          have h1 := f1.mem_iff.mp hxp
          have h2 := (((List.Sublist.refl (catX C t)).append (List.take_sublist i (C t))).trans hsub).subset h1
          exact ((cn2 x).mp h2).1
        generalize hyd : (C t).getD i 0 = y at *
        obtain ⟨j, s3, P2, e1, e2, e3, e4, e5, e6⟩ := m_ins (E := E) (σ := s2) (n := n) (F := F) (y := y) (t := t) (tpf := fun x => (tko w T ro A x).getD 0) (rising := rising) (P := P') hM hM2 hn (fun i hi => by rw [f4 _ _ (by omega) (by omega), hfr _ _ (by omega)]; exact hkeys i hi) hg.2.1 hPn hy1 hyP (by omega) f2 (by show (tko w T ro A y).getD 0 = t; rw [hy2]; rfl) f3
        unfold bX7_laysWrites_25
        rw [dr_ok m12 n12.1, n12.2, ck_n (by omega) (by omega), nI_clamp (by omega), f4 407 t (by omega) (by omega), hTk, show tkO (some z) = nI z.1 from rfl, if_neg (nI_nm1 (by omega)), dr_ok m1 n1.1, n1.2, ck_n (by omega) (by omega), show (1927 : Int32) = nI 1927 from rfl, nI_add, ck_n (by omega) (by omega), nI_clamp (by omega), f4 396 (1927 + z.1) (by omega) (by omega), hfr 396 (1927 + z.1) (by omega), z3, if_neg (nI_ge (by omega) (by omega)), ck_n (by omega) (by omega), show (1227 : Int32) = nI 1227 from rfl, nI_add, ck_n (by omega) (by omega), nI_clamp (by omega), f4 396 (1227 + z.1) (by omega) (by omega), hfr 396 (1227 + z.1) (by omega), z2, show (7527 : Int32) = nI 7527 from rfl, nI_add, nI_add, ck_n (by omega) (by omega), nI_clamp (by omega), hcell, lt_ok, e1, bd_ok, dr_ok m19 n19.1, n19.2, ck_n (by omega) (by omega), nI_clamp (by omega), ss_ok, dr_ok m20 n20.1, n20.2, ck_n (by omega) (by omega), ss_ok, lt_ok, lt_ok, ad1, ad1]
        have hP2 : P2.length = P'.length + 1 := by rw [e3.length_eq]; rfl
        refine ⟨_, rfl, P2, by rw [hP2], ?_, e4, fun i hi => ?_, fun x k h1 h2 => ?_⟩
        · refine e3.trans ?_
          rw [take_sn hi, hyd, ← List.append_assoc]
          exact (List.Perm.cons y f1).trans (List.perm_append_singleton y _).symm
        · rw [hP2] at hi
          exact e5 i hi
        · dsimp only
          rw [gs_ne (by omega), gs_ne (by omega), e6 x k h1 h2]; exact f4 x k h1 h2
    · rintro ⟨v, s2⟩ rec ⟨P', f0, f1, f2, f3, f4⟩
      dsimp only at f0 f3 f4 ⊢
      subst f0
      dsimp only
      rw [List.take_length] at f1
      have hCe : C t = cnts (fun z => cnt F n ro z.2.2) Hd t := by rw [← hC]
      unfold bX7_laysWrites_25
      rw [dr_ok m12 n12.1, n12.2, ck_n (by omega) (by omega), nI_clamp (by omega), f4 407 t (by omega) (by omega), hTk]
      cases hq : Hd t with
      | none =>
        rw [if_pos (show tkO none = -1 from rfl)]
        exact ⟨_, rfl, P', rfl, f1, f2, f3, f4⟩
      | some z =>
        obtain ⟨z1, z2, z3, z4, z5, z6⟩ := hhc.2 t z ht hq
        have hCz : C t = cnt F n ro z.2.2 := by rw [hCe]; unfold cnts; rw [hq]
        have hlen : (C t).length = zz gl z := by rw [hCz]; exact z5
        rw [show tkO (some z) = nI z.1 from rfl, if_neg (nI_nm1 (by omega)), dr_ok m1 n1.1, n1.2, ck_n (by omega) (by omega), show (1927 : Int32) = nI 1927 from rfl, nI_add, ck_n (by omega) (by omega), nI_clamp (by omega), f4 396 (1927 + z.1) (by omega) (by omega), hfr 396 (1927 + z.1) (by omega), z3, hlen, if_pos (nI_le (Nat.le_refl _) (by omega))]
        exact ⟨_, rfl, P', rfl, f1, f2, f3, f4⟩
  obtain ⟨⟨v, s5⟩, e5, P, q0, q1, q2, q3, q4, q5⟩ := for_in (F := fun (rec : (Int32 × Int32) × Sg → Option ((Int32 × Int32) × Sg)) (b : (Int32 × Int32) × Sg) => bX7_laysWrites_9 E 395 (bI rising) (fun u0 u1 t => rec ((u0, u1), t)) b.1.1 b.1.2 b.2) 6
    (fun t b => ∃ P : List Nat, b.1 = (nI P.length, nI t) ∧ P.Perm (catX C t) ∧ P.Pairwise (bet F (!rising)) ∧ (∀ i, i < P.length → gi b.2 414 i = nI (P.getD i 0) ∧ gi b.2 415 i = nI ((tko w T ro A (P.getD i 0)).getD 0)) ∧ (∀ u, u < t → gi b.2 416 u = nI 0) ∧ ∀ x k, ¬ (414 ≤ x ∧ x ≤ 416) → gi b.2 x k = gi s' x k)
    (fun b => ∃ P : List Nat, b.1.1 = nI P.length ∧ P.Perm (catX C 6) ∧ P.Pairwise (bet F (!rising)) ∧ (∀ i, i < P.length → gi b.2 414 i = nI (P.getD i 0) ∧ gi b.2 415 i = nI ((tko w T ro A (P.getD i 0)).getD 0)) ∧ (∀ u, u < 6 → gi b.2 416 u = nI 0) ∧ ∀ x k, ¬ (414 ≤ x ∧ x ≤ 416) → gi b.2 x k = gi s' x k) (N := FU) (by show 6 < 1000000; omega)
    (by
      rintro t ⟨v, s⟩ rec ht ⟨P, f0, f1, f2, f3, f4, f5⟩
      dsimp only at f0 f3 f4 f5 ⊢
      subst f0
      dsimp only
      obtain ⟨⟨v2, s2⟩, e1, P', g0, g1, g2, g3, g4⟩ := inner t (si s 416 t 0) P ht f1 f2 (fun i hi => by rw [gs_ne (by omega), gs_ne (by omega)]; exact f3 i hi) (fun x k hx => by rw [gs_ne (by omega)]; exact f5 x k hx)
      dsimp only at g0 g3 g4
      unfold bX7_laysWrites_9
      rw [i6, if_neg (nI_ge ht (by omega)), dr_ok m21 n21.1, n21.2, ck_n (by omega) (by omega), nI_clamp (by omega), ss_ok, e1, bd_ok, lt_ok, ad1, g0]
      refine ⟨_, rfl, P', rfl, g1, g2, g3, fun u hu => ?_, fun x k hx => ?_⟩
      · dsimp only
        rw [g4 _ _ (by omega) (by omega)]
        by_cases hut : u = t
        · subst hut; rw [gs_eq]; rfl
        · rw [gs_ne (by omega)]; exact f4 u (by omega)
      · dsimp only
        rw [g4 _ _ (by omega) (by omega), gs_ne (by omega)]; exact f5 x k hx)
    (by
      rintro ⟨v, s⟩ rec ⟨P, f0, f1, f2, f3, f4, f5⟩
      dsimp only at f0 f3 f4 f5 ⊢
      subst f0
      unfold bX7_laysWrites_9
      rw [i6, if_pos (nI_le (Nat.le_refl _) (by omega))]
      exact ⟨_, rfl, P, rfl, f1, f2, f3, f4, f5⟩)
    (a := (((0 : Int32), (0 : Int32)), s')) ⟨[], rfl, List.Perm.refl _, List.Pairwise.nil, fun i hi => absurd hi (Nat.not_lt_zero i), fun u hu => absurd hu (Nat.not_lt_zero u), fun _ _ _ => rfl⟩
  dsimp only at q0 q3 q4 q5
  have hP : P = (lst F n (!rising)).filter (fun x => (ctA w T A).contains (ro x)) := by
    refine srt_uniq q2 (lst_srt.filter _) (fun x => ?_)
    rw [q1.mem_iff, cn2 x, List.mem_filter, lst_mem, List.contains_iff_mem]
  rw [e5, bd_ok]
  refine ⟨s5, X, ?_, fun i hi => ?_, q4, ?_, hm, fun x k h1 h2 => ?_⟩
  · rw [q0, hP]
  · rw [← hP] at hi ⊢; exact (q3 i hi).2
  · rw [hHd]
    exact hc_fr hhc (fun t ht => q5 _ _ (by omega)) (fun k _ => q5 _ _ (by omega))
  · rw [q5 _ _ h2, y3 _ _ h1]
end MW
