theorem dX5_copyFrom_0 : dk cX5_copyFrom 0 1 (.aload_n 0) 1 := by unfold dk; decide +kernel
theorem dX5_copyFrom_1 : dk cX5_copyFrom 1 2 (.aload_n 1) 1 := by unfold dk; decide +kernel
theorem dX5_copyFrom_2 : dk cX5_copyFrom 2 5 (.getfield 15) 3 := by unfold dk; decide +kernel
theorem dX5_copyFrom_5 : dk cX5_copyFrom 5 8 (.putfield 15) 3 := by unfold dk; decide +kernel
theorem dX5_copyFrom_8 : dk cX5_copyFrom 8 9 (.aload_n 0) 1 := by unfold dk; decide +kernel
theorem dX5_copyFrom_9 : dk cX5_copyFrom 9 10 (.aload_n 1) 1 := by unfold dk; decide +kernel
theorem dX5_copyFrom_10 : dk cX5_copyFrom 10 13 (.getfield 19) 3 := by unfold dk; decide +kernel
theorem dX5_copyFrom_13 : dk cX5_copyFrom 13 16 (.putfield 19) 3 := by unfold dk; decide +kernel
theorem dX5_copyFrom_16 : dk cX5_copyFrom 16 17 (.aload_n 1) 1 := by unfold dk; decide +kernel
theorem dX5_copyFrom_17 : dk cX5_copyFrom 17 20 (.getfield 9) 3 := by unfold dk; decide +kernel
theorem dX5_copyFrom_20 : dk cX5_copyFrom 20 21 (.aload_n 0) 1 := by unfold dk; decide +kernel
theorem dX5_copyFrom_21 : dk cX5_copyFrom 21 24 (.getfield 15) 3 := by unfold dk; decide +kernel
theorem dX5_copyFrom_24 : dk cX5_copyFrom 24 25 (.aload_n 0) 1 := by unfold dk; decide +kernel
theorem dX5_copyFrom_25 : dk cX5_copyFrom 25 28 (.getfield 9) 3 := by unfold dk; decide +kernel
theorem dX5_copyFrom_28 : dk cX5_copyFrom 28 29 (.aload_n 0) 1 := by unfold dk; decide +kernel
theorem dX5_copyFrom_29 : dk cX5_copyFrom 29 32 (.getfield 15) 3 := by unfold dk; decide +kernel
theorem dX5_copyFrom_32 : dk cX5_copyFrom 32 33 (.aload_n 0) 1 := by unfold dk; decide +kernel
theorem dX5_copyFrom_33 : dk cX5_copyFrom 33 36 (.getfield 19) 3 := by unfold dk; decide +kernel
theorem dX5_copyFrom_36 : dk cX5_copyFrom 36 37 (.aload_n 0) 1 := by unfold dk; decide +kernel
theorem dX5_copyFrom_37 : dk cX5_copyFrom 37 40 (.getfield 15) 3 := by unfold dk; decide +kernel
theorem dX5_copyFrom_40 : dk cX5_copyFrom 40 41 (.isub) 1 := by unfold dk; decide +kernel
theorem dX5_copyFrom_41 : dk cX5_copyFrom 41 44 (.invokestatic 22) 3 := by unfold dk; decide +kernel
theorem dX5_copyFrom_44 : dk cX5_copyFrom 44 45 (.return_) 1 := by unfold dk; decide +kernel
set_option maxHeartbeats 4000000 in
set_option maxRecDepth 100000 in
theorem kX5_copyFrom {l : Launch} {G : Gl} {E : En} {a0 : Nat} {a1 : Nat} {σ σ' : Sg} : fX5_copyFrom E a0 a1 σ = some σ' → CT l yX5_copyFrom cX5_copyFrom 2 none ({ frames := 1, cells := 0, slots := 0, locals := 60 } : Room) [.ref (G.1 + a0), .ref (G.1 + a1)] G E σ none σ' := by
  intro h
  refine CT_of (lv0 := [(0, .ref (G.1 + a0)), (1, .ref (G.1 + a1))]) (by decide) (Nat.le_of_ble_eq_true rfl) rfl (fun κ hl hR hr C => ?_)
  have C : Cx κ G cX5_copyFrom RX5 2 := C
  revert h
  unfold fX5_copyFrom
  refine R_tk (fun ha0 => ?_)
  refine R_tk (fun ha1 => ?_)
  refine R_aload_n C 0 rfl dX5_copyFrom_0 ?_
  refine R_aload_n C 1 rfl dX5_copyFrom_1 ?_
  refine R_geti C fl5_15 rfl ha1 dX5_copyFrom_2 ?_
  refine S_puti C fl5_15 rfl ha0 rfl rfl dX5_copyFrom_5 (fun s1 => ?_)
  refine R_aload_n C 0 rfl dX5_copyFrom_8 ?_
  refine R_aload_n C 1 rfl dX5_copyFrom_9 ?_
  refine R_geti C fl5_19 rfl ha1 dX5_copyFrom_10 ?_
  refine S_puti C fl5_19 rfl ha0 rfl rfl dX5_copyFrom_13 (fun s2 => ?_)
  refine R_aload_n C 1 rfl dX5_copyFrom_16 ?_
  refine R_dr (fun x3 rx3 cx3 => ?_)
  refine R_getr C fl5_9 rfl ha1 rx3 dX5_copyFrom_17 ?_
  refine R_aload_n C 0 rfl dX5_copyFrom_20 ?_
  refine R_geti C fl5_15 rfl ha0 dX5_copyFrom_21 ?_
  refine R_aload_n C 0 rfl dX5_copyFrom_24 ?_
  refine R_dr (fun x4 rx4 cx4 => ?_)
  refine R_getr C fl5_9 rfl ha0 rx4 dX5_copyFrom_25 ?_
  refine R_aload_n C 0 rfl dX5_copyFrom_28 ?_
  refine R_geti C fl5_15 rfl ha0 dX5_copyFrom_29 ?_
  refine R_aload_n C 0 rfl dX5_copyFrom_32 ?_
  refine R_geti C fl5_19 rfl ha0 dX5_copyFrom_33 ?_
  refine R_aload_n C 0 rfl dX5_copyFrom_36 ?_
  refine R_geti C fl5_15 rfl ha0 dX5_copyFrom_37 ?_
  refine R_isub C dX5_copyFrom_40 ?_
  refine S_acopy C jd5_22 cx3 cx4 (by rw [hR]; exact ⟨Nat.le_of_ble_eq_true rfl, Nat.le_of_ble_eq_true rfl⟩) dX5_copyFrom_41 (fun s5 => ?_)
  exact R_vret C hr dX5_copyFrom_44
theorem dX5_wipe_0 : dk cX5_wipe 0 1 (.aload_n 0) 1 := by unfold dk; decide +kernel
theorem dX5_wipe_1 : dk cX5_wipe 1 2 (.iconst 0) 1 := by unfold dk; decide +kernel
theorem dX5_wipe_2 : dk cX5_wipe 2 5 (.putfield 15) 3 := by unfold dk; decide +kernel
theorem dX5_wipe_5 : dk cX5_wipe 5 6 (.aload_n 0) 1 := by unfold dk; decide +kernel
theorem dX5_wipe_6 : dk cX5_wipe 6 7 (.iconst 0) 1 := by unfold dk; decide +kernel
theorem dX5_wipe_7 : dk cX5_wipe 7 10 (.putfield 19) 3 := by unfold dk; decide +kernel
theorem dX5_wipe_10 : dk cX5_wipe 10 11 (.return_) 1 := by unfold dk; decide +kernel
set_option maxHeartbeats 4000000 in
set_option maxRecDepth 100000 in
theorem kX5_wipe {l : Launch} {G : Gl} {E : En} {a0 : Nat} {σ σ' : Sg} : fX5_wipe E a0 σ = some σ' → CT l yX5_wipe cX5_wipe 1 none ({ frames := 0, cells := 0, slots := 0, locals := 0 } : Room) [.ref (G.1 + a0)] G E σ none σ' := by
  intro h
  refine CT_of (lv0 := [(0, .ref (G.1 + a0))]) (by decide) (Nat.le_of_ble_eq_true rfl) rfl (fun κ hl hR hr C => ?_)
  have C : Cx κ G cX5_wipe RX5 1 := C
  revert h
  unfold fX5_wipe
  refine R_tk (fun ha0 => ?_)
  refine R_aload_n C 0 rfl dX5_wipe_0 ?_
  refine R_iconst C (0) dX5_wipe_1 (by decide) ?_
  refine S_puti C fl5_15 rfl ha0 rfl rfl dX5_wipe_2 (fun s1 => ?_)
  refine R_aload_n C 0 rfl dX5_wipe_5 ?_
  refine R_iconst C (0) dX5_wipe_6 (by decide) ?_
  refine S_puti C fl5_19 rfl ha0 rfl rfl dX5_wipe_7 (fun s2 => ?_)
  exact R_vret C hr dX5_wipe_10
theorem dX5_size_0 : dk cX5_size 0 1 (.aload_n 0) 1 := by unfold dk; decide +kernel
theorem dX5_size_1 : dk cX5_size 1 4 (.getfield 19) 3 := by unfold dk; decide +kernel
theorem dX5_size_4 : dk cX5_size 4 5 (.aload_n 0) 1 := by unfold dk; decide +kernel
theorem dX5_size_5 : dk cX5_size 5 8 (.getfield 15) 3 := by unfold dk; decide +kernel
theorem dX5_size_8 : dk cX5_size 8 9 (.isub) 1 := by unfold dk; decide +kernel
theorem dX5_size_9 : dk cX5_size 9 10 (.ireturn) 1 := by unfold dk; decide +kernel
set_option maxHeartbeats 4000000 in
set_option maxRecDepth 100000 in
theorem kX5_size {l : Launch} {G : Gl} {E : En} {a0 : Nat} {σ σ' : Sg} {r : Int32} : fX5_size E a0 σ = some (r, σ') → CT l yX5_size cX5_size 1 (some .int) ({ frames := 0, cells := 0, slots := 0, locals := 0 } : Room) [.ref (G.1 + a0)] G E σ (some (.int r)) σ' := by
  intro h
  refine CT_of (lv0 := [(0, .ref (G.1 + a0))]) (by decide) (Nat.le_of_ble_eq_true rfl) rfl (fun κ hl hR hr C => ?_)
  have C : Cx κ G cX5_size RX5 1 := C
  revert h
  unfold fX5_size
  refine R_tk (fun ha0 => ?_)
  refine R_aload_n C 0 rfl dX5_size_0 ?_
  refine R_geti C fl5_19 rfl ha0 dX5_size_1 ?_
  refine R_aload_n C 0 rfl dX5_size_4 ?_
  refine R_geti C fl5_15 rfl ha0 dX5_size_5 ?_
  refine R_isub C dX5_size_8 ?_
  exact R_iret C hr dX5_size_9
theorem dX5_dummies_0 : dk cX5_dummies 0 1 (.iconst 0) 1 := by unfold dk; decide +kernel
theorem dX5_dummies_1 : dk cX5_dummies 1 2 (.istore_n 1) 1 := by unfold dk; decide +kernel
theorem dX5_dummies_2 : dk cX5_dummies 2 3 (.aload_n 0) 1 := by unfold dk; decide +kernel
theorem dX5_dummies_3 : dk cX5_dummies 3 6 (.getfield 15) 3 := by unfold dk; decide +kernel
theorem dX5_dummies_6 : dk cX5_dummies 6 7 (.istore_n 2) 1 := by unfold dk; decide +kernel
theorem dX5_dummies_7 : dk cX5_dummies 7 8 (.iload_n 2) 1 := by unfold dk; decide +kernel
theorem dX5_dummies_8 : dk cX5_dummies 8 9 (.aload_n 0) 1 := by unfold dk; decide +kernel
theorem dX5_dummies_9 : dk cX5_dummies 9 12 (.getfield 19) 3 := by unfold dk; decide +kernel
theorem dX5_dummies_15 : dk cX5_dummies 15 16 (.aload_n 0) 1 := by unfold dk; decide +kernel
theorem dX5_dummies_16 : dk cX5_dummies 16 19 (.getfield 9) 3 := by unfold dk; decide +kernel
theorem dX5_dummies_19 : dk cX5_dummies 19 20 (.iload_n 2) 1 := by unfold dk; decide +kernel
theorem dX5_dummies_20 : dk cX5_dummies 20 21 (.iaload) 1 := by unfold dk; decide +kernel
theorem dX5_dummies_21 : dk cX5_dummies 21 22 (.iconst (-1)) 1 := by unfold dk; decide +kernel
theorem dX5_dummies_22 : bk cX5_dummies 22 25 28 (.if_icmp .ne 6) (6) := by unfold bk; decide +kernel
theorem dX5_dummies_25 : dk cX5_dummies 25 28 (.iinc 1 1) 3 := by unfold dk; decide +kernel
theorem dX5_dummies_28 : dk cX5_dummies 28 31 (.iinc 2 1) 3 := by unfold dk; decide +kernel
theorem dX5_dummies_31 : bk cX5_dummies 31 34 7 (.goto (-24)) (-24) := by unfold bk; decide +kernel
theorem dX5_dummies_12 : bk cX5_dummies 12 15 34 (.if_icmp .ge 22) (22) := by unfold bk; decide +kernel
theorem dX5_dummies_34 : dk cX5_dummies 34 35 (.iload_n 1) 1 := by unfold dk; decide +kernel
theorem dX5_dummies_35 : dk cX5_dummies 35 36 (.ireturn) 1 := by unfold dk; decide +kernel
set_option maxHeartbeats 4000000 in
set_option maxRecDepth 100000 in
theorem kX5_dummies {l : Launch} {G : Gl} {E : En} {a0 : Nat} {σ σ' : Sg} {r : Int32} : fX5_dummies E a0 σ = some (r, σ') → CT l yX5_dummies cX5_dummies 3 (some .int) ({ frames := 0, cells := 0, slots := 0, locals := 0 } : Room) [.ref (G.1 + a0)] G E σ (some (.int r)) σ' := by
  intro h
  refine CT_of (lv0 := [(0, .ref (G.1 + a0))]) (by decide) (Nat.le_of_ble_eq_true rfl) rfl (fun κ hl hR hr C => ?_)
  have C : Cx κ G cX5_dummies RX5 3 := C
  revert h
  unfold fX5_dummies
  refine R_tk (fun ha0 => ?_)
  refine R_iconst C (0) dX5_dummies_0 (by decide) ?_
  refine R_istore_n (lv2 := [(1, .int (0 : Int32)), (0, .ref (G.1 + a0))]) C dX5_dummies_1 rfl (by decide) rfl ?_
  refine R_aload_n C 1 rfl dX5_dummies_2 ?_
  refine R_geti C fl5_15 rfl ha0 dX5_dummies_3 ?_
  refine S_istore_n C dX5_dummies_6 rfl (fun v1 => [(2, .int v1), (1, .int (0 : Int32)), (0, .ref (G.1 + a0))]) (by decide) (fun _ => rfl) (fun v1 => ?_)
  refine R_loc (lv2 := [(0, .ref (G.1 + a0)), (1, .int (0 : Int32)), (2, .int v1)]) [2, 1, 0] rfl ?_
  refine R_loop (fun (a : (Int32 × Int32) × Sg) => V κ G (QQ κ G E (some (.int r)) σ') E a.2 (false, 0, 0) 7 [(0, .ref (G.1 + a0)), (1, .int a.1.1), (2, .int a.1.2)] []) (fun (o : (Int32 × Int32)) (s : Sg) => V κ G (QQ κ G E (some (.int r)) σ') E s (false, 0, 0) 34 [(1, .int o.1)] []) (((0 : Int32), v1), σ) (fun o15 s16 => ?_) (fun rec I8 a b6 s7 K5 => ?_)
  · refine R_iload_n C 0 rfl dX5_dummies_34 ?_
    exact R_iret C hr dX5_dummies_35
  · obtain ⟨⟨v2, v3⟩, s4⟩ := a
    show bX5_dummies_7 E a0 (fun u0 u1 t => rec ((u0, u1), t)) v2 v3 s4 = some (b6, s7) → V κ G (QQ κ G E (some (.int r)) σ') E s4 (false, 0, 0) 7 [(0, .ref (G.1 + a0)), (1, .int v2), (2, .int v3)] []
    unfold bX5_dummies_7
    refine R_iload_n C 2 rfl dX5_dummies_7 ?_
    refine R_aload_n C 0 rfl dX5_dummies_8 ?_
    refine R_geti C fl5_19 rfl ha0 dX5_dummies_9 ?_
    refine B_icmp_ge C dX5_dummies_12 ?_ ?_
    · refine R_loc (lv2 := [(1, .int v2)]) [1] rfl ?_
      exact R_end (fun (o : (Int32 × Int32)) (s : Sg) => V κ G (QQ κ G E (some (.int r)) σ') E s (false, 0, 0) 34 [(1, .int o.1)] []) K5
    · refine R_aload_n C 0 rfl dX5_dummies_15 ?_
      refine R_dr (fun x9 rx9 cx9 => ?_)
      refine R_getr C fl5_9 rfl ha0 rx9 dX5_dummies_16 ?_
      refine R_iload_n C 2 rfl dX5_dummies_19 ?_
      refine R_ck (fun h10 => ?_)
      refine R_iald C cx9 h10 dX5_dummies_20 ?_
      refine R_iconst C (-1) dX5_dummies_21 (by decide) ?_
      refine R_bdK (fun (w : Int32) (s : Sg) => V κ G (QQ κ G E (some (.int r)) σ') E s (false, 0, 0) 28 [(0, .ref (G.1 + a0)), (2, .int v3), (1, .int w)] []) (fun w11 s12 => ?_) (fun w11 s12 Kw11 => ?_)
      · refine S_iinc (fun v14 => [(2, .int v14), (0, .ref (G.1 + a0)), (1, .int w11)]) 1 C dX5_dummies_28 rfl (by decide) (by decide) (fun _ => rfl) (fun v14 => ?_)
        refine R_goto C dX5_dummies_31 ?_
        refine R_loc (lv2 := [(0, .ref (G.1 + a0)), (1, .int w11), (2, .int v14)]) [1, 2, 0] rfl ?_
        exact I8 ((w11, v14), s12) b6 s7 K5
      · refine B_icmp_ne C dX5_dummies_22 ?_ ?_
        · refine R_loc (lv2 := [(0, .ref (G.1 + a0)), (2, .int v3), (1, .int v2)]) [0, 2, 1] rfl ?_
          exact R_end (fun (w : Int32) (s : Sg) => V κ G (QQ κ G E (some (.int r)) σ') E s (false, 0, 0) 28 [(0, .ref (G.1 + a0)), (2, .int v3), (1, .int w)] []) Kw11
        · refine S_iinc (fun v13 => [(1, .int v13), (0, .ref (G.1 + a0)), (2, .int v3)]) 1 C dX5_dummies_25 rfl (by decide) (by decide) (fun _ => rfl) (fun v13 => ?_)
          refine R_loc (lv2 := [(0, .ref (G.1 + a0)), (2, .int v3), (1, .int v13)]) [1, 2, 0] rfl ?_
          exact R_end (fun (w : Int32) (s : Sg) => V κ G (QQ κ G E (some (.int r)) σ') E s (false, 0, 0) 28 [(0, .ref (G.1 + a0)), (2, .int v3), (1, .int w)] []) Kw11
theorem dX5_at_0 : dk cX5_at 0 1 (.iload_n 1) 1 := by unfold dk; decide +kernel
theorem dX5_at_12 : dk cX5_at 12 14 (.bipush (-2)) 2 := by unfold dk; decide +kernel
theorem dX5_at_14 : dk cX5_at 14 15 (.ireturn) 1 := by unfold dk; decide +kernel
theorem dX5_at_4 : dk cX5_at 4 5 (.iload_n 1) 1 := by unfold dk; decide +kernel
theorem dX5_at_5 : dk cX5_at 5 6 (.aload_n 0) 1 := by unfold dk; decide +kernel
theorem dX5_at_6 : dk cX5_at 6 9 (.invokevirtual 28) 3 := by unfold dk; decide +kernel
theorem dX5_at_15 : dk cX5_at 15 16 (.aload_n 0) 1 := by unfold dk; decide +kernel
theorem dX5_at_16 : dk cX5_at 16 19 (.getfield 9) 3 := by unfold dk; decide +kernel
theorem dX5_at_19 : dk cX5_at 19 20 (.iload_n 2) 1 := by unfold dk; decide +kernel
theorem dX5_at_20 : bk cX5_at 20 23 34 (.ifCond .eq 14) (14) := by unfold bk; decide +kernel
theorem dX5_at_34 : dk cX5_at 34 35 (.aload_n 0) 1 := by unfold dk; decide +kernel
theorem dX5_at_35 : dk cX5_at 35 38 (.getfield 15) 3 := by unfold dk; decide +kernel
theorem dX5_at_38 : dk cX5_at 38 39 (.iload_n 1) 1 := by unfold dk; decide +kernel
theorem dX5_at_39 : dk cX5_at 39 40 (.iadd) 1 := by unfold dk; decide +kernel
theorem dX5_at_23 : dk cX5_at 23 24 (.aload_n 0) 1 := by unfold dk; decide +kernel
theorem dX5_at_24 : dk cX5_at 24 27 (.getfield 19) 3 := by unfold dk; decide +kernel
theorem dX5_at_27 : dk cX5_at 27 28 (.iconst 1) 1 := by unfold dk; decide +kernel
theorem dX5_at_28 : dk cX5_at 28 29 (.isub) 1 := by unfold dk; decide +kernel
theorem dX5_at_29 : dk cX5_at 29 30 (.iload_n 1) 1 := by unfold dk; decide +kernel
theorem dX5_at_30 : dk cX5_at 30 31 (.isub) 1 := by unfold dk; decide +kernel
theorem dX5_at_31 : bk cX5_at 31 34 40 (.goto 9) (9) := by unfold bk; decide +kernel
theorem dX5_at_40 : dk cX5_at 40 41 (.iaload) 1 := by unfold dk; decide +kernel
theorem dX5_at_41 : dk cX5_at 41 42 (.ireturn) 1 := by unfold dk; decide +kernel
theorem dX5_at_9 : bk cX5_at 9 12 15 (.if_icmp .lt 6) (6) := by unfold bk; decide +kernel
theorem dX5_at_1 : bk cX5_at 1 4 12 (.ifCond .lt 11) (11) := by unfold bk; decide +kernel
set_option maxHeartbeats 4000000 in
set_option maxRecDepth 100000 in
theorem kX5_at {l : Launch} {G : Gl} {E : En} {a0 : Nat} {a1 : Int32} {a2 : Int32} {σ σ' : Sg} {r : Int32} : fX5_at E a0 a1 a2 σ = some (r, σ') → CT l yX5_at cX5_at 3 (some .int) ({ frames := 1, cells := 0, slots := 0, locals := 20 } : Room) [.ref (G.1 + a0), .int a1, .int a2] G E σ (some (.int r)) σ' := by
  intro h
  refine CT_of (lv0 := [(0, .ref (G.1 + a0)), (1, .int a1), (2, .int a2)]) (by decide) (Nat.le_of_ble_eq_true rfl) rfl (fun κ hl hR hr C => ?_)
  have C : Cx κ G cX5_at RX5 3 := C
  revert h
  unfold fX5_at
  refine R_tk (fun ha0 => ?_)
  refine R_iload_n C 1 rfl dX5_at_0 ?_
  refine B_if_lt C dX5_at_1 ?_ ?_
  · refine R_bipush C (-2) dX5_at_12 (by decide) ?_
    exact R_iret C hr dX5_at_14
  · refine R_iload_n C 1 rfl dX5_at_4 ?_
    refine R_aload_n C 0 rfl dX5_at_5 ?_
    refine R_bd (fun r3 s1 q2 => ?_)
    refine R_callVi [] [.int a1] C ml5_28 (kX5_size q2) (by rw [hR]; exact ⟨rfl, rfl, Nat.le_of_ble_eq_true rfl, Nat.le_of_ble_eq_true rfl, Nat.zero_le _, Nat.zero_le _⟩) ha0 rfl rfl (Nat.le_of_ble_eq_true rfl) dX5_at_6 ?_
    refine B_icmp_lt C dX5_at_9 ?_ ?_
    · refine R_aload_n C 0 rfl dX5_at_15 ?_
      refine R_dr (fun x4 rx4 cx4 => ?_)
      refine R_getr C fl5_9 rfl ha0 rx4 dX5_at_16 ?_
      refine R_iload_n C 2 rfl dX5_at_19 ?_
      refine R_bdK (fun (w : Int32) (s : Sg) => V κ G (QQ κ G E (some (.int r)) σ') E s (false, 0, 0) 40 [] [.int w, .ref (G.1 + x4)]) (fun w5 s6 => ?_) (fun w5 s6 Kw5 => ?_)
      · refine R_ck (fun h7 => ?_)
        refine R_iald C cx4 h7 dX5_at_40 ?_
        exact R_iret C hr dX5_at_41
      · refine B_if_eq C dX5_at_20 ?_ ?_
        · refine R_aload_n C 0 rfl dX5_at_34 ?_
          refine R_geti C fl5_15 rfl ha0 dX5_at_35 ?_
          refine R_iload_n C 1 rfl dX5_at_38 ?_
          refine R_iadd C dX5_at_39 ?_
          refine R_loc (lv2 := []) [] rfl ?_
          exact R_end (fun (w : Int32) (s : Sg) => V κ G (QQ κ G E (some (.int r)) σ') E s (false, 0, 0) 40 [] [.int w, .ref (G.1 + x4)]) Kw5
        · refine R_aload_n C 0 rfl dX5_at_23 ?_
          refine R_geti C fl5_19 rfl ha0 dX5_at_24 ?_
          refine R_iconst C (1) dX5_at_27 (by decide) ?_
          refine R_isub C dX5_at_28 ?_
          refine R_iload_n C 1 rfl dX5_at_29 ?_
          refine R_isub C dX5_at_30 ?_
          refine R_goto C dX5_at_31 ?_
          refine R_loc (lv2 := []) [] rfl ?_
          exact R_end (fun (w : Int32) (s : Sg) => V κ G (QQ κ G E (some (.int r)) σ') E s (false, 0, 0) 40 [] [.int w, .ref (G.1 + x4)]) Kw5
    · refine R_bipush C (-2) dX5_at_12 (by decide) ?_
      exact R_iret C hr dX5_at_14
theorem dX5_write_0 : dk cX5_write 0 1 (.aload_n 0) 1 := by unfold dk; decide +kernel
theorem dX5_write_1 : dk cX5_write 1 4 (.getfield 19) 3 := by unfold dk; decide +kernel
theorem dX5_write_4 : dk cX5_write 4 7 (.sipush 256) 3 := by unfold dk; decide +kernel
theorem dX5_write_7 : bk cX5_write 7 10 30 (.if_icmp .ge 23) (23) := by unfold bk; decide +kernel
theorem dX5_write_10 : dk cX5_write 10 11 (.aload_n 0) 1 := by unfold dk; decide +kernel
theorem dX5_write_11 : dk cX5_write 11 14 (.getfield 9) 3 := by unfold dk; decide +kernel
theorem dX5_write_14 : dk cX5_write 14 15 (.aload_n 0) 1 := by unfold dk; decide +kernel
theorem dX5_write_15 : dk cX5_write 15 18 (.getfield 19) 3 := by unfold dk; decide +kernel
theorem dX5_write_18 : dk cX5_write 18 19 (.iload_n 1) 1 := by unfold dk; decide +kernel
theorem dX5_write_19 : dk cX5_write 19 20 (.iastore) 1 := by unfold dk; decide +kernel
theorem dX5_write_20 : dk cX5_write 20 21 (.aload_n 0) 1 := by unfold dk; decide +kernel
theorem dX5_write_21 : dk cX5_write 21 22 (.dup) 1 := by unfold dk; decide +kernel
theorem dX5_write_22 : dk cX5_write 22 25 (.getfield 19) 3 := by unfold dk; decide +kernel
theorem dX5_write_25 : dk cX5_write 25 26 (.iconst 1) 1 := by unfold dk; decide +kernel
theorem dX5_write_26 : dk cX5_write 26 27 (.iadd) 1 := by unfold dk; decide +kernel
theorem dX5_write_27 : dk cX5_write 27 30 (.putfield 19) 3 := by unfold dk; decide +kernel
theorem dX5_write_30 : dk cX5_write 30 31 (.return_) 1 := by unfold dk; decide +kernel
set_option maxHeartbeats 4000000 in
set_option maxRecDepth 100000 in
theorem kX5_write {l : Launch} {G : Gl} {E : En} {a0 : Nat} {a1 : Int32} {σ σ' : Sg} : fX5_write E a0 a1 σ = some σ' → CT l yX5_write cX5_write 2 none ({ frames := 0, cells := 0, slots := 0, locals := 0 } : Room) [.ref (G.1 + a0), .int a1] G E σ none σ' := by
  intro h
  refine CT_of (lv0 := [(0, .ref (G.1 + a0)), (1, .int a1)]) (by decide) (Nat.le_of_ble_eq_true rfl) rfl (fun κ hl hR hr C => ?_)
  have C : Cx κ G cX5_write RX5 2 := C
  revert h
  unfold fX5_write
  refine R_tk (fun ha0 => ?_)
  refine R_aload_n C 0 rfl dX5_write_0 ?_
  refine R_geti C fl5_19 rfl ha0 dX5_write_1 ?_
  refine R_sipush C (256) dX5_write_4 (by decide) ?_
  refine R_bdK (fun (w : Unit) (s : Sg) => V κ G (QQ κ G E none σ') E s (false, 0, 0) 30 [] []) (fun w1 s2 => ?_) (fun w1 s2 Kw1 => ?_)
  · exact R_vret C hr dX5_write_30
  · refine B_icmp_ge C dX5_write_7 ?_ ?_
    · refine R_loc (lv2 := []) [] rfl ?_
      exact R_end (fun (w : Unit) (s : Sg) => V κ G (QQ κ G E none σ') E s (false, 0, 0) 30 [] []) Kw1
    · refine R_aload_n C 0 rfl dX5_write_10 ?_
      refine R_dr (fun x3 rx3 cx3 => ?_)
      refine R_getr C fl5_9 rfl ha0 rx3 dX5_write_11 ?_
      refine R_aload_n C 0 rfl dX5_write_14 ?_
      refine R_geti C fl5_19 rfl ha0 dX5_write_15 ?_
      refine R_iload_n C 1 rfl dX5_write_18 ?_
      refine R_ck (fun h4 => ?_)
      refine S_iast C cx3 h4 dX5_write_19 (fun s5 => ?_)
      refine R_aload_n C 0 rfl dX5_write_20 ?_
      refine R_dup C dX5_write_21 rfl ?_
      refine R_geti C fl5_19 rfl ha0 dX5_write_22 ?_
      refine R_iconst C (1) dX5_write_25 (by decide) ?_
      refine R_iadd C dX5_write_26 ?_
      refine S_puti C fl5_19 rfl ha0 rfl rfl dX5_write_27 (fun s6 => ?_)
      refine R_loc (lv2 := []) [] rfl ?_
      exact R_end (fun (w : Unit) (s : Sg) => V κ G (QQ κ G E none σ') E s (false, 0, 0) 30 [] []) Kw1
theorem dX5_drop_0 : dk cX5_drop 0 1 (.aload_n 0) 1 := by unfold dk; decide +kernel
theorem dX5_drop_1 : dk cX5_drop 1 4 (.getfield 15) 3 := by unfold dk; decide +kernel
theorem dX5_drop_4 : dk cX5_drop 4 5 (.aload_n 0) 1 := by unfold dk; decide +kernel
theorem dX5_drop_5 : dk cX5_drop 5 8 (.getfield 19) 3 := by unfold dk; decide +kernel
theorem dX5_drop_12 : dk cX5_drop 12 13 (.iload_n 1) 1 := by unfold dk; decide +kernel
theorem dX5_drop_13 : bk cX5_drop 13 16 29 (.ifCond .eq 16) (16) := by unfold bk; decide +kernel
theorem dX5_drop_29 : dk cX5_drop 29 30 (.aload_n 0) 1 := by unfold dk; decide +kernel
theorem dX5_drop_30 : dk cX5_drop 30 31 (.dup) 1 := by unfold dk; decide +kernel
theorem dX5_drop_31 : dk cX5_drop 31 34 (.getfield 15) 3 := by unfold dk; decide +kernel
theorem dX5_drop_34 : dk cX5_drop 34 35 (.iconst 1) 1 := by unfold dk; decide +kernel
theorem dX5_drop_35 : dk cX5_drop 35 36 (.iadd) 1 := by unfold dk; decide +kernel
theorem dX5_drop_36 : dk cX5_drop 36 39 (.putfield 15) 3 := by unfold dk; decide +kernel
theorem dX5_drop_16 : dk cX5_drop 16 17 (.aload_n 0) 1 := by unfold dk; decide +kernel
theorem dX5_drop_17 : dk cX5_drop 17 18 (.dup) 1 := by unfold dk; decide +kernel
theorem dX5_drop_18 : dk cX5_drop 18 21 (.getfield 19) 3 := by unfold dk; decide +kernel
theorem dX5_drop_21 : dk cX5_drop 21 22 (.iconst 1) 1 := by unfold dk; decide +kernel
theorem dX5_drop_22 : dk cX5_drop 22 23 (.isub) 1 := by unfold dk; decide +kernel
theorem dX5_drop_23 : dk cX5_drop 23 26 (.putfield 19) 3 := by unfold dk; decide +kernel
theorem dX5_drop_26 : bk cX5_drop 26 29 39 (.goto 13) (13) := by unfold bk; decide +kernel
theorem dX5_drop_39 : dk cX5_drop 39 40 (.aload_n 0) 1 := by unfold dk; decide +kernel
theorem dX5_drop_40 : dk cX5_drop 40 43 (.getfield 15) 3 := by unfold dk; decide +kernel
theorem dX5_drop_43 : dk cX5_drop 43 44 (.aload_n 0) 1 := by unfold dk; decide +kernel
theorem dX5_drop_44 : dk cX5_drop 44 47 (.getfield 19) 3 := by unfold dk; decide +kernel
theorem dX5_drop_47 : bk cX5_drop 47 50 54 (.if_icmp .ne 7) (7) := by unfold bk; decide +kernel
theorem dX5_drop_50 : dk cX5_drop 50 51 (.aload_n 0) 1 := by unfold dk; decide +kernel
theorem dX5_drop_51 : dk cX5_drop 51 54 (.invokevirtual 32) 3 := by unfold dk; decide +kernel
theorem dX5_drop_54 : dk cX5_drop 54 55 (.return_) 1 := by unfold dk; decide +kernel
theorem dX5_drop_11 : dk cX5_drop 11 12 (.return_) 1 := by unfold dk; decide +kernel
theorem dX5_drop_8 : bk cX5_drop 8 11 12 (.if_icmp .lt 4) (4) := by unfold bk; decide +kernel
set_option maxHeartbeats 4000000 in
set_option maxRecDepth 100000 in
theorem kX5_drop {l : Launch} {G : Gl} {E : En} {a0 : Nat} {a1 : Int32} {σ σ' : Sg} : fX5_drop E a0 a1 σ = some σ' → CT l yX5_drop cX5_drop 2 none ({ frames := 1, cells := 0, slots := 0, locals := 20 } : Room) [.ref (G.1 + a0), .int a1] G E σ none σ' := by
  intro h
  refine CT_of (lv0 := [(0, .ref (G.1 + a0)), (1, .int a1)]) (by decide) (Nat.le_of_ble_eq_true rfl) rfl (fun κ hl hR hr C => ?_)
  have C : Cx κ G cX5_drop RX5 2 := C
  revert h
  unfold fX5_drop
  refine R_tk (fun ha0 => ?_)
  refine R_aload_n C 0 rfl dX5_drop_0 ?_
  refine R_geti C fl5_15 rfl ha0 dX5_drop_1 ?_
  refine R_aload_n C 0 rfl dX5_drop_4 ?_
  refine R_geti C fl5_19 rfl ha0 dX5_drop_5 ?_
  refine B_icmp_lt C dX5_drop_8 ?_ ?_
  · refine R_iload_n C 1 rfl dX5_drop_12 ?_
    refine R_bdK (fun (w : Unit) (s : Sg) => V κ G (QQ κ G E none σ') E s (false, 0, 0) 39 [(0, .ref (G.1 + a0))] []) (fun w1 s2 => ?_) (fun w1 s2 Kw1 => ?_)
    · refine R_aload_n C 0 rfl dX5_drop_39 ?_
      refine R_geti C fl5_15 rfl ha0 dX5_drop_40 ?_
      refine R_aload_n C 0 rfl dX5_drop_43 ?_
      refine R_geti C fl5_19 rfl ha0 dX5_drop_44 ?_
      refine R_bdK (fun (w : Unit) (s : Sg) => V κ G (QQ κ G E none σ') E s (false, 0, 0) 54 [] []) (fun w5 s6 => ?_) (fun w5 s6 Kw5 => ?_)
      · exact R_vret C hr dX5_drop_54
      · refine B_icmp_ne C dX5_drop_47 ?_ ?_
        · refine R_loc (lv2 := []) [] rfl ?_
          exact R_end (fun (w : Unit) (s : Sg) => V κ G (QQ κ G E none σ') E s (false, 0, 0) 54 [] []) Kw5
        · refine R_aload_n C 0 rfl dX5_drop_50 ?_
          refine R_bv (fun s7 q8 => ?_)
          refine R_callVv [] [] C ml5_32 (kX5_wipe q8) (by rw [hR]; exact ⟨rfl, rfl, Nat.le_of_ble_eq_true rfl, Nat.le_of_ble_eq_true rfl, Nat.zero_le _, Nat.zero_le _⟩) ha0 rfl rfl (Nat.le_of_ble_eq_true rfl) dX5_drop_51 ?_
          refine R_loc (lv2 := []) [] rfl ?_
          exact R_end (fun (w : Unit) (s : Sg) => V κ G (QQ κ G E none σ') E s (false, 0, 0) 54 [] []) Kw5
    · refine B_if_eq C dX5_drop_13 ?_ ?_
      · refine R_aload_n C 0 rfl dX5_drop_29 ?_
        refine R_dup C dX5_drop_30 rfl ?_
        refine R_geti C fl5_15 rfl ha0 dX5_drop_31 ?_
        refine R_iconst C (1) dX5_drop_34 (by decide) ?_
        refine R_iadd C dX5_drop_35 ?_
        refine S_puti C fl5_15 rfl ha0 rfl rfl dX5_drop_36 (fun s3 => ?_)
        refine R_loc (lv2 := [(0, .ref (G.1 + a0))]) [0] rfl ?_
        exact R_end (fun (w : Unit) (s : Sg) => V κ G (QQ κ G E none σ') E s (false, 0, 0) 39 [(0, .ref (G.1 + a0))] []) Kw1
      · refine R_aload_n C 0 rfl dX5_drop_16 ?_
        refine R_dup C dX5_drop_17 rfl ?_
        refine R_geti C fl5_19 rfl ha0 dX5_drop_18 ?_
        refine R_iconst C (1) dX5_drop_21 (by decide) ?_
        refine R_isub C dX5_drop_22 ?_
        refine S_puti C fl5_19 rfl ha0 rfl rfl dX5_drop_23 (fun s4 => ?_)
        refine R_goto C dX5_drop_26 ?_
        refine R_loc (lv2 := [(0, .ref (G.1 + a0))]) [0] rfl ?_
        exact R_end (fun (w : Unit) (s : Sg) => V κ G (QQ κ G E none σ') E s (false, 0, 0) 39 [(0, .ref (G.1 + a0))] []) Kw1
  · exact R_vret C hr dX5_drop_11
