theorem dX2_ground_0 : dk cX2_ground 0 1 (.aload_n 0) 1 := by unfold dk; decide +kernel
theorem dX2_ground_1 : dk cX2_ground 1 2 (.iconst 1) 1 := by unfold dk; decide +kernel
theorem dX2_ground_2 : dk cX2_ground 2 3 (.iload_n 1) 1 := by unfold dk; decide +kernel
theorem dX2_ground_3 : dk cX2_ground 3 4 (.iconst 5) 1 := by unfold dk; decide +kernel
theorem dX2_ground_4 : dk cX2_ground 4 7 (.invokestatic 15) 3 := by unfold dk; decide +kernel
theorem dX2_ground_7 : dk cX2_ground 7 10 (.invokestatic 21) 3 := by unfold dk; decide +kernel
theorem dX2_ground_10 : dk cX2_ground 10 13 (.putfield 24) 3 := by unfold dk; decide +kernel
theorem dX2_ground_13 : dk cX2_ground 13 14 (.aload_n 0) 1 := by unfold dk; decide +kernel
theorem dX2_ground_14 : dk cX2_ground 14 15 (.iconst 0) 1 := by unfold dk; decide +kernel
theorem dX2_ground_15 : dk cX2_ground 15 18 (.putfield 28) 3 := by unfold dk; decide +kernel
theorem dX2_ground_18 : dk cX2_ground 18 19 (.iconst 0) 1 := by unfold dk; decide +kernel
theorem dX2_ground_19 : dk cX2_ground 19 20 (.istore_n 2) 1 := by unfold dk; decide +kernel
theorem dX2_ground_20 : dk cX2_ground 20 21 (.iload_n 2) 1 := by unfold dk; decide +kernel
theorem dX2_ground_21 : dk cX2_ground 21 22 (.aload_n 0) 1 := by unfold dk; decide +kernel
theorem dX2_ground_22 : dk cX2_ground 22 25 (.getfield 24) 3 := by unfold dk; decide +kernel
theorem dX2_ground_28 : dk cX2_ground 28 29 (.aload_n 0) 1 := by unfold dk; decide +kernel
theorem dX2_ground_29 : dk cX2_ground 29 32 (.getfield 9) 3 := by unfold dk; decide +kernel
theorem dX2_ground_32 : dk cX2_ground 32 33 (.iload_n 2) 1 := by unfold dk; decide +kernel
theorem dX2_ground_33 : dk cX2_ground 33 34 (.iload_n 2) 1 := by unfold dk; decide +kernel
theorem dX2_ground_34 : bk cX2_ground 34 37 41 (.ifCond .ne 7) (7) := by unfold bk; decide +kernel
theorem dX2_ground_41 : dk cX2_ground 41 42 (.iconst 0) 1 := by unfold dk; decide +kernel
theorem dX2_ground_37 : dk cX2_ground 37 38 (.iconst 1) 1 := by unfold dk; decide +kernel
theorem dX2_ground_38 : bk cX2_ground 38 41 42 (.goto 4) (4) := by unfold bk; decide +kernel
theorem dX2_ground_42 : dk cX2_ground 42 43 (.iastore) 1 := by unfold dk; decide +kernel
theorem dX2_ground_43 : dk cX2_ground 43 46 (.iinc 2 1) 3 := by unfold dk; decide +kernel
theorem dX2_ground_46 : bk cX2_ground 46 49 20 (.goto (-26)) (-26) := by unfold bk; decide +kernel
theorem dX2_ground_25 : bk cX2_ground 25 28 49 (.if_icmp .ge 24) (24) := by unfold bk; decide +kernel
theorem dX2_ground_49 : dk cX2_ground 49 50 (.return_) 1 := by unfold dk; decide +kernel
set_option maxHeartbeats 4000000 in
set_option maxRecDepth 100000 in
theorem kX2_ground {l : Launch} {G : Gl} {E : En} {a0 : Nat} {a1 : Int32} {σ σ' : Sg} : fX2_ground E a0 a1 σ = some σ' → CT l yX2_ground cX2_ground 3 none ({ frames := 1, cells := 0, slots := 0, locals := 21 } : Room) [.ref (G.1 + a0), .int a1] G E σ none σ' := by
  intro h
  refine CT_of (lv0 := [(0, .ref (G.1 + a0)), (1, .int a1)]) (by decide) (Nat.le_of_ble_eq_true rfl) rfl (fun κ hl hR hr C => ?_)
  have C : Cx κ G cX2_ground RX2 3 := C
  revert h
  unfold fX2_ground
  refine R_tk (fun ha0 => ?_)
  refine R_aload_n C 0 rfl dX2_ground_0 ?_
  refine R_iconst C (1) dX2_ground_1 (by decide) ?_
  refine R_iload_n C 1 rfl dX2_ground_2 ?_
  refine R_iconst C (5) dX2_ground_3 (by decide) ?_
  refine R_mmin C jd2_15 (by rw [hR]; exact ⟨Nat.le_of_ble_eq_true rfl, Nat.le_of_ble_eq_true rfl, Nat.zero_le _, Nat.zero_le _⟩) dX2_ground_4 ?_
  refine R_mmax C jd2_21 (by rw [hR]; exact ⟨Nat.le_of_ble_eq_true rfl, Nat.le_of_ble_eq_true rfl, Nat.zero_le _, Nat.zero_le _⟩) dX2_ground_7 ?_
  refine S_puti C fl2_24 rfl ha0 rfl rfl dX2_ground_10 (fun s1 => ?_)
  refine R_aload_n C 0 rfl dX2_ground_13 ?_
  refine R_iconst C (0) dX2_ground_14 (by decide) ?_
  refine S_puti C fl2_28 rfl ha0 rfl rfl dX2_ground_15 (fun s2 => ?_)
  refine R_iconst C (0) dX2_ground_18 (by decide) ?_
  refine R_istore_n (lv2 := [(2, .int (0 : Int32)), (0, .ref (G.1 + a0)), (1, .int a1)]) C dX2_ground_19 rfl (by decide) rfl ?_
  refine R_loc (lv2 := [(0, .ref (G.1 + a0)), (2, .int (0 : Int32))]) [1, 0] rfl ?_
  refine R_loop (fun (a : (Int32) × Sg) => V κ G (QQ κ G E none σ') E a.2 (false, 0, 0) 20 [(0, .ref (G.1 + a0)), (2, .int a.1)] []) (fun (o : (Int32)) (s : Sg) => V κ G (QQ κ G E none σ') E s (false, 0, 0) 49 [] []) ((0 : Int32), s2) (fun o15 s16 => ?_) (fun rec I8 a b6 s7 K5 => ?_)
  · exact R_vret C hr dX2_ground_49
  · obtain ⟨v3, s4⟩ := a
    show bX2_ground_20 E a0 (fun u0 t => rec (u0, t)) v3 s4 = some (b6, s7) → V κ G (QQ κ G E none σ') E s4 (false, 0, 0) 20 [(0, .ref (G.1 + a0)), (2, .int v3)] []
    unfold bX2_ground_20
    refine R_iload_n C 1 rfl dX2_ground_20 ?_
    refine R_aload_n C 0 rfl dX2_ground_21 ?_
    refine R_geti C fl2_24 rfl ha0 dX2_ground_22 ?_
    refine B_icmp_ge C dX2_ground_25 ?_ ?_
    · refine R_loc (lv2 := []) [] rfl ?_
      exact R_end (fun (o : (Int32)) (s : Sg) => V κ G (QQ κ G E none σ') E s (false, 0, 0) 49 [] []) K5
    · refine R_aload_n C 0 rfl dX2_ground_28 ?_
      refine R_dr (fun x9 rx9 cx9 => ?_)
      refine R_getr C fl2_9 rfl ha0 rx9 dX2_ground_29 ?_
      refine R_iload_n C 1 rfl dX2_ground_32 ?_
      refine R_iload_n C 1 rfl dX2_ground_33 ?_
      refine R_bdK (fun (w : Int32) (s : Sg) => V κ G (QQ κ G E none σ') E s (false, 0, 0) 42 [(0, .ref (G.1 + a0)), (2, .int v3)] [.int w, .int v3, .ref (G.1 + x9)]) (fun w10 s11 => ?_) (fun w10 s11 Kw10 => ?_)
      · refine R_ck (fun h12 => ?_)
        refine S_iast C cx9 h12 dX2_ground_42 (fun s13 => ?_)
        refine S_iinc (fun v14 => [(2, .int v14), (0, .ref (G.1 + a0))]) 1 C dX2_ground_43 rfl (by decide) (by decide) (fun _ => rfl) (fun v14 => ?_)
        refine R_goto C dX2_ground_46 ?_
        refine R_loc (lv2 := [(0, .ref (G.1 + a0)), (2, .int v14)]) [1, 0] rfl ?_
        exact I8 (v14, s13) b6 s7 K5
      · refine B_if_ne C dX2_ground_34 ?_ ?_
        · refine R_iconst C (0) dX2_ground_41 (by decide) ?_
          exact R_end (fun (w : Int32) (s : Sg) => V κ G (QQ κ G E none σ') E s (false, 0, 0) 42 [(0, .ref (G.1 + a0)), (2, .int v3)] [.int w, .int v3, .ref (G.1 + x9)]) Kw10
        · refine R_iconst C (1) dX2_ground_37 (by decide) ?_
          refine R_goto C dX2_ground_38 ?_
          exact R_end (fun (w : Int32) (s : Sg) => V κ G (QQ κ G E none σ') E s (false, 0, 0) 42 [(0, .ref (G.1 + a0)), (2, .int v3)] [.int w, .int v3, .ref (G.1 + x9)]) Kw10
theorem dX2_climbCascade_0 : dk cX2_climbCascade 0 1 (.iconst 1) 1 := by unfold dk; decide +kernel
theorem dX2_climbCascade_1 : dk cX2_climbCascade 1 2 (.istore_n 1) 1 := by unfold dk; decide +kernel
theorem dX2_climbCascade_2 : dk cX2_climbCascade 2 3 (.iload_n 1) 1 := by unfold dk; decide +kernel
theorem dX2_climbCascade_3 : dk cX2_climbCascade 3 4 (.aload_n 0) 1 := by unfold dk; decide +kernel
theorem dX2_climbCascade_4 : dk cX2_climbCascade 4 7 (.getfield 24) 3 := by unfold dk; decide +kernel
theorem dX2_climbCascade_10 : dk cX2_climbCascade 10 11 (.aload_n 0) 1 := by unfold dk; decide +kernel
theorem dX2_climbCascade_11 : dk cX2_climbCascade 11 14 (.getfield 9) 3 := by unfold dk; decide +kernel
theorem dX2_climbCascade_14 : dk cX2_climbCascade 14 15 (.iload_n 1) 1 := by unfold dk; decide +kernel
theorem dX2_climbCascade_15 : dk cX2_climbCascade 15 16 (.dup2) 1 := by unfold dk; decide +kernel
theorem dX2_climbCascade_16 : dk cX2_climbCascade 16 17 (.iaload) 1 := by unfold dk; decide +kernel
theorem dX2_climbCascade_17 : dk cX2_climbCascade 17 18 (.aload_n 0) 1 := by unfold dk; decide +kernel
theorem dX2_climbCascade_18 : dk cX2_climbCascade 18 21 (.getfield 9) 3 := by unfold dk; decide +kernel
theorem dX2_climbCascade_21 : dk cX2_climbCascade 21 22 (.iload_n 1) 1 := by unfold dk; decide +kernel
theorem dX2_climbCascade_22 : dk cX2_climbCascade 22 23 (.iconst 1) 1 := by unfold dk; decide +kernel
theorem dX2_climbCascade_23 : dk cX2_climbCascade 23 24 (.isub) 1 := by unfold dk; decide +kernel
theorem dX2_climbCascade_24 : dk cX2_climbCascade 24 25 (.iaload) 1 := by unfold dk; decide +kernel
theorem dX2_climbCascade_25 : dk cX2_climbCascade 25 26 (.iadd) 1 := by unfold dk; decide +kernel
theorem dX2_climbCascade_26 : dk cX2_climbCascade 26 27 (.iastore) 1 := by unfold dk; decide +kernel
theorem dX2_climbCascade_27 : dk cX2_climbCascade 27 30 (.iinc 1 1) 3 := by unfold dk; decide +kernel
theorem dX2_climbCascade_30 : bk cX2_climbCascade 30 33 2 (.goto (-28)) (-28) := by unfold bk; decide +kernel
theorem dX2_climbCascade_7 : bk cX2_climbCascade 7 10 33 (.if_icmp .ge 26) (26) := by unfold bk; decide +kernel
theorem dX2_climbCascade_33 : dk cX2_climbCascade 33 34 (.iconst 0) 1 := by unfold dk; decide +kernel
theorem dX2_climbCascade_34 : dk cX2_climbCascade 34 35 (.istore_n 1) 1 := by unfold dk; decide +kernel
theorem dX2_climbCascade_35 : dk cX2_climbCascade 35 36 (.iload_n 1) 1 := by unfold dk; decide +kernel
theorem dX2_climbCascade_36 : dk cX2_climbCascade 36 37 (.aload_n 0) 1 := by unfold dk; decide +kernel
theorem dX2_climbCascade_37 : dk cX2_climbCascade 37 40 (.getfield 24) 3 := by unfold dk; decide +kernel
theorem dX2_climbCascade_40 : dk cX2_climbCascade 40 41 (.iconst 2) 1 := by unfold dk; decide +kernel
theorem dX2_climbCascade_41 : dk cX2_climbCascade 41 42 (.idiv) 1 := by unfold dk; decide +kernel
theorem dX2_climbCascade_45 : dk cX2_climbCascade 45 46 (.aload_n 0) 1 := by unfold dk; decide +kernel
theorem dX2_climbCascade_46 : dk cX2_climbCascade 46 49 (.getfield 9) 3 := by unfold dk; decide +kernel
theorem dX2_climbCascade_49 : dk cX2_climbCascade 49 50 (.aload_n 0) 1 := by unfold dk; decide +kernel
theorem dX2_climbCascade_50 : dk cX2_climbCascade 50 53 (.getfield 24) 3 := by unfold dk; decide +kernel
theorem dX2_climbCascade_53 : dk cX2_climbCascade 53 54 (.iconst 1) 1 := by unfold dk; decide +kernel
theorem dX2_climbCascade_54 : dk cX2_climbCascade 54 55 (.isub) 1 := by unfold dk; decide +kernel
theorem dX2_climbCascade_55 : dk cX2_climbCascade 55 56 (.iload_n 1) 1 := by unfold dk; decide +kernel
theorem dX2_climbCascade_56 : dk cX2_climbCascade 56 57 (.isub) 1 := by unfold dk; decide +kernel
theorem dX2_climbCascade_57 : dk cX2_climbCascade 57 58 (.iaload) 1 := by unfold dk; decide +kernel
theorem dX2_climbCascade_58 : dk cX2_climbCascade 58 59 (.istore_n 2) 1 := by unfold dk; decide +kernel
theorem dX2_climbCascade_59 : dk cX2_climbCascade 59 60 (.aload_n 0) 1 := by unfold dk; decide +kernel
theorem dX2_climbCascade_60 : dk cX2_climbCascade 60 63 (.getfield 9) 3 := by unfold dk; decide +kernel
theorem dX2_climbCascade_63 : dk cX2_climbCascade 63 64 (.aload_n 0) 1 := by unfold dk; decide +kernel
theorem dX2_climbCascade_64 : dk cX2_climbCascade 64 67 (.getfield 24) 3 := by unfold dk; decide +kernel
theorem dX2_climbCascade_67 : dk cX2_climbCascade 67 68 (.iconst 1) 1 := by unfold dk; decide +kernel
theorem dX2_climbCascade_68 : dk cX2_climbCascade 68 69 (.isub) 1 := by unfold dk; decide +kernel
theorem dX2_climbCascade_69 : dk cX2_climbCascade 69 70 (.iload_n 1) 1 := by unfold dk; decide +kernel
theorem dX2_climbCascade_70 : dk cX2_climbCascade 70 71 (.isub) 1 := by unfold dk; decide +kernel
theorem dX2_climbCascade_71 : dk cX2_climbCascade 71 72 (.aload_n 0) 1 := by unfold dk; decide +kernel
theorem dX2_climbCascade_72 : dk cX2_climbCascade 72 75 (.getfield 9) 3 := by unfold dk; decide +kernel
theorem dX2_climbCascade_75 : dk cX2_climbCascade 75 76 (.iload_n 1) 1 := by unfold dk; decide +kernel
theorem dX2_climbCascade_76 : dk cX2_climbCascade 76 77 (.iaload) 1 := by unfold dk; decide +kernel
theorem dX2_climbCascade_77 : dk cX2_climbCascade 77 78 (.iastore) 1 := by unfold dk; decide +kernel
theorem dX2_climbCascade_78 : dk cX2_climbCascade 78 79 (.aload_n 0) 1 := by unfold dk; decide +kernel
theorem dX2_climbCascade_79 : dk cX2_climbCascade 79 82 (.getfield 9) 3 := by unfold dk; decide +kernel
theorem dX2_climbCascade_82 : dk cX2_climbCascade 82 83 (.iload_n 1) 1 := by unfold dk; decide +kernel
theorem dX2_climbCascade_83 : dk cX2_climbCascade 83 84 (.iload_n 2) 1 := by unfold dk; decide +kernel
theorem dX2_climbCascade_84 : dk cX2_climbCascade 84 85 (.iastore) 1 := by unfold dk; decide +kernel
theorem dX2_climbCascade_85 : dk cX2_climbCascade 85 88 (.iinc 1 1) 3 := by unfold dk; decide +kernel
theorem dX2_climbCascade_88 : bk cX2_climbCascade 88 91 35 (.goto (-53)) (-53) := by unfold bk; decide +kernel
theorem dX2_climbCascade_42 : bk cX2_climbCascade 42 45 91 (.if_icmp .ge 49) (49) := by unfold bk; decide +kernel
theorem dX2_climbCascade_91 : dk cX2_climbCascade 91 92 (.return_) 1 := by unfold dk; decide +kernel
set_option maxHeartbeats 4000000 in
set_option maxRecDepth 100000 in
theorem kX2_climbCascade {l : Launch} {G : Gl} {E : En} {a0 : Nat} {σ σ' : Sg} : fX2_climbCascade E a0 σ = some σ' → CT l yX2_climbCascade cX2_climbCascade 3 none ({ frames := 0, cells := 0, slots := 0, locals := 0 } : Room) [.ref (G.1 + a0)] G E σ none σ' := by
  intro h
  refine CT_of (lv0 := [(0, .ref (G.1 + a0))]) (by decide) (Nat.le_of_ble_eq_true rfl) rfl (fun κ hl hR hr C => ?_)
  have C : Cx κ G cX2_climbCascade RX2 3 := C
  revert h
  unfold fX2_climbCascade
  refine R_tk (fun ha0 => ?_)
  refine R_iconst C (1) dX2_climbCascade_0 (by decide) ?_
  refine R_istore_n (lv2 := [(1, .int (1 : Int32)), (0, .ref (G.1 + a0))]) C dX2_climbCascade_1 rfl (by decide) rfl ?_
  refine R_loc (lv2 := [(0, .ref (G.1 + a0)), (1, .int (1 : Int32))]) [1, 0] rfl ?_
  refine R_loop (fun (a : (Int32) × Sg) => V κ G (QQ κ G E none σ') E a.2 (false, 0, 0) 2 [(0, .ref (G.1 + a0)), (1, .int a.1)] []) (fun (o : (Int32)) (s : Sg) => V κ G (QQ κ G E none σ') E s (false, 0, 0) 33 [(0, .ref (G.1 + a0))] []) ((1 : Int32), σ) (fun o13 s14 => ?_) (fun rec I6 a b4 s5 K3 => ?_)
  · refine R_iconst C (0) dX2_climbCascade_33 (by decide) ?_
    refine R_istore_n (lv2 := [(1, .int (0 : Int32)), (0, .ref (G.1 + a0))]) C dX2_climbCascade_34 rfl (by decide) rfl ?_
    refine R_loc (lv2 := [(0, .ref (G.1 + a0)), (1, .int (0 : Int32))]) [1, 0] rfl ?_
    refine R_loop (fun (a : (Int32) × Sg) => V κ G (QQ κ G E none σ') E a.2 (false, 0, 0) 35 [(0, .ref (G.1 + a0)), (1, .int a.1)] []) (fun (o : (Int32)) (s : Sg) => V κ G (QQ κ G E none σ') E s (false, 0, 0) 91 [] []) ((0 : Int32), s14) (fun o30 s31 => ?_) (fun rec I20 a b18 s19 K17 => ?_)
    · exact R_vret C hr dX2_climbCascade_91
    · obtain ⟨v15, s16⟩ := a
      show bX2_climbCascade_35 E a0 (fun u0 t => rec (u0, t)) v15 s16 = some (b18, s19) → V κ G (QQ κ G E none σ') E s16 (false, 0, 0) 35 [(0, .ref (G.1 + a0)), (1, .int v15)] []
      unfold bX2_climbCascade_35
      refine R_iload_n C 1 rfl dX2_climbCascade_35 ?_
      refine R_aload_n C 0 rfl dX2_climbCascade_36 ?_
      refine R_geti C fl2_24 rfl ha0 dX2_climbCascade_37 ?_
      refine R_iconst C (2) dX2_climbCascade_40 (by decide) ?_
      refine R_idiv C dX2_climbCascade_41 (by decide) ?_
      refine B_icmp_ge C dX2_climbCascade_42 ?_ ?_
      · refine R_loc (lv2 := []) [] rfl ?_
        exact R_end (fun (o : (Int32)) (s : Sg) => V κ G (QQ κ G E none σ') E s (false, 0, 0) 91 [] []) K17
      · refine R_aload_n C 0 rfl dX2_climbCascade_45 ?_
        refine R_dr (fun x21 rx21 cx21 => ?_)
        refine R_getr C fl2_9 rfl ha0 rx21 dX2_climbCascade_46 ?_
        refine R_aload_n C 0 rfl dX2_climbCascade_49 ?_
        refine R_geti C fl2_24 rfl ha0 dX2_climbCascade_50 ?_
        refine R_iconst C (1) dX2_climbCascade_53 (by decide) ?_
        refine R_isub C dX2_climbCascade_54 ?_
        refine R_iload_n C 1 rfl dX2_climbCascade_55 ?_
        refine R_isub C dX2_climbCascade_56 ?_
        refine R_ck (fun h22 => ?_)
        refine R_iald C cx21 h22 dX2_climbCascade_57 ?_
        refine S_istore_n C dX2_climbCascade_58 rfl (fun v23 => [(2, .int v23), (0, .ref (G.1 + a0)), (1, .int v15)]) (by decide) (fun _ => rfl) (fun v23 => ?_)
        refine R_aload_n C 1 rfl dX2_climbCascade_59 ?_
        refine R_getr C fl2_9 rfl ha0 rx21 dX2_climbCascade_60 ?_
        refine R_aload_n C 1 rfl dX2_climbCascade_63 ?_
        refine R_geti C fl2_24 rfl ha0 dX2_climbCascade_64 ?_
        refine R_iconst C (1) dX2_climbCascade_67 (by decide) ?_
        refine R_isub C dX2_climbCascade_68 ?_
        refine R_iload_n C 2 rfl dX2_climbCascade_69 ?_
        refine R_isub C dX2_climbCascade_70 ?_
        refine R_aload_n C 1 rfl dX2_climbCascade_71 ?_
        refine R_getr C fl2_9 rfl ha0 rx21 dX2_climbCascade_72 ?_
        refine R_iload_n C 2 rfl dX2_climbCascade_75 ?_
        refine R_ck (fun h24 => ?_)
        refine R_iald C cx21 h24 dX2_climbCascade_76 ?_
        refine R_ck (fun h25 => ?_)
        refine S_iast C cx21 h25 dX2_climbCascade_77 (fun s26 => ?_)
        refine R_aload_n C 1 rfl dX2_climbCascade_78 ?_
        refine R_getr C fl2_9 rfl ha0 rx21 dX2_climbCascade_79 ?_
        refine R_iload_n C 2 rfl dX2_climbCascade_82 ?_
        refine R_iload_n C 0 rfl dX2_climbCascade_83 ?_
        refine R_ck (fun h27 => ?_)
        refine S_iast C cx21 h27 dX2_climbCascade_84 (fun s28 => ?_)
        refine S_iinc (fun v29 => [(1, .int v29), (2, .int v23), (0, .ref (G.1 + a0))]) 2 C dX2_climbCascade_85 rfl (by decide) (by decide) (fun _ => rfl) (fun v29 => ?_)
        refine R_goto C dX2_climbCascade_88 ?_
        refine R_loc (lv2 := [(0, .ref (G.1 + a0)), (1, .int v29)]) [2, 0] rfl ?_
        exact I20 (v29, s28) b18 s19 K17
  · obtain ⟨v1, s2⟩ := a
    show bX2_climbCascade_2 E a0 (fun u0 t => rec (u0, t)) v1 s2 = some (b4, s5) → V κ G (QQ κ G E none σ') E s2 (false, 0, 0) 2 [(0, .ref (G.1 + a0)), (1, .int v1)] []
    unfold bX2_climbCascade_2
    refine R_iload_n C 1 rfl dX2_climbCascade_2 ?_
    refine R_aload_n C 0 rfl dX2_climbCascade_3 ?_
    refine R_geti C fl2_24 rfl ha0 dX2_climbCascade_4 ?_
    refine B_icmp_ge C dX2_climbCascade_7 ?_ ?_
    · refine R_loc (lv2 := [(0, .ref (G.1 + a0))]) [0] rfl ?_
      exact R_end (fun (o : (Int32)) (s : Sg) => V κ G (QQ κ G E none σ') E s (false, 0, 0) 33 [(0, .ref (G.1 + a0))] []) K3
    · refine R_aload_n C 0 rfl dX2_climbCascade_10 ?_
      refine R_dr (fun x7 rx7 cx7 => ?_)
      refine R_getr C fl2_9 rfl ha0 rx7 dX2_climbCascade_11 ?_
      refine R_iload_n C 1 rfl dX2_climbCascade_14 ?_
      refine R_dup2 C dX2_climbCascade_15 rfl rfl ?_
      refine R_ck (fun h8 => ?_)
      refine R_iald C cx7 h8 dX2_climbCascade_16 ?_
      refine R_aload_n C 0 rfl dX2_climbCascade_17 ?_
      refine R_getr C fl2_9 rfl ha0 rx7 dX2_climbCascade_18 ?_
      refine R_iload_n C 1 rfl dX2_climbCascade_21 ?_
      refine R_iconst C (1) dX2_climbCascade_22 (by decide) ?_
      refine R_isub C dX2_climbCascade_23 ?_
      refine R_ck (fun h9 => ?_)
      refine R_iald C cx7 h9 dX2_climbCascade_24 ?_
      refine R_iadd C dX2_climbCascade_25 ?_
      refine R_ck (fun h10 => ?_)
      refine S_iast C cx7 h10 dX2_climbCascade_26 (fun s11 => ?_)
      refine S_iinc (fun v12 => [(1, .int v12), (0, .ref (G.1 + a0))]) 1 C dX2_climbCascade_27 rfl (by decide) (by decide) (fun _ => rfl) (fun v12 => ?_)
      refine R_goto C dX2_climbCascade_30 ?_
      refine R_loc (lv2 := [(0, .ref (G.1 + a0)), (1, .int v12)]) [1, 0] rfl ?_
      exact I6 (v12, s11) b4 s5 K3
theorem dX2_climb_0 : dk cX2_climb 0 1 (.aload_n 0) 1 := by unfold dk; decide +kernel
theorem dX2_climb_1 : dk cX2_climb 1 2 (.dup) 1 := by unfold dk; decide +kernel
theorem dX2_climb_2 : dk cX2_climb 2 5 (.getfield 28) 3 := by unfold dk; decide +kernel
theorem dX2_climb_5 : dk cX2_climb 5 6 (.iconst 1) 1 := by unfold dk; decide +kernel
theorem dX2_climb_6 : dk cX2_climb 6 7 (.iadd) 1 := by unfold dk; decide +kernel
theorem dX2_climb_7 : dk cX2_climb 7 10 (.putfield 28) 3 := by unfold dk; decide +kernel
theorem dX2_climb_10 : dk cX2_climb 10 11 (.iload_n 1) 1 := by unfold dk; decide +kernel
theorem dX2_climb_11 : dk cX2_climb 11 12 (.iconst 2) 1 := by unfold dk; decide +kernel
theorem dX2_climb_20 : dk cX2_climb 20 21 (.aload_n 0) 1 := by unfold dk; decide +kernel
theorem dX2_climb_21 : dk cX2_climb 21 24 (.getfield 9) 3 := by unfold dk; decide +kernel
theorem dX2_climb_24 : dk cX2_climb 24 25 (.iconst 0) 1 := by unfold dk; decide +kernel
theorem dX2_climb_25 : dk cX2_climb 25 26 (.iaload) 1 := by unfold dk; decide +kernel
theorem dX2_climb_26 : dk cX2_climb 26 27 (.istore_n 2) 1 := by unfold dk; decide +kernel
theorem dX2_climb_27 : dk cX2_climb 27 28 (.iconst 0) 1 := by unfold dk; decide +kernel
theorem dX2_climb_28 : dk cX2_climb 28 29 (.istore_n 3) 1 := by unfold dk; decide +kernel
theorem dX2_climb_29 : dk cX2_climb 29 30 (.iload_n 3) 1 := by unfold dk; decide +kernel
theorem dX2_climb_30 : dk cX2_climb 30 31 (.iconst 1) 1 := by unfold dk; decide +kernel
theorem dX2_climb_31 : dk cX2_climb 31 32 (.iadd) 1 := by unfold dk; decide +kernel
theorem dX2_climb_32 : dk cX2_climb 32 33 (.aload_n 0) 1 := by unfold dk; decide +kernel
theorem dX2_climb_33 : dk cX2_climb 33 36 (.getfield 24) 3 := by unfold dk; decide +kernel
theorem dX2_climb_39 : dk cX2_climb 39 40 (.aload_n 0) 1 := by unfold dk; decide +kernel
theorem dX2_climb_40 : dk cX2_climb 40 43 (.getfield 9) 3 := by unfold dk; decide +kernel
theorem dX2_climb_43 : dk cX2_climb 43 44 (.iload_n 3) 1 := by unfold dk; decide +kernel
theorem dX2_climb_44 : dk cX2_climb 44 45 (.iload_n 2) 1 := by unfold dk; decide +kernel
theorem dX2_climb_45 : dk cX2_climb 45 46 (.aload_n 0) 1 := by unfold dk; decide +kernel
theorem dX2_climb_46 : dk cX2_climb 46 49 (.getfield 9) 3 := by unfold dk; decide +kernel
theorem dX2_climb_49 : dk cX2_climb 49 50 (.iload_n 3) 1 := by unfold dk; decide +kernel
theorem dX2_climb_50 : dk cX2_climb 50 51 (.iconst 1) 1 := by unfold dk; decide +kernel
theorem dX2_climb_51 : dk cX2_climb 51 52 (.iadd) 1 := by unfold dk; decide +kernel
theorem dX2_climb_52 : dk cX2_climb 52 53 (.iaload) 1 := by unfold dk; decide +kernel
theorem dX2_climb_53 : dk cX2_climb 53 54 (.iadd) 1 := by unfold dk; decide +kernel
theorem dX2_climb_54 : dk cX2_climb 54 55 (.iastore) 1 := by unfold dk; decide +kernel
theorem dX2_climb_55 : dk cX2_climb 55 58 (.iinc 3 1) 3 := by unfold dk; decide +kernel
theorem dX2_climb_58 : bk cX2_climb 58 61 29 (.goto (-29)) (-29) := by unfold bk; decide +kernel
theorem dX2_climb_36 : bk cX2_climb 36 39 61 (.if_icmp .ge 25) (25) := by unfold bk; decide +kernel
theorem dX2_climb_61 : dk cX2_climb 61 62 (.aload_n 0) 1 := by unfold dk; decide +kernel
theorem dX2_climb_62 : dk cX2_climb 62 65 (.getfield 9) 3 := by unfold dk; decide +kernel
theorem dX2_climb_65 : dk cX2_climb 65 66 (.aload_n 0) 1 := by unfold dk; decide +kernel
theorem dX2_climb_66 : dk cX2_climb 66 69 (.getfield 24) 3 := by unfold dk; decide +kernel
theorem dX2_climb_69 : dk cX2_climb 69 70 (.iconst 1) 1 := by unfold dk; decide +kernel
theorem dX2_climb_70 : dk cX2_climb 70 71 (.isub) 1 := by unfold dk; decide +kernel
theorem dX2_climb_71 : dk cX2_climb 71 72 (.iload_n 2) 1 := by unfold dk; decide +kernel
theorem dX2_climb_72 : dk cX2_climb 72 73 (.iastore) 1 := by unfold dk; decide +kernel
theorem dX2_climb_73 : dk cX2_climb 73 74 (.return_) 1 := by unfold dk; decide +kernel
theorem dX2_climb_15 : dk cX2_climb 15 16 (.aload_n 0) 1 := by unfold dk; decide +kernel
theorem dX2_climb_16 : dk cX2_climb 16 19 (.invokevirtual 31) 3 := by unfold dk; decide +kernel
theorem dX2_climb_19 : dk cX2_climb 19 20 (.return_) 1 := by unfold dk; decide +kernel
theorem dX2_climb_12 : bk cX2_climb 12 15 20 (.if_icmp .ne 8) (8) := by unfold bk; decide +kernel
set_option maxHeartbeats 4000000 in
set_option maxRecDepth 100000 in
theorem kX2_climb {l : Launch} {G : Gl} {E : En} {a0 : Nat} {a1 : Int32} {σ σ' : Sg} : fX2_climb E a0 a1 σ = some σ' → CT l yX2_climb cX2_climb 4 none ({ frames := 1, cells := 0, slots := 0, locals := 22 } : Room) [.ref (G.1 + a0), .int a1] G E σ none σ' := by
  intro h
  refine CT_of (lv0 := [(0, .ref (G.1 + a0)), (1, .int a1)]) (by decide) (Nat.le_of_ble_eq_true rfl) rfl (fun κ hl hR hr C => ?_)
  have C : Cx κ G cX2_climb RX2 4 := C
  revert h
  unfold fX2_climb
  refine R_tk (fun ha0 => ?_)
  refine R_aload_n C 0 rfl dX2_climb_0 ?_
  refine R_dup C dX2_climb_1 rfl ?_
  refine R_geti C fl2_28 rfl ha0 dX2_climb_2 ?_
  refine R_iconst C (1) dX2_climb_5 (by decide) ?_
  refine R_iadd C dX2_climb_6 ?_
  refine S_puti C fl2_28 rfl ha0 rfl rfl dX2_climb_7 (fun s1 => ?_)
  refine R_iload_n C 1 rfl dX2_climb_10 ?_
  refine R_iconst C (2) dX2_climb_11 (by decide) ?_
  refine B_icmp_ne C dX2_climb_12 ?_ ?_
  · refine R_aload_n C 0 rfl dX2_climb_20 ?_
    refine R_dr (fun x2 rx2 cx2 => ?_)
    refine R_getr C fl2_9 rfl ha0 rx2 dX2_climb_21 ?_
    refine R_iconst C (0) dX2_climb_24 (by decide) ?_
    refine R_ck (fun h3 => ?_)
    refine R_iald C cx2 h3 dX2_climb_25 ?_
    refine S_istore_n C dX2_climb_26 rfl (fun v4 => [(2, .int v4), (0, .ref (G.1 + a0)), (1, .int a1)]) (by decide) (fun _ => rfl) (fun v4 => ?_)
    refine R_iconst C (0) dX2_climb_27 (by decide) ?_
    refine R_istore_n (lv2 := [(3, .int (0 : Int32)), (2, .int v4), (0, .ref (G.1 + a0)), (1, .int a1)]) C dX2_climb_28 rfl (by decide) rfl ?_
    refine R_loc (lv2 := [(2, .int v4), (0, .ref (G.1 + a0)), (3, .int (0 : Int32))]) [1, 2, 0] rfl ?_
    refine R_loop (fun (a : (Int32) × Sg) => V κ G (QQ κ G E none σ') E a.2 (false, 0, 0) 29 [(2, .int v4), (0, .ref (G.1 + a0)), (3, .int a.1)] []) (fun (o : (Int32)) (s : Sg) => V κ G (QQ κ G E none σ') E s (false, 0, 0) 61 [(2, .int v4), (0, .ref (G.1 + a0))] []) ((0 : Int32), s1) (fun o15 s16 => ?_) (fun rec I10 a b8 s9 K7 => ?_)
    · refine R_aload_n C 1 rfl dX2_climb_61 ?_
      refine R_getr C fl2_9 rfl ha0 rx2 dX2_climb_62 ?_
      refine R_aload_n C 1 rfl dX2_climb_65 ?_
      refine R_geti C fl2_24 rfl ha0 dX2_climb_66 ?_
      refine R_iconst C (1) dX2_climb_69 (by decide) ?_
      refine R_isub C dX2_climb_70 ?_
      refine R_iload_n C 0 rfl dX2_climb_71 ?_
      refine R_ck (fun h17 => ?_)
      refine S_iast C cx2 h17 dX2_climb_72 (fun s18 => ?_)
      exact R_vret C hr dX2_climb_73
    · obtain ⟨v5, s6⟩ := a
      show bX2_climb_29 E a0 x2 v4 (fun u0 t => rec (u0, t)) v5 s6 = some (b8, s9) → V κ G (QQ κ G E none σ') E s6 (false, 0, 0) 29 [(2, .int v4), (0, .ref (G.1 + a0)), (3, .int v5)] []
      unfold bX2_climb_29
      refine R_iload_n C 2 rfl dX2_climb_29 ?_
      refine R_iconst C (1) dX2_climb_30 (by decide) ?_
      refine R_iadd C dX2_climb_31 ?_
      refine R_aload_n C 1 rfl dX2_climb_32 ?_
      refine R_geti C fl2_24 rfl ha0 dX2_climb_33 ?_
      refine B_icmp_ge C dX2_climb_36 ?_ ?_
      · refine R_loc (lv2 := [(2, .int v4), (0, .ref (G.1 + a0))]) [0, 1] rfl ?_
        exact R_end (fun (o : (Int32)) (s : Sg) => V κ G (QQ κ G E none σ') E s (false, 0, 0) 61 [(2, .int v4), (0, .ref (G.1 + a0))] []) K7
      · refine R_aload_n C 1 rfl dX2_climb_39 ?_
        refine R_getr C fl2_9 rfl ha0 rx2 dX2_climb_40 ?_
        refine R_iload_n C 2 rfl dX2_climb_43 ?_
        refine R_iload_n C 0 rfl dX2_climb_44 ?_
        refine R_aload_n C 1 rfl dX2_climb_45 ?_
        refine R_getr C fl2_9 rfl ha0 rx2 dX2_climb_46 ?_
        refine R_iload_n C 2 rfl dX2_climb_49 ?_
        refine R_iconst C (1) dX2_climb_50 (by decide) ?_
        refine R_iadd C dX2_climb_51 ?_
        refine R_ck (fun h11 => ?_)
        refine R_iald C cx2 h11 dX2_climb_52 ?_
        refine R_iadd C dX2_climb_53 ?_
        refine R_ck (fun h12 => ?_)
        refine S_iast C cx2 h12 dX2_climb_54 (fun s13 => ?_)
        refine S_iinc (fun v14 => [(3, .int v14), (2, .int v4), (0, .ref (G.1 + a0))]) 2 C dX2_climb_55 rfl (by decide) (by decide) (fun _ => rfl) (fun v14 => ?_)
        refine R_goto C dX2_climb_58 ?_
        refine R_loc (lv2 := [(2, .int v4), (0, .ref (G.1 + a0)), (3, .int v14)]) [1, 2, 0] rfl ?_
        exact I10 (v14, s13) b8 s9 K7
  · refine R_aload_n C 0 rfl dX2_climb_15 ?_
    refine R_bv (fun s19 q20 => ?_)
    refine R_callVv [] [] C ml2_31 (kX2_climbCascade q20) (by rw [hR]; exact ⟨rfl, rfl, Nat.le_of_ble_eq_true rfl, Nat.le_of_ble_eq_true rfl, Nat.zero_le _, Nat.zero_le _⟩) ha0 rfl rfl (Nat.le_of_ble_eq_true rfl) dX2_climb_16 ?_
    exact R_vret C hr dX2_climb_19
theorem dX2_climbTo_0 : dk cX2_climbTo 0 1 (.aload_n 0) 1 := by unfold dk; decide +kernel
theorem dX2_climbTo_1 : dk cX2_climbTo 1 2 (.iload_n 3) 1 := by unfold dk; decide +kernel
theorem dX2_climbTo_2 : dk cX2_climbTo 2 5 (.invokevirtual 34) 3 := by unfold dk; decide +kernel
theorem dX2_climbTo_5 : dk cX2_climbTo 5 6 (.iconst 0) 1 := by unfold dk; decide +kernel
theorem dX2_climbTo_6 : dk cX2_climbTo 6 8 (.istore 4) 2 := by unfold dk; decide +kernel
theorem dX2_climbTo_8 : dk cX2_climbTo 8 10 (.iload 4) 2 := by unfold dk; decide +kernel
theorem dX2_climbTo_10 : dk cX2_climbTo 10 11 (.iload_n 1) 1 := by unfold dk; decide +kernel
theorem dX2_climbTo_14 : dk cX2_climbTo 14 15 (.aload_n 0) 1 := by unfold dk; decide +kernel
theorem dX2_climbTo_15 : dk cX2_climbTo 15 16 (.iload_n 2) 1 := by unfold dk; decide +kernel
theorem dX2_climbTo_16 : dk cX2_climbTo 16 19 (.invokevirtual 38) 3 := by unfold dk; decide +kernel
theorem dX2_climbTo_19 : dk cX2_climbTo 19 22 (.iinc 4 1) 3 := by unfold dk; decide +kernel
theorem dX2_climbTo_22 : bk cX2_climbTo 22 25 8 (.goto (-14)) (-14) := by unfold bk; decide +kernel
theorem dX2_climbTo_11 : bk cX2_climbTo 11 14 25 (.if_icmp .ge 14) (14) := by unfold bk; decide +kernel
theorem dX2_climbTo_25 : dk cX2_climbTo 25 26 (.return_) 1 := by unfold dk; decide +kernel
set_option maxHeartbeats 4000000 in
set_option maxRecDepth 100000 in
theorem kX2_climbTo {l : Launch} {G : Gl} {E : En} {a0 : Nat} {a1 : Int32} {a2 : Int32} {a3 : Int32} {σ σ' : Sg} : fX2_climbTo E a0 a1 a2 a3 σ = some σ' → CT l yX2_climbTo cX2_climbTo 5 none ({ frames := 2, cells := 0, slots := 0, locals := 45 } : Room) [.ref (G.1 + a0), .int a1, .int a2, .int a3] G E σ none σ' := by
  intro h
  refine CT_of (lv0 := [(0, .ref (G.1 + a0)), (1, .int a1), (2, .int a2), (3, .int a3)]) (by decide) (Nat.le_of_ble_eq_true rfl) rfl (fun κ hl hR hr C => ?_)
  have C : Cx κ G cX2_climbTo RX2 5 := C
  revert h
  unfold fX2_climbTo
  refine R_tk (fun ha0 => ?_)
  refine R_aload_n C 0 rfl dX2_climbTo_0 ?_
  refine R_iload_n C 3 rfl dX2_climbTo_1 ?_
  refine R_bv (fun s1 q2 => ?_)
  refine R_callVv [.int a3] [] C ml2_34 (kX2_ground q2) (by rw [hR]; exact ⟨rfl, rfl, Nat.le_of_ble_eq_true rfl, Nat.le_of_ble_eq_true rfl, Nat.zero_le _, Nat.zero_le _⟩) ha0 rfl rfl (Nat.le_of_ble_eq_true rfl) dX2_climbTo_2 ?_
  refine R_iconst C (0) dX2_climbTo_5 (by decide) ?_
  refine R_istore (lv2 := [(4, .int (0 : Int32)), (0, .ref (G.1 + a0)), (1, .int a1), (2, .int a2), (3, .int a3)]) C dX2_climbTo_6 (by decide) rfl ?_
  refine R_loc (lv2 := [(0, .ref (G.1 + a0)), (1, .int a1), (2, .int a2), (4, .int (0 : Int32))]) [1, 2, 3, 0] rfl ?_
  refine R_loop (fun (a : (Int32) × Sg) => V κ G (QQ κ G E none σ') E a.2 (false, 0, 0) 8 [(0, .ref (G.1 + a0)), (1, .int a1), (2, .int a2), (4, .int a.1)] []) (fun (o : (Int32)) (s : Sg) => V κ G (QQ κ G E none σ') E s (false, 0, 0) 25 [] []) ((0 : Int32), s1) (fun o12 s13 => ?_) (fun rec I8 a b6 s7 K5 => ?_)
  · exact R_vret C hr dX2_climbTo_25
  · obtain ⟨v3, s4⟩ := a
    show bX2_climbTo_8 E a1 a0 a2 (fun u0 t => rec (u0, t)) v3 s4 = some (b6, s7) → V κ G (QQ κ G E none σ') E s4 (false, 0, 0) 8 [(0, .ref (G.1 + a0)), (1, .int a1), (2, .int a2), (4, .int v3)] []
    unfold bX2_climbTo_8
    refine R_iload C 3 rfl dX2_climbTo_8 ?_
    refine R_iload_n C 1 rfl dX2_climbTo_10 ?_
    refine B_icmp_ge C dX2_climbTo_11 ?_ ?_
    · refine R_loc (lv2 := []) [] rfl ?_
      exact R_end (fun (o : (Int32)) (s : Sg) => V κ G (QQ κ G E none σ') E s (false, 0, 0) 25 [] []) K5
    · refine R_aload_n C 0 rfl dX2_climbTo_14 ?_
      refine R_iload_n C 2 rfl dX2_climbTo_15 ?_
      refine R_bv (fun s9 q10 => ?_)
      refine R_callVv [.int a2] [] C ml2_38 (kX2_climb q10) (by rw [hR]; exact ⟨rfl, rfl, Nat.le_of_ble_eq_true rfl, Nat.le_of_ble_eq_true rfl, Nat.zero_le _, Nat.zero_le _⟩) ha0 rfl rfl (Nat.le_of_ble_eq_true rfl) dX2_climbTo_16 ?_
      refine S_iinc (fun v11 => [(4, .int v11), (0, .ref (G.1 + a0)), (1, .int a1), (2, .int a2)]) 3 C dX2_climbTo_19 rfl (by decide) (by decide) (fun _ => rfl) (fun v11 => ?_)
      refine R_goto C dX2_climbTo_22 ?_
      refine R_loc (lv2 := [(0, .ref (G.1 + a0)), (1, .int a1), (2, .int a2), (4, .int v11)]) [1, 2, 3, 0] rfl ?_
      exact I8 (v11, s9) b6 s7 K5
theorem dX2_together_0 : dk cX2_together 0 1 (.iconst 0) 1 := by unfold dk; decide +kernel
theorem dX2_together_1 : dk cX2_together 1 2 (.istore_n 1) 1 := by unfold dk; decide +kernel
theorem dX2_together_2 : dk cX2_together 2 3 (.iconst 0) 1 := by unfold dk; decide +kernel
theorem dX2_together_3 : dk cX2_together 3 4 (.istore_n 2) 1 := by unfold dk; decide +kernel
theorem dX2_together_4 : dk cX2_together 4 5 (.iload_n 2) 1 := by unfold dk; decide +kernel
theorem dX2_together_5 : dk cX2_together 5 6 (.aload_n 0) 1 := by unfold dk; decide +kernel
theorem dX2_together_6 : dk cX2_together 6 9 (.getfield 24) 3 := by unfold dk; decide +kernel
theorem dX2_together_12 : dk cX2_together 12 13 (.iload_n 1) 1 := by unfold dk; decide +kernel
theorem dX2_together_13 : dk cX2_together 13 14 (.aload_n 0) 1 := by unfold dk; decide +kernel
theorem dX2_together_14 : dk cX2_together 14 17 (.getfield 9) 3 := by unfold dk; decide +kernel
theorem dX2_together_17 : dk cX2_together 17 18 (.iload_n 2) 1 := by unfold dk; decide +kernel
theorem dX2_together_18 : dk cX2_together 18 19 (.iaload) 1 := by unfold dk; decide +kernel
theorem dX2_together_19 : dk cX2_together 19 20 (.iadd) 1 := by unfold dk; decide +kernel
theorem dX2_together_20 : dk cX2_together 20 21 (.istore_n 1) 1 := by unfold dk; decide +kernel
theorem dX2_together_21 : dk cX2_together 21 24 (.iinc 2 1) 3 := by unfold dk; decide +kernel
theorem dX2_together_24 : bk cX2_together 24 27 4 (.goto (-20)) (-20) := by unfold bk; decide +kernel
theorem dX2_together_9 : bk cX2_together 9 12 27 (.if_icmp .ge 18) (18) := by unfold bk; decide +kernel
theorem dX2_together_27 : dk cX2_together 27 28 (.iload_n 1) 1 := by unfold dk; decide +kernel
theorem dX2_together_28 : dk cX2_together 28 29 (.ireturn) 1 := by unfold dk; decide +kernel
set_option maxHeartbeats 4000000 in
set_option maxRecDepth 100000 in
theorem kX2_together {l : Launch} {G : Gl} {E : En} {a0 : Nat} {σ σ' : Sg} {r : Int32} : fX2_together E a0 σ = some (r, σ') → CT l yX2_together cX2_together 3 (some .int) ({ frames := 0, cells := 0, slots := 0, locals := 0 } : Room) [.ref (G.1 + a0)] G E σ (some (.int r)) σ' := by
  intro h
  refine CT_of (lv0 := [(0, .ref (G.1 + a0))]) (by decide) (Nat.le_of_ble_eq_true rfl) rfl (fun κ hl hR hr C => ?_)
  have C : Cx κ G cX2_together RX2 3 := C
  revert h
  unfold fX2_together
  refine R_tk (fun ha0 => ?_)
  refine R_iconst C (0) dX2_together_0 (by decide) ?_
  refine R_istore_n (lv2 := [(1, .int (0 : Int32)), (0, .ref (G.1 + a0))]) C dX2_together_1 rfl (by decide) rfl ?_
  refine R_iconst C (0) dX2_together_2 (by decide) ?_
  refine R_istore_n (lv2 := [(2, .int (0 : Int32)), (1, .int (0 : Int32)), (0, .ref (G.1 + a0))]) C dX2_together_3 rfl (by decide) rfl ?_
  refine R_loc (lv2 := [(0, .ref (G.1 + a0)), (1, .int (0 : Int32)), (2, .int (0 : Int32))]) [2, 1, 0] rfl ?_
  refine R_loop (fun (a : (Int32 × Int32) × Sg) => V κ G (QQ κ G E (some (.int r)) σ') E a.2 (false, 0, 0) 4 [(0, .ref (G.1 + a0)), (1, .int a.1.1), (2, .int a.1.2)] []) (fun (o : (Int32 × Int32)) (s : Sg) => V κ G (QQ κ G E (some (.int r)) σ') E s (false, 0, 0) 27 [(1, .int o.1)] []) (((0 : Int32), (0 : Int32)), σ) (fun o12 s13 => ?_) (fun rec I7 a b5 s6 K4 => ?_)
  · refine R_iload_n C 0 rfl dX2_together_27 ?_
    exact R_iret C hr dX2_together_28
  · obtain ⟨⟨v1, v2⟩, s3⟩ := a
    show bX2_together_4 E a0 (fun u0 u1 t => rec ((u0, u1), t)) v1 v2 s3 = some (b5, s6) → V κ G (QQ κ G E (some (.int r)) σ') E s3 (false, 0, 0) 4 [(0, .ref (G.1 + a0)), (1, .int v1), (2, .int v2)] []
    unfold bX2_together_4
    refine R_iload_n C 2 rfl dX2_together_4 ?_
    refine R_aload_n C 0 rfl dX2_together_5 ?_
    refine R_geti C fl2_24 rfl ha0 dX2_together_6 ?_
    refine B_icmp_ge C dX2_together_9 ?_ ?_
    · refine R_loc (lv2 := [(1, .int v1)]) [1] rfl ?_
      exact R_end (fun (o : (Int32 × Int32)) (s : Sg) => V κ G (QQ κ G E (some (.int r)) σ') E s (false, 0, 0) 27 [(1, .int o.1)] []) K4
    · refine R_iload_n C 1 rfl dX2_together_12 ?_
      refine R_aload_n C 0 rfl dX2_together_13 ?_
      refine R_dr (fun x8 rx8 cx8 => ?_)
      refine R_getr C fl2_9 rfl ha0 rx8 dX2_together_14 ?_
      refine R_iload_n C 2 rfl dX2_together_17 ?_
      refine R_ck (fun h9 => ?_)
      refine R_iald C cx8 h9 dX2_together_18 ?_
      refine R_iadd C dX2_together_19 ?_
      refine S_istore_n C dX2_together_20 rfl (fun v10 => [(1, .int v10), (0, .ref (G.1 + a0)), (2, .int v2)]) (by decide) (fun _ => rfl) (fun v10 => ?_)
      refine S_iinc (fun v11 => [(2, .int v11), (1, .int v10), (0, .ref (G.1 + a0))]) 2 C dX2_together_21 rfl (by decide) (by decide) (fun _ => rfl) (fun v11 => ?_)
      refine R_goto C dX2_together_24 ?_
      refine R_loc (lv2 := [(0, .ref (G.1 + a0)), (1, .int v10), (2, .int v11)]) [2, 1, 0] rfl ?_
      exact I7 ((v10, v11), s3) b5 s6 K4
theorem dX2_climbFor_0 : dk cX2_climbFor 0 1 (.aload_n 0) 1 := by unfold dk; decide +kernel
theorem dX2_climbFor_1 : dk cX2_climbFor 1 2 (.iload_n 3) 1 := by unfold dk; decide +kernel
theorem dX2_climbFor_2 : dk cX2_climbFor 2 5 (.invokevirtual 34) 3 := by unfold dk; decide +kernel
theorem dX2_climbFor_5 : dk cX2_climbFor 5 6 (.iconst 0) 1 := by unfold dk; decide +kernel
theorem dX2_climbFor_6 : dk cX2_climbFor 6 8 (.istore 4) 2 := by unfold dk; decide +kernel
theorem dX2_climbFor_8 : dk cX2_climbFor 8 10 (.iload 4) 2 := by unfold dk; decide +kernel
theorem dX2_climbFor_10 : dk cX2_climbFor 10 13 (.sipush 700) 3 := by unfold dk; decide +kernel
theorem dX2_climbFor_16 : dk cX2_climbFor 16 17 (.aload_n 0) 1 := by unfold dk; decide +kernel
theorem dX2_climbFor_17 : dk cX2_climbFor 17 20 (.invokevirtual 41) 3 := by unfold dk; decide +kernel
theorem dX2_climbFor_20 : dk cX2_climbFor 20 21 (.iload_n 1) 1 := by unfold dk; decide +kernel
theorem dX2_climbFor_24 : dk cX2_climbFor 24 25 (.aload_n 0) 1 := by unfold dk; decide +kernel
theorem dX2_climbFor_25 : dk cX2_climbFor 25 26 (.iload_n 2) 1 := by unfold dk; decide +kernel
theorem dX2_climbFor_26 : dk cX2_climbFor 26 29 (.invokevirtual 38) 3 := by unfold dk; decide +kernel
theorem dX2_climbFor_29 : dk cX2_climbFor 29 32 (.iinc 4 1) 3 := by unfold dk; decide +kernel
theorem dX2_climbFor_32 : bk cX2_climbFor 32 35 8 (.goto (-24)) (-24) := by unfold bk; decide +kernel
theorem dX2_climbFor_21 : bk cX2_climbFor 21 24 35 (.if_icmp .ge 14) (14) := by unfold bk; decide +kernel
theorem dX2_climbFor_13 : bk cX2_climbFor 13 16 35 (.if_icmp .ge 22) (22) := by unfold bk; decide +kernel
theorem dX2_climbFor_35 : dk cX2_climbFor 35 36 (.return_) 1 := by unfold dk; decide +kernel
set_option maxHeartbeats 4000000 in
set_option maxRecDepth 100000 in
theorem kX2_climbFor {l : Launch} {G : Gl} {E : En} {a0 : Nat} {a1 : Int32} {a2 : Int32} {a3 : Int32} {σ σ' : Sg} : fX2_climbFor E a0 a1 a2 a3 σ = some σ' → CT l yX2_climbFor cX2_climbFor 5 none ({ frames := 2, cells := 0, slots := 0, locals := 45 } : Room) [.ref (G.1 + a0), .int a1, .int a2, .int a3] G E σ none σ' := by
  intro h
  refine CT_of (lv0 := [(0, .ref (G.1 + a0)), (1, .int a1), (2, .int a2), (3, .int a3)]) (by decide) (Nat.le_of_ble_eq_true rfl) rfl (fun κ hl hR hr C => ?_)
  have C : Cx κ G cX2_climbFor RX2 5 := C
  revert h
  unfold fX2_climbFor
  refine R_tk (fun ha0 => ?_)
  refine R_aload_n C 0 rfl dX2_climbFor_0 ?_
  refine R_iload_n C 3 rfl dX2_climbFor_1 ?_
  refine R_bv (fun s1 q2 => ?_)
  refine R_callVv [.int a3] [] C ml2_34 (kX2_ground q2) (by rw [hR]; exact ⟨rfl, rfl, Nat.le_of_ble_eq_true rfl, Nat.le_of_ble_eq_true rfl, Nat.zero_le _, Nat.zero_le _⟩) ha0 rfl rfl (Nat.le_of_ble_eq_true rfl) dX2_climbFor_2 ?_
  refine R_iconst C (0) dX2_climbFor_5 (by decide) ?_
  refine R_istore (lv2 := [(4, .int (0 : Int32)), (0, .ref (G.1 + a0)), (1, .int a1), (2, .int a2), (3, .int a3)]) C dX2_climbFor_6 (by decide) rfl ?_
  refine R_loc (lv2 := [(0, .ref (G.1 + a0)), (1, .int a1), (2, .int a2), (4, .int (0 : Int32))]) [1, 2, 3, 0] rfl ?_
  refine R_loop (fun (a : (Int32) × Sg) => V κ G (QQ κ G E none σ') E a.2 (false, 0, 0) 8 [(0, .ref (G.1 + a0)), (1, .int a1), (2, .int a2), (4, .int a.1)] []) (fun (o : (Int32)) (s : Sg) => V κ G (QQ κ G E none σ') E s (false, 0, 0) 35 [] []) ((0 : Int32), s1) (fun o15 s16 => ?_) (fun rec I8 a b6 s7 K5 => ?_)
  · exact R_vret C hr dX2_climbFor_35
  · obtain ⟨v3, s4⟩ := a
    show bX2_climbFor_8 E a0 a1 a2 (fun u0 t => rec (u0, t)) v3 s4 = some (b6, s7) → V κ G (QQ κ G E none σ') E s4 (false, 0, 0) 8 [(0, .ref (G.1 + a0)), (1, .int a1), (2, .int a2), (4, .int v3)] []
    unfold bX2_climbFor_8
    refine R_iload C 3 rfl dX2_climbFor_8 ?_
    refine R_sipush C (700) dX2_climbFor_10 (by decide) ?_
    refine B_icmp_ge C dX2_climbFor_13 ?_ ?_
    · refine R_loc (lv2 := []) [] rfl ?_
      exact R_end (fun (o : (Int32)) (s : Sg) => V κ G (QQ κ G E none σ') E s (false, 0, 0) 35 [] []) K5
    · refine R_aload_n C 0 rfl dX2_climbFor_16 ?_
      refine R_bd (fun r11 s9 q10 => ?_)
      refine R_callVi [] [] C ml2_41 (kX2_together q10) (by rw [hR]; exact ⟨rfl, rfl, Nat.le_of_ble_eq_true rfl, Nat.le_of_ble_eq_true rfl, Nat.zero_le _, Nat.zero_le _⟩) ha0 rfl rfl (Nat.le_of_ble_eq_true rfl) dX2_climbFor_17 ?_
      refine R_iload_n C 1 rfl dX2_climbFor_20 ?_
      refine B_icmp_ge C dX2_climbFor_21 ?_ ?_
      · refine R_loc (lv2 := []) [] rfl ?_
        exact R_end (fun (o : (Int32)) (s : Sg) => V κ G (QQ κ G E none σ') E s (false, 0, 0) 35 [] []) K5
      · refine R_aload_n C 0 rfl dX2_climbFor_24 ?_
        refine R_iload_n C 2 rfl dX2_climbFor_25 ?_
        refine R_bv (fun s12 q13 => ?_)
        refine R_callVv [.int a2] [] C ml2_38 (kX2_climb q13) (by rw [hR]; exact ⟨rfl, rfl, Nat.le_of_ble_eq_true rfl, Nat.le_of_ble_eq_true rfl, Nat.zero_le _, Nat.zero_le _⟩) ha0 rfl rfl (Nat.le_of_ble_eq_true rfl) dX2_climbFor_26 ?_
        refine S_iinc (fun v14 => [(4, .int v14), (0, .ref (G.1 + a0)), (1, .int a1), (2, .int a2)]) 3 C dX2_climbFor_29 rfl (by decide) (by decide) (fun _ => rfl) (fun v14 => ?_)
        refine R_goto C dX2_climbFor_32 ?_
        refine R_loc (lv2 := [(0, .ref (G.1 + a0)), (1, .int a1), (2, .int a2), (4, .int v14)]) [1, 2, 3, 0] rfl ?_
        exact I8 (v14, s12) b6 s7 K5
