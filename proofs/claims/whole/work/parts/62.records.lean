theorem dX3_copyFrom_0 : dk cX3_copyFrom 0 1 (.aload_n 0) 1 := by unfold dk; decide +kernel
theorem dX3_copyFrom_1 : dk cX3_copyFrom 1 2 (.aload_n 1) 1 := by unfold dk; decide +kernel
theorem dX3_copyFrom_2 : dk cX3_copyFrom 2 5 (.getfield 18) 3 := by unfold dk; decide +kernel
theorem dX3_copyFrom_5 : dk cX3_copyFrom 5 8 (.putfield 18) 3 := by unfold dk; decide +kernel
theorem dX3_copyFrom_8 : dk cX3_copyFrom 8 9 (.aload_n 0) 1 := by unfold dk; decide +kernel
theorem dX3_copyFrom_9 : dk cX3_copyFrom 9 10 (.aload_n 1) 1 := by unfold dk; decide +kernel
theorem dX3_copyFrom_10 : dk cX3_copyFrom 10 13 (.getfield 22) 3 := by unfold dk; decide +kernel
theorem dX3_copyFrom_13 : dk cX3_copyFrom 13 16 (.putfield 22) 3 := by unfold dk; decide +kernel
theorem dX3_copyFrom_16 : dk cX3_copyFrom 16 17 (.aload_n 1) 1 := by unfold dk; decide +kernel
theorem dX3_copyFrom_17 : dk cX3_copyFrom 17 20 (.getfield 9) 3 := by unfold dk; decide +kernel
theorem dX3_copyFrom_20 : dk cX3_copyFrom 20 21 (.iconst 0) 1 := by unfold dk; decide +kernel
theorem dX3_copyFrom_21 : dk cX3_copyFrom 21 22 (.aload_n 0) 1 := by unfold dk; decide +kernel
theorem dX3_copyFrom_22 : dk cX3_copyFrom 22 25 (.getfield 9) 3 := by unfold dk; decide +kernel
theorem dX3_copyFrom_25 : dk cX3_copyFrom 25 26 (.iconst 0) 1 := by unfold dk; decide +kernel
theorem dX3_copyFrom_26 : dk cX3_copyFrom 26 27 (.aload_n 0) 1 := by unfold dk; decide +kernel
theorem dX3_copyFrom_27 : dk cX3_copyFrom 27 30 (.getfield 18) 3 := by unfold dk; decide +kernel
theorem dX3_copyFrom_30 : dk cX3_copyFrom 30 33 (.invokestatic 25) 3 := by unfold dk; decide +kernel
theorem dX3_copyFrom_33 : dk cX3_copyFrom 33 34 (.aload_n 1) 1 := by unfold dk; decide +kernel
theorem dX3_copyFrom_34 : dk cX3_copyFrom 34 37 (.getfield 15) 3 := by unfold dk; decide +kernel
theorem dX3_copyFrom_37 : dk cX3_copyFrom 37 38 (.iconst 0) 1 := by unfold dk; decide +kernel
theorem dX3_copyFrom_38 : dk cX3_copyFrom 38 39 (.aload_n 0) 1 := by unfold dk; decide +kernel
theorem dX3_copyFrom_39 : dk cX3_copyFrom 39 42 (.getfield 15) 3 := by unfold dk; decide +kernel
theorem dX3_copyFrom_42 : dk cX3_copyFrom 42 43 (.iconst 0) 1 := by unfold dk; decide +kernel
theorem dX3_copyFrom_43 : dk cX3_copyFrom 43 44 (.aload_n 0) 1 := by unfold dk; decide +kernel
theorem dX3_copyFrom_44 : dk cX3_copyFrom 44 47 (.getfield 18) 3 := by unfold dk; decide +kernel
theorem dX3_copyFrom_47 : dk cX3_copyFrom 47 50 (.invokestatic 25) 3 := by unfold dk; decide +kernel
theorem dX3_copyFrom_50 : dk cX3_copyFrom 50 51 (.return_) 1 := by unfold dk; decide +kernel
set_option maxHeartbeats 4000000 in
set_option maxRecDepth 100000 in
theorem kX3_copyFrom {l : Launch} {G : Gl} {E : En} {a0 : Nat} {a1 : Nat} {σ σ' : Sg} : fX3_copyFrom E a0 a1 σ = some σ' → CT l yX3_copyFrom cX3_copyFrom 2 none ({ frames := 1, cells := 0, slots := 0, locals := 60 } : Room) [.ref (G.1 + a0), .ref (G.1 + a1)] G E σ none σ' := by
  intro h
  refine CT_of (lv0 := [(0, .ref (G.1 + a0)), (1, .ref (G.1 + a1))]) (by decide) (Nat.le_of_ble_eq_true rfl) rfl (fun κ hl hR hr C => ?_)
  have C : Cx κ G cX3_copyFrom RX3 2 := C
  revert h
  unfold fX3_copyFrom
  refine R_tk (fun ha0 => ?_)
  refine R_tk (fun ha1 => ?_)
  refine R_aload_n C 0 rfl dX3_copyFrom_0 ?_
  refine R_aload_n C 1 rfl dX3_copyFrom_1 ?_
  refine R_geti C fl3_18 rfl ha1 dX3_copyFrom_2 ?_
  refine S_puti C fl3_18 rfl ha0 rfl rfl dX3_copyFrom_5 (fun s1 => ?_)
  refine R_aload_n C 0 rfl dX3_copyFrom_8 ?_
  refine R_aload_n C 1 rfl dX3_copyFrom_9 ?_
  refine R_geti C fl3_22 rfl ha1 dX3_copyFrom_10 ?_
  refine S_puti C fl3_22 rfl ha0 rfl rfl dX3_copyFrom_13 (fun s2 => ?_)
  refine R_aload_n C 1 rfl dX3_copyFrom_16 ?_
  refine R_dr (fun x3 rx3 cx3 => ?_)
  refine R_getr C fl3_9 rfl ha1 rx3 dX3_copyFrom_17 ?_
  refine R_iconst C (0) dX3_copyFrom_20 (by decide) ?_
  refine R_aload_n C 0 rfl dX3_copyFrom_21 ?_
  refine R_dr (fun x4 rx4 cx4 => ?_)
  refine R_getr C fl3_9 rfl ha0 rx4 dX3_copyFrom_22 ?_
  refine R_iconst C (0) dX3_copyFrom_25 (by decide) ?_
  refine R_aload_n C 0 rfl dX3_copyFrom_26 ?_
  refine R_geti C fl3_18 rfl ha0 dX3_copyFrom_27 ?_
  refine S_acopy C jd3_25 cx3 cx4 (by rw [hR]; exact ⟨Nat.le_of_ble_eq_true rfl, Nat.le_of_ble_eq_true rfl⟩) dX3_copyFrom_30 (fun s5 => ?_)
  refine R_aload_n C 1 rfl dX3_copyFrom_33 ?_
  refine R_dr (fun x6 rx6 cx6 => ?_)
  refine R_getr C fl3_15 rfl ha1 rx6 dX3_copyFrom_34 ?_
  refine R_iconst C (0) dX3_copyFrom_37 (by decide) ?_
  refine R_aload_n C 0 rfl dX3_copyFrom_38 ?_
  refine R_dr (fun x7 rx7 cx7 => ?_)
  refine R_getr C fl3_15 rfl ha0 rx7 dX3_copyFrom_39 ?_
  refine R_iconst C (0) dX3_copyFrom_42 (by decide) ?_
  refine R_aload_n C 0 rfl dX3_copyFrom_43 ?_
  refine R_geti C fl3_18 rfl ha0 dX3_copyFrom_44 ?_
  refine S_acopy C jd3_25 cx6 cx7 (by rw [hR]; exact ⟨Nat.le_of_ble_eq_true rfl, Nat.le_of_ble_eq_true rfl⟩) dX3_copyFrom_47 (fun s8 => ?_)
  exact R_vret C hr dX3_copyFrom_50
theorem dX3_wipe_0 : dk cX3_wipe 0 1 (.aload_n 0) 1 := by unfold dk; decide +kernel
theorem dX3_wipe_1 : dk cX3_wipe 1 2 (.iconst 0) 1 := by unfold dk; decide +kernel
theorem dX3_wipe_2 : dk cX3_wipe 2 5 (.putfield 18) 3 := by unfold dk; decide +kernel
theorem dX3_wipe_5 : dk cX3_wipe 5 6 (.aload_n 0) 1 := by unfold dk; decide +kernel
theorem dX3_wipe_6 : dk cX3_wipe 6 7 (.iconst 0) 1 := by unfold dk; decide +kernel
theorem dX3_wipe_7 : dk cX3_wipe 7 10 (.putfield 22) 3 := by unfold dk; decide +kernel
theorem dX3_wipe_10 : dk cX3_wipe 10 11 (.return_) 1 := by unfold dk; decide +kernel
set_option maxHeartbeats 4000000 in
set_option maxRecDepth 100000 in
theorem kX3_wipe {l : Launch} {G : Gl} {E : En} {a0 : Nat} {σ σ' : Sg} : fX3_wipe E a0 σ = some σ' → CT l yX3_wipe cX3_wipe 1 none ({ frames := 0, cells := 0, slots := 0, locals := 0 } : Room) [.ref (G.1 + a0)] G E σ none σ' := by
  intro h
  refine CT_of (lv0 := [(0, .ref (G.1 + a0))]) (by decide) (Nat.le_of_ble_eq_true rfl) rfl (fun κ hl hR hr C => ?_)
  have C : Cx κ G cX3_wipe RX3 1 := C
  revert h
  unfold fX3_wipe
  refine R_tk (fun ha0 => ?_)
  refine R_aload_n C 0 rfl dX3_wipe_0 ?_
  refine R_iconst C (0) dX3_wipe_1 (by decide) ?_
  refine S_puti C fl3_18 rfl ha0 rfl rfl dX3_wipe_2 (fun s1 => ?_)
  refine R_aload_n C 0 rfl dX3_wipe_5 ?_
  refine R_iconst C (0) dX3_wipe_6 (by decide) ?_
  refine S_puti C fl3_22 rfl ha0 rfl rfl dX3_wipe_7 (fun s2 => ?_)
  exact R_vret C hr dX3_wipe_10
theorem dX3_add_0 : dk cX3_add 0 1 (.aload_n 0) 1 := by unfold dk; decide +kernel
theorem dX3_add_1 : dk cX3_add 1 4 (.getfield 18) 3 := by unfold dk; decide +kernel
theorem dX3_add_4 : dk cX3_add 4 7 (.sipush 300) 3 := by unfold dk; decide +kernel
theorem dX3_add_11 : dk cX3_add 11 12 (.aload_n 0) 1 := by unfold dk; decide +kernel
theorem dX3_add_12 : dk cX3_add 12 15 (.getfield 18) 3 := by unfold dk; decide +kernel
theorem dX3_add_15 : dk cX3_add 15 16 (.istore_n 2) 1 := by unfold dk; decide +kernel
theorem dX3_add_16 : dk cX3_add 16 17 (.iload_n 2) 1 := by unfold dk; decide +kernel
theorem dX3_add_20 : dk cX3_add 20 21 (.aload_n 0) 1 := by unfold dk; decide +kernel
theorem dX3_add_21 : dk cX3_add 21 24 (.getfield 9) 3 := by unfold dk; decide +kernel
theorem dX3_add_24 : dk cX3_add 24 25 (.aload_n 0) 1 := by unfold dk; decide +kernel
theorem dX3_add_25 : dk cX3_add 25 28 (.getfield 15) 3 := by unfold dk; decide +kernel
theorem dX3_add_28 : dk cX3_add 28 29 (.iload_n 2) 1 := by unfold dk; decide +kernel
theorem dX3_add_29 : dk cX3_add 29 30 (.iconst 1) 1 := by unfold dk; decide +kernel
theorem dX3_add_30 : dk cX3_add 30 31 (.isub) 1 := by unfold dk; decide +kernel
theorem dX3_add_31 : dk cX3_add 31 32 (.iaload) 1 := by unfold dk; decide +kernel
theorem dX3_add_32 : dk cX3_add 32 33 (.iaload) 1 := by unfold dk; decide +kernel
theorem dX3_add_33 : dk cX3_add 33 34 (.iload_n 1) 1 := by unfold dk; decide +kernel
theorem dX3_add_37 : dk cX3_add 37 38 (.aload_n 0) 1 := by unfold dk; decide +kernel
theorem dX3_add_38 : dk cX3_add 38 41 (.getfield 15) 3 := by unfold dk; decide +kernel
theorem dX3_add_41 : dk cX3_add 41 42 (.iload_n 2) 1 := by unfold dk; decide +kernel
theorem dX3_add_42 : dk cX3_add 42 43 (.aload_n 0) 1 := by unfold dk; decide +kernel
theorem dX3_add_43 : dk cX3_add 43 46 (.getfield 15) 3 := by unfold dk; decide +kernel
theorem dX3_add_46 : dk cX3_add 46 47 (.iload_n 2) 1 := by unfold dk; decide +kernel
theorem dX3_add_47 : dk cX3_add 47 48 (.iconst 1) 1 := by unfold dk; decide +kernel
theorem dX3_add_48 : dk cX3_add 48 49 (.isub) 1 := by unfold dk; decide +kernel
theorem dX3_add_49 : dk cX3_add 49 50 (.iaload) 1 := by unfold dk; decide +kernel
theorem dX3_add_50 : dk cX3_add 50 51 (.iastore) 1 := by unfold dk; decide +kernel
theorem dX3_add_51 : dk cX3_add 51 54 (.iinc 2 (-1)) 3 := by unfold dk; decide +kernel
theorem dX3_add_54 : bk cX3_add 54 57 16 (.goto (-38)) (-38) := by unfold bk; decide +kernel
theorem dX3_add_34 : bk cX3_add 34 37 57 (.if_icmp .le 23) (23) := by unfold bk; decide +kernel
theorem dX3_add_17 : bk cX3_add 17 20 57 (.ifCond .le 40) (40) := by unfold bk; decide +kernel
theorem dX3_add_57 : dk cX3_add 57 58 (.aload_n 0) 1 := by unfold dk; decide +kernel
theorem dX3_add_58 : dk cX3_add 58 61 (.getfield 15) 3 := by unfold dk; decide +kernel
theorem dX3_add_61 : dk cX3_add 61 62 (.iload_n 2) 1 := by unfold dk; decide +kernel
theorem dX3_add_62 : dk cX3_add 62 63 (.aload_n 0) 1 := by unfold dk; decide +kernel
theorem dX3_add_63 : dk cX3_add 63 66 (.getfield 18) 3 := by unfold dk; decide +kernel
theorem dX3_add_66 : dk cX3_add 66 67 (.iastore) 1 := by unfold dk; decide +kernel
theorem dX3_add_67 : dk cX3_add 67 68 (.aload_n 0) 1 := by unfold dk; decide +kernel
theorem dX3_add_68 : dk cX3_add 68 69 (.dup) 1 := by unfold dk; decide +kernel
theorem dX3_add_69 : dk cX3_add 69 72 (.getfield 22) 3 := by unfold dk; decide +kernel
theorem dX3_add_72 : dk cX3_add 72 73 (.aload_n 0) 1 := by unfold dk; decide +kernel
theorem dX3_add_73 : dk cX3_add 73 76 (.getfield 18) 3 := by unfold dk; decide +kernel
theorem dX3_add_76 : dk cX3_add 76 77 (.iload_n 2) 1 := by unfold dk; decide +kernel
theorem dX3_add_77 : dk cX3_add 77 78 (.isub) 1 := by unfold dk; decide +kernel
theorem dX3_add_78 : dk cX3_add 78 79 (.iadd) 1 := by unfold dk; decide +kernel
theorem dX3_add_79 : dk cX3_add 79 82 (.putfield 22) 3 := by unfold dk; decide +kernel
theorem dX3_add_82 : dk cX3_add 82 83 (.aload_n 0) 1 := by unfold dk; decide +kernel
theorem dX3_add_83 : dk cX3_add 83 86 (.getfield 9) 3 := by unfold dk; decide +kernel
theorem dX3_add_86 : dk cX3_add 86 87 (.aload_n 0) 1 := by unfold dk; decide +kernel
theorem dX3_add_87 : dk cX3_add 87 90 (.getfield 18) 3 := by unfold dk; decide +kernel
theorem dX3_add_90 : dk cX3_add 90 91 (.iload_n 1) 1 := by unfold dk; decide +kernel
theorem dX3_add_91 : dk cX3_add 91 92 (.iastore) 1 := by unfold dk; decide +kernel
theorem dX3_add_92 : dk cX3_add 92 93 (.aload_n 0) 1 := by unfold dk; decide +kernel
theorem dX3_add_93 : dk cX3_add 93 94 (.dup) 1 := by unfold dk; decide +kernel
theorem dX3_add_94 : dk cX3_add 94 97 (.getfield 18) 3 := by unfold dk; decide +kernel
theorem dX3_add_97 : dk cX3_add 97 98 (.iconst 1) 1 := by unfold dk; decide +kernel
theorem dX3_add_98 : dk cX3_add 98 99 (.iadd) 1 := by unfold dk; decide +kernel
theorem dX3_add_99 : dk cX3_add 99 102 (.putfield 18) 3 := by unfold dk; decide +kernel
theorem dX3_add_102 : dk cX3_add 102 103 (.return_) 1 := by unfold dk; decide +kernel
theorem dX3_add_10 : dk cX3_add 10 11 (.return_) 1 := by unfold dk; decide +kernel
theorem dX3_add_7 : bk cX3_add 7 10 11 (.if_icmp .lt 4) (4) := by unfold bk; decide +kernel
set_option maxHeartbeats 4000000 in
set_option maxRecDepth 100000 in
theorem kX3_add {l : Launch} {G : Gl} {E : En} {a0 : Nat} {a1 : Int32} {σ σ' : Sg} : fX3_add E a0 a1 σ = some σ' → CT l yX3_add cX3_add 3 none ({ frames := 0, cells := 0, slots := 0, locals := 0 } : Room) [.ref (G.1 + a0), .int a1] G E σ none σ' := by
  intro h
  refine CT_of (lv0 := [(0, .ref (G.1 + a0)), (1, .int a1)]) (by decide) (Nat.le_of_ble_eq_true rfl) rfl (fun κ hl hR hr C => ?_)
  have C : Cx κ G cX3_add RX3 3 := C
  revert h
  unfold fX3_add
  refine R_tk (fun ha0 => ?_)
  refine R_aload_n C 0 rfl dX3_add_0 ?_
  refine R_geti C fl3_18 rfl ha0 dX3_add_1 ?_
  refine R_sipush C (300) dX3_add_4 (by decide) ?_
  refine B_icmp_lt C dX3_add_7 ?_ ?_
  · refine R_aload_n C 0 rfl dX3_add_11 ?_
    refine R_geti C fl3_18 rfl ha0 dX3_add_12 ?_
    refine S_istore_n C dX3_add_15 rfl (fun v1 => [(2, .int v1), (0, .ref (G.1 + a0)), (1, .int a1)]) (by decide) (fun _ => rfl) (fun v1 => ?_)
    refine R_loc (lv2 := [(0, .ref (G.1 + a0)), (1, .int a1), (2, .int v1)]) [1, 2, 0] rfl ?_
    refine R_loop (fun (a : (Int32) × Sg) => V κ G (QQ κ G E none σ') E a.2 (false, 0, 0) 16 [(0, .ref (G.1 + a0)), (1, .int a1), (2, .int a.1)] []) (fun (o : (Int32)) (s : Sg) => V κ G (QQ κ G E none σ') E s (false, 0, 0) 57 [(0, .ref (G.1 + a0)), (1, .int a1), (2, .int o)] []) (v1, σ) (fun o16 s17 => ?_) (fun rec I7 a b5 s6 K4 => ?_)
    · refine R_aload_n C 0 rfl dX3_add_57 ?_
      refine R_dr (fun x18 rx18 cx18 => ?_)
      refine R_getr C fl3_15 rfl ha0 rx18 dX3_add_58 ?_
      refine R_iload_n C 2 rfl dX3_add_61 ?_
      refine R_aload_n C 0 rfl dX3_add_62 ?_
      refine R_geti C fl3_18 rfl ha0 dX3_add_63 ?_
      refine R_ck (fun h19 => ?_)
      refine S_iast C cx18 h19 dX3_add_66 (fun s20 => ?_)
      refine R_aload_n C 0 rfl dX3_add_67 ?_
      refine R_dup C dX3_add_68 rfl ?_
      refine R_geti C fl3_22 rfl ha0 dX3_add_69 ?_
      refine R_aload_n C 0 rfl dX3_add_72 ?_
      refine R_geti C fl3_18 rfl ha0 dX3_add_73 ?_
      refine R_iload_n C 2 rfl dX3_add_76 ?_
      refine R_isub C dX3_add_77 ?_
      refine R_iadd C dX3_add_78 ?_
      refine S_puti C fl3_22 rfl ha0 rfl rfl dX3_add_79 (fun s21 => ?_)
      refine R_aload_n C 0 rfl dX3_add_82 ?_
      refine R_dr (fun x22 rx22 cx22 => ?_)
      refine R_getr C fl3_9 rfl ha0 rx22 dX3_add_83 ?_
      refine R_aload_n C 0 rfl dX3_add_86 ?_
      refine R_geti C fl3_18 rfl ha0 dX3_add_87 ?_
      refine R_iload_n C 1 rfl dX3_add_90 ?_
      refine R_ck (fun h23 => ?_)
      refine S_iast C cx22 h23 dX3_add_91 (fun s24 => ?_)
      refine R_aload_n C 0 rfl dX3_add_92 ?_
      refine R_dup C dX3_add_93 rfl ?_
      refine R_geti C fl3_18 rfl ha0 dX3_add_94 ?_
      refine R_iconst C (1) dX3_add_97 (by decide) ?_
      refine R_iadd C dX3_add_98 ?_
      refine S_puti C fl3_18 rfl ha0 rfl rfl dX3_add_99 (fun s25 => ?_)
      exact R_vret C hr dX3_add_102
    · obtain ⟨v2, s3⟩ := a
      show bX3_add_16 E a0 a1 (fun u0 t => rec (u0, t)) v2 s3 = some (b5, s6) → V κ G (QQ κ G E none σ') E s3 (false, 0, 0) 16 [(0, .ref (G.1 + a0)), (1, .int a1), (2, .int v2)] []
      unfold bX3_add_16
      refine R_iload_n C 2 rfl dX3_add_16 ?_
      refine B_if_le C dX3_add_17 ?_ ?_
      · exact R_end (fun (o : (Int32)) (s : Sg) => V κ G (QQ κ G E none σ') E s (false, 0, 0) 57 [(0, .ref (G.1 + a0)), (1, .int a1), (2, .int o)] []) K4
      · refine R_aload_n C 0 rfl dX3_add_20 ?_
        refine R_dr (fun x8 rx8 cx8 => ?_)
        refine R_getr C fl3_9 rfl ha0 rx8 dX3_add_21 ?_
        refine R_aload_n C 0 rfl dX3_add_24 ?_
        refine R_dr (fun x9 rx9 cx9 => ?_)
        refine R_getr C fl3_15 rfl ha0 rx9 dX3_add_25 ?_
        refine R_iload_n C 2 rfl dX3_add_28 ?_
        refine R_iconst C (1) dX3_add_29 (by decide) ?_
        refine R_isub C dX3_add_30 ?_
        refine R_ck (fun h10 => ?_)
        refine R_iald C cx9 h10 dX3_add_31 ?_
        refine R_ck (fun h11 => ?_)
        refine R_iald C cx8 h11 dX3_add_32 ?_
        refine R_iload_n C 1 rfl dX3_add_33 ?_
        refine B_icmp_le C dX3_add_34 ?_ ?_
        · exact R_end (fun (o : (Int32)) (s : Sg) => V κ G (QQ κ G E none σ') E s (false, 0, 0) 57 [(0, .ref (G.1 + a0)), (1, .int a1), (2, .int o)] []) K4
        · refine R_aload_n C 0 rfl dX3_add_37 ?_
          refine R_getr C fl3_15 rfl ha0 rx9 dX3_add_38 ?_
          refine R_iload_n C 2 rfl dX3_add_41 ?_
          refine R_aload_n C 0 rfl dX3_add_42 ?_
          refine R_getr C fl3_15 rfl ha0 rx9 dX3_add_43 ?_
          refine R_iload_n C 2 rfl dX3_add_46 ?_
          refine R_iconst C (1) dX3_add_47 (by decide) ?_
          refine R_isub C dX3_add_48 ?_
          refine R_ck (fun h12 => ?_)
          refine R_iald C cx9 h12 dX3_add_49 ?_
          refine R_ck (fun h13 => ?_)
          refine S_iast C cx9 h13 dX3_add_50 (fun s14 => ?_)
          refine S_iinc (fun v15 => [(2, .int v15), (0, .ref (G.1 + a0)), (1, .int a1)]) 2 C dX3_add_51 rfl (by decide) (by decide) (fun _ => rfl) (fun v15 => ?_)
          refine R_goto C dX3_add_54 ?_
          refine R_loc (lv2 := [(0, .ref (G.1 + a0)), (1, .int a1), (2, .int v15)]) [1, 2, 0] rfl ?_
          exact I7 (v15, s14) b5 s6 K4
  · exact R_vret C hr dX3_add_10
theorem dX3_isLess_0 : dk cX3_isLess 0 1 (.aload_n 0) 1 := by unfold dk; decide +kernel
theorem dX3_isLess_1 : dk cX3_isLess 1 4 (.getfield 9) 3 := by unfold dk; decide +kernel
theorem dX3_isLess_4 : dk cX3_isLess 4 5 (.iload_n 1) 1 := by unfold dk; decide +kernel
theorem dX3_isLess_5 : dk cX3_isLess 5 6 (.iaload) 1 := by unfold dk; decide +kernel
theorem dX3_isLess_6 : dk cX3_isLess 6 7 (.aload_n 0) 1 := by unfold dk; decide +kernel
theorem dX3_isLess_7 : dk cX3_isLess 7 10 (.getfield 9) 3 := by unfold dk; decide +kernel
theorem dX3_isLess_10 : dk cX3_isLess 10 11 (.iload_n 2) 1 := by unfold dk; decide +kernel
theorem dX3_isLess_11 : dk cX3_isLess 11 12 (.iaload) 1 := by unfold dk; decide +kernel
theorem dX3_isLess_12 : bk cX3_isLess 12 15 35 (.if_icmp .lt 23) (23) := by unfold bk; decide +kernel
theorem dX3_isLess_35 : dk cX3_isLess 35 36 (.iconst 1) 1 := by unfold dk; decide +kernel
theorem dX3_isLess_36 : bk cX3_isLess 36 39 40 (.goto 4) (4) := by unfold bk; decide +kernel
theorem dX3_isLess_15 : dk cX3_isLess 15 16 (.aload_n 0) 1 := by unfold dk; decide +kernel
theorem dX3_isLess_16 : dk cX3_isLess 16 19 (.getfield 9) 3 := by unfold dk; decide +kernel
theorem dX3_isLess_19 : dk cX3_isLess 19 20 (.iload_n 1) 1 := by unfold dk; decide +kernel
theorem dX3_isLess_20 : dk cX3_isLess 20 21 (.iaload) 1 := by unfold dk; decide +kernel
theorem dX3_isLess_21 : dk cX3_isLess 21 22 (.aload_n 0) 1 := by unfold dk; decide +kernel
theorem dX3_isLess_22 : dk cX3_isLess 22 25 (.getfield 9) 3 := by unfold dk; decide +kernel
theorem dX3_isLess_25 : dk cX3_isLess 25 26 (.iload_n 2) 1 := by unfold dk; decide +kernel
theorem dX3_isLess_26 : dk cX3_isLess 26 27 (.iaload) 1 := by unfold dk; decide +kernel
theorem dX3_isLess_39 : dk cX3_isLess 39 40 (.iconst 0) 1 := by unfold dk; decide +kernel
theorem dX3_isLess_30 : dk cX3_isLess 30 31 (.iload_n 1) 1 := by unfold dk; decide +kernel
theorem dX3_isLess_31 : dk cX3_isLess 31 32 (.iload_n 2) 1 := by unfold dk; decide +kernel
theorem dX3_isLess_32 : bk cX3_isLess 32 35 39 (.if_icmp .ge 7) (7) := by unfold bk; decide +kernel
theorem dX3_isLess_27 : bk cX3_isLess 27 30 39 (.if_icmp .ne 12) (12) := by unfold bk; decide +kernel
theorem dX3_isLess_40 : dk cX3_isLess 40 41 (.ireturn) 1 := by unfold dk; decide +kernel
set_option maxHeartbeats 4000000 in
set_option maxRecDepth 100000 in
theorem kX3_isLess {l : Launch} {G : Gl} {E : En} {a0 : Nat} {a1 : Int32} {a2 : Int32} {σ σ' : Sg} {r : Int32} : fX3_isLess E a0 a1 a2 σ = some (r, σ') → CT l yX3_isLess cX3_isLess 3 (some .boolean) ({ frames := 0, cells := 0, slots := 0, locals := 0 } : Room) [.ref (G.1 + a0), .int a1, .int a2] G E σ (some (.int r)) σ' := by
  intro h
  refine CT_of (lv0 := [(0, .ref (G.1 + a0)), (1, .int a1), (2, .int a2)]) (by decide) (Nat.le_of_ble_eq_true rfl) rfl (fun κ hl hR hr C => ?_)
  have C : Cx κ G cX3_isLess RX3 3 := C
  revert h
  unfold fX3_isLess
  refine R_tk (fun ha0 => ?_)
  refine R_aload_n C 0 rfl dX3_isLess_0 ?_
  refine R_dr (fun x1 rx1 cx1 => ?_)
  refine R_getr C fl3_9 rfl ha0 rx1 dX3_isLess_1 ?_
  refine R_iload_n C 1 rfl dX3_isLess_4 ?_
  refine R_ck (fun h2 => ?_)
  refine R_iald C cx1 h2 dX3_isLess_5 ?_
  refine R_aload_n C 0 rfl dX3_isLess_6 ?_
  refine R_getr C fl3_9 rfl ha0 rx1 dX3_isLess_7 ?_
  refine R_iload_n C 2 rfl dX3_isLess_10 ?_
  refine R_ck (fun h3 => ?_)
  refine R_iald C cx1 h3 dX3_isLess_11 ?_
  refine R_bdK (fun (w : Int32) (s : Sg) => V κ G (QQ κ G E (some (.int r)) σ') E s (false, 0, 0) 40 [] [.int w]) (fun w4 s5 => ?_) (fun w4 s5 Kw4 => ?_)
  · refine R_kb (fun h8 => ?_)
    exact R_zret C hr h8 dX3_isLess_40
  · refine B_icmp_lt C dX3_isLess_12 ?_ ?_
    · refine R_iconst C (1) dX3_isLess_35 (by decide) ?_
      refine R_goto C dX3_isLess_36 ?_
      refine R_loc (lv2 := []) [] rfl ?_
      exact R_end (fun (w : Int32) (s : Sg) => V κ G (QQ κ G E (some (.int r)) σ') E s (false, 0, 0) 40 [] [.int w]) Kw4
    · refine R_aload_n C 0 rfl dX3_isLess_15 ?_
      refine R_getr C fl3_9 rfl ha0 rx1 dX3_isLess_16 ?_
      refine R_iload_n C 1 rfl dX3_isLess_19 ?_
      refine R_ck (fun h6 => ?_)
      refine R_iald C cx1 h6 dX3_isLess_20 ?_
      refine R_aload_n C 0 rfl dX3_isLess_21 ?_
      refine R_getr C fl3_9 rfl ha0 rx1 dX3_isLess_22 ?_
      refine R_iload_n C 2 rfl dX3_isLess_25 ?_
      refine R_ck (fun h7 => ?_)
      refine R_iald C cx1 h7 dX3_isLess_26 ?_
      refine B_icmp_ne C dX3_isLess_27 ?_ ?_
      · refine R_iconst C (0) dX3_isLess_39 (by decide) ?_
        refine R_loc (lv2 := []) [] rfl ?_
        exact R_end (fun (w : Int32) (s : Sg) => V κ G (QQ κ G E (some (.int r)) σ') E s (false, 0, 0) 40 [] [.int w]) Kw4
      · refine R_iload_n C 1 rfl dX3_isLess_30 ?_
        refine R_iload_n C 2 rfl dX3_isLess_31 ?_
        refine B_icmp_ge C dX3_isLess_32 ?_ ?_
        · refine R_iconst C (0) dX3_isLess_39 (by decide) ?_
          refine R_loc (lv2 := []) [] rfl ?_
          exact R_end (fun (w : Int32) (s : Sg) => V κ G (QQ κ G E (some (.int r)) σ') E s (false, 0, 0) 40 [] [.int w]) Kw4
        · refine R_iconst C (1) dX3_isLess_35 (by decide) ?_
          refine R_goto C dX3_isLess_36 ?_
          refine R_loc (lv2 := []) [] rfl ?_
          exact R_end (fun (w : Int32) (s : Sg) => V κ G (QQ κ G E (some (.int r)) σ') E s (false, 0, 0) 40 [] [.int w]) Kw4
theorem dX3_ranked_0 : dk cX3_ranked 0 1 (.aload_n 0) 1 := by unfold dk; decide +kernel
theorem dX3_ranked_1 : dk cX3_ranked 1 4 (.getfield 15) 3 := by unfold dk; decide +kernel
theorem dX3_ranked_4 : dk cX3_ranked 4 5 (.iload_n 2) 1 := by unfold dk; decide +kernel
theorem dX3_ranked_5 : bk cX3_ranked 5 8 19 (.ifCond .eq 14) (14) := by unfold bk; decide +kernel
theorem dX3_ranked_19 : dk cX3_ranked 19 20 (.iload_n 1) 1 := by unfold dk; decide +kernel
theorem dX3_ranked_8 : dk cX3_ranked 8 9 (.aload_n 0) 1 := by unfold dk; decide +kernel
theorem dX3_ranked_9 : dk cX3_ranked 9 12 (.getfield 18) 3 := by unfold dk; decide +kernel
theorem dX3_ranked_12 : dk cX3_ranked 12 13 (.iconst 1) 1 := by unfold dk; decide +kernel
theorem dX3_ranked_13 : dk cX3_ranked 13 14 (.isub) 1 := by unfold dk; decide +kernel
theorem dX3_ranked_14 : dk cX3_ranked 14 15 (.iload_n 1) 1 := by unfold dk; decide +kernel
theorem dX3_ranked_15 : dk cX3_ranked 15 16 (.isub) 1 := by unfold dk; decide +kernel
theorem dX3_ranked_16 : bk cX3_ranked 16 19 20 (.goto 4) (4) := by unfold bk; decide +kernel
theorem dX3_ranked_20 : dk cX3_ranked 20 21 (.iaload) 1 := by unfold dk; decide +kernel
theorem dX3_ranked_21 : dk cX3_ranked 21 22 (.ireturn) 1 := by unfold dk; decide +kernel
set_option maxHeartbeats 4000000 in
set_option maxRecDepth 100000 in
theorem kX3_ranked {l : Launch} {G : Gl} {E : En} {a0 : Nat} {a1 : Int32} {a2 : Int32} {σ σ' : Sg} {r : Int32} : fX3_ranked E a0 a1 a2 σ = some (r, σ') → CT l yX3_ranked cX3_ranked 3 (some .int) ({ frames := 0, cells := 0, slots := 0, locals := 0 } : Room) [.ref (G.1 + a0), .int a1, .int a2] G E σ (some (.int r)) σ' := by
  intro h
  refine CT_of (lv0 := [(0, .ref (G.1 + a0)), (1, .int a1), (2, .int a2)]) (by decide) (Nat.le_of_ble_eq_true rfl) rfl (fun κ hl hR hr C => ?_)
  have C : Cx κ G cX3_ranked RX3 3 := C
  revert h
  unfold fX3_ranked
  refine R_tk (fun ha0 => ?_)
  refine R_aload_n C 0 rfl dX3_ranked_0 ?_
  refine R_dr (fun x1 rx1 cx1 => ?_)
  refine R_getr C fl3_15 rfl ha0 rx1 dX3_ranked_1 ?_
  refine R_iload_n C 2 rfl dX3_ranked_4 ?_
  refine R_bdK (fun (w : Int32) (s : Sg) => V κ G (QQ κ G E (some (.int r)) σ') E s (false, 0, 0) 20 [] [.int w, .ref (G.1 + x1)]) (fun w2 s3 => ?_) (fun w2 s3 Kw2 => ?_)
  · refine R_ck (fun h4 => ?_)
    refine R_iald C cx1 h4 dX3_ranked_20 ?_
    exact R_iret C hr dX3_ranked_21
  · refine B_if_eq C dX3_ranked_5 ?_ ?_
    · refine R_iload_n C 1 rfl dX3_ranked_19 ?_
      refine R_loc (lv2 := []) [] rfl ?_
      exact R_end (fun (w : Int32) (s : Sg) => V κ G (QQ κ G E (some (.int r)) σ') E s (false, 0, 0) 20 [] [.int w, .ref (G.1 + x1)]) Kw2
    · refine R_aload_n C 0 rfl dX3_ranked_8 ?_
      refine R_geti C fl3_18 rfl ha0 dX3_ranked_9 ?_
      refine R_iconst C (1) dX3_ranked_12 (by decide) ?_
      refine R_isub C dX3_ranked_13 ?_
      refine R_iload_n C 1 rfl dX3_ranked_14 ?_
      refine R_isub C dX3_ranked_15 ?_
      refine R_goto C dX3_ranked_16 ?_
      refine R_loc (lv2 := []) [] rfl ?_
      exact R_end (fun (w : Int32) (s : Sg) => V κ G (QQ κ G E (some (.int r)) σ') E s (false, 0, 0) 20 [] [.int w, .ref (G.1 + x1)]) Kw2
theorem dX3_howOften_0 : dk cX3_howOften 0 1 (.iconst 0) 1 := by unfold dk; decide +kernel
theorem dX3_howOften_1 : dk cX3_howOften 1 2 (.istore_n 2) 1 := by unfold dk; decide +kernel
theorem dX3_howOften_2 : dk cX3_howOften 2 3 (.iconst 0) 1 := by unfold dk; decide +kernel
theorem dX3_howOften_3 : dk cX3_howOften 3 4 (.istore_n 3) 1 := by unfold dk; decide +kernel
theorem dX3_howOften_4 : dk cX3_howOften 4 5 (.iload_n 3) 1 := by unfold dk; decide +kernel
theorem dX3_howOften_5 : dk cX3_howOften 5 6 (.aload_n 0) 1 := by unfold dk; decide +kernel
theorem dX3_howOften_6 : dk cX3_howOften 6 9 (.getfield 18) 3 := by unfold dk; decide +kernel
theorem dX3_howOften_12 : dk cX3_howOften 12 13 (.aload_n 0) 1 := by unfold dk; decide +kernel
theorem dX3_howOften_13 : dk cX3_howOften 13 16 (.getfield 9) 3 := by unfold dk; decide +kernel
theorem dX3_howOften_16 : dk cX3_howOften 16 17 (.iload_n 3) 1 := by unfold dk; decide +kernel
theorem dX3_howOften_17 : dk cX3_howOften 17 18 (.iaload) 1 := by unfold dk; decide +kernel
theorem dX3_howOften_18 : dk cX3_howOften 18 19 (.iload_n 1) 1 := by unfold dk; decide +kernel
theorem dX3_howOften_19 : bk cX3_howOften 19 22 25 (.if_icmp .ne 6) (6) := by unfold bk; decide +kernel
theorem dX3_howOften_22 : dk cX3_howOften 22 25 (.iinc 2 1) 3 := by unfold dk; decide +kernel
theorem dX3_howOften_25 : dk cX3_howOften 25 28 (.iinc 3 1) 3 := by unfold dk; decide +kernel
theorem dX3_howOften_28 : bk cX3_howOften 28 31 4 (.goto (-24)) (-24) := by unfold bk; decide +kernel
theorem dX3_howOften_9 : bk cX3_howOften 9 12 31 (.if_icmp .ge 22) (22) := by unfold bk; decide +kernel
theorem dX3_howOften_31 : dk cX3_howOften 31 32 (.iload_n 2) 1 := by unfold dk; decide +kernel
theorem dX3_howOften_32 : dk cX3_howOften 32 33 (.ireturn) 1 := by unfold dk; decide +kernel
set_option maxHeartbeats 4000000 in
set_option maxRecDepth 100000 in
theorem kX3_howOften {l : Launch} {G : Gl} {E : En} {a0 : Nat} {a1 : Int32} {σ σ' : Sg} {r : Int32} : fX3_howOften E a0 a1 σ = some (r, σ') → CT l yX3_howOften cX3_howOften 4 (some .int) ({ frames := 0, cells := 0, slots := 0, locals := 0 } : Room) [.ref (G.1 + a0), .int a1] G E σ (some (.int r)) σ' := by
  intro h
  refine CT_of (lv0 := [(0, .ref (G.1 + a0)), (1, .int a1)]) (by decide) (Nat.le_of_ble_eq_true rfl) rfl (fun κ hl hR hr C => ?_)
  have C : Cx κ G cX3_howOften RX3 4 := C
  revert h
  unfold fX3_howOften
  refine R_tk (fun ha0 => ?_)
  refine R_iconst C (0) dX3_howOften_0 (by decide) ?_
  refine R_istore_n (lv2 := [(2, .int (0 : Int32)), (0, .ref (G.1 + a0)), (1, .int a1)]) C dX3_howOften_1 rfl (by decide) rfl ?_
  refine R_iconst C (0) dX3_howOften_2 (by decide) ?_
  refine R_istore_n (lv2 := [(3, .int (0 : Int32)), (2, .int (0 : Int32)), (0, .ref (G.1 + a0)), (1, .int a1)]) C dX3_howOften_3 rfl (by decide) rfl ?_
  refine R_loc (lv2 := [(0, .ref (G.1 + a0)), (1, .int a1), (2, .int (0 : Int32)), (3, .int (0 : Int32))]) [2, 3, 1, 0] rfl ?_
  refine R_loop (fun (a : (Int32 × Int32) × Sg) => V κ G (QQ κ G E (some (.int r)) σ') E a.2 (false, 0, 0) 4 [(0, .ref (G.1 + a0)), (1, .int a1), (2, .int a.1.1), (3, .int a.1.2)] []) (fun (o : (Int32 × Int32)) (s : Sg) => V κ G (QQ κ G E (some (.int r)) σ') E s (false, 0, 0) 31 [(2, .int o.1)] []) (((0 : Int32), (0 : Int32)), σ) (fun o14 s15 => ?_) (fun rec I7 a b5 s6 K4 => ?_)
  · refine R_iload_n C 0 rfl dX3_howOften_31 ?_
    exact R_iret C hr dX3_howOften_32
  · obtain ⟨⟨v1, v2⟩, s3⟩ := a
    show bX3_howOften_4 E a0 a1 (fun u0 u1 t => rec ((u0, u1), t)) v1 v2 s3 = some (b5, s6) → V κ G (QQ κ G E (some (.int r)) σ') E s3 (false, 0, 0) 4 [(0, .ref (G.1 + a0)), (1, .int a1), (2, .int v1), (3, .int v2)] []
    unfold bX3_howOften_4
    refine R_iload_n C 3 rfl dX3_howOften_4 ?_
    refine R_aload_n C 0 rfl dX3_howOften_5 ?_
    refine R_geti C fl3_18 rfl ha0 dX3_howOften_6 ?_
    refine B_icmp_ge C dX3_howOften_9 ?_ ?_
    · refine R_loc (lv2 := [(2, .int v1)]) [2] rfl ?_
      exact R_end (fun (o : (Int32 × Int32)) (s : Sg) => V κ G (QQ κ G E (some (.int r)) σ') E s (false, 0, 0) 31 [(2, .int o.1)] []) K4
    · refine R_aload_n C 0 rfl dX3_howOften_12 ?_
      refine R_dr (fun x8 rx8 cx8 => ?_)
      refine R_getr C fl3_9 rfl ha0 rx8 dX3_howOften_13 ?_
      refine R_iload_n C 3 rfl dX3_howOften_16 ?_
      refine R_ck (fun h9 => ?_)
      refine R_iald C cx8 h9 dX3_howOften_17 ?_
      refine R_iload_n C 1 rfl dX3_howOften_18 ?_
      refine R_bdK (fun (w : Int32) (s : Sg) => V κ G (QQ κ G E (some (.int r)) σ') E s (false, 0, 0) 25 [(0, .ref (G.1 + a0)), (1, .int a1), (3, .int v2), (2, .int w)] []) (fun w10 s11 => ?_) (fun w10 s11 Kw10 => ?_)
      · refine S_iinc (fun v13 => [(3, .int v13), (0, .ref (G.1 + a0)), (1, .int a1), (2, .int w10)]) 2 C dX3_howOften_25 rfl (by decide) (by decide) (fun _ => rfl) (fun v13 => ?_)
        refine R_goto C dX3_howOften_28 ?_
        refine R_loc (lv2 := [(0, .ref (G.1 + a0)), (1, .int a1), (2, .int w10), (3, .int v13)]) [1, 2, 3, 0] rfl ?_
        exact I7 ((w10, v13), s11) b5 s6 K4
      · refine B_icmp_ne C dX3_howOften_19 ?_ ?_
        · refine R_loc (lv2 := [(0, .ref (G.1 + a0)), (1, .int a1), (3, .int v2), (2, .int v1)]) [0, 1, 3, 2] rfl ?_
          exact R_end (fun (w : Int32) (s : Sg) => V κ G (QQ κ G E (some (.int r)) σ') E s (false, 0, 0) 25 [(0, .ref (G.1 + a0)), (1, .int a1), (3, .int v2), (2, .int w)] []) Kw10
        · refine S_iinc (fun v12 => [(2, .int v12), (0, .ref (G.1 + a0)), (1, .int a1), (3, .int v2)]) 2 C dX3_howOften_22 rfl (by decide) (by decide) (fun _ => rfl) (fun v12 => ?_)
          refine R_loc (lv2 := [(0, .ref (G.1 + a0)), (1, .int a1), (3, .int v2), (2, .int v12)]) [1, 2, 3, 0] rfl ?_
          exact R_end (fun (w : Int32) (s : Sg) => V κ G (QQ κ G E (some (.int r)) σ') E s (false, 0, 0) 25 [(0, .ref (G.1 + a0)), (1, .int a1), (3, .int v2), (2, .int w)] []) Kw10
theorem dX3_firstOf_0 : dk cX3_firstOf 0 1 (.iconst 0) 1 := by unfold dk; decide +kernel
theorem dX3_firstOf_1 : dk cX3_firstOf 1 2 (.istore_n 2) 1 := by unfold dk; decide +kernel
theorem dX3_firstOf_2 : dk cX3_firstOf 2 3 (.iload_n 2) 1 := by unfold dk; decide +kernel
theorem dX3_firstOf_3 : dk cX3_firstOf 3 4 (.aload_n 0) 1 := by unfold dk; decide +kernel
theorem dX3_firstOf_4 : dk cX3_firstOf 4 7 (.getfield 18) 3 := by unfold dk; decide +kernel
theorem dX3_firstOf_10 : dk cX3_firstOf 10 11 (.aload_n 0) 1 := by unfold dk; decide +kernel
theorem dX3_firstOf_11 : dk cX3_firstOf 11 14 (.getfield 9) 3 := by unfold dk; decide +kernel
theorem dX3_firstOf_14 : dk cX3_firstOf 14 15 (.iload_n 2) 1 := by unfold dk; decide +kernel
theorem dX3_firstOf_15 : dk cX3_firstOf 15 16 (.iaload) 1 := by unfold dk; decide +kernel
theorem dX3_firstOf_16 : dk cX3_firstOf 16 17 (.iload_n 1) 1 := by unfold dk; decide +kernel
theorem dX3_firstOf_22 : dk cX3_firstOf 22 25 (.iinc 2 1) 3 := by unfold dk; decide +kernel
theorem dX3_firstOf_25 : bk cX3_firstOf 25 28 2 (.goto (-23)) (-23) := by unfold bk; decide +kernel
theorem dX3_firstOf_20 : dk cX3_firstOf 20 21 (.iload_n 2) 1 := by unfold dk; decide +kernel
theorem dX3_firstOf_21 : dk cX3_firstOf 21 22 (.ireturn) 1 := by unfold dk; decide +kernel
theorem dX3_firstOf_17 : bk cX3_firstOf 17 20 22 (.if_icmp .ne 5) (5) := by unfold bk; decide +kernel
theorem dX3_firstOf_7 : bk cX3_firstOf 7 10 28 (.if_icmp .ge 21) (21) := by unfold bk; decide +kernel
theorem dX3_firstOf_28 : dk cX3_firstOf 28 30 (.bipush (-2)) 2 := by unfold dk; decide +kernel
theorem dX3_firstOf_30 : dk cX3_firstOf 30 31 (.ireturn) 1 := by unfold dk; decide +kernel
set_option maxHeartbeats 4000000 in
set_option maxRecDepth 100000 in
theorem kX3_firstOf {l : Launch} {G : Gl} {E : En} {a0 : Nat} {a1 : Int32} {σ σ' : Sg} {r : Int32} : fX3_firstOf E a0 a1 σ = some (r, σ') → CT l yX3_firstOf cX3_firstOf 3 (some .int) ({ frames := 0, cells := 0, slots := 0, locals := 0 } : Room) [.ref (G.1 + a0), .int a1] G E σ (some (.int r)) σ' := by
  intro h
  refine CT_of (lv0 := [(0, .ref (G.1 + a0)), (1, .int a1)]) (by decide) (Nat.le_of_ble_eq_true rfl) rfl (fun κ hl hR hr C => ?_)
  have C : Cx κ G cX3_firstOf RX3 3 := C
  revert h
  unfold fX3_firstOf
  refine R_tk (fun ha0 => ?_)
  refine R_iconst C (0) dX3_firstOf_0 (by decide) ?_
  refine R_istore_n (lv2 := [(2, .int (0 : Int32)), (0, .ref (G.1 + a0)), (1, .int a1)]) C dX3_firstOf_1 rfl (by decide) rfl ?_
  refine R_loc (lv2 := [(0, .ref (G.1 + a0)), (1, .int a1), (2, .int (0 : Int32))]) [1, 2, 0] rfl ?_
  refine R_loop (fun (a : (Int32) × Sg) => V κ G (QQ κ G E (some (.int r)) σ') E a.2 (false, 0, 0) 2 [(0, .ref (G.1 + a0)), (1, .int a1), (2, .int a.1)] []) (fun (o : ((Int32) ⊕ Int32)) (s : Sg) => sm o (fun o => V κ G (QQ κ G E (some (.int r)) σ') E s (false, 0, 0) 28 [] []) (fun rr => some (rr, s) = some (r, σ'))) ((0 : Int32), σ) (fun o10 s11 => ?_) (fun rec I6 a b4 s5 K3 => ?_)
  · rcases o10 with vo10 | ro10
    · refine R_sml ?_
      refine R_bipush C (-2) dX3_firstOf_28 (by decide) ?_
      exact R_iret C hr dX3_firstOf_30
    · exact fun h => h
  · obtain ⟨v1, s2⟩ := a
    show bX3_firstOf_2 E a0 a1 (fun u0 t => rec (u0, t)) v1 s2 = some (b4, s5) → V κ G (QQ κ G E (some (.int r)) σ') E s2 (false, 0, 0) 2 [(0, .ref (G.1 + a0)), (1, .int a1), (2, .int v1)] []
    unfold bX3_firstOf_2
    refine R_iload_n C 2 rfl dX3_firstOf_2 ?_
    refine R_aload_n C 0 rfl dX3_firstOf_3 ?_
    refine R_geti C fl3_18 rfl ha0 dX3_firstOf_4 ?_
    refine B_icmp_ge C dX3_firstOf_7 ?_ ?_
    · refine R_loc (lv2 := []) [] rfl ?_
      exact R_inr (VX := (fun (o : ((Int32) ⊕ Int32)) (s : Sg) => sm o (fun o => V κ G (QQ κ G E (some (.int r)) σ') E s (false, 0, 0) 28 [] []) (fun rr => some (rr, s) = some (r, σ')))) (i := .inl) K3 (fun h => h)
    · refine R_aload_n C 0 rfl dX3_firstOf_10 ?_
      refine R_dr (fun x7 rx7 cx7 => ?_)
      refine R_getr C fl3_9 rfl ha0 rx7 dX3_firstOf_11 ?_
      refine R_iload_n C 2 rfl dX3_firstOf_14 ?_
      refine R_ck (fun h8 => ?_)
      refine R_iald C cx7 h8 dX3_firstOf_15 ?_
      refine R_iload_n C 1 rfl dX3_firstOf_16 ?_
      refine B_icmp_ne C dX3_firstOf_17 ?_ ?_
      · refine S_iinc (fun v9 => [(2, .int v9), (0, .ref (G.1 + a0)), (1, .int a1)]) 2 C dX3_firstOf_22 rfl (by decide) (by decide) (fun _ => rfl) (fun v9 => ?_)
        refine R_goto C dX3_firstOf_25 ?_
        refine R_loc (lv2 := [(0, .ref (G.1 + a0)), (1, .int a1), (2, .int v9)]) [1, 2, 0] rfl ?_
        exact I6 (v9, s2) b4 s5 K3
      · refine R_iload_n C 2 rfl dX3_firstOf_20 ?_
        exact R_inr (VX := (fun (o : ((Int32) ⊕ Int32)) (s : Sg) => sm o (fun o => V κ G (QQ κ G E (some (.int r)) σ') E s (false, 0, 0) 28 [] []) (fun rr => some (rr, s) = some (r, σ')))) (i := .inr) K3 (R_iret C hr dX3_firstOf_21)
theorem dX3_lastOf_0 : dk cX3_lastOf 0 1 (.aload_n 0) 1 := by unfold dk; decide +kernel
theorem dX3_lastOf_1 : dk cX3_lastOf 1 4 (.getfield 18) 3 := by unfold dk; decide +kernel
theorem dX3_lastOf_4 : dk cX3_lastOf 4 5 (.iconst 1) 1 := by unfold dk; decide +kernel
theorem dX3_lastOf_5 : dk cX3_lastOf 5 6 (.isub) 1 := by unfold dk; decide +kernel
theorem dX3_lastOf_6 : dk cX3_lastOf 6 7 (.istore_n 2) 1 := by unfold dk; decide +kernel
theorem dX3_lastOf_7 : dk cX3_lastOf 7 8 (.iload_n 2) 1 := by unfold dk; decide +kernel
theorem dX3_lastOf_11 : dk cX3_lastOf 11 12 (.aload_n 0) 1 := by unfold dk; decide +kernel
theorem dX3_lastOf_12 : dk cX3_lastOf 12 15 (.getfield 9) 3 := by unfold dk; decide +kernel
theorem dX3_lastOf_15 : dk cX3_lastOf 15 16 (.iload_n 2) 1 := by unfold dk; decide +kernel
theorem dX3_lastOf_16 : dk cX3_lastOf 16 17 (.iaload) 1 := by unfold dk; decide +kernel
theorem dX3_lastOf_17 : dk cX3_lastOf 17 18 (.iload_n 1) 1 := by unfold dk; decide +kernel
theorem dX3_lastOf_23 : dk cX3_lastOf 23 26 (.iinc 2 (-1)) 3 := by unfold dk; decide +kernel
theorem dX3_lastOf_26 : bk cX3_lastOf 26 29 7 (.goto (-19)) (-19) := by unfold bk; decide +kernel
theorem dX3_lastOf_21 : dk cX3_lastOf 21 22 (.iload_n 2) 1 := by unfold dk; decide +kernel
theorem dX3_lastOf_22 : dk cX3_lastOf 22 23 (.ireturn) 1 := by unfold dk; decide +kernel
theorem dX3_lastOf_18 : bk cX3_lastOf 18 21 23 (.if_icmp .ne 5) (5) := by unfold bk; decide +kernel
theorem dX3_lastOf_8 : bk cX3_lastOf 8 11 29 (.ifCond .lt 21) (21) := by unfold bk; decide +kernel
theorem dX3_lastOf_29 : dk cX3_lastOf 29 31 (.bipush (-2)) 2 := by unfold dk; decide +kernel
theorem dX3_lastOf_31 : dk cX3_lastOf 31 32 (.ireturn) 1 := by unfold dk; decide +kernel
set_option maxHeartbeats 4000000 in
set_option maxRecDepth 100000 in
theorem kX3_lastOf {l : Launch} {G : Gl} {E : En} {a0 : Nat} {a1 : Int32} {σ σ' : Sg} {r : Int32} : fX3_lastOf E a0 a1 σ = some (r, σ') → CT l yX3_lastOf cX3_lastOf 3 (some .int) ({ frames := 0, cells := 0, slots := 0, locals := 0 } : Room) [.ref (G.1 + a0), .int a1] G E σ (some (.int r)) σ' := by
  intro h
  refine CT_of (lv0 := [(0, .ref (G.1 + a0)), (1, .int a1)]) (by decide) (Nat.le_of_ble_eq_true rfl) rfl (fun κ hl hR hr C => ?_)
  have C : Cx κ G cX3_lastOf RX3 3 := C
  revert h
  unfold fX3_lastOf
  refine R_tk (fun ha0 => ?_)
  refine R_aload_n C 0 rfl dX3_lastOf_0 ?_
  refine R_geti C fl3_18 rfl ha0 dX3_lastOf_1 ?_
  refine R_iconst C (1) dX3_lastOf_4 (by decide) ?_
  refine R_isub C dX3_lastOf_5 ?_
  refine S_istore_n C dX3_lastOf_6 rfl (fun v1 => [(2, .int v1), (0, .ref (G.1 + a0)), (1, .int a1)]) (by decide) (fun _ => rfl) (fun v1 => ?_)
  refine R_loc (lv2 := [(0, .ref (G.1 + a0)), (1, .int a1), (2, .int v1)]) [1, 2, 0] rfl ?_
  refine R_loop (fun (a : (Int32) × Sg) => V κ G (QQ κ G E (some (.int r)) σ') E a.2 (false, 0, 0) 7 [(0, .ref (G.1 + a0)), (1, .int a1), (2, .int a.1)] []) (fun (o : ((Int32) ⊕ Int32)) (s : Sg) => sm o (fun o => V κ G (QQ κ G E (some (.int r)) σ') E s (false, 0, 0) 29 [] []) (fun rr => some (rr, s) = some (r, σ'))) (v1, σ) (fun o11 s12 => ?_) (fun rec I7 a b5 s6 K4 => ?_)
  · rcases o11 with vo11 | ro11
    · refine R_sml ?_
      refine R_bipush C (-2) dX3_lastOf_29 (by decide) ?_
      exact R_iret C hr dX3_lastOf_31
    · exact fun h => h
  · obtain ⟨v2, s3⟩ := a
    show bX3_lastOf_7 E a0 a1 (fun u0 t => rec (u0, t)) v2 s3 = some (b5, s6) → V κ G (QQ κ G E (some (.int r)) σ') E s3 (false, 0, 0) 7 [(0, .ref (G.1 + a0)), (1, .int a1), (2, .int v2)] []
    unfold bX3_lastOf_7
    refine R_iload_n C 2 rfl dX3_lastOf_7 ?_
    refine B_if_lt C dX3_lastOf_8 ?_ ?_
    · refine R_loc (lv2 := []) [] rfl ?_
      exact R_inr (VX := (fun (o : ((Int32) ⊕ Int32)) (s : Sg) => sm o (fun o => V κ G (QQ κ G E (some (.int r)) σ') E s (false, 0, 0) 29 [] []) (fun rr => some (rr, s) = some (r, σ')))) (i := .inl) K4 (fun h => h)
    · refine R_aload_n C 0 rfl dX3_lastOf_11 ?_
      refine R_dr (fun x8 rx8 cx8 => ?_)
      refine R_getr C fl3_9 rfl ha0 rx8 dX3_lastOf_12 ?_
      refine R_iload_n C 2 rfl dX3_lastOf_15 ?_
      refine R_ck (fun h9 => ?_)
      refine R_iald C cx8 h9 dX3_lastOf_16 ?_
      refine R_iload_n C 1 rfl dX3_lastOf_17 ?_
      refine B_icmp_ne C dX3_lastOf_18 ?_ ?_
      · refine S_iinc (fun v10 => [(2, .int v10), (0, .ref (G.1 + a0)), (1, .int a1)]) 2 C dX3_lastOf_23 rfl (by decide) (by decide) (fun _ => rfl) (fun v10 => ?_)
        refine R_goto C dX3_lastOf_26 ?_
        refine R_loc (lv2 := [(0, .ref (G.1 + a0)), (1, .int a1), (2, .int v10)]) [1, 2, 0] rfl ?_
        exact I7 (v10, s3) b5 s6 K4
      · refine R_iload_n C 2 rfl dX3_lastOf_21 ?_
        exact R_inr (VX := (fun (o : ((Int32) ⊕ Int32)) (s : Sg) => sm o (fun o => V κ G (QQ κ G E (some (.int r)) σ') E s (false, 0, 0) 29 [] []) (fun rr => some (rr, s) = some (r, σ')))) (i := .inr) K4 (R_iret C hr dX3_lastOf_22)
theorem dX3_beginsKey_0 : dk cX3_beginsKey 0 1 (.iload_n 1) 1 := by unfold dk; decide +kernel
theorem dX3_beginsKey_1 : bk cX3_beginsKey 1 4 31 (.ifCond .eq 30) (30) := by unfold bk; decide +kernel
theorem dX3_beginsKey_31 : dk cX3_beginsKey 31 32 (.iconst 1) 1 := by unfold dk; decide +kernel
theorem dX3_beginsKey_32 : bk cX3_beginsKey 32 35 36 (.goto 4) (4) := by unfold bk; decide +kernel
theorem dX3_beginsKey_4 : dk cX3_beginsKey 4 5 (.aload_n 0) 1 := by unfold dk; decide +kernel
theorem dX3_beginsKey_5 : dk cX3_beginsKey 5 8 (.getfield 9) 3 := by unfold dk; decide +kernel
theorem dX3_beginsKey_8 : dk cX3_beginsKey 8 9 (.aload_n 0) 1 := by unfold dk; decide +kernel
theorem dX3_beginsKey_9 : dk cX3_beginsKey 9 12 (.getfield 15) 3 := by unfold dk; decide +kernel
theorem dX3_beginsKey_12 : dk cX3_beginsKey 12 13 (.iload_n 1) 1 := by unfold dk; decide +kernel
theorem dX3_beginsKey_13 : dk cX3_beginsKey 13 14 (.iaload) 1 := by unfold dk; decide +kernel
theorem dX3_beginsKey_14 : dk cX3_beginsKey 14 15 (.iaload) 1 := by unfold dk; decide +kernel
theorem dX3_beginsKey_15 : dk cX3_beginsKey 15 16 (.aload_n 0) 1 := by unfold dk; decide +kernel
theorem dX3_beginsKey_16 : dk cX3_beginsKey 16 19 (.getfield 9) 3 := by unfold dk; decide +kernel
theorem dX3_beginsKey_19 : dk cX3_beginsKey 19 20 (.aload_n 0) 1 := by unfold dk; decide +kernel
theorem dX3_beginsKey_20 : dk cX3_beginsKey 20 23 (.getfield 15) 3 := by unfold dk; decide +kernel
theorem dX3_beginsKey_23 : dk cX3_beginsKey 23 24 (.iload_n 1) 1 := by unfold dk; decide +kernel
theorem dX3_beginsKey_24 : dk cX3_beginsKey 24 25 (.iconst 1) 1 := by unfold dk; decide +kernel
theorem dX3_beginsKey_25 : dk cX3_beginsKey 25 26 (.isub) 1 := by unfold dk; decide +kernel
theorem dX3_beginsKey_26 : dk cX3_beginsKey 26 27 (.iaload) 1 := by unfold dk; decide +kernel
theorem dX3_beginsKey_27 : dk cX3_beginsKey 27 28 (.iaload) 1 := by unfold dk; decide +kernel
theorem dX3_beginsKey_35 : dk cX3_beginsKey 35 36 (.iconst 0) 1 := by unfold dk; decide +kernel
theorem dX3_beginsKey_28 : bk cX3_beginsKey 28 31 35 (.if_icmp .eq 7) (7) := by unfold bk; decide +kernel
theorem dX3_beginsKey_36 : dk cX3_beginsKey 36 37 (.ireturn) 1 := by unfold dk; decide +kernel
set_option maxHeartbeats 4000000 in
set_option maxRecDepth 100000 in
theorem kX3_beginsKey {l : Launch} {G : Gl} {E : En} {a0 : Nat} {a1 : Int32} {σ σ' : Sg} {r : Int32} : fX3_beginsKey E a0 a1 σ = some (r, σ') → CT l yX3_beginsKey cX3_beginsKey 2 (some .boolean) ({ frames := 0, cells := 0, slots := 0, locals := 0 } : Room) [.ref (G.1 + a0), .int a1] G E σ (some (.int r)) σ' := by
  intro h
  refine CT_of (lv0 := [(0, .ref (G.1 + a0)), (1, .int a1)]) (by decide) (Nat.le_of_ble_eq_true rfl) rfl (fun κ hl hR hr C => ?_)
  have C : Cx κ G cX3_beginsKey RX3 2 := C
  revert h
  unfold fX3_beginsKey
  refine R_tk (fun ha0 => ?_)
  refine R_iload_n C 1 rfl dX3_beginsKey_0 ?_
  refine R_bdK (fun (w : Int32) (s : Sg) => V κ G (QQ κ G E (some (.int r)) σ') E s (false, 0, 0) 36 [] [.int w]) (fun w1 s2 => ?_) (fun w1 s2 Kw1 => ?_)
  · refine R_kb (fun h9 => ?_)
    exact R_zret C hr h9 dX3_beginsKey_36
  · refine B_if_eq C dX3_beginsKey_1 ?_ ?_
    · refine R_iconst C (1) dX3_beginsKey_31 (by decide) ?_
      refine R_goto C dX3_beginsKey_32 ?_
      refine R_loc (lv2 := []) [] rfl ?_
      exact R_end (fun (w : Int32) (s : Sg) => V κ G (QQ κ G E (some (.int r)) σ') E s (false, 0, 0) 36 [] [.int w]) Kw1
    · refine R_aload_n C 0 rfl dX3_beginsKey_4 ?_
      refine R_dr (fun x3 rx3 cx3 => ?_)
      refine R_getr C fl3_9 rfl ha0 rx3 dX3_beginsKey_5 ?_
      refine R_aload_n C 0 rfl dX3_beginsKey_8 ?_
      refine R_dr (fun x4 rx4 cx4 => ?_)
      refine R_getr C fl3_15 rfl ha0 rx4 dX3_beginsKey_9 ?_
      refine R_iload_n C 1 rfl dX3_beginsKey_12 ?_
      refine R_ck (fun h5 => ?_)
      refine R_iald C cx4 h5 dX3_beginsKey_13 ?_
      refine R_ck (fun h6 => ?_)
      refine R_iald C cx3 h6 dX3_beginsKey_14 ?_
      refine R_aload_n C 0 rfl dX3_beginsKey_15 ?_
      refine R_getr C fl3_9 rfl ha0 rx3 dX3_beginsKey_16 ?_
      refine R_aload_n C 0 rfl dX3_beginsKey_19 ?_
      refine R_getr C fl3_15 rfl ha0 rx4 dX3_beginsKey_20 ?_
      refine R_iload_n C 1 rfl dX3_beginsKey_23 ?_
      refine R_iconst C (1) dX3_beginsKey_24 (by decide) ?_
      refine R_isub C dX3_beginsKey_25 ?_
      refine R_ck (fun h7 => ?_)
      refine R_iald C cx4 h7 dX3_beginsKey_26 ?_
      refine R_ck (fun h8 => ?_)
      refine R_iald C cx3 h8 dX3_beginsKey_27 ?_
      refine B_icmp_eq C dX3_beginsKey_28 ?_ ?_
      · refine R_iconst C (0) dX3_beginsKey_35 (by decide) ?_
        refine R_loc (lv2 := []) [] rfl ?_
        exact R_end (fun (w : Int32) (s : Sg) => V κ G (QQ κ G E (some (.int r)) σ') E s (false, 0, 0) 36 [] [.int w]) Kw1
      · refine R_iconst C (1) dX3_beginsKey_31 (by decide) ?_
        refine R_goto C dX3_beginsKey_32 ?_
        refine R_loc (lv2 := []) [] rfl ?_
        exact R_end (fun (w : Int32) (s : Sg) => V κ G (QQ κ G E (some (.int r)) σ') E s (false, 0, 0) 36 [] [.int w]) Kw1
theorem dX3_unlikeKeys_0 : dk cX3_unlikeKeys 0 1 (.iconst 0) 1 := by unfold dk; decide +kernel
theorem dX3_unlikeKeys_1 : dk cX3_unlikeKeys 1 2 (.istore_n 1) 1 := by unfold dk; decide +kernel
theorem dX3_unlikeKeys_2 : dk cX3_unlikeKeys 2 3 (.iconst 0) 1 := by unfold dk; decide +kernel
theorem dX3_unlikeKeys_3 : dk cX3_unlikeKeys 3 4 (.istore_n 2) 1 := by unfold dk; decide +kernel
theorem dX3_unlikeKeys_4 : dk cX3_unlikeKeys 4 5 (.iload_n 2) 1 := by unfold dk; decide +kernel
theorem dX3_unlikeKeys_5 : dk cX3_unlikeKeys 5 6 (.aload_n 0) 1 := by unfold dk; decide +kernel
theorem dX3_unlikeKeys_6 : dk cX3_unlikeKeys 6 9 (.getfield 18) 3 := by unfold dk; decide +kernel
theorem dX3_unlikeKeys_12 : dk cX3_unlikeKeys 12 13 (.aload_n 0) 1 := by unfold dk; decide +kernel
theorem dX3_unlikeKeys_13 : dk cX3_unlikeKeys 13 14 (.iload_n 2) 1 := by unfold dk; decide +kernel
theorem dX3_unlikeKeys_14 : dk cX3_unlikeKeys 14 17 (.invokevirtual 31) 3 := by unfold dk; decide +kernel
theorem dX3_unlikeKeys_17 : bk cX3_unlikeKeys 17 20 23 (.ifCond .eq 6) (6) := by unfold bk; decide +kernel
theorem dX3_unlikeKeys_20 : dk cX3_unlikeKeys 20 23 (.iinc 1 1) 3 := by unfold dk; decide +kernel
theorem dX3_unlikeKeys_23 : dk cX3_unlikeKeys 23 26 (.iinc 2 1) 3 := by unfold dk; decide +kernel
theorem dX3_unlikeKeys_26 : bk cX3_unlikeKeys 26 29 4 (.goto (-22)) (-22) := by unfold bk; decide +kernel
theorem dX3_unlikeKeys_9 : bk cX3_unlikeKeys 9 12 29 (.if_icmp .ge 20) (20) := by unfold bk; decide +kernel
theorem dX3_unlikeKeys_29 : dk cX3_unlikeKeys 29 30 (.iload_n 1) 1 := by unfold dk; decide +kernel
theorem dX3_unlikeKeys_30 : dk cX3_unlikeKeys 30 31 (.ireturn) 1 := by unfold dk; decide +kernel
set_option maxHeartbeats 4000000 in
set_option maxRecDepth 100000 in
theorem kX3_unlikeKeys {l : Launch} {G : Gl} {E : En} {a0 : Nat} {σ σ' : Sg} {r : Int32} : fX3_unlikeKeys E a0 σ = some (r, σ') → CT l yX3_unlikeKeys cX3_unlikeKeys 3 (some .int) ({ frames := 1, cells := 0, slots := 0, locals := 21 } : Room) [.ref (G.1 + a0)] G E σ (some (.int r)) σ' := by
  intro h
  refine CT_of (lv0 := [(0, .ref (G.1 + a0))]) (by decide) (Nat.le_of_ble_eq_true rfl) rfl (fun κ hl hR hr C => ?_)
  have C : Cx κ G cX3_unlikeKeys RX3 3 := C
  revert h
  unfold fX3_unlikeKeys
  refine R_tk (fun ha0 => ?_)
  refine R_iconst C (0) dX3_unlikeKeys_0 (by decide) ?_
  refine R_istore_n (lv2 := [(1, .int (0 : Int32)), (0, .ref (G.1 + a0))]) C dX3_unlikeKeys_1 rfl (by decide) rfl ?_
  refine R_iconst C (0) dX3_unlikeKeys_2 (by decide) ?_
  refine R_istore_n (lv2 := [(2, .int (0 : Int32)), (1, .int (0 : Int32)), (0, .ref (G.1 + a0))]) C dX3_unlikeKeys_3 rfl (by decide) rfl ?_
  refine R_loc (lv2 := [(0, .ref (G.1 + a0)), (1, .int (0 : Int32)), (2, .int (0 : Int32))]) [2, 1, 0] rfl ?_
  refine R_loop (fun (a : (Int32 × Int32) × Sg) => V κ G (QQ κ G E (some (.int r)) σ') E a.2 (false, 0, 0) 4 [(0, .ref (G.1 + a0)), (1, .int a.1.1), (2, .int a.1.2)] []) (fun (o : (Int32 × Int32)) (s : Sg) => V κ G (QQ κ G E (some (.int r)) σ') E s (false, 0, 0) 29 [(1, .int o.1)] []) (((0 : Int32), (0 : Int32)), σ) (fun o15 s16 => ?_) (fun rec I7 a b5 s6 K4 => ?_)
  · refine R_iload_n C 0 rfl dX3_unlikeKeys_29 ?_
    exact R_iret C hr dX3_unlikeKeys_30
  · obtain ⟨⟨v1, v2⟩, s3⟩ := a
    show bX3_unlikeKeys_4 E a0 (fun u0 u1 t => rec ((u0, u1), t)) v1 v2 s3 = some (b5, s6) → V κ G (QQ κ G E (some (.int r)) σ') E s3 (false, 0, 0) 4 [(0, .ref (G.1 + a0)), (1, .int v1), (2, .int v2)] []
    unfold bX3_unlikeKeys_4
    refine R_iload_n C 2 rfl dX3_unlikeKeys_4 ?_
    refine R_aload_n C 0 rfl dX3_unlikeKeys_5 ?_
    refine R_geti C fl3_18 rfl ha0 dX3_unlikeKeys_6 ?_
    refine B_icmp_ge C dX3_unlikeKeys_9 ?_ ?_
    · refine R_loc (lv2 := [(1, .int v1)]) [1] rfl ?_
      exact R_end (fun (o : (Int32 × Int32)) (s : Sg) => V κ G (QQ κ G E (some (.int r)) σ') E s (false, 0, 0) 29 [(1, .int o.1)] []) K4
    · refine R_aload_n C 0 rfl dX3_unlikeKeys_12 ?_
      refine R_iload_n C 2 rfl dX3_unlikeKeys_13 ?_
      refine R_bd (fun r10 s8 q9 => ?_)
      refine R_callVi [.int v2] [] C ml3_31 (kX3_beginsKey q9) (by rw [hR]; exact ⟨rfl, rfl, Nat.le_of_ble_eq_true rfl, Nat.le_of_ble_eq_true rfl, Nat.zero_le _, Nat.zero_le _⟩) ha0 rfl rfl (Nat.le_of_ble_eq_true rfl) dX3_unlikeKeys_14 ?_
      refine R_bdK (fun (w : Int32) (s : Sg) => V κ G (QQ κ G E (some (.int r)) σ') E s (false, 0, 0) 23 [(0, .ref (G.1 + a0)), (2, .int v2), (1, .int w)] []) (fun w11 s12 => ?_) (fun w11 s12 Kw11 => ?_)
      · refine S_iinc (fun v14 => [(2, .int v14), (0, .ref (G.1 + a0)), (1, .int w11)]) 1 C dX3_unlikeKeys_23 rfl (by decide) (by decide) (fun _ => rfl) (fun v14 => ?_)
        refine R_goto C dX3_unlikeKeys_26 ?_
        refine R_loc (lv2 := [(0, .ref (G.1 + a0)), (1, .int w11), (2, .int v14)]) [1, 2, 0] rfl ?_
        exact I7 ((w11, v14), s12) b5 s6 K4
      · refine B_if_eq C dX3_unlikeKeys_17 ?_ ?_
        · refine R_loc (lv2 := [(0, .ref (G.1 + a0)), (2, .int v2), (1, .int v1)]) [0, 2, 1] rfl ?_
          exact R_end (fun (w : Int32) (s : Sg) => V κ G (QQ κ G E (some (.int r)) σ') E s (false, 0, 0) 23 [(0, .ref (G.1 + a0)), (2, .int v2), (1, .int w)] []) Kw11
        · refine S_iinc (fun v13 => [(1, .int v13), (0, .ref (G.1 + a0)), (2, .int v2)]) 1 C dX3_unlikeKeys_20 rfl (by decide) (by decide) (fun _ => rfl) (fun v13 => ?_)
          refine R_loc (lv2 := [(0, .ref (G.1 + a0)), (2, .int v2), (1, .int v13)]) [1, 2, 0] rfl ?_
          exact R_end (fun (w : Int32) (s : Sg) => V κ G (QQ κ G E (some (.int r)) σ') E s (false, 0, 0) 23 [(0, .ref (G.1 + a0)), (2, .int v2), (1, .int w)] []) Kw11
theorem dX3_keyMostOften_0 : dk cX3_keyMostOften 0 1 (.iconst (-1)) 1 := by unfold dk; decide +kernel
theorem dX3_keyMostOften_1 : dk cX3_keyMostOften 1 2 (.istore_n 1) 1 := by unfold dk; decide +kernel
theorem dX3_keyMostOften_2 : dk cX3_keyMostOften 2 3 (.iconst 0) 1 := by unfold dk; decide +kernel
theorem dX3_keyMostOften_3 : dk cX3_keyMostOften 3 4 (.istore_n 2) 1 := by unfold dk; decide +kernel
theorem dX3_keyMostOften_4 : dk cX3_keyMostOften 4 5 (.iconst 0) 1 := by unfold dk; decide +kernel
theorem dX3_keyMostOften_5 : dk cX3_keyMostOften 5 6 (.istore_n 3) 1 := by unfold dk; decide +kernel
theorem dX3_keyMostOften_6 : dk cX3_keyMostOften 6 7 (.iconst 0) 1 := by unfold dk; decide +kernel
theorem dX3_keyMostOften_7 : dk cX3_keyMostOften 7 9 (.istore 4) 2 := by unfold dk; decide +kernel
theorem dX3_keyMostOften_9 : dk cX3_keyMostOften 9 11 (.iload 4) 2 := by unfold dk; decide +kernel
theorem dX3_keyMostOften_11 : dk cX3_keyMostOften 11 12 (.aload_n 0) 1 := by unfold dk; decide +kernel
theorem dX3_keyMostOften_12 : dk cX3_keyMostOften 12 15 (.getfield 18) 3 := by unfold dk; decide +kernel
theorem dX3_keyMostOften_18 : dk cX3_keyMostOften 18 19 (.aload_n 0) 1 := by unfold dk; decide +kernel
theorem dX3_keyMostOften_19 : dk cX3_keyMostOften 19 21 (.iload 4) 2 := by unfold dk; decide +kernel
theorem dX3_keyMostOften_21 : dk cX3_keyMostOften 21 24 (.invokevirtual 31) 3 := by unfold dk; decide +kernel
theorem dX3_keyMostOften_24 : bk cX3_keyMostOften 24 27 30 (.ifCond .eq 6) (6) := by unfold bk; decide +kernel
theorem dX3_keyMostOften_27 : dk cX3_keyMostOften 27 29 (.iload 4) 2 := by unfold dk; decide +kernel
theorem dX3_keyMostOften_29 : dk cX3_keyMostOften 29 30 (.istore_n 3) 1 := by unfold dk; decide +kernel
theorem dX3_keyMostOften_30 : dk cX3_keyMostOften 30 32 (.iload 4) 2 := by unfold dk; decide +kernel
theorem dX3_keyMostOften_32 : dk cX3_keyMostOften 32 33 (.iload_n 3) 1 := by unfold dk; decide +kernel
theorem dX3_keyMostOften_33 : dk cX3_keyMostOften 33 34 (.isub) 1 := by unfold dk; decide +kernel
theorem dX3_keyMostOften_34 : dk cX3_keyMostOften 34 35 (.iconst 1) 1 := by unfold dk; decide +kernel
theorem dX3_keyMostOften_35 : dk cX3_keyMostOften 35 36 (.iadd) 1 := by unfold dk; decide +kernel
theorem dX3_keyMostOften_36 : dk cX3_keyMostOften 36 38 (.istore 5) 2 := by unfold dk; decide +kernel
theorem dX3_keyMostOften_38 : dk cX3_keyMostOften 38 39 (.aload_n 0) 1 := by unfold dk; decide +kernel
theorem dX3_keyMostOften_39 : dk cX3_keyMostOften 39 42 (.getfield 15) 3 := by unfold dk; decide +kernel
theorem dX3_keyMostOften_42 : dk cX3_keyMostOften 42 43 (.iload_n 3) 1 := by unfold dk; decide +kernel
theorem dX3_keyMostOften_43 : dk cX3_keyMostOften 43 44 (.iaload) 1 := by unfold dk; decide +kernel
theorem dX3_keyMostOften_44 : dk cX3_keyMostOften 44 46 (.istore 6) 2 := by unfold dk; decide +kernel
theorem dX3_keyMostOften_46 : dk cX3_keyMostOften 46 48 (.iload 5) 2 := by unfold dk; decide +kernel
theorem dX3_keyMostOften_48 : dk cX3_keyMostOften 48 49 (.iload_n 2) 1 := by unfold dk; decide +kernel
theorem dX3_keyMostOften_49 : bk cX3_keyMostOften 49 52 64 (.if_icmp .gt 15) (15) := by unfold bk; decide +kernel
theorem dX3_keyMostOften_64 : dk cX3_keyMostOften 64 66 (.iload 6) 2 := by unfold dk; decide +kernel
theorem dX3_keyMostOften_66 : dk cX3_keyMostOften 66 67 (.istore_n 1) 1 := by unfold dk; decide +kernel
theorem dX3_keyMostOften_67 : dk cX3_keyMostOften 67 69 (.iload 5) 2 := by unfold dk; decide +kernel
theorem dX3_keyMostOften_69 : dk cX3_keyMostOften 69 70 (.istore_n 2) 1 := by unfold dk; decide +kernel
theorem dX3_keyMostOften_52 : dk cX3_keyMostOften 52 54 (.iload 5) 2 := by unfold dk; decide +kernel
theorem dX3_keyMostOften_54 : dk cX3_keyMostOften 54 55 (.iload_n 2) 1 := by unfold dk; decide +kernel
theorem dX3_keyMostOften_58 : dk cX3_keyMostOften 58 60 (.iload 6) 2 := by unfold dk; decide +kernel
theorem dX3_keyMostOften_60 : dk cX3_keyMostOften 60 61 (.iload_n 1) 1 := by unfold dk; decide +kernel
theorem dX3_keyMostOften_61 : bk cX3_keyMostOften 61 64 70 (.if_icmp .ge 9) (9) := by unfold bk; decide +kernel
theorem dX3_keyMostOften_55 : bk cX3_keyMostOften 55 58 70 (.if_icmp .ne 15) (15) := by unfold bk; decide +kernel
theorem dX3_keyMostOften_70 : dk cX3_keyMostOften 70 73 (.iinc 4 1) 3 := by unfold dk; decide +kernel
theorem dX3_keyMostOften_73 : bk cX3_keyMostOften 73 76 9 (.goto (-64)) (-64) := by unfold bk; decide +kernel
theorem dX3_keyMostOften_15 : bk cX3_keyMostOften 15 18 76 (.if_icmp .ge 61) (61) := by unfold bk; decide +kernel
theorem dX3_keyMostOften_76 : dk cX3_keyMostOften 76 77 (.iload_n 1) 1 := by unfold dk; decide +kernel
theorem dX3_keyMostOften_77 : dk cX3_keyMostOften 77 78 (.iconst (-1)) 1 := by unfold dk; decide +kernel
theorem dX3_keyMostOften_78 : bk cX3_keyMostOften 78 81 85 (.if_icmp .ne 7) (7) := by unfold bk; decide +kernel
theorem dX3_keyMostOften_85 : dk cX3_keyMostOften 85 86 (.aload_n 0) 1 := by unfold dk; decide +kernel
theorem dX3_keyMostOften_86 : dk cX3_keyMostOften 86 89 (.getfield 9) 3 := by unfold dk; decide +kernel
theorem dX3_keyMostOften_89 : dk cX3_keyMostOften 89 90 (.iload_n 1) 1 := by unfold dk; decide +kernel
theorem dX3_keyMostOften_90 : dk cX3_keyMostOften 90 91 (.iaload) 1 := by unfold dk; decide +kernel
theorem dX3_keyMostOften_81 : dk cX3_keyMostOften 81 82 (.iconst (-1)) 1 := by unfold dk; decide +kernel
theorem dX3_keyMostOften_82 : bk cX3_keyMostOften 82 85 91 (.goto 9) (9) := by unfold bk; decide +kernel
theorem dX3_keyMostOften_91 : dk cX3_keyMostOften 91 92 (.ireturn) 1 := by unfold dk; decide +kernel
set_option maxHeartbeats 4000000 in
set_option maxRecDepth 100000 in
theorem kX3_keyMostOften {l : Launch} {G : Gl} {E : En} {a0 : Nat} {σ σ' : Sg} {r : Int32} : fX3_keyMostOften E a0 σ = some (r, σ') → CT l yX3_keyMostOften cX3_keyMostOften 7 (some .int) ({ frames := 1, cells := 0, slots := 0, locals := 21 } : Room) [.ref (G.1 + a0)] G E σ (some (.int r)) σ' := by
  intro h
  refine CT_of (lv0 := [(0, .ref (G.1 + a0))]) (by decide) (Nat.le_of_ble_eq_true rfl) rfl (fun κ hl hR hr C => ?_)
  have C : Cx κ G cX3_keyMostOften RX3 7 := C
  revert h
  unfold fX3_keyMostOften
  refine R_tk (fun ha0 => ?_)
  refine R_iconst C (-1) dX3_keyMostOften_0 (by decide) ?_
  refine R_istore_n (lv2 := [(1, .int (-1 : Int32)), (0, .ref (G.1 + a0))]) C dX3_keyMostOften_1 rfl (by decide) rfl ?_
  refine R_iconst C (0) dX3_keyMostOften_2 (by decide) ?_
  refine R_istore_n (lv2 := [(2, .int (0 : Int32)), (1, .int (-1 : Int32)), (0, .ref (G.1 + a0))]) C dX3_keyMostOften_3 rfl (by decide) rfl ?_
  refine R_iconst C (0) dX3_keyMostOften_4 (by decide) ?_
  refine R_istore_n (lv2 := [(3, .int (0 : Int32)), (2, .int (0 : Int32)), (1, .int (-1 : Int32)), (0, .ref (G.1 + a0))]) C dX3_keyMostOften_5 rfl (by decide) rfl ?_
  refine R_iconst C (0) dX3_keyMostOften_6 (by decide) ?_
  refine R_istore (lv2 := [(4, .int (0 : Int32)), (3, .int (0 : Int32)), (2, .int (0 : Int32)), (1, .int (-1 : Int32)), (0, .ref (G.1 + a0))]) C dX3_keyMostOften_7 (by decide) rfl ?_
  refine R_loc (lv2 := [(0, .ref (G.1 + a0)), (1, .int (-1 : Int32)), (2, .int (0 : Int32)), (3, .int (0 : Int32)), (4, .int (0 : Int32))]) [4, 3, 2, 1, 0] rfl ?_
  refine R_loop (fun (a : (Int32 × Int32 × Int32 × Int32) × Sg) => V κ G (QQ κ G E (some (.int r)) σ') E a.2 (false, 0, 0) 9 [(0, .ref (G.1 + a0)), (1, .int a.1.1), (2, .int a.1.2.1), (3, .int a.1.2.2.1), (4, .int a.1.2.2.2)] []) (fun (o : (Int32 × Int32 × Int32 × Int32)) (s : Sg) => V κ G (QQ κ G E (some (.int r)) σ') E s (false, 0, 0) 76 [(0, .ref (G.1 + a0)), (1, .int o.1)] []) (((-1 : Int32), (0 : Int32), (0 : Int32), (0 : Int32)), σ) (fun o22 s23 => ?_) (fun rec I9 a b7 s8 K6 => ?_)
  · refine R_iload_n C 1 rfl dX3_keyMostOften_76 ?_
    refine R_iconst C (-1) dX3_keyMostOften_77 (by decide) ?_
    refine R_bdK (fun (w : Int32) (s : Sg) => V κ G (QQ κ G E (some (.int r)) σ') E s (false, 0, 0) 91 [] [.int w]) (fun w24 s25 => ?_) (fun w24 s25 Kw24 => ?_)
    · exact R_iret C hr dX3_keyMostOften_91
    · refine B_icmp_ne C dX3_keyMostOften_78 ?_ ?_
      · refine R_aload_n C 0 rfl dX3_keyMostOften_85 ?_
        refine R_dr (fun x26 rx26 cx26 => ?_)
        refine R_getr C fl3_9 rfl ha0 rx26 dX3_keyMostOften_86 ?_
        refine R_iload_n C 1 rfl dX3_keyMostOften_89 ?_
        refine R_ck (fun h27 => ?_)
        refine R_iald C cx26 h27 dX3_keyMostOften_90 ?_
        refine R_loc (lv2 := []) [] rfl ?_
        exact R_end (fun (w : Int32) (s : Sg) => V κ G (QQ κ G E (some (.int r)) σ') E s (false, 0, 0) 91 [] [.int w]) Kw24
      · refine R_iconst C (-1) dX3_keyMostOften_81 (by decide) ?_
        refine R_goto C dX3_keyMostOften_82 ?_
        refine R_loc (lv2 := []) [] rfl ?_
        exact R_end (fun (w : Int32) (s : Sg) => V κ G (QQ κ G E (some (.int r)) σ') E s (false, 0, 0) 91 [] [.int w]) Kw24
  · obtain ⟨⟨v1, v2, v3, v4⟩, s5⟩ := a
    show bX3_keyMostOften_9 E a0 (fun u0 u1 u2 u3 t => rec ((u0, u1, u2, u3), t)) v1 v2 v3 v4 s5 = some (b7, s8) → V κ G (QQ κ G E (some (.int r)) σ') E s5 (false, 0, 0) 9 [(0, .ref (G.1 + a0)), (1, .int v1), (2, .int v2), (3, .int v3), (4, .int v4)] []
    unfold bX3_keyMostOften_9
    refine R_iload C 4 rfl dX3_keyMostOften_9 ?_
    refine R_aload_n C 0 rfl dX3_keyMostOften_11 ?_
    refine R_geti C fl3_18 rfl ha0 dX3_keyMostOften_12 ?_
    refine B_icmp_ge C dX3_keyMostOften_15 ?_ ?_
    · refine R_loc (lv2 := [(0, .ref (G.1 + a0)), (1, .int v1)]) [0, 1] rfl ?_
      exact R_end (fun (o : (Int32 × Int32 × Int32 × Int32)) (s : Sg) => V κ G (QQ κ G E (some (.int r)) σ') E s (false, 0, 0) 76 [(0, .ref (G.1 + a0)), (1, .int o.1)] []) K6
    · refine R_aload_n C 0 rfl dX3_keyMostOften_18 ?_
      refine R_iload C 4 rfl dX3_keyMostOften_19 ?_
      refine R_bd (fun r12 s10 q11 => ?_)
      refine R_callVi [.int v4] [] C ml3_31 (kX3_beginsKey q11) (by rw [hR]; exact ⟨rfl, rfl, Nat.le_of_ble_eq_true rfl, Nat.le_of_ble_eq_true rfl, Nat.zero_le _, Nat.zero_le _⟩) ha0 rfl rfl (Nat.le_of_ble_eq_true rfl) dX3_keyMostOften_21 ?_
      refine R_bdK (fun (w : Int32) (s : Sg) => V κ G (QQ κ G E (some (.int r)) σ') E s (false, 0, 0) 30 [(0, .ref (G.1 + a0)), (1, .int v1), (2, .int v2), (4, .int v4), (3, .int w)] []) (fun w13 s14 => ?_) (fun w13 s14 Kw13 => ?_)
      · refine R_iload C 3 rfl dX3_keyMostOften_30 ?_
        refine R_iload_n C 4 rfl dX3_keyMostOften_32 ?_
        refine R_isub C dX3_keyMostOften_33 ?_
        refine R_iconst C (1) dX3_keyMostOften_34 (by decide) ?_
        refine R_iadd C dX3_keyMostOften_35 ?_
        refine S_istore C dX3_keyMostOften_36 (fun v15 => [(5, .int v15), (0, .ref (G.1 + a0)), (1, .int v1), (2, .int v2), (4, .int v4), (3, .int w13)]) (by decide) (fun _ => rfl) (fun v15 => ?_)
        refine R_aload_n C 1 rfl dX3_keyMostOften_38 ?_
        refine R_dr (fun x16 rx16 cx16 => ?_)
        refine R_getr C fl3_15 rfl ha0 rx16 dX3_keyMostOften_39 ?_
        refine R_iload_n C 5 rfl dX3_keyMostOften_42 ?_
        refine R_ck (fun h17 => ?_)
        refine R_iald C cx16 h17 dX3_keyMostOften_43 ?_
        refine S_istore C dX3_keyMostOften_44 (fun v18 => [(6, .int v18), (5, .int v15), (0, .ref (G.1 + a0)), (1, .int v1), (2, .int v2), (4, .int v4), (3, .int w13)]) (by decide) (fun _ => rfl) (fun v18 => ?_)
        refine R_iload C 1 rfl dX3_keyMostOften_46 ?_
        refine R_iload_n C 4 rfl dX3_keyMostOften_48 ?_
        refine R_bdK (fun (w : Int32 × Int32) (s : Sg) => V κ G (QQ κ G E (some (.int r)) σ') E s (false, 0, 0) 70 [(0, .ref (G.1 + a0)), (4, .int v4), (3, .int w13), (1, .int w.1), (2, .int w.2)] []) (fun w19 s20 => ?_) (fun w19 s20 Kw19 => ?_)
        · refine S_iinc (fun v21 => [(4, .int v21), (0, .ref (G.1 + a0)), (3, .int w13), (1, .int w19.1), (2, .int w19.2)]) 1 C dX3_keyMostOften_70 rfl (by decide) (by decide) (fun _ => rfl) (fun v21 => ?_)
          refine R_goto C dX3_keyMostOften_73 ?_
          refine R_loc (lv2 := [(0, .ref (G.1 + a0)), (1, .int w19.1), (2, .int w19.2), (3, .int w13), (4, .int v21)]) [1, 3, 4, 2, 0] rfl ?_
          exact I9 ((w19.1, w19.2, w13, v21), s20) b7 s8 K6
        · refine B_icmp_gt C dX3_keyMostOften_49 ?_ ?_
          · refine R_iload C 0 rfl dX3_keyMostOften_64 ?_
            refine R_istore_n (lv2 := [(1, .int v18), (6, .int v18), (5, .int v15), (0, .ref (G.1 + a0)), (2, .int v2), (4, .int v4), (3, .int w13)]) C dX3_keyMostOften_66 rfl (by decide) rfl ?_
            refine R_iload C 2 rfl dX3_keyMostOften_67 ?_
            refine R_istore_n (lv2 := [(2, .int v15), (1, .int v18), (6, .int v18), (5, .int v15), (0, .ref (G.1 + a0)), (4, .int v4), (3, .int w13)]) C dX3_keyMostOften_69 rfl (by decide) rfl ?_
            refine R_loc (lv2 := [(0, .ref (G.1 + a0)), (4, .int v4), (3, .int w13), (1, .int v18), (2, .int v15)]) [4, 5, 6, 1, 0] rfl ?_
            exact R_end (fun (w : Int32 × Int32) (s : Sg) => V κ G (QQ κ G E (some (.int r)) σ') E s (false, 0, 0) 70 [(0, .ref (G.1 + a0)), (4, .int v4), (3, .int w13), (1, .int w.1), (2, .int w.2)] []) Kw19
          · refine R_iload C 1 rfl dX3_keyMostOften_52 ?_
            refine R_iload_n C 4 rfl dX3_keyMostOften_54 ?_
            refine B_icmp_ne C dX3_keyMostOften_55 ?_ ?_
            · refine R_loc (lv2 := [(0, .ref (G.1 + a0)), (4, .int v4), (3, .int w13), (1, .int v1), (2, .int v2)]) [2, 5, 6, 3, 4] rfl ?_
              exact R_end (fun (w : Int32 × Int32) (s : Sg) => V κ G (QQ κ G E (some (.int r)) σ') E s (false, 0, 0) 70 [(0, .ref (G.1 + a0)), (4, .int v4), (3, .int w13), (1, .int w.1), (2, .int w.2)] []) Kw19
            · refine R_iload C 0 rfl dX3_keyMostOften_58 ?_
              refine R_iload_n C 3 rfl dX3_keyMostOften_60 ?_
              refine B_icmp_ge C dX3_keyMostOften_61 ?_ ?_
              · refine R_loc (lv2 := [(0, .ref (G.1 + a0)), (4, .int v4), (3, .int w13), (1, .int v1), (2, .int v2)]) [2, 5, 6, 3, 4] rfl ?_
                exact R_end (fun (w : Int32 × Int32) (s : Sg) => V κ G (QQ κ G E (some (.int r)) σ') E s (false, 0, 0) 70 [(0, .ref (G.1 + a0)), (4, .int v4), (3, .int w13), (1, .int w.1), (2, .int w.2)] []) Kw19
              · refine R_iload C 0 rfl dX3_keyMostOften_64 ?_
                refine R_istore_n (lv2 := [(1, .int v18), (6, .int v18), (5, .int v15), (0, .ref (G.1 + a0)), (2, .int v2), (4, .int v4), (3, .int w13)]) C dX3_keyMostOften_66 rfl (by decide) rfl ?_
                refine R_iload C 2 rfl dX3_keyMostOften_67 ?_
                refine R_istore_n (lv2 := [(2, .int v15), (1, .int v18), (6, .int v18), (5, .int v15), (0, .ref (G.1 + a0)), (4, .int v4), (3, .int w13)]) C dX3_keyMostOften_69 rfl (by decide) rfl ?_
                refine R_loc (lv2 := [(0, .ref (G.1 + a0)), (4, .int v4), (3, .int w13), (1, .int v18), (2, .int v15)]) [4, 5, 6, 1, 0] rfl ?_
                exact R_end (fun (w : Int32 × Int32) (s : Sg) => V κ G (QQ κ G E (some (.int r)) σ') E s (false, 0, 0) 70 [(0, .ref (G.1 + a0)), (4, .int v4), (3, .int w13), (1, .int w.1), (2, .int w.2)] []) Kw19
      · refine B_if_eq C dX3_keyMostOften_24 ?_ ?_
        · refine R_loc (lv2 := [(0, .ref (G.1 + a0)), (1, .int v1), (2, .int v2), (4, .int v4), (3, .int v3)]) [0, 1, 2, 4, 3] rfl ?_
          exact R_end (fun (w : Int32) (s : Sg) => V κ G (QQ κ G E (some (.int r)) σ') E s (false, 0, 0) 30 [(0, .ref (G.1 + a0)), (1, .int v1), (2, .int v2), (4, .int v4), (3, .int w)] []) Kw13
        · refine R_iload C 4 rfl dX3_keyMostOften_27 ?_
          refine R_istore_n (lv2 := [(3, .int v4), (0, .ref (G.1 + a0)), (1, .int v1), (2, .int v2), (4, .int v4)]) C dX3_keyMostOften_29 rfl (by decide) rfl ?_
          refine R_loc (lv2 := [(0, .ref (G.1 + a0)), (1, .int v1), (2, .int v2), (4, .int v4), (3, .int v4)]) [1, 2, 3, 4, 0] rfl ?_
          exact R_end (fun (w : Int32) (s : Sg) => V κ G (QQ κ G E (some (.int r)) σ') E s (false, 0, 0) 30 [(0, .ref (G.1 + a0)), (1, .int v1), (2, .int v2), (4, .int v4), (3, .int w)] []) Kw13
theorem dX3_naturalRuns_0 : dk cX3_naturalRuns 0 1 (.iconst 0) 1 := by unfold dk; decide +kernel
theorem dX3_naturalRuns_1 : dk cX3_naturalRuns 1 2 (.istore_n 1) 1 := by unfold dk; decide +kernel
theorem dX3_naturalRuns_2 : dk cX3_naturalRuns 2 3 (.iconst 0) 1 := by unfold dk; decide +kernel
theorem dX3_naturalRuns_3 : dk cX3_naturalRuns 3 4 (.istore_n 2) 1 := by unfold dk; decide +kernel
theorem dX3_naturalRuns_4 : dk cX3_naturalRuns 4 5 (.iload_n 2) 1 := by unfold dk; decide +kernel
theorem dX3_naturalRuns_5 : dk cX3_naturalRuns 5 6 (.aload_n 0) 1 := by unfold dk; decide +kernel
theorem dX3_naturalRuns_6 : dk cX3_naturalRuns 6 9 (.getfield 18) 3 := by unfold dk; decide +kernel
theorem dX3_naturalRuns_12 : dk cX3_naturalRuns 12 13 (.iload_n 2) 1 := by unfold dk; decide +kernel
theorem dX3_naturalRuns_13 : bk cX3_naturalRuns 13 16 33 (.ifCond .eq 20) (20) := by unfold bk; decide +kernel
theorem dX3_naturalRuns_33 : dk cX3_naturalRuns 33 36 (.iinc 1 1) 3 := by unfold dk; decide +kernel
theorem dX3_naturalRuns_16 : dk cX3_naturalRuns 16 17 (.aload_n 0) 1 := by unfold dk; decide +kernel
theorem dX3_naturalRuns_17 : dk cX3_naturalRuns 17 20 (.getfield 9) 3 := by unfold dk; decide +kernel
theorem dX3_naturalRuns_20 : dk cX3_naturalRuns 20 21 (.iload_n 2) 1 := by unfold dk; decide +kernel
theorem dX3_naturalRuns_21 : dk cX3_naturalRuns 21 22 (.iaload) 1 := by unfold dk; decide +kernel
theorem dX3_naturalRuns_22 : dk cX3_naturalRuns 22 23 (.aload_n 0) 1 := by unfold dk; decide +kernel
theorem dX3_naturalRuns_23 : dk cX3_naturalRuns 23 26 (.getfield 9) 3 := by unfold dk; decide +kernel
theorem dX3_naturalRuns_26 : dk cX3_naturalRuns 26 27 (.iload_n 2) 1 := by unfold dk; decide +kernel
theorem dX3_naturalRuns_27 : dk cX3_naturalRuns 27 28 (.iconst 1) 1 := by unfold dk; decide +kernel
theorem dX3_naturalRuns_28 : dk cX3_naturalRuns 28 29 (.isub) 1 := by unfold dk; decide +kernel
theorem dX3_naturalRuns_29 : dk cX3_naturalRuns 29 30 (.iaload) 1 := by unfold dk; decide +kernel
theorem dX3_naturalRuns_30 : bk cX3_naturalRuns 30 33 36 (.if_icmp .ge 6) (6) := by unfold bk; decide +kernel
theorem dX3_naturalRuns_36 : dk cX3_naturalRuns 36 39 (.iinc 2 1) 3 := by unfold dk; decide +kernel
theorem dX3_naturalRuns_39 : bk cX3_naturalRuns 39 42 4 (.goto (-35)) (-35) := by unfold bk; decide +kernel
theorem dX3_naturalRuns_9 : bk cX3_naturalRuns 9 12 42 (.if_icmp .ge 33) (33) := by unfold bk; decide +kernel
theorem dX3_naturalRuns_42 : dk cX3_naturalRuns 42 43 (.iload_n 1) 1 := by unfold dk; decide +kernel
theorem dX3_naturalRuns_43 : dk cX3_naturalRuns 43 44 (.ireturn) 1 := by unfold dk; decide +kernel
set_option maxHeartbeats 4000000 in
set_option maxRecDepth 100000 in
theorem kX3_naturalRuns {l : Launch} {G : Gl} {E : En} {a0 : Nat} {σ σ' : Sg} {r : Int32} : fX3_naturalRuns E a0 σ = some (r, σ') → CT l yX3_naturalRuns cX3_naturalRuns 3 (some .int) ({ frames := 0, cells := 0, slots := 0, locals := 0 } : Room) [.ref (G.1 + a0)] G E σ (some (.int r)) σ' := by
  intro h
  refine CT_of (lv0 := [(0, .ref (G.1 + a0))]) (by decide) (Nat.le_of_ble_eq_true rfl) rfl (fun κ hl hR hr C => ?_)
  have C : Cx κ G cX3_naturalRuns RX3 3 := C
  revert h
  unfold fX3_naturalRuns
  refine R_tk (fun ha0 => ?_)
  refine R_iconst C (0) dX3_naturalRuns_0 (by decide) ?_
  refine R_istore_n (lv2 := [(1, .int (0 : Int32)), (0, .ref (G.1 + a0))]) C dX3_naturalRuns_1 rfl (by decide) rfl ?_
  refine R_iconst C (0) dX3_naturalRuns_2 (by decide) ?_
  refine R_istore_n (lv2 := [(2, .int (0 : Int32)), (1, .int (0 : Int32)), (0, .ref (G.1 + a0))]) C dX3_naturalRuns_3 rfl (by decide) rfl ?_
  refine R_loc (lv2 := [(0, .ref (G.1 + a0)), (1, .int (0 : Int32)), (2, .int (0 : Int32))]) [2, 1, 0] rfl ?_
  refine R_loop (fun (a : (Int32 × Int32) × Sg) => V κ G (QQ κ G E (some (.int r)) σ') E a.2 (false, 0, 0) 4 [(0, .ref (G.1 + a0)), (1, .int a.1.1), (2, .int a.1.2)] []) (fun (o : (Int32 × Int32)) (s : Sg) => V κ G (QQ κ G E (some (.int r)) σ') E s (false, 0, 0) 42 [(1, .int o.1)] []) (((0 : Int32), (0 : Int32)), σ) (fun o16 s17 => ?_) (fun rec I7 a b5 s6 K4 => ?_)
  · refine R_iload_n C 0 rfl dX3_naturalRuns_42 ?_
    exact R_iret C hr dX3_naturalRuns_43
  · obtain ⟨⟨v1, v2⟩, s3⟩ := a
    show bX3_naturalRuns_4 E a0 (fun u0 u1 t => rec ((u0, u1), t)) v1 v2 s3 = some (b5, s6) → V κ G (QQ κ G E (some (.int r)) σ') E s3 (false, 0, 0) 4 [(0, .ref (G.1 + a0)), (1, .int v1), (2, .int v2)] []
    unfold bX3_naturalRuns_4
    refine R_iload_n C 2 rfl dX3_naturalRuns_4 ?_
    refine R_aload_n C 0 rfl dX3_naturalRuns_5 ?_
    refine R_geti C fl3_18 rfl ha0 dX3_naturalRuns_6 ?_
    refine B_icmp_ge C dX3_naturalRuns_9 ?_ ?_
    · refine R_loc (lv2 := [(1, .int v1)]) [1] rfl ?_
      exact R_end (fun (o : (Int32 × Int32)) (s : Sg) => V κ G (QQ κ G E (some (.int r)) σ') E s (false, 0, 0) 42 [(1, .int o.1)] []) K4
    · refine R_iload_n C 2 rfl dX3_naturalRuns_12 ?_
      refine R_bdK (fun (w : Int32) (s : Sg) => V κ G (QQ κ G E (some (.int r)) σ') E s (false, 0, 0) 36 [(0, .ref (G.1 + a0)), (2, .int v2), (1, .int w)] []) (fun w8 s9 => ?_) (fun w8 s9 Kw8 => ?_)
      · refine S_iinc (fun v15 => [(2, .int v15), (0, .ref (G.1 + a0)), (1, .int w8)]) 1 C dX3_naturalRuns_36 rfl (by decide) (by decide) (fun _ => rfl) (fun v15 => ?_)
        refine R_goto C dX3_naturalRuns_39 ?_
        refine R_loc (lv2 := [(0, .ref (G.1 + a0)), (1, .int w8), (2, .int v15)]) [1, 2, 0] rfl ?_
        exact I7 ((w8, v15), s9) b5 s6 K4
      · refine B_if_eq C dX3_naturalRuns_13 ?_ ?_
        · refine S_iinc (fun v10 => [(1, .int v10), (0, .ref (G.1 + a0)), (2, .int v2)]) 1 C dX3_naturalRuns_33 rfl (by decide) (by decide) (fun _ => rfl) (fun v10 => ?_)
          refine R_loc (lv2 := [(0, .ref (G.1 + a0)), (2, .int v2), (1, .int v10)]) [1, 2, 0] rfl ?_
          exact R_end (fun (w : Int32) (s : Sg) => V κ G (QQ κ G E (some (.int r)) σ') E s (false, 0, 0) 36 [(0, .ref (G.1 + a0)), (2, .int v2), (1, .int w)] []) Kw8
        · refine R_aload_n C 0 rfl dX3_naturalRuns_16 ?_
          refine R_dr (fun x11 rx11 cx11 => ?_)
          refine R_getr C fl3_9 rfl ha0 rx11 dX3_naturalRuns_17 ?_
          refine R_iload_n C 2 rfl dX3_naturalRuns_20 ?_
          refine R_ck (fun h12 => ?_)
          refine R_iald C cx11 h12 dX3_naturalRuns_21 ?_
          refine R_aload_n C 0 rfl dX3_naturalRuns_22 ?_
          refine R_getr C fl3_9 rfl ha0 rx11 dX3_naturalRuns_23 ?_
          refine R_iload_n C 2 rfl dX3_naturalRuns_26 ?_
          refine R_iconst C (1) dX3_naturalRuns_27 (by decide) ?_
          refine R_isub C dX3_naturalRuns_28 ?_
          refine R_ck (fun h13 => ?_)
          refine R_iald C cx11 h13 dX3_naturalRuns_29 ?_
          refine B_icmp_ge C dX3_naturalRuns_30 ?_ ?_
          · refine R_loc (lv2 := [(0, .ref (G.1 + a0)), (2, .int v2), (1, .int v1)]) [0, 2, 1] rfl ?_
            exact R_end (fun (w : Int32) (s : Sg) => V κ G (QQ κ G E (some (.int r)) σ') E s (false, 0, 0) 36 [(0, .ref (G.1 + a0)), (2, .int v2), (1, .int w)] []) Kw8
          · refine S_iinc (fun v14 => [(1, .int v14), (0, .ref (G.1 + a0)), (2, .int v2)]) 1 C dX3_naturalRuns_33 rfl (by decide) (by decide) (fun _ => rfl) (fun v14 => ?_)
            refine R_loc (lv2 := [(0, .ref (G.1 + a0)), (2, .int v2), (1, .int v14)]) [1, 2, 0] rfl ?_
            exact R_end (fun (w : Int32) (s : Sg) => V κ G (QQ κ G E (some (.int r)) σ') E s (false, 0, 0) 36 [(0, .ref (G.1 + a0)), (2, .int v2), (1, .int w)] []) Kw8
