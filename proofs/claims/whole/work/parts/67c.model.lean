theorem dX7_sorts_0 : dk cX7_sorts 0 1 (.iload_n 1) 1 := by unfold dk; decide +kernel
theorem dX7_sorts_1 : dk cX7_sorts 1 2 (.iconst 1) 1 := by unfold dk; decide +kernel
theorem dX7_sorts_2 : dk cX7_sorts 2 3 (.iadd) 1 := by unfold dk; decide +kernel
theorem dX7_sorts_3 : dk cX7_sorts 3 5 (.istore 4) 2 := by unfold dk; decide +kernel
theorem dX7_sorts_5 : dk cX7_sorts 5 7 (.iload 4) 2 := by unfold dk; decide +kernel
theorem dX7_sorts_7 : dk cX7_sorts 7 8 (.iload_n 1) 1 := by unfold dk; decide +kernel
theorem dX7_sorts_8 : dk cX7_sorts 8 9 (.iload_n 2) 1 := by unfold dk; decide +kernel
theorem dX7_sorts_9 : dk cX7_sorts 9 10 (.iadd) 1 := by unfold dk; decide +kernel
theorem dX7_sorts_13 : dk cX7_sorts 13 14 (.aload_n 0) 1 := by unfold dk; decide +kernel
theorem dX7_sorts_14 : dk cX7_sorts 14 17 (.getfield 9) 3 := by unfold dk; decide +kernel
theorem dX7_sorts_17 : dk cX7_sorts 17 20 (.sipush 7527) 3 := by unfold dk; decide +kernel
theorem dX7_sorts_20 : dk cX7_sorts 20 22 (.iload 4) 2 := by unfold dk; decide +kernel
theorem dX7_sorts_22 : dk cX7_sorts 22 23 (.iadd) 1 := by unfold dk; decide +kernel
theorem dX7_sorts_23 : dk cX7_sorts 23 24 (.iaload) 1 := by unfold dk; decide +kernel
theorem dX7_sorts_24 : dk cX7_sorts 24 26 (.istore 5) 2 := by unfold dk; decide +kernel
theorem dX7_sorts_26 : dk cX7_sorts 26 28 (.iload 4) 2 := by unfold dk; decide +kernel
theorem dX7_sorts_28 : dk cX7_sorts 28 30 (.istore 6) 2 := by unfold dk; decide +kernel
theorem dX7_sorts_30 : dk cX7_sorts 30 32 (.iload 6) 2 := by unfold dk; decide +kernel
theorem dX7_sorts_32 : dk cX7_sorts 32 33 (.iload_n 1) 1 := by unfold dk; decide +kernel
theorem dX7_sorts_36 : dk cX7_sorts 36 37 (.aload_n 0) 1 := by unfold dk; decide +kernel
theorem dX7_sorts_37 : dk cX7_sorts 37 39 (.iload 5) 2 := by unfold dk; decide +kernel
theorem dX7_sorts_39 : dk cX7_sorts 39 40 (.aload_n 0) 1 := by unfold dk; decide +kernel
theorem dX7_sorts_40 : dk cX7_sorts 40 43 (.getfield 9) 3 := by unfold dk; decide +kernel
theorem dX7_sorts_43 : dk cX7_sorts 43 46 (.sipush 7527) 3 := by unfold dk; decide +kernel
theorem dX7_sorts_46 : dk cX7_sorts 46 48 (.iload 6) 2 := by unfold dk; decide +kernel
theorem dX7_sorts_48 : dk cX7_sorts 48 49 (.iadd) 1 := by unfold dk; decide +kernel
theorem dX7_sorts_49 : dk cX7_sorts 49 50 (.iconst 1) 1 := by unfold dk; decide +kernel
theorem dX7_sorts_50 : dk cX7_sorts 50 51 (.isub) 1 := by unfold dk; decide +kernel
theorem dX7_sorts_51 : dk cX7_sorts 51 52 (.iaload) 1 := by unfold dk; decide +kernel
theorem dX7_sorts_52 : dk cX7_sorts 52 55 (.invokevirtual 131) 3 := by unfold dk; decide +kernel
theorem dX7_sorts_55 : dk cX7_sorts 55 56 (.iload_n 3) 1 := by unfold dk; decide +kernel
theorem dX7_sorts_59 : dk cX7_sorts 59 60 (.aload_n 0) 1 := by unfold dk; decide +kernel
theorem dX7_sorts_60 : dk cX7_sorts 60 63 (.getfield 9) 3 := by unfold dk; decide +kernel
theorem dX7_sorts_63 : dk cX7_sorts 63 66 (.sipush 7527) 3 := by unfold dk; decide +kernel
theorem dX7_sorts_66 : dk cX7_sorts 66 68 (.iload 6) 2 := by unfold dk; decide +kernel
theorem dX7_sorts_68 : dk cX7_sorts 68 69 (.iadd) 1 := by unfold dk; decide +kernel
theorem dX7_sorts_69 : dk cX7_sorts 69 70 (.aload_n 0) 1 := by unfold dk; decide +kernel
theorem dX7_sorts_70 : dk cX7_sorts 70 73 (.getfield 9) 3 := by unfold dk; decide +kernel
theorem dX7_sorts_73 : dk cX7_sorts 73 76 (.sipush 7527) 3 := by unfold dk; decide +kernel
theorem dX7_sorts_76 : dk cX7_sorts 76 78 (.iload 6) 2 := by unfold dk; decide +kernel
theorem dX7_sorts_78 : dk cX7_sorts 78 79 (.iadd) 1 := by unfold dk; decide +kernel
theorem dX7_sorts_79 : dk cX7_sorts 79 80 (.iconst 1) 1 := by unfold dk; decide +kernel
theorem dX7_sorts_80 : dk cX7_sorts 80 81 (.isub) 1 := by unfold dk; decide +kernel
theorem dX7_sorts_81 : dk cX7_sorts 81 82 (.iaload) 1 := by unfold dk; decide +kernel
theorem dX7_sorts_82 : dk cX7_sorts 82 83 (.iastore) 1 := by unfold dk; decide +kernel
theorem dX7_sorts_83 : dk cX7_sorts 83 86 (.iinc 6 (-1)) 3 := by unfold dk; decide +kernel
theorem dX7_sorts_86 : bk cX7_sorts 86 89 30 (.goto (-56)) (-56) := by unfold bk; decide +kernel
theorem dX7_sorts_56 : bk cX7_sorts 56 59 89 (.if_icmp .ne 33) (33) := by unfold bk; decide +kernel
theorem dX7_sorts_33 : bk cX7_sorts 33 36 89 (.if_icmp .le 56) (56) := by unfold bk; decide +kernel
theorem dX7_sorts_89 : dk cX7_sorts 89 90 (.aload_n 0) 1 := by unfold dk; decide +kernel
theorem dX7_sorts_90 : dk cX7_sorts 90 93 (.getfield 9) 3 := by unfold dk; decide +kernel
theorem dX7_sorts_93 : dk cX7_sorts 93 96 (.sipush 7527) 3 := by unfold dk; decide +kernel
theorem dX7_sorts_96 : dk cX7_sorts 96 98 (.iload 6) 2 := by unfold dk; decide +kernel
theorem dX7_sorts_98 : dk cX7_sorts 98 99 (.iadd) 1 := by unfold dk; decide +kernel
theorem dX7_sorts_99 : dk cX7_sorts 99 101 (.iload 5) 2 := by unfold dk; decide +kernel
theorem dX7_sorts_101 : dk cX7_sorts 101 102 (.iastore) 1 := by unfold dk; decide +kernel
theorem dX7_sorts_102 : dk cX7_sorts 102 105 (.iinc 4 1) 3 := by unfold dk; decide +kernel
theorem dX7_sorts_105 : bk cX7_sorts 105 108 5 (.goto (-100)) (-100) := by unfold bk; decide +kernel
theorem dX7_sorts_10 : bk cX7_sorts 10 13 108 (.if_icmp .ge 98) (98) := by unfold bk; decide +kernel
theorem dX7_sorts_108 : dk cX7_sorts 108 109 (.return_) 1 := by unfold dk; decide +kernel
set_option maxHeartbeats 4000000 in
set_option maxRecDepth 100000 in
theorem kX7_sorts {l : Launch} {G : Gl} {E : En} {a0 : Nat} {a1 : Int32} {a2 : Int32} {a3 : Int32} {σ σ' : Sg} : fX7_sorts E a0 a1 a2 a3 σ = some σ' → CT l yX7_sorts cX7_sorts 7 none ({ frames := 1, cells := 0, slots := 0, locals := 22 } : Room) [.ref (G.1 + a0), .int a1, .int a2, .int a3] G E σ none σ' := by
  intro h
  refine CT_of (lv0 := [(0, .ref (G.1 + a0)), (1, .int a1), (2, .int a2), (3, .int a3)]) (by decide) (Nat.le_of_ble_eq_true rfl) rfl (fun κ hl hR hr C => ?_)
  have C : Cx κ G cX7_sorts RX7 7 := C
  revert h
  unfold fX7_sorts
  refine R_tk (fun ha0 => ?_)
  refine R_iload_n C 1 rfl dX7_sorts_0 ?_
  refine R_iconst C (1) dX7_sorts_1 (by decide) ?_
  refine R_iadd C dX7_sorts_2 ?_
  refine S_istore C dX7_sorts_3 (fun v1 => [(4, .int v1), (0, .ref (G.1 + a0)), (1, .int a1), (2, .int a2), (3, .int a3)]) (by decide) (fun _ => rfl) (fun v1 => ?_)
  refine R_loc (lv2 := [(0, .ref (G.1 + a0)), (1, .int a1), (2, .int a2), (3, .int a3), (4, .int v1)]) [1, 2, 3, 4, 0] rfl ?_
  refine R_loop (fun (a : (Int32) × Sg) => V κ G (QQ κ G E none σ') E a.2 (false, 0, 0) 5 [(0, .ref (G.1 + a0)), (1, .int a1), (2, .int a2), (3, .int a3), (4, .int a.1)] []) (fun (o : (Int32)) (s : Sg) => V κ G (QQ κ G E none σ') E s (false, 0, 0) 108 [] []) (v1, σ) (fun o30 s31 => ?_) (fun rec I7 a b5 s6 K4 => ?_)
  · exact R_vret C hr dX7_sorts_108
  · obtain ⟨v2, s3⟩ := a
    show bX7_sorts_5 E a1 a2 a0 a3 (fun u0 t => rec (u0, t)) v2 s3 = some (b5, s6) → V κ G (QQ κ G E none σ') E s3 (false, 0, 0) 5 [(0, .ref (G.1 + a0)), (1, .int a1), (2, .int a2), (3, .int a3), (4, .int v2)] []
    unfold bX7_sorts_5
    refine R_iload C 4 rfl dX7_sorts_5 ?_
    refine R_iload_n C 1 rfl dX7_sorts_7 ?_
    refine R_iload_n C 2 rfl dX7_sorts_8 ?_
    refine R_iadd C dX7_sorts_9 ?_
    refine B_icmp_ge C dX7_sorts_10 ?_ ?_
    · refine R_loc (lv2 := []) [] rfl ?_
      exact R_end (fun (o : (Int32)) (s : Sg) => V κ G (QQ κ G E none σ') E s (false, 0, 0) 108 [] []) K4
    · refine R_aload_n C 0 rfl dX7_sorts_13 ?_
      refine R_dr (fun x8 rx8 cx8 => ?_)
      refine R_getr C fl7_9 rfl ha0 rx8 dX7_sorts_14 ?_
      refine R_sipush C (7527) dX7_sorts_17 (by decide) ?_
      refine R_iload C 4 rfl dX7_sorts_20 ?_
      refine R_iadd C dX7_sorts_22 ?_
      refine R_ck (fun h9 => ?_)
      refine R_iald C cx8 h9 dX7_sorts_23 ?_
      refine S_istore C dX7_sorts_24 (fun v10 => [(5, .int v10), (0, .ref (G.1 + a0)), (1, .int a1), (2, .int a2), (3, .int a3), (4, .int v2)]) (by decide) (fun _ => rfl) (fun v10 => ?_)
      refine R_iload C 5 rfl dX7_sorts_26 ?_
      refine R_istore (lv2 := [(6, .int v2), (5, .int v10), (0, .ref (G.1 + a0)), (1, .int a1), (2, .int a2), (3, .int a3), (4, .int v2)]) C dX7_sorts_28 (by decide) rfl ?_
      refine R_loc (lv2 := [(5, .int v10), (0, .ref (G.1 + a0)), (1, .int a1), (2, .int a2), (3, .int a3), (4, .int v2), (6, .int v2)]) [1, 2, 3, 4, 5, 6, 0] rfl ?_
      refine R_loop (fun (a : (Int32) × Sg) => V κ G (QQ κ G E none σ') E a.2 (false, 0, 0) 30 [(5, .int v10), (0, .ref (G.1 + a0)), (1, .int a1), (2, .int a2), (3, .int a3), (4, .int v2), (6, .int a.1)] []) (fun (o : (Int32)) (s : Sg) => V κ G (QQ κ G E none σ') E s (false, 0, 0) 89 [(5, .int v10), (0, .ref (G.1 + a0)), (1, .int a1), (2, .int a2), (3, .int a3), (4, .int v2), (6, .int o)] []) (v2, s3) (fun o25 s26 => ?_) (fun rec I16 a b14 s15 K13 => ?_)
      · refine R_aload_n C 1 rfl dX7_sorts_89 ?_
        refine R_getr C fl7_9 rfl ha0 rx8 dX7_sorts_90 ?_
        refine R_sipush C (7527) dX7_sorts_93 (by decide) ?_
        refine R_iload C 6 rfl dX7_sorts_96 ?_
        refine R_iadd C dX7_sorts_98 ?_
        refine R_iload C 0 rfl dX7_sorts_99 ?_
        refine R_ck (fun h27 => ?_)
        refine S_iast C cx8 h27 dX7_sorts_101 (fun s28 => ?_)
        refine S_iinc (fun v29 => [(4, .int v29), (5, .int v10), (0, .ref (G.1 + a0)), (1, .int a1), (2, .int a2), (3, .int a3), (6, .int o25)]) 5 C dX7_sorts_102 rfl (by decide) (by decide) (fun _ => rfl) (fun v29 => ?_)
        refine R_goto C dX7_sorts_105 ?_
        refine R_loc (lv2 := [(0, .ref (G.1 + a0)), (1, .int a1), (2, .int a2), (3, .int a3), (4, .int v29)]) [2, 3, 4, 5, 0] rfl ?_
        exact I7 (v29, s28) b5 s6 K4
      · obtain ⟨v11, s12⟩ := a
        show bX7_sorts_30 E a1 x8 a0 v10 a3 (fun u0 t => rec (u0, t)) v11 s12 = some (b14, s15) → V κ G (QQ κ G E none σ') E s12 (false, 0, 0) 30 [(5, .int v10), (0, .ref (G.1 + a0)), (1, .int a1), (2, .int a2), (3, .int a3), (4, .int v2), (6, .int v11)] []
        unfold bX7_sorts_30
        refine R_iload C 6 rfl dX7_sorts_30 ?_
        refine R_iload_n C 2 rfl dX7_sorts_32 ?_
        refine B_icmp_le C dX7_sorts_33 ?_ ?_
        · exact R_end (fun (o : (Int32)) (s : Sg) => V κ G (QQ κ G E none σ') E s (false, 0, 0) 89 [(5, .int v10), (0, .ref (G.1 + a0)), (1, .int a1), (2, .int a2), (3, .int a3), (4, .int v2), (6, .int o)] []) K13
        · refine R_aload_n C 1 rfl dX7_sorts_36 ?_
          refine R_iload C 0 rfl dX7_sorts_37 ?_
          refine R_aload_n C 1 rfl dX7_sorts_39 ?_
          refine R_getr C fl7_9 rfl ha0 rx8 dX7_sorts_40 ?_
          refine R_sipush C (7527) dX7_sorts_43 (by decide) ?_
          refine R_iload C 6 rfl dX7_sorts_46 ?_
          refine R_iadd C dX7_sorts_48 ?_
          refine R_iconst C (1) dX7_sorts_49 (by decide) ?_
          refine R_isub C dX7_sorts_50 ?_
          refine R_ck (fun h17 => ?_)
          refine R_iald C cx8 h17 dX7_sorts_51 ?_
          refine R_bd (fun r20 s18 q19 => ?_)
          refine R_callVi [.int v10, .int (gi s12 x8 (((7527 : Int32) + v11) - (1 : Int32)).toNatClampNeg)] [] C ml7_131 (kX7_isLess q19) (by rw [hR]; exact ⟨rfl, rfl, Nat.le_of_ble_eq_true rfl, Nat.le_of_ble_eq_true rfl, Nat.zero_le _, Nat.zero_le _⟩) ha0 rfl rfl (Nat.le_of_ble_eq_true rfl) dX7_sorts_52 ?_
          refine R_iload_n C 4 rfl dX7_sorts_55 ?_
          refine B_icmp_ne C dX7_sorts_56 ?_ ?_
          · exact R_end (fun (o : (Int32)) (s : Sg) => V κ G (QQ κ G E none σ') E s (false, 0, 0) 89 [(5, .int v10), (0, .ref (G.1 + a0)), (1, .int a1), (2, .int a2), (3, .int a3), (4, .int v2), (6, .int o)] []) K13
          · refine R_aload_n C 1 rfl dX7_sorts_59 ?_
            refine R_getr C fl7_9 rfl ha0 rx8 dX7_sorts_60 ?_
            refine R_sipush C (7527) dX7_sorts_63 (by decide) ?_
            refine R_iload C 6 rfl dX7_sorts_66 ?_
            refine R_iadd C dX7_sorts_68 ?_
            refine R_aload_n C 1 rfl dX7_sorts_69 ?_
            refine R_getr C fl7_9 rfl ha0 rx8 dX7_sorts_70 ?_
            refine R_sipush C (7527) dX7_sorts_73 (by decide) ?_
            refine R_iload C 6 rfl dX7_sorts_76 ?_
            refine R_iadd C dX7_sorts_78 ?_
            refine R_iconst C (1) dX7_sorts_79 (by decide) ?_
            refine R_isub C dX7_sorts_80 ?_
            refine R_ck (fun h21 => ?_)
            refine R_iald C cx8 h21 dX7_sorts_81 ?_
            refine R_ck (fun h22 => ?_)
            refine S_iast C cx8 h22 dX7_sorts_82 (fun s23 => ?_)
            refine S_iinc (fun v24 => [(6, .int v24), (5, .int v10), (0, .ref (G.1 + a0)), (1, .int a1), (2, .int a2), (3, .int a3), (4, .int v2)]) 6 C dX7_sorts_83 rfl (by decide) (by decide) (fun _ => rfl) (fun v24 => ?_)
            refine R_goto C dX7_sorts_86 ?_
            refine R_loc (lv2 := [(5, .int v10), (0, .ref (G.1 + a0)), (1, .int a1), (2, .int a2), (3, .int a3), (4, .int v2), (6, .int v24)]) [1, 2, 3, 4, 5, 6, 0] rfl ?_
            exact I16 (v24, s23) b14 s15 K13
theorem dX7_looksWhetherMerged_0 : dk cX7_looksWhetherMerged 0 1 (.aload_n 0) 1 := by unfold dk; decide +kernel
theorem dX7_looksWhetherMerged_1 : dk cX7_looksWhetherMerged 1 4 (.invokevirtual 209) 3 := by unfold dk; decide +kernel
theorem dX7_looksWhetherMerged_4 : dk cX7_looksWhetherMerged 4 5 (.iconst 1) 1 := by unfold dk; decide +kernel
theorem dX7_looksWhetherMerged_9 : dk cX7_looksWhetherMerged 9 10 (.aload_n 0) 1 := by unfold dk; decide +kernel
theorem dX7_looksWhetherMerged_10 : dk cX7_looksWhetherMerged 10 13 (.getfield 9) 3 := by unfold dk; decide +kernel
theorem dX7_looksWhetherMerged_13 : dk cX7_looksWhetherMerged 13 15 (.bipush 7) 2 := by unfold dk; decide +kernel
theorem dX7_looksWhetherMerged_15 : dk cX7_looksWhetherMerged 15 16 (.iconst 3) 1 := by unfold dk; decide +kernel
theorem dX7_looksWhetherMerged_16 : dk cX7_looksWhetherMerged 16 17 (.iastore) 1 := by unfold dk; decide +kernel
theorem dX7_looksWhetherMerged_17 : dk cX7_looksWhetherMerged 17 18 (.iconst 0) 1 := by unfold dk; decide +kernel
theorem dX7_looksWhetherMerged_18 : dk cX7_looksWhetherMerged 18 19 (.istore_n 1) 1 := by unfold dk; decide +kernel
theorem dX7_looksWhetherMerged_19 : dk cX7_looksWhetherMerged 19 20 (.aload_n 0) 1 := by unfold dk; decide +kernel
theorem dX7_looksWhetherMerged_20 : dk cX7_looksWhetherMerged 20 23 (.getfield 9) 3 := by unfold dk; decide +kernel
theorem dX7_looksWhetherMerged_23 : dk cX7_looksWhetherMerged 23 25 (.bipush 20) 2 := by unfold dk; decide +kernel
theorem dX7_looksWhetherMerged_25 : dk cX7_looksWhetherMerged 25 26 (.iload_n 1) 1 := by unfold dk; decide +kernel
theorem dX7_looksWhetherMerged_26 : dk cX7_looksWhetherMerged 26 27 (.iadd) 1 := by unfold dk; decide +kernel
theorem dX7_looksWhetherMerged_27 : dk cX7_looksWhetherMerged 27 28 (.iaload) 1 := by unfold dk; decide +kernel
theorem dX7_looksWhetherMerged_31 : dk cX7_looksWhetherMerged 31 34 (.iinc 1 1) 3 := by unfold dk; decide +kernel
theorem dX7_looksWhetherMerged_34 : bk cX7_looksWhetherMerged 34 37 19 (.goto (-15)) (-15) := by unfold bk; decide +kernel
theorem dX7_looksWhetherMerged_28 : bk cX7_looksWhetherMerged 28 31 37 (.ifCond .ne 9) (9) := by unfold bk; decide +kernel
theorem dX7_looksWhetherMerged_37 : dk cX7_looksWhetherMerged 37 38 (.aload_n 0) 1 := by unfold dk; decide +kernel
theorem dX7_looksWhetherMerged_38 : dk cX7_looksWhetherMerged 38 39 (.iload_n 1) 1 := by unfold dk; decide +kernel
theorem dX7_looksWhetherMerged_39 : dk cX7_looksWhetherMerged 39 40 (.iconst 0) 1 := by unfold dk; decide +kernel
theorem dX7_looksWhetherMerged_40 : dk cX7_looksWhetherMerged 40 43 (.invokevirtual 168) 3 := by unfold dk; decide +kernel
theorem dX7_looksWhetherMerged_43 : dk cX7_looksWhetherMerged 43 44 (.istore_n 2) 1 := by unfold dk; decide +kernel
theorem dX7_looksWhetherMerged_44 : dk cX7_looksWhetherMerged 44 45 (.aload_n 0) 1 := by unfold dk; decide +kernel
theorem dX7_looksWhetherMerged_45 : dk cX7_looksWhetherMerged 45 48 (.getfield 9) 3 := by unfold dk; decide +kernel
theorem dX7_looksWhetherMerged_48 : dk cX7_looksWhetherMerged 48 51 (.sipush 2627) 3 := by unfold dk; decide +kernel
theorem dX7_looksWhetherMerged_51 : dk cX7_looksWhetherMerged 51 52 (.iload_n 2) 1 := by unfold dk; decide +kernel
theorem dX7_looksWhetherMerged_52 : dk cX7_looksWhetherMerged 52 53 (.iadd) 1 := by unfold dk; decide +kernel
theorem dX7_looksWhetherMerged_53 : dk cX7_looksWhetherMerged 53 54 (.iaload) 1 := by unfold dk; decide +kernel
theorem dX7_looksWhetherMerged_54 : dk cX7_looksWhetherMerged 54 55 (.iconst 1) 1 := by unfold dk; decide +kernel
theorem dX7_looksWhetherMerged_55 : bk cX7_looksWhetherMerged 55 58 114 (.if_icmp .ne 59) (59) := by unfold bk; decide +kernel
theorem dX7_looksWhetherMerged_58 : dk cX7_looksWhetherMerged 58 59 (.aload_n 0) 1 := by unfold dk; decide +kernel
theorem dX7_looksWhetherMerged_59 : dk cX7_looksWhetherMerged 59 62 (.getfield 9) 3 := by unfold dk; decide +kernel
theorem dX7_looksWhetherMerged_62 : dk cX7_looksWhetherMerged 62 64 (.bipush 12) 2 := by unfold dk; decide +kernel
theorem dX7_looksWhetherMerged_64 : dk cX7_looksWhetherMerged 64 65 (.dup2) 1 := by unfold dk; decide +kernel
theorem dX7_looksWhetherMerged_65 : dk cX7_looksWhetherMerged 65 66 (.iaload) 1 := by unfold dk; decide +kernel
theorem dX7_looksWhetherMerged_66 : dk cX7_looksWhetherMerged 66 67 (.aload_n 0) 1 := by unfold dk; decide +kernel
theorem dX7_looksWhetherMerged_67 : dk cX7_looksWhetherMerged 67 70 (.getfield 9) 3 := by unfold dk; decide +kernel
theorem dX7_looksWhetherMerged_70 : dk cX7_looksWhetherMerged 70 73 (.sipush 1927) 3 := by unfold dk; decide +kernel
theorem dX7_looksWhetherMerged_73 : dk cX7_looksWhetherMerged 73 74 (.iload_n 2) 1 := by unfold dk; decide +kernel
theorem dX7_looksWhetherMerged_74 : dk cX7_looksWhetherMerged 74 75 (.iadd) 1 := by unfold dk; decide +kernel
theorem dX7_looksWhetherMerged_75 : dk cX7_looksWhetherMerged 75 76 (.iaload) 1 := by unfold dk; decide +kernel
theorem dX7_looksWhetherMerged_76 : dk cX7_looksWhetherMerged 76 77 (.iadd) 1 := by unfold dk; decide +kernel
theorem dX7_looksWhetherMerged_77 : dk cX7_looksWhetherMerged 77 78 (.iastore) 1 := by unfold dk; decide +kernel
theorem dX7_looksWhetherMerged_78 : dk cX7_looksWhetherMerged 78 79 (.aload_n 0) 1 := by unfold dk; decide +kernel
theorem dX7_looksWhetherMerged_79 : dk cX7_looksWhetherMerged 79 82 (.getfield 9) 3 := by unfold dk; decide +kernel
theorem dX7_looksWhetherMerged_82 : dk cX7_looksWhetherMerged 82 85 (.sipush 2627) 3 := by unfold dk; decide +kernel
theorem dX7_looksWhetherMerged_85 : dk cX7_looksWhetherMerged 85 86 (.iload_n 2) 1 := by unfold dk; decide +kernel
theorem dX7_looksWhetherMerged_86 : dk cX7_looksWhetherMerged 86 87 (.iadd) 1 := by unfold dk; decide +kernel
theorem dX7_looksWhetherMerged_87 : dk cX7_looksWhetherMerged 87 88 (.iconst 0) 1 := by unfold dk; decide +kernel
theorem dX7_looksWhetherMerged_88 : dk cX7_looksWhetherMerged 88 89 (.iastore) 1 := by unfold dk; decide +kernel
theorem dX7_looksWhetherMerged_89 : dk cX7_looksWhetherMerged 89 90 (.aload_n 0) 1 := by unfold dk; decide +kernel
theorem dX7_looksWhetherMerged_90 : dk cX7_looksWhetherMerged 90 91 (.aload_n 0) 1 := by unfold dk; decide +kernel
theorem dX7_looksWhetherMerged_91 : dk cX7_looksWhetherMerged 91 94 (.getfield 9) 3 := by unfold dk; decide +kernel
theorem dX7_looksWhetherMerged_94 : dk cX7_looksWhetherMerged 94 97 (.sipush 1227) 3 := by unfold dk; decide +kernel
theorem dX7_looksWhetherMerged_97 : dk cX7_looksWhetherMerged 97 98 (.iload_n 2) 1 := by unfold dk; decide +kernel
theorem dX7_looksWhetherMerged_98 : dk cX7_looksWhetherMerged 98 99 (.iadd) 1 := by unfold dk; decide +kernel
theorem dX7_looksWhetherMerged_99 : dk cX7_looksWhetherMerged 99 100 (.iaload) 1 := by unfold dk; decide +kernel
theorem dX7_looksWhetherMerged_100 : dk cX7_looksWhetherMerged 100 101 (.aload_n 0) 1 := by unfold dk; decide +kernel
theorem dX7_looksWhetherMerged_101 : dk cX7_looksWhetherMerged 101 104 (.getfield 9) 3 := by unfold dk; decide +kernel
theorem dX7_looksWhetherMerged_104 : dk cX7_looksWhetherMerged 104 107 (.sipush 1927) 3 := by unfold dk; decide +kernel
theorem dX7_looksWhetherMerged_107 : dk cX7_looksWhetherMerged 107 108 (.iload_n 2) 1 := by unfold dk; decide +kernel
theorem dX7_looksWhetherMerged_108 : dk cX7_looksWhetherMerged 108 109 (.iadd) 1 := by unfold dk; decide +kernel
theorem dX7_looksWhetherMerged_109 : dk cX7_looksWhetherMerged 109 110 (.iaload) 1 := by unfold dk; decide +kernel
theorem dX7_looksWhetherMerged_110 : dk cX7_looksWhetherMerged 110 111 (.iconst 1) 1 := by unfold dk; decide +kernel
theorem dX7_looksWhetherMerged_111 : dk cX7_looksWhetherMerged 111 114 (.invokevirtual 212) 3 := by unfold dk; decide +kernel
theorem dX7_looksWhetherMerged_114 : dk cX7_looksWhetherMerged 114 115 (.return_) 1 := by unfold dk; decide +kernel
theorem dX7_looksWhetherMerged_8 : dk cX7_looksWhetherMerged 8 9 (.return_) 1 := by unfold dk; decide +kernel
theorem dX7_looksWhetherMerged_5 : bk cX7_looksWhetherMerged 5 8 9 (.if_icmp .eq 4) (4) := by unfold bk; decide +kernel
set_option maxHeartbeats 4000000 in
set_option maxRecDepth 100000 in
theorem kX7_looksWhetherMerged {l : Launch} {G : Gl} {E : En} {a0 : Nat} {σ σ' : Sg} : fX7_looksWhetherMerged E a0 σ = some σ' → CT l yX7_looksWhetherMerged cX7_looksWhetherMerged 3 none ({ frames := 2, cells := 0, slots := 0, locals := 48 } : Room) [.ref (G.1 + a0)] G E σ none σ' := by
  intro h
  refine CT_of (lv0 := [(0, .ref (G.1 + a0))]) (by decide) (Nat.le_of_ble_eq_true rfl) rfl (fun κ hl hR hr C => ?_)
  have C : Cx κ G cX7_looksWhetherMerged RX7 3 := C
  revert h
  unfold fX7_looksWhetherMerged
  refine R_tk (fun ha0 => ?_)
  refine R_aload_n C 0 rfl dX7_looksWhetherMerged_0 ?_
  refine R_bd (fun r3 s1 q2 => ?_)
  refine R_callVi [] [] C ml7_209 (kX7_onAll q2) (by rw [hR]; exact ⟨rfl, rfl, Nat.le_of_ble_eq_true rfl, Nat.le_of_ble_eq_true rfl, Nat.zero_le _, Nat.zero_le _⟩) ha0 rfl rfl (Nat.le_of_ble_eq_true rfl) dX7_looksWhetherMerged_1 ?_
  refine R_iconst C (1) dX7_looksWhetherMerged_4 (by decide) ?_
  refine B_icmp_eq C dX7_looksWhetherMerged_5 ?_ ?_
  · refine R_aload_n C 0 rfl dX7_looksWhetherMerged_9 ?_
    refine R_dr (fun x4 rx4 cx4 => ?_)
    refine R_getr C fl7_9 rfl ha0 rx4 dX7_looksWhetherMerged_10 ?_
    refine R_bipush C (7) dX7_looksWhetherMerged_13 (by decide) ?_
    refine R_iconst C (3) dX7_looksWhetherMerged_15 (by decide) ?_
    refine R_ck (fun h5 => ?_)
    refine S_iast C cx4 h5 dX7_looksWhetherMerged_16 (fun s6 => ?_)
    refine R_iconst C (0) dX7_looksWhetherMerged_17 (by decide) ?_
    refine R_istore_n (lv2 := [(1, .int (0 : Int32)), (0, .ref (G.1 + a0))]) C dX7_looksWhetherMerged_18 rfl (by decide) rfl ?_
    refine R_loc (lv2 := [(0, .ref (G.1 + a0)), (1, .int (0 : Int32))]) [1, 0] rfl ?_
    refine R_loop (fun (a : (Int32) × Sg) => V κ G (QQ κ G E none σ') E a.2 (false, 0, 0) 19 [(0, .ref (G.1 + a0)), (1, .int a.1)] []) (fun (o : (Int32)) (s : Sg) => V κ G (QQ κ G E none σ') E s (false, 0, 0) 37 [(0, .ref (G.1 + a0)), (1, .int o)] []) ((0 : Int32), s6) (fun o15 s16 => ?_) (fun rec I12 a b10 s11 K9 => ?_)
    · refine R_aload_n C 0 rfl dX7_looksWhetherMerged_37 ?_
      refine R_iload_n C 1 rfl dX7_looksWhetherMerged_38 ?_
      refine R_iconst C (0) dX7_looksWhetherMerged_39 (by decide) ?_
      refine R_bd (fun r19 s17 q18 => ?_)
      refine R_callVi [.int o15, .int (0 : Int32)] [] C ml7_168 (kX7_runAt q18) (by rw [hR]; exact ⟨rfl, rfl, Nat.le_of_ble_eq_true rfl, Nat.le_of_ble_eq_true rfl, Nat.zero_le _, Nat.zero_le _⟩) ha0 rfl rfl (Nat.le_of_ble_eq_true rfl) dX7_looksWhetherMerged_40 ?_
      refine R_istore_n (lv2 := [(2, .int r19), (0, .ref (G.1 + a0)), (1, .int o15)]) C dX7_looksWhetherMerged_43 rfl (by decide) rfl ?_
      refine R_aload_n C 1 rfl dX7_looksWhetherMerged_44 ?_
      refine R_getr C fl7_9 rfl ha0 rx4 dX7_looksWhetherMerged_45 ?_
      refine R_sipush C (2627) dX7_looksWhetherMerged_48 (by decide) ?_
      refine R_iload_n C 0 rfl dX7_looksWhetherMerged_51 ?_
      refine R_iadd C dX7_looksWhetherMerged_52 ?_
      refine R_ck (fun h20 => ?_)
      refine R_iald C cx4 h20 dX7_looksWhetherMerged_53 ?_
      refine R_iconst C (1) dX7_looksWhetherMerged_54 (by decide) ?_
      refine R_bdK (fun (w : Unit) (s : Sg) => V κ G (QQ κ G E none σ') E s (false, 0, 0) 114 [] []) (fun w21 s22 => ?_) (fun w21 s22 Kw21 => ?_)
      · exact R_vret C hr dX7_looksWhetherMerged_114
      · refine B_icmp_ne C dX7_looksWhetherMerged_55 ?_ ?_
        · refine R_loc (lv2 := []) [] rfl ?_
          exact R_end (fun (w : Unit) (s : Sg) => V κ G (QQ κ G E none σ') E s (false, 0, 0) 114 [] []) Kw21
        · refine R_aload_n C 1 rfl dX7_looksWhetherMerged_58 ?_
          refine R_getr C fl7_9 rfl ha0 rx4 dX7_looksWhetherMerged_59 ?_
          refine R_bipush C (12) dX7_looksWhetherMerged_62 (by decide) ?_
          refine R_dup2 C dX7_looksWhetherMerged_64 rfl rfl ?_
          refine R_ck (fun h23 => ?_)
          refine R_iald C cx4 h23 dX7_looksWhetherMerged_65 ?_
          refine R_aload_n C 1 rfl dX7_looksWhetherMerged_66 ?_
          refine R_getr C fl7_9 rfl ha0 rx4 dX7_looksWhetherMerged_67 ?_
          refine R_sipush C (1927) dX7_looksWhetherMerged_70 (by decide) ?_
          refine R_iload_n C 0 rfl dX7_looksWhetherMerged_73 ?_
          refine R_iadd C dX7_looksWhetherMerged_74 ?_
          refine R_ck (fun h24 => ?_)
          refine R_iald C cx4 h24 dX7_looksWhetherMerged_75 ?_
          refine R_iadd C dX7_looksWhetherMerged_76 ?_
          refine R_ck (fun h25 => ?_)
          refine S_iast C cx4 h25 dX7_looksWhetherMerged_77 (fun s26 => ?_)
          refine R_aload_n C 1 rfl dX7_looksWhetherMerged_78 ?_
          refine R_getr C fl7_9 rfl ha0 rx4 dX7_looksWhetherMerged_79 ?_
          refine R_sipush C (2627) dX7_looksWhetherMerged_82 (by decide) ?_
          refine R_iload_n C 0 rfl dX7_looksWhetherMerged_85 ?_
          refine R_iadd C dX7_looksWhetherMerged_86 ?_
          refine R_iconst C (0) dX7_looksWhetherMerged_87 (by decide) ?_
          refine R_ck (fun h27 => ?_)
          refine S_iast C cx4 h27 dX7_looksWhetherMerged_88 (fun s28 => ?_)
          refine R_aload_n C 1 rfl dX7_looksWhetherMerged_89 ?_
          refine R_aload_n C 1 rfl dX7_looksWhetherMerged_90 ?_
          refine R_getr C fl7_9 rfl ha0 rx4 dX7_looksWhetherMerged_91 ?_
          refine R_sipush C (1227) dX7_looksWhetherMerged_94 (by decide) ?_
          refine R_iload_n C 0 rfl dX7_looksWhetherMerged_97 ?_
          refine R_iadd C dX7_looksWhetherMerged_98 ?_
          refine R_ck (fun h29 => ?_)
          refine R_iald C cx4 h29 dX7_looksWhetherMerged_99 ?_
          refine R_aload_n C 1 rfl dX7_looksWhetherMerged_100 ?_
          refine R_getr C fl7_9 rfl ha0 rx4 dX7_looksWhetherMerged_101 ?_
          refine R_sipush C (1927) dX7_looksWhetherMerged_104 (by decide) ?_
          refine R_iload_n C 0 rfl dX7_looksWhetherMerged_107 ?_
          refine R_iadd C dX7_looksWhetherMerged_108 ?_
          refine R_ck (fun h30 => ?_)
          refine R_iald C cx4 h30 dX7_looksWhetherMerged_109 ?_
          refine R_iconst C (1) dX7_looksWhetherMerged_110 (by decide) ?_
          refine R_bv (fun s31 q32 => ?_)
          refine R_callVv [.int (gi s28 x4 ((1227 : Int32) + r19).toNatClampNeg), .int (gi s28 x4 ((1927 : Int32) + r19).toNatClampNeg), .int (1 : Int32)] [] C ml7_212 (kX7_sorts q32) (by rw [hR]; exact ⟨rfl, rfl, Nat.le_of_ble_eq_true rfl, Nat.le_of_ble_eq_true rfl, Nat.zero_le _, Nat.zero_le _⟩) ha0 rfl rfl (Nat.le_of_ble_eq_true rfl) dX7_looksWhetherMerged_111 ?_
          refine R_loc (lv2 := []) [] rfl ?_
          exact R_end (fun (w : Unit) (s : Sg) => V κ G (QQ κ G E none σ') E s (false, 0, 0) 114 [] []) Kw21
    · obtain ⟨v7, s8⟩ := a
      show bX7_looksWhetherMerged_19 E x4 (fun u0 t => rec (u0, t)) v7 s8 = some (b10, s11) → V κ G (QQ κ G E none σ') E s8 (false, 0, 0) 19 [(0, .ref (G.1 + a0)), (1, .int v7)] []
      unfold bX7_looksWhetherMerged_19
      refine R_aload_n C 0 rfl dX7_looksWhetherMerged_19 ?_
      refine R_getr C fl7_9 rfl ha0 rx4 dX7_looksWhetherMerged_20 ?_
      refine R_bipush C (20) dX7_looksWhetherMerged_23 (by decide) ?_
      refine R_iload_n C 1 rfl dX7_looksWhetherMerged_25 ?_
      refine R_iadd C dX7_looksWhetherMerged_26 ?_
      refine R_ck (fun h13 => ?_)
      refine R_iald C cx4 h13 dX7_looksWhetherMerged_27 ?_
      refine B_if_ne C dX7_looksWhetherMerged_28 ?_ ?_
      · exact R_end (fun (o : (Int32)) (s : Sg) => V κ G (QQ κ G E none σ') E s (false, 0, 0) 37 [(0, .ref (G.1 + a0)), (1, .int o)] []) K9
      · refine S_iinc (fun v14 => [(1, .int v14), (0, .ref (G.1 + a0))]) 1 C dX7_looksWhetherMerged_31 rfl (by decide) (by decide) (fun _ => rfl) (fun v14 => ?_)
        refine R_goto C dX7_looksWhetherMerged_34 ?_
        refine R_loc (lv2 := [(0, .ref (G.1 + a0)), (1, .int v14)]) [1, 0] rfl ?_
        exact I12 (v14, s8) b10 s11 K9
  · exact R_vret C hr dX7_looksWhetherMerged_8
theorem dX7_spreads_0 : dk cX7_spreads 0 1 (.aload_n 0) 1 := by unfold dk; decide +kernel
theorem dX7_spreads_1 : dk cX7_spreads 1 2 (.iconst 0) 1 := by unfold dk; decide +kernel
theorem dX7_spreads_2 : dk cX7_spreads 2 5 (.putfield 172) 3 := by unfold dk; decide +kernel
theorem dX7_spreads_5 : dk cX7_spreads 5 6 (.aload_n 0) 1 := by unfold dk; decide +kernel
theorem dX7_spreads_6 : dk cX7_spreads 6 9 (.invokevirtual 97) 3 := by unfold dk; decide +kernel
theorem dX7_spreads_9 : dk cX7_spreads 9 10 (.iconst 0) 1 := by unfold dk; decide +kernel
theorem dX7_spreads_10 : dk cX7_spreads 10 11 (.istore_n 1) 1 := by unfold dk; decide +kernel
theorem dX7_spreads_11 : dk cX7_spreads 11 12 (.iload_n 1) 1 := by unfold dk; decide +kernel
theorem dX7_spreads_12 : dk cX7_spreads 12 14 (.bipush 6) 2 := by unfold dk; decide +kernel
theorem dX7_spreads_17 : dk cX7_spreads 17 18 (.aload_n 0) 1 := by unfold dk; decide +kernel
theorem dX7_spreads_18 : dk cX7_spreads 18 21 (.getfield 9) 3 := by unfold dk; decide +kernel
theorem dX7_spreads_21 : dk cX7_spreads 21 23 (.bipush 20) 2 := by unfold dk; decide +kernel
theorem dX7_spreads_23 : dk cX7_spreads 23 24 (.iload_n 1) 1 := by unfold dk; decide +kernel
theorem dX7_spreads_24 : dk cX7_spreads 24 25 (.iadd) 1 := by unfold dk; decide +kernel
theorem dX7_spreads_25 : dk cX7_spreads 25 26 (.iconst 0) 1 := by unfold dk; decide +kernel
theorem dX7_spreads_26 : dk cX7_spreads 26 27 (.iastore) 1 := by unfold dk; decide +kernel
theorem dX7_spreads_27 : dk cX7_spreads 27 30 (.iinc 1 1) 3 := by unfold dk; decide +kernel
theorem dX7_spreads_30 : bk cX7_spreads 30 33 11 (.goto (-19)) (-19) := by unfold bk; decide +kernel
theorem dX7_spreads_14 : bk cX7_spreads 14 17 33 (.if_icmp .ge 19) (19) := by unfold bk; decide +kernel
theorem dX7_spreads_33 : dk cX7_spreads 33 34 (.iconst 0) 1 := by unfold dk; decide +kernel
theorem dX7_spreads_34 : dk cX7_spreads 34 35 (.istore_n 1) 1 := by unfold dk; decide +kernel
theorem dX7_spreads_35 : dk cX7_spreads 35 36 (.iload_n 1) 1 := by unfold dk; decide +kernel
theorem dX7_spreads_36 : dk cX7_spreads 36 37 (.aload_n 0) 1 := by unfold dk; decide +kernel
theorem dX7_spreads_37 : dk cX7_spreads 37 40 (.invokevirtual 93) 3 := by unfold dk; decide +kernel
theorem dX7_spreads_43 : dk cX7_spreads 43 44 (.aload_n 0) 1 := by unfold dk; decide +kernel
theorem dX7_spreads_44 : dk cX7_spreads 44 47 (.getfield 9) 3 := by unfold dk; decide +kernel
theorem dX7_spreads_47 : dk cX7_spreads 47 50 (.sipush 7527) 3 := by unfold dk; decide +kernel
theorem dX7_spreads_50 : dk cX7_spreads 50 51 (.iload_n 1) 1 := by unfold dk; decide +kernel
theorem dX7_spreads_51 : dk cX7_spreads 51 52 (.iadd) 1 := by unfold dk; decide +kernel
theorem dX7_spreads_52 : dk cX7_spreads 52 53 (.aload_n 0) 1 := by unfold dk; decide +kernel
theorem dX7_spreads_53 : dk cX7_spreads 53 56 (.getfield 9) 3 := by unfold dk; decide +kernel
theorem dX7_spreads_56 : dk cX7_spreads 56 59 (.sipush 626) 3 := by unfold dk; decide +kernel
theorem dX7_spreads_59 : dk cX7_spreads 59 60 (.iload_n 1) 1 := by unfold dk; decide +kernel
theorem dX7_spreads_60 : dk cX7_spreads 60 61 (.iadd) 1 := by unfold dk; decide +kernel
theorem dX7_spreads_61 : dk cX7_spreads 61 62 (.iaload) 1 := by unfold dk; decide +kernel
theorem dX7_spreads_62 : dk cX7_spreads 62 63 (.iastore) 1 := by unfold dk; decide +kernel
theorem dX7_spreads_63 : dk cX7_spreads 63 66 (.iinc 1 1) 3 := by unfold dk; decide +kernel
theorem dX7_spreads_66 : bk cX7_spreads 66 69 35 (.goto (-31)) (-31) := by unfold bk; decide +kernel
theorem dX7_spreads_40 : bk cX7_spreads 40 43 69 (.if_icmp .ge 29) (29) := by unfold bk; decide +kernel
theorem dX7_spreads_69 : dk cX7_spreads 69 70 (.aload_n 0) 1 := by unfold dk; decide +kernel
theorem dX7_spreads_70 : dk cX7_spreads 70 73 (.getfield 9) 3 := by unfold dk; decide +kernel
theorem dX7_spreads_73 : dk cX7_spreads 73 75 (.bipush 17) 2 := by unfold dk; decide +kernel
theorem dX7_spreads_75 : dk cX7_spreads 75 76 (.iconst 0) 1 := by unfold dk; decide +kernel
theorem dX7_spreads_76 : dk cX7_spreads 76 77 (.iastore) 1 := by unfold dk; decide +kernel
theorem dX7_spreads_77 : dk cX7_spreads 77 78 (.aload_n 0) 1 := by unfold dk; decide +kernel
theorem dX7_spreads_78 : dk cX7_spreads 78 81 (.invokevirtual 158) 3 := by unfold dk; decide +kernel
theorem dX7_spreads_81 : dk cX7_spreads 81 82 (.iconst 1) 1 := by unfold dk; decide +kernel
theorem dX7_spreads_82 : bk cX7_spreads 82 85 146 (.if_icmp .ne 64) (64) := by unfold bk; decide +kernel
theorem dX7_spreads_146 : dk cX7_spreads 146 147 (.aload_n 0) 1 := by unfold dk; decide +kernel
theorem dX7_spreads_147 : dk cX7_spreads 147 150 (.invokevirtual 200) 3 := by unfold dk; decide +kernel
theorem dX7_spreads_85 : dk cX7_spreads 85 86 (.aload_n 0) 1 := by unfold dk; decide +kernel
theorem dX7_spreads_86 : dk cX7_spreads 86 89 (.getfield 9) 3 := by unfold dk; decide +kernel
theorem dX7_spreads_89 : dk cX7_spreads 89 91 (.bipush 18) 2 := by unfold dk; decide +kernel
theorem dX7_spreads_91 : dk cX7_spreads 91 92 (.iconst 0) 1 := by unfold dk; decide +kernel
theorem dX7_spreads_92 : dk cX7_spreads 92 93 (.iastore) 1 := by unfold dk; decide +kernel
theorem dX7_spreads_93 : dk cX7_spreads 93 94 (.aload_n 0) 1 := by unfold dk; decide +kernel
theorem dX7_spreads_94 : dk cX7_spreads 94 97 (.getfield 9) 3 := by unfold dk; decide +kernel
theorem dX7_spreads_97 : dk cX7_spreads 97 99 (.bipush 19) 2 := by unfold dk; decide +kernel
theorem dX7_spreads_99 : dk cX7_spreads 99 100 (.iconst (-1)) 1 := by unfold dk; decide +kernel
theorem dX7_spreads_100 : dk cX7_spreads 100 101 (.iastore) 1 := by unfold dk; decide +kernel
theorem dX7_spreads_101 : dk cX7_spreads 101 102 (.aload_n 0) 1 := by unfold dk; decide +kernel
theorem dX7_spreads_102 : dk cX7_spreads 102 105 (.invokevirtual 155) 3 := by unfold dk; decide +kernel
theorem dX7_spreads_105 : dk cX7_spreads 105 106 (.iconst 2) 1 := by unfold dk; decide +kernel
theorem dX7_spreads_106 : dk cX7_spreads 106 107 (.idiv) 1 := by unfold dk; decide +kernel
theorem dX7_spreads_107 : dk cX7_spreads 107 108 (.istore_n 1) 1 := by unfold dk; decide +kernel
theorem dX7_spreads_108 : dk cX7_spreads 108 109 (.iconst 0) 1 := by unfold dk; decide +kernel
theorem dX7_spreads_109 : dk cX7_spreads 109 110 (.istore_n 2) 1 := by unfold dk; decide +kernel
theorem dX7_spreads_110 : dk cX7_spreads 110 111 (.iload_n 2) 1 := by unfold dk; decide +kernel
theorem dX7_spreads_111 : dk cX7_spreads 111 112 (.aload_n 0) 1 := by unfold dk; decide +kernel
theorem dX7_spreads_112 : dk cX7_spreads 112 115 (.getfield 9) 3 := by unfold dk; decide +kernel
theorem dX7_spreads_115 : dk cX7_spreads 115 117 (.bipush 14) 2 := by unfold dk; decide +kernel
theorem dX7_spreads_117 : dk cX7_spreads 117 118 (.iaload) 1 := by unfold dk; decide +kernel
theorem dX7_spreads_121 : dk cX7_spreads 121 122 (.aload_n 0) 1 := by unfold dk; decide +kernel
theorem dX7_spreads_122 : dk cX7_spreads 122 123 (.iload_n 2) 1 := by unfold dk; decide +kernel
theorem dX7_spreads_123 : dk cX7_spreads 123 124 (.iload_n 1) 1 := by unfold dk; decide +kernel
theorem dX7_spreads_124 : dk cX7_spreads 124 125 (.irem) 1 := by unfold dk; decide +kernel
theorem dX7_spreads_125 : dk cX7_spreads 125 126 (.iload_n 2) 1 := by unfold dk; decide +kernel
theorem dX7_spreads_126 : dk cX7_spreads 126 129 (.invokevirtual 197) 3 := by unfold dk; decide +kernel
theorem dX7_spreads_129 : dk cX7_spreads 129 132 (.iinc 2 1) 3 := by unfold dk; decide +kernel
theorem dX7_spreads_132 : bk cX7_spreads 132 135 110 (.goto (-22)) (-22) := by unfold bk; decide +kernel
theorem dX7_spreads_118 : bk cX7_spreads 118 121 135 (.if_icmp .ge 17) (17) := by unfold bk; decide +kernel
theorem dX7_spreads_135 : dk cX7_spreads 135 136 (.aload_n 0) 1 := by unfold dk; decide +kernel
theorem dX7_spreads_136 : dk cX7_spreads 136 139 (.getfield 9) 3 := by unfold dk; decide +kernel
theorem dX7_spreads_139 : dk cX7_spreads 139 141 (.bipush 13) 2 := by unfold dk; decide +kernel
theorem dX7_spreads_141 : dk cX7_spreads 141 142 (.iload_n 1) 1 := by unfold dk; decide +kernel
theorem dX7_spreads_142 : dk cX7_spreads 142 143 (.iastore) 1 := by unfold dk; decide +kernel
theorem dX7_spreads_143 : bk cX7_spreads 143 146 150 (.goto 7) (7) := by unfold bk; decide +kernel
theorem dX7_spreads_150 : dk cX7_spreads 150 151 (.aload_n 0) 1 := by unfold dk; decide +kernel
theorem dX7_spreads_151 : dk cX7_spreads 151 154 (.invokevirtual 203) 3 := by unfold dk; decide +kernel
theorem dX7_spreads_154 : dk cX7_spreads 154 155 (.aload_n 0) 1 := by unfold dk; decide +kernel
theorem dX7_spreads_155 : dk cX7_spreads 155 158 (.getfield 9) 3 := by unfold dk; decide +kernel
theorem dX7_spreads_158 : dk cX7_spreads 158 160 (.bipush 7) 2 := by unfold dk; decide +kernel
theorem dX7_spreads_160 : dk cX7_spreads 160 161 (.iconst 2) 1 := by unfold dk; decide +kernel
theorem dX7_spreads_161 : dk cX7_spreads 161 162 (.iastore) 1 := by unfold dk; decide +kernel
theorem dX7_spreads_162 : dk cX7_spreads 162 163 (.aload_n 0) 1 := by unfold dk; decide +kernel
theorem dX7_spreads_163 : dk cX7_spreads 163 166 (.invokevirtual 206) 3 := by unfold dk; decide +kernel
theorem dX7_spreads_166 : dk cX7_spreads 166 167 (.return_) 1 := by unfold dk; decide +kernel
set_option maxHeartbeats 4000000 in
set_option maxRecDepth 100000 in
theorem kX7_spreads {l : Launch} {G : Gl} {E : En} {a0 : Nat} {σ σ' : Sg} : fX7_spreads E a0 σ = some σ' → CT l yX7_spreads cX7_spreads 3 none ({ frames := 3, cells := 0, slots := 0, locals := 74 } : Room) [.ref (G.1 + a0)] G E σ none σ' := by
  intro h
  refine CT_of (lv0 := [(0, .ref (G.1 + a0))]) (by decide) (Nat.le_of_ble_eq_true rfl) rfl (fun κ hl hR hr C => ?_)
  have C : Cx κ G cX7_spreads RX7 3 := C
  revert h
  unfold fX7_spreads
  refine R_tk (fun ha0 => ?_)
  refine R_aload_n C 0 rfl dX7_spreads_0 ?_
  refine R_iconst C (0) dX7_spreads_1 (by decide) ?_
  refine S_puti C fl7_172 rfl ha0 rfl rfl dX7_spreads_2 (fun s1 => ?_)
  refine R_aload_n C 0 rfl dX7_spreads_5 ?_
  refine R_bv (fun s2 q3 => ?_)
  refine R_callVv [] [] C ml7_97 (kX7_clearsCounts q3) (by rw [hR]; exact ⟨rfl, rfl, Nat.le_of_ble_eq_true rfl, Nat.le_of_ble_eq_true rfl, Nat.zero_le _, Nat.zero_le _⟩) ha0 rfl rfl (Nat.le_of_ble_eq_true rfl) dX7_spreads_6 ?_
  refine R_iconst C (0) dX7_spreads_9 (by decide) ?_
  refine R_istore_n (lv2 := [(1, .int (0 : Int32)), (0, .ref (G.1 + a0))]) C dX7_spreads_10 rfl (by decide) rfl ?_
  refine R_loc (lv2 := [(0, .ref (G.1 + a0)), (1, .int (0 : Int32))]) [1, 0] rfl ?_
  refine R_loop (fun (a : (Int32) × Sg) => V κ G (QQ κ G E none σ') E a.2 (false, 0, 0) 11 [(0, .ref (G.1 + a0)), (1, .int a.1)] []) (fun (o : (Int32)) (s : Sg) => V κ G (QQ κ G E none σ') E s (false, 0, 0) 33 [(0, .ref (G.1 + a0))] []) ((0 : Int32), s2) (fun o14 s15 => ?_) (fun rec I9 a b7 s8 K6 => ?_)
  · refine R_iconst C (0) dX7_spreads_33 (by decide) ?_
    refine R_istore_n (lv2 := [(1, .int (0 : Int32)), (0, .ref (G.1 + a0))]) C dX7_spreads_34 rfl (by decide) rfl ?_
    refine R_loc (lv2 := [(0, .ref (G.1 + a0)), (1, .int (0 : Int32))]) [1, 0] rfl ?_
    refine R_loop (fun (a : (Int32) × Sg) => V κ G (QQ κ G E none σ') E a.2 (false, 0, 0) 35 [(0, .ref (G.1 + a0)), (1, .int a.1)] []) (fun (o : (Int32)) (s : Sg) => V κ G (QQ κ G E none σ') E s (false, 0, 0) 69 [(0, .ref (G.1 + a0))] []) ((0 : Int32), s15) (fun o30 s31 => ?_) (fun rec I21 a b19 s20 K18 => ?_)
    · refine R_aload_n C 0 rfl dX7_spreads_69 ?_
      refine R_dr (fun x32 rx32 cx32 => ?_)
      refine R_getr C fl7_9 rfl ha0 rx32 dX7_spreads_70 ?_
      refine R_bipush C (17) dX7_spreads_73 (by decide) ?_
      refine R_iconst C (0) dX7_spreads_75 (by decide) ?_
      refine R_ck (fun h33 => ?_)
      refine S_iast C cx32 h33 dX7_spreads_76 (fun s34 => ?_)
      refine R_aload_n C 0 rfl dX7_spreads_77 ?_
      refine R_bd (fun r37 s35 q36 => ?_)
      refine R_callVi [] [] C ml7_158 (kX7_way q36) (by rw [hR]; exact ⟨rfl, rfl, Nat.le_of_ble_eq_true rfl, Nat.le_of_ble_eq_true rfl, Nat.zero_le _, Nat.zero_le _⟩) ha0 rfl rfl (Nat.le_of_ble_eq_true rfl) dX7_spreads_78 ?_
      refine R_iconst C (1) dX7_spreads_81 (by decide) ?_
      refine R_bdK (fun (w : Unit) (s : Sg) => V κ G (QQ κ G E none σ') E s (false, 0, 0) 150 [(0, .ref (G.1 + a0))] []) (fun w38 s39 => ?_) (fun w38 s39 Kw38 => ?_)
      · refine R_aload_n C 0 rfl dX7_spreads_150 ?_
        refine R_bv (fun s65 q66 => ?_)
        refine R_callVv [] [] C ml7_203 (kX7_beginsPass q66) (by rw [hR]; exact ⟨rfl, rfl, Nat.le_of_ble_eq_true rfl, Nat.le_of_ble_eq_true rfl, Nat.zero_le _, Nat.zero_le _⟩) ha0 rfl rfl (Nat.le_of_ble_eq_true rfl) dX7_spreads_151 ?_
        refine R_aload_n C 0 rfl dX7_spreads_154 ?_
        refine R_getr C fl7_9 rfl ha0 rx32 dX7_spreads_155 ?_
        refine R_bipush C (7) dX7_spreads_158 (by decide) ?_
        refine R_iconst C (2) dX7_spreads_160 (by decide) ?_
        refine R_ck (fun h67 => ?_)
        refine S_iast C cx32 h67 dX7_spreads_161 (fun s68 => ?_)
        refine R_aload_n C 0 rfl dX7_spreads_162 ?_
        refine R_bv (fun s69 q70 => ?_)
        refine R_callVv [] [] C ml7_206 (kX7_looksWhetherMerged q70) (by rw [hR]; exact ⟨rfl, rfl, Nat.le_of_ble_eq_true rfl, Nat.le_of_ble_eq_true rfl, Nat.zero_le _, Nat.zero_le _⟩) ha0 rfl rfl (Nat.le_of_ble_eq_true rfl) dX7_spreads_163 ?_
        exact R_vret C hr dX7_spreads_166
      · refine B_icmp_ne C dX7_spreads_82 ?_ ?_
        · refine R_aload_n C 0 rfl dX7_spreads_146 ?_
          refine R_bv (fun s40 q41 => ?_)
          refine R_callVv [] [] C ml7_200 (kX7_spreadsPerfectly q41) (by rw [hR]; exact ⟨rfl, rfl, Nat.le_of_ble_eq_true rfl, Nat.le_of_ble_eq_true rfl, Nat.zero_le _, Nat.zero_le _⟩) ha0 rfl rfl (Nat.le_of_ble_eq_true rfl) dX7_spreads_147 ?_
          exact R_end (fun (w : Unit) (s : Sg) => V κ G (QQ κ G E none σ') E s (false, 0, 0) 150 [(0, .ref (G.1 + a0))] []) Kw38
        · refine R_aload_n C 0 rfl dX7_spreads_85 ?_
          refine R_getr C fl7_9 rfl ha0 rx32 dX7_spreads_86 ?_
          refine R_bipush C (18) dX7_spreads_89 (by decide) ?_
          refine R_iconst C (0) dX7_spreads_91 (by decide) ?_
          refine R_ck (fun h42 => ?_)
          refine S_iast C cx32 h42 dX7_spreads_92 (fun s43 => ?_)
          refine R_aload_n C 0 rfl dX7_spreads_93 ?_
          refine R_getr C fl7_9 rfl ha0 rx32 dX7_spreads_94 ?_
          refine R_bipush C (19) dX7_spreads_97 (by decide) ?_
          refine R_iconst C (-1) dX7_spreads_99 (by decide) ?_
          refine R_ck (fun h44 => ?_)
          refine S_iast C cx32 h44 dX7_spreads_100 (fun s45 => ?_)
          refine R_aload_n C 0 rfl dX7_spreads_101 ?_
          refine R_bd (fun r48 s46 q47 => ?_)
          refine R_callVi [] [] C ml7_155 (kX7_tapes q47) (by rw [hR]; exact ⟨rfl, rfl, Nat.le_of_ble_eq_true rfl, Nat.le_of_ble_eq_true rfl, Nat.zero_le _, Nat.zero_le _⟩) ha0 rfl rfl (Nat.le_of_ble_eq_true rfl) dX7_spreads_102 ?_
          refine R_iconst C (2) dX7_spreads_105 (by decide) ?_
          refine R_idiv C dX7_spreads_106 (by decide) ?_
          refine S_istore_n C dX7_spreads_107 rfl (fun v49 => [(1, .int v49), (0, .ref (G.1 + a0))]) (by decide) (fun _ => rfl) (fun v49 => ?_)
          refine R_iconst C (0) dX7_spreads_108 (by decide) ?_
          refine R_istore_n (lv2 := [(2, .int (0 : Int32)), (1, .int v49), (0, .ref (G.1 + a0))]) C dX7_spreads_109 rfl (by decide) rfl ?_
          refine R_loc (lv2 := [(1, .int v49), (0, .ref (G.1 + a0)), (2, .int (0 : Int32))]) [1, 2, 0] rfl ?_
          refine R_loop (fun (a : (Int32) × Sg) => V κ G (QQ κ G E none σ') E a.2 (false, 0, 0) 110 [(1, .int v49), (0, .ref (G.1 + a0)), (2, .int a.1)] []) (fun (o : (Int32)) (s : Sg) => V κ G (QQ κ G E none σ') E s (false, 0, 0) 135 [(1, .int v49), (0, .ref (G.1 + a0))] []) ((0 : Int32), s46) (fun o61 s62 => ?_) (fun rec I55 a b53 s54 K52 => ?_)
          · refine R_aload_n C 1 rfl dX7_spreads_135 ?_
            refine R_getr C fl7_9 rfl ha0 rx32 dX7_spreads_136 ?_
            refine R_bipush C (13) dX7_spreads_139 (by decide) ?_
            refine R_iload_n C 0 rfl dX7_spreads_141 ?_
            refine R_ck (fun h63 => ?_)
            refine S_iast C cx32 h63 dX7_spreads_142 (fun s64 => ?_)
            refine R_goto C dX7_spreads_143 ?_
            refine R_loc (lv2 := [(0, .ref (G.1 + a0))]) [1] rfl ?_
            exact R_end (fun (w : Unit) (s : Sg) => V κ G (QQ κ G E none σ') E s (false, 0, 0) 150 [(0, .ref (G.1 + a0))] []) Kw38
          · obtain ⟨v50, s51⟩ := a
            show bX7_spreads_110 E x32 v49 a0 (fun u0 t => rec (u0, t)) v50 s51 = some (b53, s54) → V κ G (QQ κ G E none σ') E s51 (false, 0, 0) 110 [(1, .int v49), (0, .ref (G.1 + a0)), (2, .int v50)] []
            unfold bX7_spreads_110
            refine R_iload_n C 2 rfl dX7_spreads_110 ?_
            refine R_aload_n C 1 rfl dX7_spreads_111 ?_
            refine R_getr C fl7_9 rfl ha0 rx32 dX7_spreads_112 ?_
            refine R_bipush C (14) dX7_spreads_115 (by decide) ?_
            refine R_ck (fun h56 => ?_)
            refine R_iald C cx32 h56 dX7_spreads_117 ?_
            refine B_icmp_ge C dX7_spreads_118 ?_ ?_
            · refine R_loc (lv2 := [(1, .int v49), (0, .ref (G.1 + a0))]) [0, 1] rfl ?_
              exact R_end (fun (o : (Int32)) (s : Sg) => V κ G (QQ κ G E none σ') E s (false, 0, 0) 135 [(1, .int v49), (0, .ref (G.1 + a0))] []) K52
            · refine R_aload_n C 1 rfl dX7_spreads_121 ?_
              refine R_iload_n C 2 rfl dX7_spreads_122 ?_
              refine R_iload_n C 0 rfl dX7_spreads_123 ?_
              refine R_nz (fun h57 => ?_)
              refine R_irem C dX7_spreads_124 h57 ?_
              refine R_iload_n C 2 rfl dX7_spreads_125 ?_
              refine R_bv (fun s58 q59 => ?_)
              refine R_callVv [.int (im v50 v49), .int v50] [] C ml7_197 (kX7_dealsRun q59) (by rw [hR]; exact ⟨rfl, rfl, Nat.le_of_ble_eq_true rfl, Nat.le_of_ble_eq_true rfl, Nat.zero_le _, Nat.zero_le _⟩) ha0 rfl rfl (Nat.le_of_ble_eq_true rfl) dX7_spreads_126 ?_
              refine S_iinc (fun v60 => [(2, .int v60), (1, .int v49), (0, .ref (G.1 + a0))]) 2 C dX7_spreads_129 rfl (by decide) (by decide) (fun _ => rfl) (fun v60 => ?_)
              refine R_goto C dX7_spreads_132 ?_
              refine R_loc (lv2 := [(1, .int v49), (0, .ref (G.1 + a0)), (2, .int v60)]) [1, 2, 0] rfl ?_
              exact I55 (v60, s58) b53 s54 K52
    · obtain ⟨v16, s17⟩ := a
      show bX7_spreads_35 E a0 (fun u0 t => rec (u0, t)) v16 s17 = some (b19, s20) → V κ G (QQ κ G E none σ') E s17 (false, 0, 0) 35 [(0, .ref (G.1 + a0)), (1, .int v16)] []
      unfold bX7_spreads_35
      refine R_iload_n C 1 rfl dX7_spreads_35 ?_
      refine R_aload_n C 0 rfl dX7_spreads_36 ?_
      refine R_bd (fun r24 s22 q23 => ?_)
      refine R_callVi [] [.int v16] C ml7_93 (kX7_many q23) (by rw [hR]; exact ⟨rfl, rfl, Nat.le_of_ble_eq_true rfl, Nat.le_of_ble_eq_true rfl, Nat.zero_le _, Nat.zero_le _⟩) ha0 rfl rfl (Nat.le_of_ble_eq_true rfl) dX7_spreads_37 ?_
      refine B_icmp_ge C dX7_spreads_40 ?_ ?_
      · refine R_loc (lv2 := [(0, .ref (G.1 + a0))]) [0] rfl ?_
        exact R_end (fun (o : (Int32)) (s : Sg) => V κ G (QQ κ G E none σ') E s (false, 0, 0) 69 [(0, .ref (G.1 + a0))] []) K18
      · refine R_aload_n C 0 rfl dX7_spreads_43 ?_
        refine R_dr (fun x25 rx25 cx25 => ?_)
        refine R_getr C fl7_9 rfl ha0 rx25 dX7_spreads_44 ?_
        refine R_sipush C (7527) dX7_spreads_47 (by decide) ?_
        refine R_iload_n C 1 rfl dX7_spreads_50 ?_
        refine R_iadd C dX7_spreads_51 ?_
        refine R_aload_n C 0 rfl dX7_spreads_52 ?_
        refine R_getr C fl7_9 rfl ha0 rx25 dX7_spreads_53 ?_
        refine R_sipush C (626) dX7_spreads_56 (by decide) ?_
        refine R_iload_n C 1 rfl dX7_spreads_59 ?_
        refine R_iadd C dX7_spreads_60 ?_
        refine R_ck (fun h26 => ?_)
        refine R_iald C cx25 h26 dX7_spreads_61 ?_
        refine R_ck (fun h27 => ?_)
        refine S_iast C cx25 h27 dX7_spreads_62 (fun s28 => ?_)
        refine S_iinc (fun v29 => [(1, .int v29), (0, .ref (G.1 + a0))]) 1 C dX7_spreads_63 rfl (by decide) (by decide) (fun _ => rfl) (fun v29 => ?_)
        refine R_goto C dX7_spreads_66 ?_
        refine R_loc (lv2 := [(0, .ref (G.1 + a0)), (1, .int v29)]) [1, 0] rfl ?_
        exact I21 (v29, s28) b19 s20 K18
  · obtain ⟨v4, s5⟩ := a
    show bX7_spreads_11 E a0 (fun u0 t => rec (u0, t)) v4 s5 = some (b7, s8) → V κ G (QQ κ G E none σ') E s5 (false, 0, 0) 11 [(0, .ref (G.1 + a0)), (1, .int v4)] []
    unfold bX7_spreads_11
    refine R_iload_n C 1 rfl dX7_spreads_11 ?_
    refine R_bipush C (6) dX7_spreads_12 (by decide) ?_
    refine B_icmp_ge C dX7_spreads_14 ?_ ?_
    · refine R_loc (lv2 := [(0, .ref (G.1 + a0))]) [0] rfl ?_
      exact R_end (fun (o : (Int32)) (s : Sg) => V κ G (QQ κ G E none σ') E s (false, 0, 0) 33 [(0, .ref (G.1 + a0))] []) K6
    · refine R_aload_n C 0 rfl dX7_spreads_17 ?_
      refine R_dr (fun x10 rx10 cx10 => ?_)
      refine R_getr C fl7_9 rfl ha0 rx10 dX7_spreads_18 ?_
      refine R_bipush C (20) dX7_spreads_21 (by decide) ?_
      refine R_iload_n C 1 rfl dX7_spreads_23 ?_
      refine R_iadd C dX7_spreads_24 ?_
      refine R_iconst C (0) dX7_spreads_25 (by decide) ?_
      refine R_ck (fun h11 => ?_)
      refine S_iast C cx10 h11 dX7_spreads_26 (fun s12 => ?_)
      refine S_iinc (fun v13 => [(1, .int v13), (0, .ref (G.1 + a0))]) 1 C dX7_spreads_27 rfl (by decide) (by decide) (fun _ => rfl) (fun v13 => ?_)
      refine R_goto C dX7_spreads_30 ?_
      refine R_loc (lv2 := [(0, .ref (G.1 + a0)), (1, .int v13)]) [1, 0] rfl ?_
      exact I9 (v13, s12) b7 s8 K6
theorem dX7_canSpread_0 : dk cX7_canSpread 0 1 (.aload_n 0) 1 := by unfold dk; decide +kernel
theorem dX7_canSpread_1 : dk cX7_canSpread 1 4 (.getfield 9) 3 := by unfold dk; decide +kernel
theorem dX7_canSpread_4 : dk cX7_canSpread 4 6 (.bipush 7) 2 := by unfold dk; decide +kernel
theorem dX7_canSpread_6 : dk cX7_canSpread 6 7 (.iaload) 1 := by unfold dk; decide +kernel
theorem dX7_canSpread_7 : bk cX7_canSpread 7 10 30 (.ifCond .le 23) (23) := by unfold bk; decide +kernel
theorem dX7_canSpread_30 : dk cX7_canSpread 30 31 (.iconst 0) 1 := by unfold dk; decide +kernel
theorem dX7_canSpread_10 : dk cX7_canSpread 10 11 (.aload_n 0) 1 := by unfold dk; decide +kernel
theorem dX7_canSpread_11 : dk cX7_canSpread 11 14 (.invokevirtual 158) 3 := by unfold dk; decide +kernel
theorem dX7_canSpread_14 : dk cX7_canSpread 14 15 (.iconst 1) 1 := by unfold dk; decide +kernel
theorem dX7_canSpread_26 : dk cX7_canSpread 26 27 (.iconst 1) 1 := by unfold dk; decide +kernel
theorem dX7_canSpread_27 : bk cX7_canSpread 27 30 31 (.goto 4) (4) := by unfold bk; decide +kernel
theorem dX7_canSpread_18 : dk cX7_canSpread 18 19 (.aload_n 0) 1 := by unfold dk; decide +kernel
theorem dX7_canSpread_19 : dk cX7_canSpread 19 22 (.invokevirtual 155) 3 := by unfold dk; decide +kernel
theorem dX7_canSpread_22 : dk cX7_canSpread 22 23 (.iconst 3) 1 := by unfold dk; decide +kernel
theorem dX7_canSpread_23 : bk cX7_canSpread 23 26 30 (.if_icmp .le 7) (7) := by unfold bk; decide +kernel
theorem dX7_canSpread_15 : bk cX7_canSpread 15 18 26 (.if_icmp .ne 11) (11) := by unfold bk; decide +kernel
theorem dX7_canSpread_31 : dk cX7_canSpread 31 32 (.ireturn) 1 := by unfold dk; decide +kernel
set_option maxHeartbeats 4000000 in
set_option maxRecDepth 100000 in
theorem kX7_canSpread {l : Launch} {G : Gl} {E : En} {a0 : Nat} {σ σ' : Sg} {r : Int32} : fX7_canSpread E a0 σ = some (r, σ') → CT l yX7_canSpread cX7_canSpread 1 (some .boolean) ({ frames := 1, cells := 0, slots := 0, locals := 20 } : Room) [.ref (G.1 + a0)] G E σ (some (.int r)) σ' := by
  intro h
  refine CT_of (lv0 := [(0, .ref (G.1 + a0))]) (by decide) (Nat.le_of_ble_eq_true rfl) rfl (fun κ hl hR hr C => ?_)
  have C : Cx κ G cX7_canSpread RX7 1 := C
  revert h
  unfold fX7_canSpread
  refine R_tk (fun ha0 => ?_)
  refine R_aload_n C 0 rfl dX7_canSpread_0 ?_
  refine R_dr (fun x1 rx1 cx1 => ?_)
  refine R_getr C fl7_9 rfl ha0 rx1 dX7_canSpread_1 ?_
  refine R_bipush C (7) dX7_canSpread_4 (by decide) ?_
  refine R_ck (fun h2 => ?_)
  refine R_iald C cx1 h2 dX7_canSpread_6 ?_
  refine R_bdK (fun (w : Int32) (s : Sg) => V κ G (QQ κ G E (some (.int r)) σ') E s (false, 0, 0) 31 [] [.int w]) (fun w3 s4 => ?_) (fun w3 s4 Kw3 => ?_)
  · refine R_kb (fun h11 => ?_)
    exact R_zret C hr h11 dX7_canSpread_31
  · refine B_if_le C dX7_canSpread_7 ?_ ?_
    · refine R_iconst C (0) dX7_canSpread_30 (by decide) ?_
      refine R_loc (lv2 := []) [] rfl ?_
      exact R_end (fun (w : Int32) (s : Sg) => V κ G (QQ κ G E (some (.int r)) σ') E s (false, 0, 0) 31 [] [.int w]) Kw3
    · refine R_aload_n C 0 rfl dX7_canSpread_10 ?_
      refine R_bd (fun r7 s5 q6 => ?_)
      refine R_callVi [] [] C ml7_158 (kX7_way q6) (by rw [hR]; exact ⟨rfl, rfl, Nat.le_of_ble_eq_true rfl, Nat.le_of_ble_eq_true rfl, Nat.zero_le _, Nat.zero_le _⟩) ha0 rfl rfl (Nat.le_of_ble_eq_true rfl) dX7_canSpread_11 ?_
      refine R_iconst C (1) dX7_canSpread_14 (by decide) ?_
      refine B_icmp_ne C dX7_canSpread_15 ?_ ?_
      · refine R_iconst C (1) dX7_canSpread_26 (by decide) ?_
        refine R_goto C dX7_canSpread_27 ?_
        refine R_loc (lv2 := []) [] rfl ?_
        exact R_end (fun (w : Int32) (s : Sg) => V κ G (QQ κ G E (some (.int r)) σ') E s (false, 0, 0) 31 [] [.int w]) Kw3
      · refine R_aload_n C 0 rfl dX7_canSpread_18 ?_
        refine R_bd (fun r10 s8 q9 => ?_)
        refine R_callVi [] [] C ml7_155 (kX7_tapes q9) (by rw [hR]; exact ⟨rfl, rfl, Nat.le_of_ble_eq_true rfl, Nat.le_of_ble_eq_true rfl, Nat.zero_le _, Nat.zero_le _⟩) ha0 rfl rfl (Nat.le_of_ble_eq_true rfl) dX7_canSpread_19 ?_
        refine R_iconst C (3) dX7_canSpread_22 (by decide) ?_
        refine B_icmp_le C dX7_canSpread_23 ?_ ?_
        · refine R_iconst C (0) dX7_canSpread_30 (by decide) ?_
          refine R_loc (lv2 := []) [] rfl ?_
          exact R_end (fun (w : Int32) (s : Sg) => V κ G (QQ κ G E (some (.int r)) σ') E s (false, 0, 0) 31 [] [.int w]) Kw3
        · refine R_iconst C (1) dX7_canSpread_26 (by decide) ?_
          refine R_goto C dX7_canSpread_27 ?_
          refine R_loc (lv2 := []) [] rfl ?_
          exact R_end (fun (w : Int32) (s : Sg) => V κ G (QQ κ G E (some (.int r)) σ') E s (false, 0, 0) 31 [] [.int w]) Kw3
theorem dX7_spread_0 : dk cX7_spread 0 1 (.aload_n 0) 1 := by unfold dk; decide +kernel
theorem dX7_spread_1 : dk cX7_spread 1 4 (.invokevirtual 216) 3 := by unfold dk; decide +kernel
theorem dX7_spread_9 : dk cX7_spread 9 10 (.aload_n 0) 1 := by unfold dk; decide +kernel
theorem dX7_spread_10 : dk cX7_spread 10 13 (.getfield 9) 3 := by unfold dk; decide +kernel
theorem dX7_spread_13 : dk cX7_spread 13 15 (.bipush 7) 2 := by unfold dk; decide +kernel
theorem dX7_spread_15 : dk cX7_spread 15 16 (.iaload) 1 := by unfold dk; decide +kernel
theorem dX7_spread_16 : dk cX7_spread 16 17 (.iconst 1) 1 := by unfold dk; decide +kernel
theorem dX7_spread_23 : dk cX7_spread 23 24 (.aload_n 0) 1 := by unfold dk; decide +kernel
theorem dX7_spread_24 : dk cX7_spread 24 27 (.invokevirtual 100) 3 := by unfold dk; decide +kernel
theorem dX7_spread_27 : dk cX7_spread 27 28 (.aload_n 0) 1 := by unfold dk; decide +kernel
theorem dX7_spread_28 : dk cX7_spread 28 31 (.invokevirtual 219) 3 := by unfold dk; decide +kernel
theorem dX7_spread_31 : dk cX7_spread 31 32 (.aload_n 0) 1 := by unfold dk; decide +kernel
theorem dX7_spread_32 : dk cX7_spread 32 35 (.getfield 9) 3 := by unfold dk; decide +kernel
theorem dX7_spread_35 : dk cX7_spread 35 37 (.bipush 18) 2 := by unfold dk; decide +kernel
theorem dX7_spread_37 : dk cX7_spread 37 38 (.iaload) 1 := by unfold dk; decide +kernel
theorem dX7_spread_38 : dk cX7_spread 38 39 (.ireturn) 1 := by unfold dk; decide +kernel
theorem dX7_spread_20 : dk cX7_spread 20 22 (.bipush (-2)) 2 := by unfold dk; decide +kernel
theorem dX7_spread_22 : dk cX7_spread 22 23 (.ireturn) 1 := by unfold dk; decide +kernel
theorem dX7_spread_17 : bk cX7_spread 17 20 23 (.if_icmp .le 6) (6) := by unfold bk; decide +kernel
theorem dX7_spread_7 : dk cX7_spread 7 8 (.iconst (-1)) 1 := by unfold dk; decide +kernel
theorem dX7_spread_8 : dk cX7_spread 8 9 (.ireturn) 1 := by unfold dk; decide +kernel
theorem dX7_spread_4 : bk cX7_spread 4 7 9 (.ifCond .ne 5) (5) := by unfold bk; decide +kernel
set_option maxHeartbeats 4000000 in
set_option maxRecDepth 100000 in
theorem kX7_spread {l : Launch} {G : Gl} {E : En} {a0 : Nat} {σ σ' : Sg} {r : Int32} : fX7_spread E a0 σ = some (r, σ') → CT l yX7_spread cX7_spread 1 (some .int) ({ frames := 4, cells := 0, slots := 0, locals := 96 } : Room) [.ref (G.1 + a0)] G E σ (some (.int r)) σ' := by
  intro h
  refine CT_of (lv0 := [(0, .ref (G.1 + a0))]) (by decide) (Nat.le_of_ble_eq_true rfl) rfl (fun κ hl hR hr C => ?_)
  have C : Cx κ G cX7_spread RX7 1 := C
  revert h
  unfold fX7_spread
  refine R_tk (fun ha0 => ?_)
  refine R_aload_n C 0 rfl dX7_spread_0 ?_
  refine R_bd (fun r3 s1 q2 => ?_)
  refine R_callVi [] [] C ml7_216 (kX7_canSpread q2) (by rw [hR]; exact ⟨rfl, rfl, Nat.le_of_ble_eq_true rfl, Nat.le_of_ble_eq_true rfl, Nat.zero_le _, Nat.zero_le _⟩) ha0 rfl rfl (Nat.le_of_ble_eq_true rfl) dX7_spread_1 ?_
  refine B_if_ne C dX7_spread_4 ?_ ?_
  · refine R_aload_n C 0 rfl dX7_spread_9 ?_
    refine R_dr (fun x4 rx4 cx4 => ?_)
    refine R_getr C fl7_9 rfl ha0 rx4 dX7_spread_10 ?_
    refine R_bipush C (7) dX7_spread_13 (by decide) ?_
    refine R_ck (fun h5 => ?_)
    refine R_iald C cx4 h5 dX7_spread_15 ?_
    refine R_iconst C (1) dX7_spread_16 (by decide) ?_
    refine B_icmp_le C dX7_spread_17 ?_ ?_
    · refine R_aload_n C 0 rfl dX7_spread_23 ?_
      refine R_bv (fun s6 q7 => ?_)
      refine R_callVv [] [] C ml7_100 (kX7_remembers q7) (by rw [hR]; exact ⟨rfl, rfl, Nat.le_of_ble_eq_true rfl, Nat.le_of_ble_eq_true rfl, Nat.zero_le _, Nat.zero_le _⟩) ha0 rfl rfl (Nat.le_of_ble_eq_true rfl) dX7_spread_24 ?_
      refine R_aload_n C 0 rfl dX7_spread_27 ?_
      refine R_bv (fun s8 q9 => ?_)
      refine R_callVv [] [] C ml7_219 (kX7_spreads q9) (by rw [hR]; exact ⟨rfl, rfl, Nat.le_of_ble_eq_true rfl, Nat.le_of_ble_eq_true rfl, Nat.zero_le _, Nat.zero_le _⟩) ha0 rfl rfl (Nat.le_of_ble_eq_true rfl) dX7_spread_28 ?_
      refine R_aload_n C 0 rfl dX7_spread_31 ?_
      refine R_getr C fl7_9 rfl ha0 rx4 dX7_spread_32 ?_
      refine R_bipush C (18) dX7_spread_35 (by decide) ?_
      refine R_ck (fun h10 => ?_)
      refine R_iald C cx4 h10 dX7_spread_37 ?_
      exact R_iret C hr dX7_spread_38
    · refine R_bipush C (-2) dX7_spread_20 (by decide) ?_
      exact R_iret C hr dX7_spread_22
  · refine R_iconst C (-1) dX7_spread_7 (by decide) ?_
    exact R_iret C hr dX7_spread_8
theorem dX7_isInHalf_0 : dk cX7_isInHalf 0 1 (.iload_n 1) 1 := by unfold dk; decide +kernel
theorem dX7_isInHalf_1 : dk cX7_isInHalf 1 2 (.aload_n 0) 1 := by unfold dk; decide +kernel
theorem dX7_isInHalf_2 : dk cX7_isInHalf 2 5 (.invokevirtual 155) 3 := by unfold dk; decide +kernel
theorem dX7_isInHalf_5 : dk cX7_isInHalf 5 6 (.iconst 2) 1 := by unfold dk; decide +kernel
theorem dX7_isInHalf_6 : dk cX7_isInHalf 6 7 (.idiv) 1 := by unfold dk; decide +kernel
theorem dX7_isInHalf_7 : bk cX7_isInHalf 7 10 14 (.if_icmp .ge 7) (7) := by unfold bk; decide +kernel
theorem dX7_isInHalf_14 : dk cX7_isInHalf 14 15 (.iconst 0) 1 := by unfold dk; decide +kernel
theorem dX7_isInHalf_10 : dk cX7_isInHalf 10 11 (.iconst 1) 1 := by unfold dk; decide +kernel
theorem dX7_isInHalf_11 : bk cX7_isInHalf 11 14 15 (.goto 4) (4) := by unfold bk; decide +kernel
theorem dX7_isInHalf_15 : dk cX7_isInHalf 15 16 (.iload_n 2) 1 := by unfold dk; decide +kernel
theorem dX7_isInHalf_16 : bk cX7_isInHalf 16 19 23 (.ifCond .ne 7) (7) := by unfold bk; decide +kernel
theorem dX7_isInHalf_23 : dk cX7_isInHalf 23 24 (.iconst 0) 1 := by unfold dk; decide +kernel
theorem dX7_isInHalf_19 : dk cX7_isInHalf 19 20 (.iconst 1) 1 := by unfold dk; decide +kernel
theorem dX7_isInHalf_20 : bk cX7_isInHalf 20 23 24 (.goto 4) (4) := by unfold bk; decide +kernel
theorem dX7_isInHalf_24 : bk cX7_isInHalf 24 27 31 (.if_icmp .ne 7) (7) := by unfold bk; decide +kernel
theorem dX7_isInHalf_31 : dk cX7_isInHalf 31 32 (.iconst 0) 1 := by unfold dk; decide +kernel
theorem dX7_isInHalf_27 : dk cX7_isInHalf 27 28 (.iconst 1) 1 := by unfold dk; decide +kernel
theorem dX7_isInHalf_28 : bk cX7_isInHalf 28 31 32 (.goto 4) (4) := by unfold bk; decide +kernel
theorem dX7_isInHalf_32 : dk cX7_isInHalf 32 33 (.ireturn) 1 := by unfold dk; decide +kernel
set_option maxHeartbeats 4000000 in
set_option maxRecDepth 100000 in
theorem kX7_isInHalf {l : Launch} {G : Gl} {E : En} {a0 : Nat} {a1 : Int32} {a2 : Int32} {σ σ' : Sg} {r : Int32} : fX7_isInHalf E a0 a1 a2 σ = some (r, σ') → CT l yX7_isInHalf cX7_isInHalf 3 (some .boolean) ({ frames := 1, cells := 0, slots := 0, locals := 20 } : Room) [.ref (G.1 + a0), .int a1, .int a2] G E σ (some (.int r)) σ' := by
  intro h
  refine CT_of (lv0 := [(0, .ref (G.1 + a0)), (1, .int a1), (2, .int a2)]) (by decide) (Nat.le_of_ble_eq_true rfl) rfl (fun κ hl hR hr C => ?_)
  have C : Cx κ G cX7_isInHalf RX7 3 := C
  revert h
  unfold fX7_isInHalf
  refine R_tk (fun ha0 => ?_)
  refine R_iload_n C 1 rfl dX7_isInHalf_0 ?_
  refine R_aload_n C 0 rfl dX7_isInHalf_1 ?_
  refine R_bd (fun r3 s1 q2 => ?_)
  refine R_callVi [] [.int a1] C ml7_155 (kX7_tapes q2) (by rw [hR]; exact ⟨rfl, rfl, Nat.le_of_ble_eq_true rfl, Nat.le_of_ble_eq_true rfl, Nat.zero_le _, Nat.zero_le _⟩) ha0 rfl rfl (Nat.le_of_ble_eq_true rfl) dX7_isInHalf_2 ?_
  refine R_iconst C (2) dX7_isInHalf_5 (by decide) ?_
  refine R_idiv C dX7_isInHalf_6 (by decide) ?_
  refine R_bdK (fun (w : Int32) (s : Sg) => V κ G (QQ κ G E (some (.int r)) σ') E s (false, 0, 0) 15 [(2, .int a2)] [.int w]) (fun w4 s5 => ?_) (fun w4 s5 Kw4 => ?_)
  · refine R_iload_n C 0 rfl dX7_isInHalf_15 ?_
    refine R_bdK (fun (w : Int32) (s : Sg) => V κ G (QQ κ G E (some (.int r)) σ') E s (false, 0, 0) 24 [] [.int w, .int w4]) (fun w6 s7 => ?_) (fun w6 s7 Kw6 => ?_)
    · refine R_bdK (fun (w : Int32) (s : Sg) => V κ G (QQ κ G E (some (.int r)) σ') E s (false, 0, 0) 32 [] [.int w]) (fun w8 s9 => ?_) (fun w8 s9 Kw8 => ?_)
      · refine R_kb (fun h10 => ?_)
        exact R_zret C hr h10 dX7_isInHalf_32
      · refine B_icmp_ne C dX7_isInHalf_24 ?_ ?_
        · refine R_iconst C (0) dX7_isInHalf_31 (by decide) ?_
          exact R_end (fun (w : Int32) (s : Sg) => V κ G (QQ κ G E (some (.int r)) σ') E s (false, 0, 0) 32 [] [.int w]) Kw8
        · refine R_iconst C (1) dX7_isInHalf_27 (by decide) ?_
          refine R_goto C dX7_isInHalf_28 ?_
          exact R_end (fun (w : Int32) (s : Sg) => V κ G (QQ κ G E (some (.int r)) σ') E s (false, 0, 0) 32 [] [.int w]) Kw8
    · refine B_if_ne C dX7_isInHalf_16 ?_ ?_
      · refine R_iconst C (0) dX7_isInHalf_23 (by decide) ?_
        refine R_loc (lv2 := []) [] rfl ?_
        exact R_end (fun (w : Int32) (s : Sg) => V κ G (QQ κ G E (some (.int r)) σ') E s (false, 0, 0) 24 [] [.int w, .int w4]) Kw6
      · refine R_iconst C (1) dX7_isInHalf_19 (by decide) ?_
        refine R_goto C dX7_isInHalf_20 ?_
        refine R_loc (lv2 := []) [] rfl ?_
        exact R_end (fun (w : Int32) (s : Sg) => V κ G (QQ κ G E (some (.int r)) σ') E s (false, 0, 0) 24 [] [.int w, .int w4]) Kw6
  · refine B_icmp_ge C dX7_isInHalf_7 ?_ ?_
    · refine R_iconst C (0) dX7_isInHalf_14 (by decide) ?_
      refine R_loc (lv2 := [(2, .int a2)]) [2] rfl ?_
      exact R_end (fun (w : Int32) (s : Sg) => V κ G (QQ κ G E (some (.int r)) σ') E s (false, 0, 0) 15 [(2, .int a2)] [.int w]) Kw4
    · refine R_iconst C (1) dX7_isInHalf_10 (by decide) ?_
      refine R_goto C dX7_isInHalf_11 ?_
      refine R_loc (lv2 := [(2, .int a2)]) [2] rfl ?_
      exact R_end (fun (w : Int32) (s : Sg) => V κ G (QQ κ G E (some (.int r)) σ') E s (false, 0, 0) 15 [(2, .int a2)] [.int w]) Kw4
theorem dX7_doesGive_0 : dk cX7_doesGive 0 1 (.iload_n 1) 1 := by unfold dk; decide +kernel
theorem dX7_doesGive_1 : dk cX7_doesGive 1 2 (.aload_n 0) 1 := by unfold dk; decide +kernel
theorem dX7_doesGive_2 : dk cX7_doesGive 2 5 (.getfield 9) 3 := by unfold dk; decide +kernel
theorem dX7_doesGive_5 : dk cX7_doesGive 5 7 (.bipush 13) 2 := by unfold dk; decide +kernel
theorem dX7_doesGive_7 : dk cX7_doesGive 7 8 (.iaload) 1 := by unfold dk; decide +kernel
theorem dX7_doesGive_25 : dk cX7_doesGive 25 26 (.iconst 0) 1 := by unfold dk; decide +kernel
theorem dX7_doesGive_26 : dk cX7_doesGive 26 27 (.ireturn) 1 := by unfold dk; decide +kernel
theorem dX7_doesGive_11 : dk cX7_doesGive 11 12 (.iload_n 1) 1 := by unfold dk; decide +kernel
theorem dX7_doesGive_12 : dk cX7_doesGive 12 13 (.iconst 0) 1 := by unfold dk; decide +kernel
theorem dX7_doesGive_13 : dk cX7_doesGive 13 14 (.aload_n 0) 1 := by unfold dk; decide +kernel
theorem dX7_doesGive_14 : dk cX7_doesGive 14 17 (.invokevirtual 155) 3 := by unfold dk; decide +kernel
theorem dX7_doesGive_17 : dk cX7_doesGive 17 18 (.iconst 1) 1 := by unfold dk; decide +kernel
theorem dX7_doesGive_18 : dk cX7_doesGive 18 19 (.isub) 1 := by unfold dk; decide +kernel
theorem dX7_doesGive_19 : dk cX7_doesGive 19 22 (.invokestatic 116) 3 := by unfold dk; decide +kernel
theorem dX7_doesGive_27 : dk cX7_doesGive 27 28 (.aload_n 0) 1 := by unfold dk; decide +kernel
theorem dX7_doesGive_28 : dk cX7_doesGive 28 31 (.invokevirtual 158) 3 := by unfold dk; decide +kernel
theorem dX7_doesGive_31 : dk cX7_doesGive 31 56 (.lookupswitch 60 #[(0, 25), (1, 27)]) 25 := by unfold dk; decide +kernel
theorem dX7_doesGive_56 : dk cX7_doesGive 56 57 (.iconst 1) 1 := by unfold dk; decide +kernel
theorem dX7_doesGive_57 : dk cX7_doesGive 57 58 (.ireturn) 1 := by unfold dk; decide +kernel
theorem dX7_doesGive_58 : dk cX7_doesGive 58 59 (.aload_n 0) 1 := by unfold dk; decide +kernel
theorem dX7_doesGive_59 : dk cX7_doesGive 59 60 (.iload_n 1) 1 := by unfold dk; decide +kernel
theorem dX7_doesGive_60 : dk cX7_doesGive 60 61 (.aload_n 0) 1 := by unfold dk; decide +kernel
theorem dX7_doesGive_61 : dk cX7_doesGive 61 64 (.getfield 9) 3 := by unfold dk; decide +kernel
theorem dX7_doesGive_64 : dk cX7_doesGive 64 66 (.bipush 17) 2 := by unfold dk; decide +kernel
theorem dX7_doesGive_66 : dk cX7_doesGive 66 67 (.iaload) 1 := by unfold dk; decide +kernel
theorem dX7_doesGive_67 : dk cX7_doesGive 67 70 (.invokevirtual 222) 3 := by unfold dk; decide +kernel
theorem dX7_doesGive_70 : bk cX7_doesGive 70 73 89 (.ifCond .eq 19) (19) := by unfold bk; decide +kernel
theorem dX7_doesGive_89 : dk cX7_doesGive 89 90 (.iconst 0) 1 := by unfold dk; decide +kernel
theorem dX7_doesGive_73 : dk cX7_doesGive 73 74 (.aload_n 0) 1 := by unfold dk; decide +kernel
theorem dX7_doesGive_74 : dk cX7_doesGive 74 77 (.getfield 9) 3 := by unfold dk; decide +kernel
theorem dX7_doesGive_77 : dk cX7_doesGive 77 79 (.bipush 20) 2 := by unfold dk; decide +kernel
theorem dX7_doesGive_79 : dk cX7_doesGive 79 80 (.iload_n 1) 1 := by unfold dk; decide +kernel
theorem dX7_doesGive_80 : dk cX7_doesGive 80 81 (.iadd) 1 := by unfold dk; decide +kernel
theorem dX7_doesGive_81 : dk cX7_doesGive 81 82 (.iaload) 1 := by unfold dk; decide +kernel
theorem dX7_doesGive_85 : dk cX7_doesGive 85 86 (.iconst 1) 1 := by unfold dk; decide +kernel
theorem dX7_doesGive_86 : bk cX7_doesGive 86 89 90 (.goto 4) (4) := by unfold bk; decide +kernel
theorem dX7_doesGive_82 : bk cX7_doesGive 82 85 89 (.ifCond .le 7) (7) := by unfold bk; decide +kernel
theorem dX7_doesGive_90 : dk cX7_doesGive 90 91 (.ireturn) 1 := by unfold dk; decide +kernel
theorem dX7_doesGive_91 : dk cX7_doesGive 91 92 (.aload_n 0) 1 := by unfold dk; decide +kernel
theorem dX7_doesGive_92 : dk cX7_doesGive 92 95 (.getfield 9) 3 := by unfold dk; decide +kernel
theorem dX7_doesGive_95 : dk cX7_doesGive 95 97 (.bipush 15) 2 := by unfold dk; decide +kernel
theorem dX7_doesGive_97 : dk cX7_doesGive 97 98 (.iaload) 1 := by unfold dk; decide +kernel
theorem dX7_doesGive_98 : dk cX7_doesGive 98 99 (.iload_n 1) 1 := by unfold dk; decide +kernel
theorem dX7_doesGive_99 : dk cX7_doesGive 99 100 (.ishr) 1 := by unfold dk; decide +kernel
theorem dX7_doesGive_100 : dk cX7_doesGive 100 101 (.iconst 1) 1 := by unfold dk; decide +kernel
theorem dX7_doesGive_101 : dk cX7_doesGive 101 102 (.iand) 1 := by unfold dk; decide +kernel
theorem dX7_doesGive_102 : dk cX7_doesGive 102 103 (.iconst 1) 1 := by unfold dk; decide +kernel
theorem dX7_doesGive_103 : bk cX7_doesGive 103 106 136 (.if_icmp .ne 33) (33) := by unfold bk; decide +kernel
theorem dX7_doesGive_136 : dk cX7_doesGive 136 137 (.iconst 0) 1 := by unfold dk; decide +kernel
theorem dX7_doesGive_106 : dk cX7_doesGive 106 107 (.aload_n 0) 1 := by unfold dk; decide +kernel
theorem dX7_doesGive_107 : dk cX7_doesGive 107 110 (.getfield 9) 3 := by unfold dk; decide +kernel
theorem dX7_doesGive_110 : dk cX7_doesGive 110 112 (.bipush 16) 2 := by unfold dk; decide +kernel
theorem dX7_doesGive_112 : dk cX7_doesGive 112 113 (.iaload) 1 := by unfold dk; decide +kernel
theorem dX7_doesGive_113 : dk cX7_doesGive 113 114 (.iload_n 1) 1 := by unfold dk; decide +kernel
theorem dX7_doesGive_114 : dk cX7_doesGive 114 115 (.ishr) 1 := by unfold dk; decide +kernel
theorem dX7_doesGive_115 : dk cX7_doesGive 115 116 (.iconst 1) 1 := by unfold dk; decide +kernel
theorem dX7_doesGive_116 : dk cX7_doesGive 116 117 (.iand) 1 := by unfold dk; decide +kernel
theorem dX7_doesGive_120 : dk cX7_doesGive 120 121 (.aload_n 0) 1 := by unfold dk; decide +kernel
theorem dX7_doesGive_121 : dk cX7_doesGive 121 124 (.getfield 9) 3 := by unfold dk; decide +kernel
theorem dX7_doesGive_124 : dk cX7_doesGive 124 126 (.bipush 20) 2 := by unfold dk; decide +kernel
theorem dX7_doesGive_126 : dk cX7_doesGive 126 127 (.iload_n 1) 1 := by unfold dk; decide +kernel
theorem dX7_doesGive_127 : dk cX7_doesGive 127 128 (.iadd) 1 := by unfold dk; decide +kernel
theorem dX7_doesGive_128 : dk cX7_doesGive 128 129 (.iaload) 1 := by unfold dk; decide +kernel
theorem dX7_doesGive_132 : dk cX7_doesGive 132 133 (.iconst 1) 1 := by unfold dk; decide +kernel
theorem dX7_doesGive_133 : bk cX7_doesGive 133 136 137 (.goto 4) (4) := by unfold bk; decide +kernel
theorem dX7_doesGive_129 : bk cX7_doesGive 129 132 136 (.ifCond .le 7) (7) := by unfold bk; decide +kernel
theorem dX7_doesGive_117 : bk cX7_doesGive 117 120 136 (.ifCond .ne 19) (19) := by unfold bk; decide +kernel
theorem dX7_doesGive_137 : dk cX7_doesGive 137 138 (.ireturn) 1 := by unfold dk; decide +kernel
theorem dX7_doesGive_22 : bk cX7_doesGive 22 25 27 (.ifCond .ne 5) (5) := by unfold bk; decide +kernel
theorem dX7_doesGive_8 : bk cX7_doesGive 8 11 25 (.if_icmp .eq 17) (17) := by unfold bk; decide +kernel
set_option maxHeartbeats 4000000 in
set_option maxRecDepth 100000 in
theorem kX7_doesGive {l : Launch} {G : Gl} {E : En} {a0 : Nat} {a1 : Int32} {σ σ' : Sg} {r : Int32} : fX7_doesGive E a0 a1 σ = some (r, σ') → CT l yX7_doesGive cX7_doesGive 2 (some .boolean) ({ frames := 2, cells := 0, slots := 0, locals := 42 } : Room) [.ref (G.1 + a0), .int a1] G E σ (some (.int r)) σ' := by
  intro h
  refine CT_of (lv0 := [(0, .ref (G.1 + a0)), (1, .int a1)]) (by decide) (Nat.le_of_ble_eq_true rfl) rfl (fun κ hl hR hr C => ?_)
  have C : Cx κ G cX7_doesGive RX7 2 := C
  revert h
  unfold fX7_doesGive
  refine R_tk (fun ha0 => ?_)
  refine R_iload_n C 1 rfl dX7_doesGive_0 ?_
  refine R_aload_n C 0 rfl dX7_doesGive_1 ?_
  refine R_dr (fun x1 rx1 cx1 => ?_)
  refine R_getr C fl7_9 rfl ha0 rx1 dX7_doesGive_2 ?_
  refine R_bipush C (13) dX7_doesGive_5 (by decide) ?_
  refine R_ck (fun h2 => ?_)
  refine R_iald C cx1 h2 dX7_doesGive_7 ?_
  refine B_icmp_eq C dX7_doesGive_8 ?_ ?_
  · refine R_iconst C (0) dX7_doesGive_25 (by decide) ?_
    exact R_zret C hr (Or.inl rfl) dX7_doesGive_26
  · refine R_iload_n C 1 rfl dX7_doesGive_11 ?_
    refine R_iconst C (0) dX7_doesGive_12 (by decide) ?_
    refine R_aload_n C 0 rfl dX7_doesGive_13 ?_
    refine R_bd (fun r5 s3 q4 => ?_)
    refine R_callVi [] [.int (0 : Int32), .int a1] C ml7_155 (kX7_tapes q4) (by rw [hR]; exact ⟨rfl, rfl, Nat.le_of_ble_eq_true rfl, Nat.le_of_ble_eq_true rfl, Nat.zero_le _, Nat.zero_le _⟩) ha0 rfl rfl (Nat.le_of_ble_eq_true rfl) dX7_doesGive_14 ?_
    refine R_iconst C (1) dX7_doesGive_17 (by decide) ?_
    refine R_isub C dX7_doesGive_18 ?_
    refine R_bd (fun r8 s6 q7 => ?_)
    refine R_callSi [.int a1, .int (0 : Int32), .int (r5 - (1 : Int32))] [] C ml7_116 (kX7_in q7) (by rw [hR]; exact ⟨rfl, rfl, Nat.le_of_ble_eq_true rfl, Nat.le_of_ble_eq_true rfl, Nat.zero_le _, Nat.zero_le _⟩) rfl rfl (Nat.le_of_ble_eq_true rfl) dX7_doesGive_19 ?_
    refine B_if_ne C dX7_doesGive_22 ?_ ?_
    · refine R_aload_n C 0 rfl dX7_doesGive_27 ?_
      refine R_bd (fun r11 s9 q10 => ?_)
      refine R_callVi [] [] C ml7_158 (kX7_way q10) (by rw [hR]; exact ⟨rfl, rfl, Nat.le_of_ble_eq_true rfl, Nat.le_of_ble_eq_true rfl, Nat.zero_le _, Nat.zero_le _⟩) ha0 rfl rfl (Nat.le_of_ble_eq_true rfl) dX7_doesGive_28 ?_
      refine R_if (fun h12 => ?_) (fun h12 => ?_)
      · refine R_lks (off := 25) (t := 56) C dX7_doesGive_31 (by decide) (by rw [h12]; decide) (by decide) ?_
        refine R_iconst C (1) dX7_doesGive_56 (by decide) ?_
        exact R_zret C hr (Or.inr rfl) dX7_doesGive_57
      refine R_if (fun h13 => ?_) (fun h13 => ?_)
      · refine R_lks (off := 27) (t := 58) C dX7_doesGive_31 (by decide) (by rw [h13]; decide) (by decide) ?_
        refine R_aload_n C 0 rfl dX7_doesGive_58 ?_
        refine R_iload_n C 1 rfl dX7_doesGive_59 ?_
        refine R_aload_n C 0 rfl dX7_doesGive_60 ?_
        refine R_getr C fl7_9 rfl ha0 rx1 dX7_doesGive_61 ?_
        refine R_bipush C (17) dX7_doesGive_64 (by decide) ?_
        refine R_ck (fun h14 => ?_)
        refine R_iald C cx1 h14 dX7_doesGive_66 ?_
        refine R_bd (fun r17 s15 q16 => ?_)
        refine R_callVi [.int a1, .int (gi s9 x1 (17 : Int32).toNatClampNeg)] [] C ml7_222 (kX7_isInHalf q16) (by rw [hR]; exact ⟨rfl, rfl, Nat.le_of_ble_eq_true rfl, Nat.le_of_ble_eq_true rfl, Nat.zero_le _, Nat.zero_le _⟩) ha0 rfl rfl (Nat.le_of_ble_eq_true rfl) dX7_doesGive_67 ?_
        refine R_bdK (fun (w : Int32) (s : Sg) => V κ G (QQ κ G E (some (.int r)) σ') E s (false, 0, 0) 90 [] [.int w]) (fun w18 s19 => ?_) (fun w18 s19 Kw18 => ?_)
        · refine R_kb (fun h21 => ?_)
          exact R_zret C hr h21 dX7_doesGive_90
        · refine B_if_eq C dX7_doesGive_70 ?_ ?_
          · refine R_iconst C (0) dX7_doesGive_89 (by decide) ?_
            refine R_loc (lv2 := []) [] rfl ?_
            exact R_end (fun (w : Int32) (s : Sg) => V κ G (QQ κ G E (some (.int r)) σ') E s (false, 0, 0) 90 [] [.int w]) Kw18
          · refine R_aload_n C 0 rfl dX7_doesGive_73 ?_
            refine R_getr C fl7_9 rfl ha0 rx1 dX7_doesGive_74 ?_
            refine R_bipush C (20) dX7_doesGive_77 (by decide) ?_
            refine R_iload_n C 1 rfl dX7_doesGive_79 ?_
            refine R_iadd C dX7_doesGive_80 ?_
            refine R_ck (fun h20 => ?_)
            refine R_iald C cx1 h20 dX7_doesGive_81 ?_
            refine B_if_le C dX7_doesGive_82 ?_ ?_
            · refine R_iconst C (0) dX7_doesGive_89 (by decide) ?_
              refine R_loc (lv2 := []) [] rfl ?_
              exact R_end (fun (w : Int32) (s : Sg) => V κ G (QQ κ G E (some (.int r)) σ') E s (false, 0, 0) 90 [] [.int w]) Kw18
            · refine R_iconst C (1) dX7_doesGive_85 (by decide) ?_
              refine R_goto C dX7_doesGive_86 ?_
              refine R_loc (lv2 := []) [] rfl ?_
              exact R_end (fun (w : Int32) (s : Sg) => V κ G (QQ κ G E (some (.int r)) σ') E s (false, 0, 0) 90 [] [.int w]) Kw18
      · refine R_lks (off := 60) (t := 91) C dX7_doesGive_31 (by decide) (by show Op.lookupswitch.offset [(0, 25), (1, 27)] 60 _ = _; rw [lv_osw h12 (by decide)]; rw [lv_osw h13 (by decide)]; rfl) (by decide) ?_
        refine R_aload_n C 0 rfl dX7_doesGive_91 ?_
        refine R_getr C fl7_9 rfl ha0 rx1 dX7_doesGive_92 ?_
        refine R_bipush C (15) dX7_doesGive_95 (by decide) ?_
        refine R_ck (fun h22 => ?_)
        refine R_iald C cx1 h22 dX7_doesGive_97 ?_
        refine R_iload_n C 1 rfl dX7_doesGive_98 ?_
        refine R_ishr C dX7_doesGive_99 ?_
        refine R_iconst C (1) dX7_doesGive_100 (by decide) ?_
        refine R_iand C dX7_doesGive_101 ?_
        refine R_iconst C (1) dX7_doesGive_102 (by decide) ?_
        refine R_bdK (fun (w : Int32) (s : Sg) => V κ G (QQ κ G E (some (.int r)) σ') E s (false, 0, 0) 137 [] [.int w]) (fun w23 s24 => ?_) (fun w23 s24 Kw23 => ?_)
        · refine R_kb (fun h27 => ?_)
          exact R_zret C hr h27 dX7_doesGive_137
        · refine B_icmp_ne C dX7_doesGive_103 ?_ ?_
          · refine R_iconst C (0) dX7_doesGive_136 (by decide) ?_
            refine R_loc (lv2 := []) [] rfl ?_
            exact R_end (fun (w : Int32) (s : Sg) => V κ G (QQ κ G E (some (.int r)) σ') E s (false, 0, 0) 137 [] [.int w]) Kw23
          · refine R_aload_n C 0 rfl dX7_doesGive_106 ?_
            refine R_getr C fl7_9 rfl ha0 rx1 dX7_doesGive_107 ?_
            refine R_bipush C (16) dX7_doesGive_110 (by decide) ?_
            refine R_ck (fun h25 => ?_)
            refine R_iald C cx1 h25 dX7_doesGive_112 ?_
            refine R_iload_n C 1 rfl dX7_doesGive_113 ?_
            refine R_ishr C dX7_doesGive_114 ?_
            refine R_iconst C (1) dX7_doesGive_115 (by decide) ?_
            refine R_iand C dX7_doesGive_116 ?_
            refine B_if_ne C dX7_doesGive_117 ?_ ?_
            · refine R_iconst C (0) dX7_doesGive_136 (by decide) ?_
              refine R_loc (lv2 := []) [] rfl ?_
              exact R_end (fun (w : Int32) (s : Sg) => V κ G (QQ κ G E (some (.int r)) σ') E s (false, 0, 0) 137 [] [.int w]) Kw23
            · refine R_aload_n C 0 rfl dX7_doesGive_120 ?_
              refine R_getr C fl7_9 rfl ha0 rx1 dX7_doesGive_121 ?_
              refine R_bipush C (20) dX7_doesGive_124 (by decide) ?_
              refine R_iload_n C 1 rfl dX7_doesGive_126 ?_
              refine R_iadd C dX7_doesGive_127 ?_
              refine R_ck (fun h26 => ?_)
              refine R_iald C cx1 h26 dX7_doesGive_128 ?_
              refine B_if_le C dX7_doesGive_129 ?_ ?_
              · refine R_iconst C (0) dX7_doesGive_136 (by decide) ?_
                refine R_loc (lv2 := []) [] rfl ?_
                exact R_end (fun (w : Int32) (s : Sg) => V κ G (QQ κ G E (some (.int r)) σ') E s (false, 0, 0) 137 [] [.int w]) Kw23
              · refine R_iconst C (1) dX7_doesGive_132 (by decide) ?_
                refine R_goto C dX7_doesGive_133 ?_
                refine R_loc (lv2 := []) [] rfl ?_
                exact R_end (fun (w : Int32) (s : Sg) => V κ G (QQ κ G E (some (.int r)) σ') E s (false, 0, 0) 137 [] [.int w]) Kw23
    · refine R_iconst C (0) dX7_doesGive_25 (by decide) ?_
      exact R_zret C hr (Or.inl rfl) dX7_doesGive_26
theorem dX7_laysTaken_0 : dk cX7_laysTaken 0 1 (.iconst 1) 1 := by unfold dk; decide +kernel
theorem dX7_laysTaken_1 : dk cX7_laysTaken 1 2 (.istore_n 1) 1 := by unfold dk; decide +kernel
theorem dX7_laysTaken_2 : dk cX7_laysTaken 2 3 (.iconst 1) 1 := by unfold dk; decide +kernel
theorem dX7_laysTaken_3 : dk cX7_laysTaken 3 4 (.istore_n 2) 1 := by unfold dk; decide +kernel
theorem dX7_laysTaken_4 : dk cX7_laysTaken 4 5 (.iconst 0) 1 := by unfold dk; decide +kernel
theorem dX7_laysTaken_5 : dk cX7_laysTaken 5 6 (.istore_n 3) 1 := by unfold dk; decide +kernel
theorem dX7_laysTaken_6 : dk cX7_laysTaken 6 7 (.iload_n 3) 1 := by unfold dk; decide +kernel
theorem dX7_laysTaken_7 : dk cX7_laysTaken 7 9 (.bipush 6) 2 := by unfold dk; decide +kernel
theorem dX7_laysTaken_12 : dk cX7_laysTaken 12 13 (.aload_n 0) 1 := by unfold dk; decide +kernel
theorem dX7_laysTaken_13 : dk cX7_laysTaken 13 16 (.getfield 45) 3 := by unfold dk; decide +kernel
theorem dX7_laysTaken_16 : dk cX7_laysTaken 16 17 (.iload_n 3) 1 := by unfold dk; decide +kernel
theorem dX7_laysTaken_17 : dk cX7_laysTaken 17 18 (.aload_n 0) 1 := by unfold dk; decide +kernel
theorem dX7_laysTaken_18 : dk cX7_laysTaken 18 19 (.iload_n 3) 1 := by unfold dk; decide +kernel
theorem dX7_laysTaken_19 : dk cX7_laysTaken 19 22 (.invokevirtual 225) 3 := by unfold dk; decide +kernel
theorem dX7_laysTaken_22 : bk cX7_laysTaken 22 25 34 (.ifCond .eq 12) (12) := by unfold bk; decide +kernel
theorem dX7_laysTaken_34 : dk cX7_laysTaken 34 35 (.iconst (-1)) 1 := by unfold dk; decide +kernel
theorem dX7_laysTaken_25 : dk cX7_laysTaken 25 26 (.aload_n 0) 1 := by unfold dk; decide +kernel
theorem dX7_laysTaken_26 : dk cX7_laysTaken 26 27 (.iload_n 3) 1 := by unfold dk; decide +kernel
theorem dX7_laysTaken_27 : dk cX7_laysTaken 27 28 (.iconst 0) 1 := by unfold dk; decide +kernel
theorem dX7_laysTaken_28 : dk cX7_laysTaken 28 31 (.invokevirtual 168) 3 := by unfold dk; decide +kernel
theorem dX7_laysTaken_31 : bk cX7_laysTaken 31 34 35 (.goto 4) (4) := by unfold bk; decide +kernel
theorem dX7_laysTaken_35 : dk cX7_laysTaken 35 36 (.iastore) 1 := by unfold dk; decide +kernel
theorem dX7_laysTaken_36 : dk cX7_laysTaken 36 37 (.aload_n 0) 1 := by unfold dk; decide +kernel
theorem dX7_laysTaken_37 : dk cX7_laysTaken 37 40 (.getfield 45) 3 := by unfold dk; decide +kernel
theorem dX7_laysTaken_40 : dk cX7_laysTaken 40 41 (.iload_n 3) 1 := by unfold dk; decide +kernel
theorem dX7_laysTaken_41 : dk cX7_laysTaken 41 42 (.iaload) 1 := by unfold dk; decide +kernel
theorem dX7_laysTaken_42 : dk cX7_laysTaken 42 43 (.iconst (-1)) 1 := by unfold dk; decide +kernel
theorem dX7_laysTaken_43 : bk cX7_laysTaken 43 46 102 (.if_icmp .eq 59) (59) := by unfold bk; decide +kernel
theorem dX7_laysTaken_46 : dk cX7_laysTaken 46 47 (.aload_n 0) 1 := by unfold dk; decide +kernel
theorem dX7_laysTaken_47 : dk cX7_laysTaken 47 50 (.getfield 9) 3 := by unfold dk; decide +kernel
theorem dX7_laysTaken_50 : dk cX7_laysTaken 50 53 (.sipush 1927) 3 := by unfold dk; decide +kernel
theorem dX7_laysTaken_53 : dk cX7_laysTaken 53 54 (.aload_n 0) 1 := by unfold dk; decide +kernel
theorem dX7_laysTaken_54 : dk cX7_laysTaken 54 57 (.getfield 45) 3 := by unfold dk; decide +kernel
theorem dX7_laysTaken_57 : dk cX7_laysTaken 57 58 (.iload_n 3) 1 := by unfold dk; decide +kernel
theorem dX7_laysTaken_58 : dk cX7_laysTaken 58 59 (.iaload) 1 := by unfold dk; decide +kernel
theorem dX7_laysTaken_59 : dk cX7_laysTaken 59 60 (.iadd) 1 := by unfold dk; decide +kernel
theorem dX7_laysTaken_60 : dk cX7_laysTaken 60 61 (.iaload) 1 := by unfold dk; decide +kernel
theorem dX7_laysTaken_64 : dk cX7_laysTaken 64 65 (.iload_n 2) 1 := by unfold dk; decide +kernel
theorem dX7_laysTaken_68 : dk cX7_laysTaken 68 69 (.aload_n 0) 1 := by unfold dk; decide +kernel
theorem dX7_laysTaken_69 : dk cX7_laysTaken 69 72 (.invokevirtual 188) 3 := by unfold dk; decide +kernel
theorem dX7_laysTaken_72 : bk cX7_laysTaken 72 75 94 (.ifCond .eq 22) (22) := by unfold bk; decide +kernel
theorem dX7_laysTaken_94 : dk cX7_laysTaken 94 95 (.iconst 1) 1 := by unfold dk; decide +kernel
theorem dX7_laysTaken_95 : bk cX7_laysTaken 95 98 99 (.goto 4) (4) := by unfold bk; decide +kernel
theorem dX7_laysTaken_75 : dk cX7_laysTaken 75 76 (.aload_n 0) 1 := by unfold dk; decide +kernel
theorem dX7_laysTaken_76 : dk cX7_laysTaken 76 79 (.getfield 9) 3 := by unfold dk; decide +kernel
theorem dX7_laysTaken_79 : dk cX7_laysTaken 79 82 (.sipush 2627) 3 := by unfold dk; decide +kernel
theorem dX7_laysTaken_82 : dk cX7_laysTaken 82 83 (.aload_n 0) 1 := by unfold dk; decide +kernel
theorem dX7_laysTaken_83 : dk cX7_laysTaken 83 86 (.getfield 45) 3 := by unfold dk; decide +kernel
theorem dX7_laysTaken_86 : dk cX7_laysTaken 86 87 (.iload_n 3) 1 := by unfold dk; decide +kernel
theorem dX7_laysTaken_87 : dk cX7_laysTaken 87 88 (.iaload) 1 := by unfold dk; decide +kernel
theorem dX7_laysTaken_88 : dk cX7_laysTaken 88 89 (.iadd) 1 := by unfold dk; decide +kernel
theorem dX7_laysTaken_89 : dk cX7_laysTaken 89 90 (.iaload) 1 := by unfold dk; decide +kernel
theorem dX7_laysTaken_90 : dk cX7_laysTaken 90 91 (.iconst 1) 1 := by unfold dk; decide +kernel
theorem dX7_laysTaken_98 : dk cX7_laysTaken 98 99 (.iconst 0) 1 := by unfold dk; decide +kernel
theorem dX7_laysTaken_91 : bk cX7_laysTaken 91 94 98 (.if_icmp .ne 7) (7) := by unfold bk; decide +kernel
theorem dX7_laysTaken_99 : dk cX7_laysTaken 99 100 (.istore_n 1) 1 := by unfold dk; decide +kernel
theorem dX7_laysTaken_100 : dk cX7_laysTaken 100 101 (.iconst 0) 1 := by unfold dk; decide +kernel
theorem dX7_laysTaken_101 : dk cX7_laysTaken 101 102 (.istore_n 2) 1 := by unfold dk; decide +kernel
theorem dX7_laysTaken_65 : bk cX7_laysTaken 65 68 102 (.ifCond .eq 37) (37) := by unfold bk; decide +kernel
theorem dX7_laysTaken_61 : bk cX7_laysTaken 61 64 102 (.ifCond .le 41) (41) := by unfold bk; decide +kernel
theorem dX7_laysTaken_102 : dk cX7_laysTaken 102 105 (.iinc 3 1) 3 := by unfold dk; decide +kernel
theorem dX7_laysTaken_105 : bk cX7_laysTaken 105 108 6 (.goto (-99)) (-99) := by unfold bk; decide +kernel
theorem dX7_laysTaken_9 : bk cX7_laysTaken 9 12 108 (.if_icmp .ge 99) (99) := by unfold bk; decide +kernel
theorem dX7_laysTaken_108 : dk cX7_laysTaken 108 109 (.iload_n 1) 1 := by unfold dk; decide +kernel
theorem dX7_laysTaken_109 : dk cX7_laysTaken 109 110 (.ireturn) 1 := by unfold dk; decide +kernel
set_option maxHeartbeats 4000000 in
set_option maxRecDepth 100000 in
theorem kX7_laysTaken {l : Launch} {G : Gl} {E : En} {a0 : Nat} {σ σ' : Sg} {r : Int32} : fX7_laysTaken E a0 σ = some (r, σ') → CT l yX7_laysTaken cX7_laysTaken 4 (some .boolean) ({ frames := 3, cells := 0, slots := 0, locals := 63 } : Room) [.ref (G.1 + a0)] G E σ (some (.int r)) σ' := by
  intro h
  refine CT_of (lv0 := [(0, .ref (G.1 + a0))]) (by decide) (Nat.le_of_ble_eq_true rfl) rfl (fun κ hl hR hr C => ?_)
  have C : Cx κ G cX7_laysTaken RX7 4 := C
  revert h
  unfold fX7_laysTaken
  refine R_tk (fun ha0 => ?_)
  refine R_iconst C (1) dX7_laysTaken_0 (by decide) ?_
  refine R_istore_n (lv2 := [(1, .int (1 : Int32)), (0, .ref (G.1 + a0))]) C dX7_laysTaken_1 rfl (by decide) rfl ?_
  refine R_iconst C (1) dX7_laysTaken_2 (by decide) ?_
  refine R_istore_n (lv2 := [(2, .int (1 : Int32)), (1, .int (1 : Int32)), (0, .ref (G.1 + a0))]) C dX7_laysTaken_3 rfl (by decide) rfl ?_
  refine R_iconst C (0) dX7_laysTaken_4 (by decide) ?_
  refine R_istore_n (lv2 := [(3, .int (0 : Int32)), (2, .int (1 : Int32)), (1, .int (1 : Int32)), (0, .ref (G.1 + a0))]) C dX7_laysTaken_5 rfl (by decide) rfl ?_
  refine R_loc (lv2 := [(0, .ref (G.1 + a0)), (1, .int (1 : Int32)), (2, .int (1 : Int32)), (3, .int (0 : Int32))]) [3, 2, 1, 0] rfl ?_
  refine R_loop (fun (a : (Int32 × Int32 × Int32) × Sg) => V κ G (QQ κ G E (some (.int r)) σ') E a.2 (false, 0, 0) 6 [(0, .ref (G.1 + a0)), (1, .int a.1.1), (2, .int a.1.2.1), (3, .int a.1.2.2)] []) (fun (o : (Int32 × Int32 × Int32)) (s : Sg) => V κ G (QQ κ G E (some (.int r)) σ') E s (false, 0, 0) 108 [(1, .int o.1)] []) (((1 : Int32), (1 : Int32), (0 : Int32)), σ) (fun o34 s35 => ?_) (fun rec I8 a b6 s7 K5 => ?_)
  · refine R_iload_n C 0 rfl dX7_laysTaken_108 ?_
    refine R_kb (fun h36 => ?_)
    exact R_zret C hr h36 dX7_laysTaken_109
  · obtain ⟨⟨v1, v2, v3⟩, s4⟩ := a
    show bX7_laysTaken_6 E a0 (fun u0 u1 u2 t => rec ((u0, u1, u2), t)) v1 v2 v3 s4 = some (b6, s7) → V κ G (QQ κ G E (some (.int r)) σ') E s4 (false, 0, 0) 6 [(0, .ref (G.1 + a0)), (1, .int v1), (2, .int v2), (3, .int v3)] []
    unfold bX7_laysTaken_6
    refine R_iload_n C 3 rfl dX7_laysTaken_6 ?_
    refine R_bipush C (6) dX7_laysTaken_7 (by decide) ?_
    refine B_icmp_ge C dX7_laysTaken_9 ?_ ?_
    · refine R_loc (lv2 := [(1, .int v1)]) [1] rfl ?_
      exact R_end (fun (o : (Int32 × Int32 × Int32)) (s : Sg) => V κ G (QQ κ G E (some (.int r)) σ') E s (false, 0, 0) 108 [(1, .int o.1)] []) K5
    · refine R_aload_n C 0 rfl dX7_laysTaken_12 ?_
      refine R_dr (fun x9 rx9 cx9 => ?_)
      refine R_getr C fl7_45 rfl ha0 rx9 dX7_laysTaken_13 ?_
      refine R_iload_n C 3 rfl dX7_laysTaken_16 ?_
      refine R_aload_n C 0 rfl dX7_laysTaken_17 ?_
      refine R_iload_n C 3 rfl dX7_laysTaken_18 ?_
      refine R_bd (fun r12 s10 q11 => ?_)
      refine R_callVi [.int v3] [.int v3, .ref (G.1 + x9)] C ml7_225 (kX7_doesGive q11) (by rw [hR]; exact ⟨rfl, rfl, Nat.le_of_ble_eq_true rfl, Nat.le_of_ble_eq_true rfl, Nat.zero_le _, Nat.zero_le _⟩) ha0 rfl rfl (Nat.le_of_ble_eq_true rfl) dX7_laysTaken_19 ?_
      refine R_bdK (fun (w : Int32) (s : Sg) => V κ G (QQ κ G E (some (.int r)) σ') E s (false, 0, 0) 35 [(0, .ref (G.1 + a0)), (1, .int v1), (2, .int v2), (3, .int v3)] [.int w, .int v3, .ref (G.1 + x9)]) (fun w13 s14 => ?_) (fun w13 s14 Kw13 => ?_)
      · refine R_ck (fun h18 => ?_)
        refine S_iast C cx9 h18 dX7_laysTaken_35 (fun s19 => ?_)
        refine R_aload_n C 0 rfl dX7_laysTaken_36 ?_
        refine R_getr C fl7_45 rfl ha0 rx9 dX7_laysTaken_37 ?_
        refine R_iload_n C 3 rfl dX7_laysTaken_40 ?_
        refine R_ck (fun h20 => ?_)
        refine R_iald C cx9 h20 dX7_laysTaken_41 ?_
        refine R_iconst C (-1) dX7_laysTaken_42 (by decide) ?_
        refine R_bdK (fun (w : Int32 × Int32) (s : Sg) => V κ G (QQ κ G E (some (.int r)) σ') E s (false, 0, 0) 102 [(0, .ref (G.1 + a0)), (3, .int v3), (1, .int w.1), (2, .int w.2)] []) (fun w21 s22 => ?_) (fun w21 s22 Kw21 => ?_)
        · refine S_iinc (fun v33 => [(3, .int v33), (0, .ref (G.1 + a0)), (1, .int w21.1), (2, .int w21.2)]) 1 C dX7_laysTaken_102 rfl (by decide) (by decide) (fun _ => rfl) (fun v33 => ?_)
          refine R_goto C dX7_laysTaken_105 ?_
          refine R_loc (lv2 := [(0, .ref (G.1 + a0)), (1, .int w21.1), (2, .int w21.2), (3, .int v33)]) [1, 2, 3, 0] rfl ?_
          exact I8 ((w21.1, w21.2, v33), s22) b6 s7 K5
        · refine B_icmp_eq C dX7_laysTaken_43 ?_ ?_
          · refine R_loc (lv2 := [(0, .ref (G.1 + a0)), (3, .int v3), (1, .int v1), (2, .int v2)]) [0, 3, 1, 2] rfl ?_
            exact R_end (fun (w : Int32 × Int32) (s : Sg) => V κ G (QQ κ G E (some (.int r)) σ') E s (false, 0, 0) 102 [(0, .ref (G.1 + a0)), (3, .int v3), (1, .int w.1), (2, .int w.2)] []) Kw21
          · refine R_aload_n C 0 rfl dX7_laysTaken_46 ?_
            refine R_dr (fun x23 rx23 cx23 => ?_)
            refine R_getr C fl7_9 rfl ha0 rx23 dX7_laysTaken_47 ?_
            refine R_sipush C (1927) dX7_laysTaken_50 (by decide) ?_
            refine R_aload_n C 0 rfl dX7_laysTaken_53 ?_
            refine R_getr C fl7_45 rfl ha0 rx9 dX7_laysTaken_54 ?_
            refine R_iload_n C 3 rfl dX7_laysTaken_57 ?_
            refine R_ck (fun h24 => ?_)
            refine R_iald C cx9 h24 dX7_laysTaken_58 ?_
            refine R_iadd C dX7_laysTaken_59 ?_
            refine R_ck (fun h25 => ?_)
            refine R_iald C cx23 h25 dX7_laysTaken_60 ?_
            refine B_if_le C dX7_laysTaken_61 ?_ ?_
            · refine R_loc (lv2 := [(0, .ref (G.1 + a0)), (3, .int v3), (1, .int v1), (2, .int v2)]) [0, 3, 1, 2] rfl ?_
              exact R_end (fun (w : Int32 × Int32) (s : Sg) => V κ G (QQ κ G E (some (.int r)) σ') E s (false, 0, 0) 102 [(0, .ref (G.1 + a0)), (3, .int v3), (1, .int w.1), (2, .int w.2)] []) Kw21
            · refine R_iload_n C 2 rfl dX7_laysTaken_64 ?_
              refine B_if_eq C dX7_laysTaken_65 ?_ ?_
              · refine R_loc (lv2 := [(0, .ref (G.1 + a0)), (3, .int v3), (1, .int v1), (2, .int v2)]) [0, 3, 1, 2] rfl ?_
                exact R_end (fun (w : Int32 × Int32) (s : Sg) => V κ G (QQ κ G E (some (.int r)) σ') E s (false, 0, 0) 102 [(0, .ref (G.1 + a0)), (3, .int v3), (1, .int w.1), (2, .int w.2)] []) Kw21
              · refine R_aload_n C 0 rfl dX7_laysTaken_68 ?_
                refine R_bd (fun r28 s26 q27 => ?_)
                refine R_callVi [] [] C ml7_188 (kX7_isBack q27) (by rw [hR]; exact ⟨rfl, rfl, Nat.le_of_ble_eq_true rfl, Nat.le_of_ble_eq_true rfl, Nat.zero_le _, Nat.zero_le _⟩) ha0 rfl rfl (Nat.le_of_ble_eq_true rfl) dX7_laysTaken_69 ?_
                refine R_bdK (fun (w : Int32) (s : Sg) => V κ G (QQ κ G E (some (.int r)) σ') E s (false, 0, 0) 99 [(0, .ref (G.1 + a0)), (3, .int v3)] [.int w]) (fun w29 s30 => ?_) (fun w29 s30 Kw29 => ?_)
                · refine R_istore_n (lv2 := [(1, .int w29), (0, .ref (G.1 + a0)), (3, .int v3)]) C dX7_laysTaken_99 rfl (by decide) rfl ?_
                  refine R_iconst C (0) dX7_laysTaken_100 (by decide) ?_
                  refine R_istore_n (lv2 := [(2, .int (0 : Int32)), (1, .int w29), (0, .ref (G.1 + a0)), (3, .int v3)]) C dX7_laysTaken_101 rfl (by decide) rfl ?_
                  refine R_loc (lv2 := [(0, .ref (G.1 + a0)), (3, .int v3), (1, .int w29), (2, .int (0 : Int32))]) [2, 3, 1, 0] rfl ?_
                  exact R_end (fun (w : Int32 × Int32) (s : Sg) => V κ G (QQ κ G E (some (.int r)) σ') E s (false, 0, 0) 102 [(0, .ref (G.1 + a0)), (3, .int v3), (1, .int w.1), (2, .int w.2)] []) Kw21
                · refine B_if_eq C dX7_laysTaken_72 ?_ ?_
                  · refine R_iconst C (1) dX7_laysTaken_94 (by decide) ?_
                    refine R_goto C dX7_laysTaken_95 ?_
                    refine R_loc (lv2 := [(0, .ref (G.1 + a0)), (3, .int v3)]) [0, 3] rfl ?_
                    exact R_end (fun (w : Int32) (s : Sg) => V κ G (QQ κ G E (some (.int r)) σ') E s (false, 0, 0) 99 [(0, .ref (G.1 + a0)), (3, .int v3)] [.int w]) Kw29
                  · refine R_aload_n C 0 rfl dX7_laysTaken_75 ?_
                    refine R_getr C fl7_9 rfl ha0 rx23 dX7_laysTaken_76 ?_
                    refine R_sipush C (2627) dX7_laysTaken_79 (by decide) ?_
                    refine R_aload_n C 0 rfl dX7_laysTaken_82 ?_
                    refine R_getr C fl7_45 rfl ha0 rx9 dX7_laysTaken_83 ?_
                    refine R_iload_n C 3 rfl dX7_laysTaken_86 ?_
                    refine R_ck (fun h31 => ?_)
                    refine R_iald C cx9 h31 dX7_laysTaken_87 ?_
                    refine R_iadd C dX7_laysTaken_88 ?_
                    refine R_ck (fun h32 => ?_)
                    refine R_iald C cx23 h32 dX7_laysTaken_89 ?_
                    refine R_iconst C (1) dX7_laysTaken_90 (by decide) ?_
                    refine B_icmp_ne C dX7_laysTaken_91 ?_ ?_
                    · refine R_iconst C (0) dX7_laysTaken_98 (by decide) ?_
                      refine R_loc (lv2 := [(0, .ref (G.1 + a0)), (3, .int v3)]) [0, 3] rfl ?_
                      exact R_end (fun (w : Int32) (s : Sg) => V κ G (QQ κ G E (some (.int r)) σ') E s (false, 0, 0) 99 [(0, .ref (G.1 + a0)), (3, .int v3)] [.int w]) Kw29
                    · refine R_iconst C (1) dX7_laysTaken_94 (by decide) ?_
                      refine R_goto C dX7_laysTaken_95 ?_
                      refine R_loc (lv2 := [(0, .ref (G.1 + a0)), (3, .int v3)]) [0, 3] rfl ?_
                      exact R_end (fun (w : Int32) (s : Sg) => V κ G (QQ κ G E (some (.int r)) σ') E s (false, 0, 0) 99 [(0, .ref (G.1 + a0)), (3, .int v3)] [.int w]) Kw29
      · refine B_if_eq C dX7_laysTaken_22 ?_ ?_
        · refine R_iconst C (-1) dX7_laysTaken_34 (by decide) ?_
          exact R_end (fun (w : Int32) (s : Sg) => V κ G (QQ κ G E (some (.int r)) σ') E s (false, 0, 0) 35 [(0, .ref (G.1 + a0)), (1, .int v1), (2, .int v2), (3, .int v3)] [.int w, .int v3, .ref (G.1 + x9)]) Kw13
        · refine R_aload_n C 0 rfl dX7_laysTaken_25 ?_
          refine R_iload_n C 3 rfl dX7_laysTaken_26 ?_
          refine R_iconst C (0) dX7_laysTaken_27 (by decide) ?_
          refine R_bd (fun r17 s15 q16 => ?_)
          refine R_callVi [.int v3, .int (0 : Int32)] [.int v3, .ref (G.1 + x9)] C ml7_168 (kX7_runAt q16) (by rw [hR]; exact ⟨rfl, rfl, Nat.le_of_ble_eq_true rfl, Nat.le_of_ble_eq_true rfl, Nat.zero_le _, Nat.zero_le _⟩) ha0 rfl rfl (Nat.le_of_ble_eq_true rfl) dX7_laysTaken_28 ?_
          refine R_goto C dX7_laysTaken_31 ?_
          exact R_end (fun (w : Int32) (s : Sg) => V κ G (QQ κ G E (some (.int r)) σ') E s (false, 0, 0) 35 [(0, .ref (G.1 + a0)), (1, .int v1), (2, .int v2), (3, .int v3)] [.int w, .int v3, .ref (G.1 + x9)]) Kw13
theorem dX7_isInTaken_0 : dk cX7_isInTaken 0 1 (.iconst 0) 1 := by unfold dk; decide +kernel
theorem dX7_isInTaken_1 : dk cX7_isInTaken 1 2 (.istore_n 2) 1 := by unfold dk; decide +kernel
theorem dX7_isInTaken_2 : dk cX7_isInTaken 2 3 (.iload_n 2) 1 := by unfold dk; decide +kernel
theorem dX7_isInTaken_3 : dk cX7_isInTaken 3 5 (.bipush 6) 2 := by unfold dk; decide +kernel
theorem dX7_isInTaken_8 : dk cX7_isInTaken 8 9 (.aload_n 0) 1 := by unfold dk; decide +kernel
theorem dX7_isInTaken_9 : dk cX7_isInTaken 9 12 (.getfield 45) 3 := by unfold dk; decide +kernel
theorem dX7_isInTaken_12 : dk cX7_isInTaken 12 13 (.iload_n 2) 1 := by unfold dk; decide +kernel
theorem dX7_isInTaken_13 : dk cX7_isInTaken 13 14 (.iaload) 1 := by unfold dk; decide +kernel
theorem dX7_isInTaken_14 : dk cX7_isInTaken 14 15 (.iconst (-1)) 1 := by unfold dk; decide +kernel
theorem dX7_isInTaken_75 : dk cX7_isInTaken 75 78 (.iinc 2 1) 3 := by unfold dk; decide +kernel
theorem dX7_isInTaken_78 : bk cX7_isInTaken 78 81 2 (.goto (-76)) (-76) := by unfold bk; decide +kernel
theorem dX7_isInTaken_18 : dk cX7_isInTaken 18 19 (.iload_n 1) 1 := by unfold dk; decide +kernel
theorem dX7_isInTaken_19 : dk cX7_isInTaken 19 20 (.aload_n 0) 1 := by unfold dk; decide +kernel
theorem dX7_isInTaken_20 : dk cX7_isInTaken 20 23 (.getfield 9) 3 := by unfold dk; decide +kernel
theorem dX7_isInTaken_23 : dk cX7_isInTaken 23 26 (.sipush 1227) 3 := by unfold dk; decide +kernel
theorem dX7_isInTaken_26 : dk cX7_isInTaken 26 27 (.aload_n 0) 1 := by unfold dk; decide +kernel
theorem dX7_isInTaken_27 : dk cX7_isInTaken 27 30 (.getfield 45) 3 := by unfold dk; decide +kernel
theorem dX7_isInTaken_30 : dk cX7_isInTaken 30 31 (.iload_n 2) 1 := by unfold dk; decide +kernel
theorem dX7_isInTaken_31 : dk cX7_isInTaken 31 32 (.iaload) 1 := by unfold dk; decide +kernel
theorem dX7_isInTaken_32 : dk cX7_isInTaken 32 33 (.iadd) 1 := by unfold dk; decide +kernel
theorem dX7_isInTaken_33 : dk cX7_isInTaken 33 34 (.iaload) 1 := by unfold dk; decide +kernel
theorem dX7_isInTaken_34 : dk cX7_isInTaken 34 35 (.aload_n 0) 1 := by unfold dk; decide +kernel
theorem dX7_isInTaken_35 : dk cX7_isInTaken 35 38 (.getfield 9) 3 := by unfold dk; decide +kernel
theorem dX7_isInTaken_38 : dk cX7_isInTaken 38 41 (.sipush 1227) 3 := by unfold dk; decide +kernel
theorem dX7_isInTaken_41 : dk cX7_isInTaken 41 42 (.aload_n 0) 1 := by unfold dk; decide +kernel
theorem dX7_isInTaken_42 : dk cX7_isInTaken 42 45 (.getfield 45) 3 := by unfold dk; decide +kernel
theorem dX7_isInTaken_45 : dk cX7_isInTaken 45 46 (.iload_n 2) 1 := by unfold dk; decide +kernel
theorem dX7_isInTaken_46 : dk cX7_isInTaken 46 47 (.iaload) 1 := by unfold dk; decide +kernel
theorem dX7_isInTaken_47 : dk cX7_isInTaken 47 48 (.iadd) 1 := by unfold dk; decide +kernel
theorem dX7_isInTaken_48 : dk cX7_isInTaken 48 49 (.iaload) 1 := by unfold dk; decide +kernel
theorem dX7_isInTaken_49 : dk cX7_isInTaken 49 50 (.aload_n 0) 1 := by unfold dk; decide +kernel
theorem dX7_isInTaken_50 : dk cX7_isInTaken 50 53 (.getfield 9) 3 := by unfold dk; decide +kernel
theorem dX7_isInTaken_53 : dk cX7_isInTaken 53 56 (.sipush 1927) 3 := by unfold dk; decide +kernel
theorem dX7_isInTaken_56 : dk cX7_isInTaken 56 57 (.aload_n 0) 1 := by unfold dk; decide +kernel
theorem dX7_isInTaken_57 : dk cX7_isInTaken 57 60 (.getfield 45) 3 := by unfold dk; decide +kernel
theorem dX7_isInTaken_60 : dk cX7_isInTaken 60 61 (.iload_n 2) 1 := by unfold dk; decide +kernel
theorem dX7_isInTaken_61 : dk cX7_isInTaken 61 62 (.iaload) 1 := by unfold dk; decide +kernel
theorem dX7_isInTaken_62 : dk cX7_isInTaken 62 63 (.iadd) 1 := by unfold dk; decide +kernel
theorem dX7_isInTaken_63 : dk cX7_isInTaken 63 64 (.iaload) 1 := by unfold dk; decide +kernel
theorem dX7_isInTaken_64 : dk cX7_isInTaken 64 65 (.iadd) 1 := by unfold dk; decide +kernel
theorem dX7_isInTaken_65 : dk cX7_isInTaken 65 66 (.iconst 1) 1 := by unfold dk; decide +kernel
theorem dX7_isInTaken_66 : dk cX7_isInTaken 66 67 (.isub) 1 := by unfold dk; decide +kernel
theorem dX7_isInTaken_67 : dk cX7_isInTaken 67 70 (.invokestatic 116) 3 := by unfold dk; decide +kernel
theorem dX7_isInTaken_73 : dk cX7_isInTaken 73 74 (.iconst 1) 1 := by unfold dk; decide +kernel
theorem dX7_isInTaken_74 : dk cX7_isInTaken 74 75 (.ireturn) 1 := by unfold dk; decide +kernel
theorem dX7_isInTaken_70 : bk cX7_isInTaken 70 73 75 (.ifCond .eq 5) (5) := by unfold bk; decide +kernel
theorem dX7_isInTaken_15 : bk cX7_isInTaken 15 18 75 (.if_icmp .eq 60) (60) := by unfold bk; decide +kernel
theorem dX7_isInTaken_5 : bk cX7_isInTaken 5 8 81 (.if_icmp .ge 76) (76) := by unfold bk; decide +kernel
theorem dX7_isInTaken_81 : dk cX7_isInTaken 81 82 (.iconst 0) 1 := by unfold dk; decide +kernel
theorem dX7_isInTaken_82 : dk cX7_isInTaken 82 83 (.ireturn) 1 := by unfold dk; decide +kernel
set_option maxHeartbeats 4000000 in
set_option maxRecDepth 100000 in
theorem kX7_isInTaken {l : Launch} {G : Gl} {E : En} {a0 : Nat} {a1 : Int32} {σ σ' : Sg} {r : Int32} : fX7_isInTaken E a0 a1 σ = some (r, σ') → CT l yX7_isInTaken cX7_isInTaken 3 (some .boolean) ({ frames := 1, cells := 0, slots := 0, locals := 22 } : Room) [.ref (G.1 + a0), .int a1] G E σ (some (.int r)) σ' := by
  intro h
  refine CT_of (lv0 := [(0, .ref (G.1 + a0)), (1, .int a1)]) (by decide) (Nat.le_of_ble_eq_true rfl) rfl (fun κ hl hR hr C => ?_)
  have C : Cx κ G cX7_isInTaken RX7 3 := C
  revert h
  unfold fX7_isInTaken
  refine R_tk (fun ha0 => ?_)
  refine R_iconst C (0) dX7_isInTaken_0 (by decide) ?_
  refine R_istore_n (lv2 := [(2, .int (0 : Int32)), (0, .ref (G.1 + a0)), (1, .int a1)]) C dX7_isInTaken_1 rfl (by decide) rfl ?_
  refine R_loc (lv2 := [(0, .ref (G.1 + a0)), (1, .int a1), (2, .int (0 : Int32))]) [1, 2, 0] rfl ?_
  refine R_loop (fun (a : (Int32) × Sg) => V κ G (QQ κ G E (some (.int r)) σ') E a.2 (false, 0, 0) 2 [(0, .ref (G.1 + a0)), (1, .int a1), (2, .int a.1)] []) (fun (o : ((Int32) ⊕ Int32)) (s : Sg) => sm o (fun o => V κ G (QQ κ G E (some (.int r)) σ') E s (false, 0, 0) 81 [] []) (fun rr => some (rr, s) = some (r, σ'))) ((0 : Int32), σ) (fun o21 s22 => ?_) (fun rec I6 a b4 s5 K3 => ?_)
  · rcases o21 with vo21 | ro21
    · refine R_sml ?_
      refine R_iconst C (0) dX7_isInTaken_81 (by decide) ?_
      exact R_zret C hr (Or.inl rfl) dX7_isInTaken_82
    · exact fun h => h
  · obtain ⟨v1, s2⟩ := a
    show bX7_isInTaken_2 E a0 a1 (fun u0 t => rec (u0, t)) v1 s2 = some (b4, s5) → V κ G (QQ κ G E (some (.int r)) σ') E s2 (false, 0, 0) 2 [(0, .ref (G.1 + a0)), (1, .int a1), (2, .int v1)] []
    unfold bX7_isInTaken_2
    refine R_iload_n C 2 rfl dX7_isInTaken_2 ?_
    refine R_bipush C (6) dX7_isInTaken_3 (by decide) ?_
    refine B_icmp_ge C dX7_isInTaken_5 ?_ ?_
    · refine R_loc (lv2 := []) [] rfl ?_
      exact R_inr (VX := (fun (o : ((Int32) ⊕ Int32)) (s : Sg) => sm o (fun o => V κ G (QQ κ G E (some (.int r)) σ') E s (false, 0, 0) 81 [] []) (fun rr => some (rr, s) = some (r, σ')))) (i := .inl) K3 (fun h => h)
    · refine R_aload_n C 0 rfl dX7_isInTaken_8 ?_
      refine R_dr (fun x7 rx7 cx7 => ?_)
      refine R_getr C fl7_45 rfl ha0 rx7 dX7_isInTaken_9 ?_
      refine R_iload_n C 2 rfl dX7_isInTaken_12 ?_
      refine R_ck (fun h8 => ?_)
      refine R_iald C cx7 h8 dX7_isInTaken_13 ?_
      refine R_iconst C (-1) dX7_isInTaken_14 (by decide) ?_
      refine B_icmp_eq C dX7_isInTaken_15 ?_ ?_
      · refine S_iinc (fun v9 => [(2, .int v9), (0, .ref (G.1 + a0)), (1, .int a1)]) 2 C dX7_isInTaken_75 rfl (by decide) (by decide) (fun _ => rfl) (fun v9 => ?_)
        refine R_goto C dX7_isInTaken_78 ?_
        refine R_loc (lv2 := [(0, .ref (G.1 + a0)), (1, .int a1), (2, .int v9)]) [1, 2, 0] rfl ?_
        exact I6 (v9, s2) b4 s5 K3
      · refine R_iload_n C 1 rfl dX7_isInTaken_18 ?_
        refine R_aload_n C 0 rfl dX7_isInTaken_19 ?_
        refine R_dr (fun x10 rx10 cx10 => ?_)
        refine R_getr C fl7_9 rfl ha0 rx10 dX7_isInTaken_20 ?_
        refine R_sipush C (1227) dX7_isInTaken_23 (by decide) ?_
        refine R_aload_n C 0 rfl dX7_isInTaken_26 ?_
        refine R_getr C fl7_45 rfl ha0 rx7 dX7_isInTaken_27 ?_
        refine R_iload_n C 2 rfl dX7_isInTaken_30 ?_
        refine R_ck (fun h11 => ?_)
        refine R_iald C cx7 h11 dX7_isInTaken_31 ?_
        refine R_iadd C dX7_isInTaken_32 ?_
        refine R_ck (fun h12 => ?_)
        refine R_iald C cx10 h12 dX7_isInTaken_33 ?_
        refine R_aload_n C 0 rfl dX7_isInTaken_34 ?_
        refine R_getr C fl7_9 rfl ha0 rx10 dX7_isInTaken_35 ?_
        refine R_sipush C (1227) dX7_isInTaken_38 (by decide) ?_
        refine R_aload_n C 0 rfl dX7_isInTaken_41 ?_
        refine R_getr C fl7_45 rfl ha0 rx7 dX7_isInTaken_42 ?_
        refine R_iload_n C 2 rfl dX7_isInTaken_45 ?_
        refine R_ck (fun h13 => ?_)
        refine R_iald C cx7 h13 dX7_isInTaken_46 ?_
        refine R_iadd C dX7_isInTaken_47 ?_
        refine R_ck (fun h14 => ?_)
        refine R_iald C cx10 h14 dX7_isInTaken_48 ?_
        refine R_aload_n C 0 rfl dX7_isInTaken_49 ?_
        refine R_getr C fl7_9 rfl ha0 rx10 dX7_isInTaken_50 ?_
        refine R_sipush C (1927) dX7_isInTaken_53 (by decide) ?_
        refine R_aload_n C 0 rfl dX7_isInTaken_56 ?_
        refine R_getr C fl7_45 rfl ha0 rx7 dX7_isInTaken_57 ?_
        refine R_iload_n C 2 rfl dX7_isInTaken_60 ?_
        refine R_ck (fun h15 => ?_)
        refine R_iald C cx7 h15 dX7_isInTaken_61 ?_
        refine R_iadd C dX7_isInTaken_62 ?_
        refine R_ck (fun h16 => ?_)
        refine R_iald C cx10 h16 dX7_isInTaken_63 ?_
        refine R_iadd C dX7_isInTaken_64 ?_
        refine R_iconst C (1) dX7_isInTaken_65 (by decide) ?_
        refine R_isub C dX7_isInTaken_66 ?_
        refine R_bd (fun r19 s17 q18 => ?_)
        refine R_callSi [.int a1, .int (gi s2 x10 ((1227 : Int32) + (gi s2 x7 v1.toNatClampNeg)).toNatClampNeg), .int (((gi s2 x10 ((1227 : Int32) + (gi s2 x7 v1.toNatClampNeg)).toNatClampNeg) + (gi s2 x10 ((1927 : Int32) + (gi s2 x7 v1.toNatClampNeg)).toNatClampNeg)) - (1 : Int32))] [] C ml7_116 (kX7_in q18) (by rw [hR]; exact ⟨rfl, rfl, Nat.le_of_ble_eq_true rfl, Nat.le_of_ble_eq_true rfl, Nat.zero_le _, Nat.zero_le _⟩) rfl rfl (Nat.le_of_ble_eq_true rfl) dX7_isInTaken_67 ?_
        refine B_if_eq C dX7_isInTaken_70 ?_ ?_
        · refine S_iinc (fun v20 => [(2, .int v20), (0, .ref (G.1 + a0)), (1, .int a1)]) 2 C dX7_isInTaken_75 rfl (by decide) (by decide) (fun _ => rfl) (fun v20 => ?_)
          refine R_goto C dX7_isInTaken_78 ?_
          refine R_loc (lv2 := [(0, .ref (G.1 + a0)), (1, .int a1), (2, .int v20)]) [1, 2, 0] rfl ?_
          exact I6 (v20, s17) b4 s5 K3
        · refine R_iconst C (1) dX7_isInTaken_73 (by decide) ?_
          exact R_inr (VX := (fun (o : ((Int32) ⊕ Int32)) (s : Sg) => sm o (fun o => V κ G (QQ κ G E (some (.int r)) σ') E s (false, 0, 0) 81 [] []) (fun rr => some (rr, s) = some (r, σ')))) (i := .inr) K3 (R_zret C hr (Or.inr rfl) dX7_isInTaken_74)
theorem dX7_shiftsRuns_0 : dk cX7_shiftsRuns 0 1 (.iconst 0) 1 := by unfold dk; decide +kernel
theorem dX7_shiftsRuns_1 : dk cX7_shiftsRuns 1 2 (.istore_n 1) 1 := by unfold dk; decide +kernel
theorem dX7_shiftsRuns_2 : dk cX7_shiftsRuns 2 3 (.iload_n 1) 1 := by unfold dk; decide +kernel
theorem dX7_shiftsRuns_3 : dk cX7_shiftsRuns 3 4 (.aload_n 0) 1 := by unfold dk; decide +kernel
theorem dX7_shiftsRuns_4 : dk cX7_shiftsRuns 4 7 (.invokevirtual 155) 3 := by unfold dk; decide +kernel
theorem dX7_shiftsRuns_10 : dk cX7_shiftsRuns 10 11 (.iconst 0) 1 := by unfold dk; decide +kernel
theorem dX7_shiftsRuns_11 : dk cX7_shiftsRuns 11 12 (.istore_n 2) 1 := by unfold dk; decide +kernel
theorem dX7_shiftsRuns_12 : dk cX7_shiftsRuns 12 13 (.iload_n 2) 1 := by unfold dk; decide +kernel
theorem dX7_shiftsRuns_13 : dk cX7_shiftsRuns 13 14 (.aload_n 0) 1 := by unfold dk; decide +kernel
theorem dX7_shiftsRuns_14 : dk cX7_shiftsRuns 14 17 (.getfield 9) 3 := by unfold dk; decide +kernel
theorem dX7_shiftsRuns_17 : dk cX7_shiftsRuns 17 19 (.bipush 20) 2 := by unfold dk; decide +kernel
theorem dX7_shiftsRuns_19 : dk cX7_shiftsRuns 19 20 (.iload_n 1) 1 := by unfold dk; decide +kernel
theorem dX7_shiftsRuns_20 : dk cX7_shiftsRuns 20 21 (.iadd) 1 := by unfold dk; decide +kernel
theorem dX7_shiftsRuns_21 : dk cX7_shiftsRuns 21 22 (.iaload) 1 := by unfold dk; decide +kernel
theorem dX7_shiftsRuns_25 : dk cX7_shiftsRuns 25 26 (.aload_n 0) 1 := by unfold dk; decide +kernel
theorem dX7_shiftsRuns_26 : dk cX7_shiftsRuns 26 27 (.iload_n 1) 1 := by unfold dk; decide +kernel
theorem dX7_shiftsRuns_27 : dk cX7_shiftsRuns 27 28 (.iload_n 2) 1 := by unfold dk; decide +kernel
theorem dX7_shiftsRuns_28 : dk cX7_shiftsRuns 28 31 (.invokevirtual 168) 3 := by unfold dk; decide +kernel
theorem dX7_shiftsRuns_31 : dk cX7_shiftsRuns 31 32 (.istore_n 3) 1 := by unfold dk; decide +kernel
theorem dX7_shiftsRuns_32 : dk cX7_shiftsRuns 32 33 (.iconst 0) 1 := by unfold dk; decide +kernel
theorem dX7_shiftsRuns_33 : dk cX7_shiftsRuns 33 35 (.istore 4) 2 := by unfold dk; decide +kernel
theorem dX7_shiftsRuns_35 : dk cX7_shiftsRuns 35 36 (.iconst 0) 1 := by unfold dk; decide +kernel
theorem dX7_shiftsRuns_36 : dk cX7_shiftsRuns 36 38 (.istore 5) 2 := by unfold dk; decide +kernel
theorem dX7_shiftsRuns_38 : dk cX7_shiftsRuns 38 40 (.iload 5) 2 := by unfold dk; decide +kernel
theorem dX7_shiftsRuns_40 : dk cX7_shiftsRuns 40 42 (.bipush 6) 2 := by unfold dk; decide +kernel
theorem dX7_shiftsRuns_45 : dk cX7_shiftsRuns 45 47 (.iload 4) 2 := by unfold dk; decide +kernel
theorem dX7_shiftsRuns_47 : dk cX7_shiftsRuns 47 48 (.aload_n 0) 1 := by unfold dk; decide +kernel
theorem dX7_shiftsRuns_48 : dk cX7_shiftsRuns 48 51 (.getfield 45) 3 := by unfold dk; decide +kernel
theorem dX7_shiftsRuns_51 : dk cX7_shiftsRuns 51 53 (.iload 5) 2 := by unfold dk; decide +kernel
theorem dX7_shiftsRuns_53 : dk cX7_shiftsRuns 53 54 (.iaload) 1 := by unfold dk; decide +kernel
theorem dX7_shiftsRuns_54 : dk cX7_shiftsRuns 54 55 (.iconst (-1)) 1 := by unfold dk; decide +kernel
theorem dX7_shiftsRuns_55 : bk cX7_shiftsRuns 55 58 117 (.if_icmp .eq 62) (62) := by unfold bk; decide +kernel
theorem dX7_shiftsRuns_117 : dk cX7_shiftsRuns 117 118 (.iconst 0) 1 := by unfold dk; decide +kernel
theorem dX7_shiftsRuns_58 : dk cX7_shiftsRuns 58 59 (.aload_n 0) 1 := by unfold dk; decide +kernel
theorem dX7_shiftsRuns_59 : dk cX7_shiftsRuns 59 62 (.getfield 45) 3 := by unfold dk; decide +kernel
theorem dX7_shiftsRuns_62 : dk cX7_shiftsRuns 62 64 (.iload 5) 2 := by unfold dk; decide +kernel
theorem dX7_shiftsRuns_64 : dk cX7_shiftsRuns 64 65 (.iaload) 1 := by unfold dk; decide +kernel
theorem dX7_shiftsRuns_65 : dk cX7_shiftsRuns 65 66 (.iload_n 3) 1 := by unfold dk; decide +kernel
theorem dX7_shiftsRuns_69 : dk cX7_shiftsRuns 69 70 (.aload_n 0) 1 := by unfold dk; decide +kernel
theorem dX7_shiftsRuns_70 : dk cX7_shiftsRuns 70 73 (.getfield 9) 3 := by unfold dk; decide +kernel
theorem dX7_shiftsRuns_73 : dk cX7_shiftsRuns 73 76 (.sipush 1227) 3 := by unfold dk; decide +kernel
theorem dX7_shiftsRuns_76 : dk cX7_shiftsRuns 76 77 (.aload_n 0) 1 := by unfold dk; decide +kernel
theorem dX7_shiftsRuns_77 : dk cX7_shiftsRuns 77 80 (.getfield 45) 3 := by unfold dk; decide +kernel
theorem dX7_shiftsRuns_80 : dk cX7_shiftsRuns 80 82 (.iload 5) 2 := by unfold dk; decide +kernel
theorem dX7_shiftsRuns_82 : dk cX7_shiftsRuns 82 83 (.iaload) 1 := by unfold dk; decide +kernel
theorem dX7_shiftsRuns_83 : dk cX7_shiftsRuns 83 84 (.iadd) 1 := by unfold dk; decide +kernel
theorem dX7_shiftsRuns_84 : dk cX7_shiftsRuns 84 85 (.iaload) 1 := by unfold dk; decide +kernel
theorem dX7_shiftsRuns_85 : dk cX7_shiftsRuns 85 86 (.aload_n 0) 1 := by unfold dk; decide +kernel
theorem dX7_shiftsRuns_86 : dk cX7_shiftsRuns 86 89 (.getfield 9) 3 := by unfold dk; decide +kernel
theorem dX7_shiftsRuns_89 : dk cX7_shiftsRuns 89 92 (.sipush 1227) 3 := by unfold dk; decide +kernel
theorem dX7_shiftsRuns_92 : dk cX7_shiftsRuns 92 93 (.iload_n 3) 1 := by unfold dk; decide +kernel
theorem dX7_shiftsRuns_93 : dk cX7_shiftsRuns 93 94 (.iadd) 1 := by unfold dk; decide +kernel
theorem dX7_shiftsRuns_94 : dk cX7_shiftsRuns 94 95 (.iaload) 1 := by unfold dk; decide +kernel
theorem dX7_shiftsRuns_98 : dk cX7_shiftsRuns 98 99 (.aload_n 0) 1 := by unfold dk; decide +kernel
theorem dX7_shiftsRuns_99 : dk cX7_shiftsRuns 99 102 (.getfield 9) 3 := by unfold dk; decide +kernel
theorem dX7_shiftsRuns_102 : dk cX7_shiftsRuns 102 105 (.sipush 1927) 3 := by unfold dk; decide +kernel
theorem dX7_shiftsRuns_105 : dk cX7_shiftsRuns 105 106 (.aload_n 0) 1 := by unfold dk; decide +kernel
theorem dX7_shiftsRuns_106 : dk cX7_shiftsRuns 106 109 (.getfield 45) 3 := by unfold dk; decide +kernel
theorem dX7_shiftsRuns_109 : dk cX7_shiftsRuns 109 111 (.iload 5) 2 := by unfold dk; decide +kernel
theorem dX7_shiftsRuns_111 : dk cX7_shiftsRuns 111 112 (.iaload) 1 := by unfold dk; decide +kernel
theorem dX7_shiftsRuns_112 : dk cX7_shiftsRuns 112 113 (.iadd) 1 := by unfold dk; decide +kernel
theorem dX7_shiftsRuns_113 : dk cX7_shiftsRuns 113 114 (.iaload) 1 := by unfold dk; decide +kernel
theorem dX7_shiftsRuns_114 : bk cX7_shiftsRuns 114 117 118 (.goto 4) (4) := by unfold bk; decide +kernel
theorem dX7_shiftsRuns_95 : bk cX7_shiftsRuns 95 98 117 (.if_icmp .ge 22) (22) := by unfold bk; decide +kernel
theorem dX7_shiftsRuns_66 : bk cX7_shiftsRuns 66 69 117 (.if_icmp .eq 51) (51) := by unfold bk; decide +kernel
theorem dX7_shiftsRuns_118 : dk cX7_shiftsRuns 118 119 (.iadd) 1 := by unfold dk; decide +kernel
theorem dX7_shiftsRuns_119 : dk cX7_shiftsRuns 119 121 (.istore 4) 2 := by unfold dk; decide +kernel
theorem dX7_shiftsRuns_121 : dk cX7_shiftsRuns 121 124 (.iinc 5 1) 3 := by unfold dk; decide +kernel
theorem dX7_shiftsRuns_124 : bk cX7_shiftsRuns 124 127 38 (.goto (-86)) (-86) := by unfold bk; decide +kernel
theorem dX7_shiftsRuns_42 : bk cX7_shiftsRuns 42 45 127 (.if_icmp .ge 85) (85) := by unfold bk; decide +kernel
theorem dX7_shiftsRuns_127 : dk cX7_shiftsRuns 127 128 (.aload_n 0) 1 := by unfold dk; decide +kernel
theorem dX7_shiftsRuns_128 : dk cX7_shiftsRuns 128 131 (.getfield 51) 3 := by unfold dk; decide +kernel
theorem dX7_shiftsRuns_131 : dk cX7_shiftsRuns 131 132 (.iload_n 3) 1 := by unfold dk; decide +kernel
theorem dX7_shiftsRuns_132 : dk cX7_shiftsRuns 132 134 (.iload 4) 2 := by unfold dk; decide +kernel
theorem dX7_shiftsRuns_134 : dk cX7_shiftsRuns 134 135 (.iastore) 1 := by unfold dk; decide +kernel
theorem dX7_shiftsRuns_135 : dk cX7_shiftsRuns 135 138 (.iinc 2 1) 3 := by unfold dk; decide +kernel
theorem dX7_shiftsRuns_138 : bk cX7_shiftsRuns 138 141 12 (.goto (-126)) (-126) := by unfold bk; decide +kernel
theorem dX7_shiftsRuns_22 : bk cX7_shiftsRuns 22 25 141 (.if_icmp .ge 119) (119) := by unfold bk; decide +kernel
theorem dX7_shiftsRuns_141 : dk cX7_shiftsRuns 141 144 (.iinc 1 1) 3 := by unfold dk; decide +kernel
theorem dX7_shiftsRuns_144 : bk cX7_shiftsRuns 144 147 2 (.goto (-142)) (-142) := by unfold bk; decide +kernel
theorem dX7_shiftsRuns_7 : bk cX7_shiftsRuns 7 10 147 (.if_icmp .ge 140) (140) := by unfold bk; decide +kernel
theorem dX7_shiftsRuns_147 : dk cX7_shiftsRuns 147 148 (.iconst 0) 1 := by unfold dk; decide +kernel
theorem dX7_shiftsRuns_148 : dk cX7_shiftsRuns 148 149 (.istore_n 1) 1 := by unfold dk; decide +kernel
theorem dX7_shiftsRuns_149 : dk cX7_shiftsRuns 149 150 (.iload_n 1) 1 := by unfold dk; decide +kernel
theorem dX7_shiftsRuns_150 : dk cX7_shiftsRuns 150 151 (.aload_n 0) 1 := by unfold dk; decide +kernel
theorem dX7_shiftsRuns_151 : dk cX7_shiftsRuns 151 154 (.invokevirtual 155) 3 := by unfold dk; decide +kernel
theorem dX7_shiftsRuns_157 : dk cX7_shiftsRuns 157 158 (.iconst 0) 1 := by unfold dk; decide +kernel
theorem dX7_shiftsRuns_158 : dk cX7_shiftsRuns 158 159 (.istore_n 2) 1 := by unfold dk; decide +kernel
theorem dX7_shiftsRuns_159 : dk cX7_shiftsRuns 159 160 (.iload_n 2) 1 := by unfold dk; decide +kernel
theorem dX7_shiftsRuns_160 : dk cX7_shiftsRuns 160 161 (.aload_n 0) 1 := by unfold dk; decide +kernel
theorem dX7_shiftsRuns_161 : dk cX7_shiftsRuns 161 164 (.getfield 9) 3 := by unfold dk; decide +kernel
theorem dX7_shiftsRuns_164 : dk cX7_shiftsRuns 164 166 (.bipush 20) 2 := by unfold dk; decide +kernel
theorem dX7_shiftsRuns_166 : dk cX7_shiftsRuns 166 167 (.iload_n 1) 1 := by unfold dk; decide +kernel
theorem dX7_shiftsRuns_167 : dk cX7_shiftsRuns 167 168 (.iadd) 1 := by unfold dk; decide +kernel
theorem dX7_shiftsRuns_168 : dk cX7_shiftsRuns 168 169 (.iaload) 1 := by unfold dk; decide +kernel
theorem dX7_shiftsRuns_172 : dk cX7_shiftsRuns 172 173 (.aload_n 0) 1 := by unfold dk; decide +kernel
theorem dX7_shiftsRuns_173 : dk cX7_shiftsRuns 173 176 (.getfield 9) 3 := by unfold dk; decide +kernel
theorem dX7_shiftsRuns_176 : dk cX7_shiftsRuns 176 179 (.sipush 1227) 3 := by unfold dk; decide +kernel
theorem dX7_shiftsRuns_179 : dk cX7_shiftsRuns 179 180 (.aload_n 0) 1 := by unfold dk; decide +kernel
theorem dX7_shiftsRuns_180 : dk cX7_shiftsRuns 180 181 (.iload_n 1) 1 := by unfold dk; decide +kernel
theorem dX7_shiftsRuns_181 : dk cX7_shiftsRuns 181 182 (.iload_n 2) 1 := by unfold dk; decide +kernel
theorem dX7_shiftsRuns_182 : dk cX7_shiftsRuns 182 185 (.invokevirtual 168) 3 := by unfold dk; decide +kernel
theorem dX7_shiftsRuns_185 : dk cX7_shiftsRuns 185 186 (.iadd) 1 := by unfold dk; decide +kernel
theorem dX7_shiftsRuns_186 : dk cX7_shiftsRuns 186 187 (.dup2) 1 := by unfold dk; decide +kernel
theorem dX7_shiftsRuns_187 : dk cX7_shiftsRuns 187 188 (.iaload) 1 := by unfold dk; decide +kernel
theorem dX7_shiftsRuns_188 : dk cX7_shiftsRuns 188 189 (.aload_n 0) 1 := by unfold dk; decide +kernel
theorem dX7_shiftsRuns_189 : dk cX7_shiftsRuns 189 192 (.getfield 51) 3 := by unfold dk; decide +kernel
theorem dX7_shiftsRuns_192 : dk cX7_shiftsRuns 192 193 (.aload_n 0) 1 := by unfold dk; decide +kernel
theorem dX7_shiftsRuns_193 : dk cX7_shiftsRuns 193 194 (.iload_n 1) 1 := by unfold dk; decide +kernel
theorem dX7_shiftsRuns_194 : dk cX7_shiftsRuns 194 195 (.iload_n 2) 1 := by unfold dk; decide +kernel
theorem dX7_shiftsRuns_195 : dk cX7_shiftsRuns 195 198 (.invokevirtual 168) 3 := by unfold dk; decide +kernel
theorem dX7_shiftsRuns_198 : dk cX7_shiftsRuns 198 199 (.iaload) 1 := by unfold dk; decide +kernel
theorem dX7_shiftsRuns_199 : dk cX7_shiftsRuns 199 200 (.isub) 1 := by unfold dk; decide +kernel
theorem dX7_shiftsRuns_200 : dk cX7_shiftsRuns 200 201 (.iastore) 1 := by unfold dk; decide +kernel
theorem dX7_shiftsRuns_201 : dk cX7_shiftsRuns 201 204 (.iinc 2 1) 3 := by unfold dk; decide +kernel
theorem dX7_shiftsRuns_204 : bk cX7_shiftsRuns 204 207 159 (.goto (-45)) (-45) := by unfold bk; decide +kernel
theorem dX7_shiftsRuns_169 : bk cX7_shiftsRuns 169 172 207 (.if_icmp .ge 38) (38) := by unfold bk; decide +kernel
theorem dX7_shiftsRuns_207 : dk cX7_shiftsRuns 207 210 (.iinc 1 1) 3 := by unfold dk; decide +kernel
theorem dX7_shiftsRuns_210 : bk cX7_shiftsRuns 210 213 149 (.goto (-61)) (-61) := by unfold bk; decide +kernel
theorem dX7_shiftsRuns_154 : bk cX7_shiftsRuns 154 157 213 (.if_icmp .ge 59) (59) := by unfold bk; decide +kernel
theorem dX7_shiftsRuns_213 : dk cX7_shiftsRuns 213 214 (.return_) 1 := by unfold dk; decide +kernel
set_option maxHeartbeats 4000000 in
set_option maxRecDepth 100000 in
theorem kX7_shiftsRuns {l : Launch} {G : Gl} {E : En} {a0 : Nat} {σ σ' : Sg} : fX7_shiftsRuns E a0 σ = some σ' → CT l yX7_shiftsRuns cX7_shiftsRuns 6 none ({ frames := 1, cells := 0, slots := 0, locals := 22 } : Room) [.ref (G.1 + a0)] G E σ none σ' := by
  intro h
  refine CT_of (lv0 := [(0, .ref (G.1 + a0))]) (by decide) (Nat.le_of_ble_eq_true rfl) rfl (fun κ hl hR hr C => ?_)
  have C : Cx κ G cX7_shiftsRuns RX7 6 := C
  revert h
  unfold fX7_shiftsRuns
  refine R_tk (fun ha0 => ?_)
  refine R_iconst C (0) dX7_shiftsRuns_0 (by decide) ?_
  refine R_istore_n (lv2 := [(1, .int (0 : Int32)), (0, .ref (G.1 + a0))]) C dX7_shiftsRuns_1 rfl (by decide) rfl ?_
  refine R_loc (lv2 := [(0, .ref (G.1 + a0)), (1, .int (0 : Int32))]) [1, 0] rfl ?_
  refine R_loop (fun (a : (Int32) × Sg) => V κ G (QQ κ G E none σ') E a.2 (false, 0, 0) 2 [(0, .ref (G.1 + a0)), (1, .int a.1)] []) (fun (o : (Int32)) (s : Sg) => V κ G (QQ κ G E none σ') E s (false, 0, 0) 147 [(0, .ref (G.1 + a0))] []) ((0 : Int32), σ) (fun o49 s50 => ?_) (fun rec I6 a b4 s5 K3 => ?_)
  · refine R_iconst C (0) dX7_shiftsRuns_147 (by decide) ?_
    refine R_istore_n (lv2 := [(1, .int (0 : Int32)), (0, .ref (G.1 + a0))]) C dX7_shiftsRuns_148 rfl (by decide) rfl ?_
    refine R_loc (lv2 := [(0, .ref (G.1 + a0)), (1, .int (0 : Int32))]) [1, 0] rfl ?_
    refine R_loop (fun (a : (Int32) × Sg) => V κ G (QQ κ G E none σ') E a.2 (false, 0, 0) 149 [(0, .ref (G.1 + a0)), (1, .int a.1)] []) (fun (o : (Int32)) (s : Sg) => V κ G (QQ κ G E none σ') E s (false, 0, 0) 213 [] []) ((0 : Int32), s50) (fun o83 s84 => ?_) (fun rec I56 a b54 s55 K53 => ?_)
    · exact R_vret C hr dX7_shiftsRuns_213
    · obtain ⟨v51, s52⟩ := a
      show bX7_shiftsRuns_149 E a0 (fun u0 t => rec (u0, t)) v51 s52 = some (b54, s55) → V κ G (QQ κ G E none σ') E s52 (false, 0, 0) 149 [(0, .ref (G.1 + a0)), (1, .int v51)] []
      unfold bX7_shiftsRuns_149
      refine R_iload_n C 1 rfl dX7_shiftsRuns_149 ?_
      refine R_aload_n C 0 rfl dX7_shiftsRuns_150 ?_
      refine R_bd (fun r59 s57 q58 => ?_)
      refine R_callVi [] [.int v51] C ml7_155 (kX7_tapes q58) (by rw [hR]; exact ⟨rfl, rfl, Nat.le_of_ble_eq_true rfl, Nat.le_of_ble_eq_true rfl, Nat.zero_le _, Nat.zero_le _⟩) ha0 rfl rfl (Nat.le_of_ble_eq_true rfl) dX7_shiftsRuns_151 ?_
      refine B_icmp_ge C dX7_shiftsRuns_154 ?_ ?_
      · refine R_loc (lv2 := []) [] rfl ?_
        exact R_end (fun (o : (Int32)) (s : Sg) => V κ G (QQ κ G E none σ') E s (false, 0, 0) 213 [] []) K53
      · refine R_iconst C (0) dX7_shiftsRuns_157 (by decide) ?_
        refine R_istore_n (lv2 := [(2, .int (0 : Int32)), (0, .ref (G.1 + a0)), (1, .int v51)]) C dX7_shiftsRuns_158 rfl (by decide) rfl ?_
        refine R_loc (lv2 := [(0, .ref (G.1 + a0)), (1, .int v51), (2, .int (0 : Int32))]) [1, 2, 0] rfl ?_
        refine R_loop (fun (a : (Int32) × Sg) => V κ G (QQ κ G E none σ') E a.2 (false, 0, 0) 159 [(0, .ref (G.1 + a0)), (1, .int v51), (2, .int a.1)] []) (fun (o : (Int32)) (s : Sg) => V κ G (QQ κ G E none σ') E s (false, 0, 0) 207 [(0, .ref (G.1 + a0)), (1, .int v51)] []) ((0 : Int32), s57) (fun o80 s81 => ?_) (fun rec I65 a b63 s64 K62 => ?_)
        · refine S_iinc (fun v82 => [(1, .int v82), (0, .ref (G.1 + a0))]) 1 C dX7_shiftsRuns_207 rfl (by decide) (by decide) (fun _ => rfl) (fun v82 => ?_)
          refine R_goto C dX7_shiftsRuns_210 ?_
          refine R_loc (lv2 := [(0, .ref (G.1 + a0)), (1, .int v82)]) [1, 0] rfl ?_
          exact I56 (v82, s81) b54 s55 K53
        · obtain ⟨v60, s61⟩ := a
          show bX7_shiftsRuns_159 E a0 v51 (fun u0 t => rec (u0, t)) v60 s61 = some (b63, s64) → V κ G (QQ κ G E none σ') E s61 (false, 0, 0) 159 [(0, .ref (G.1 + a0)), (1, .int v51), (2, .int v60)] []
          unfold bX7_shiftsRuns_159
          refine R_iload_n C 2 rfl dX7_shiftsRuns_159 ?_
          refine R_aload_n C 0 rfl dX7_shiftsRuns_160 ?_
          refine R_dr (fun x66 rx66 cx66 => ?_)
          refine R_getr C fl7_9 rfl ha0 rx66 dX7_shiftsRuns_161 ?_
          refine R_bipush C (20) dX7_shiftsRuns_164 (by decide) ?_
          refine R_iload_n C 1 rfl dX7_shiftsRuns_166 ?_
          refine R_iadd C dX7_shiftsRuns_167 ?_
          refine R_ck (fun h67 => ?_)
          refine R_iald C cx66 h67 dX7_shiftsRuns_168 ?_
          refine B_icmp_ge C dX7_shiftsRuns_169 ?_ ?_
          · refine R_loc (lv2 := [(0, .ref (G.1 + a0)), (1, .int v51)]) [0, 1] rfl ?_
            exact R_end (fun (o : (Int32)) (s : Sg) => V κ G (QQ κ G E none σ') E s (false, 0, 0) 207 [(0, .ref (G.1 + a0)), (1, .int v51)] []) K62
          · refine R_aload_n C 0 rfl dX7_shiftsRuns_172 ?_
            refine R_getr C fl7_9 rfl ha0 rx66 dX7_shiftsRuns_173 ?_
            refine R_sipush C (1227) dX7_shiftsRuns_176 (by decide) ?_
            refine R_aload_n C 0 rfl dX7_shiftsRuns_179 ?_
            refine R_iload_n C 1 rfl dX7_shiftsRuns_180 ?_
            refine R_iload_n C 2 rfl dX7_shiftsRuns_181 ?_
            refine R_bd (fun r70 s68 q69 => ?_)
            refine R_callVi [.int v51, .int v60] [.int (1227 : Int32), .ref (G.1 + x66)] C ml7_168 (kX7_runAt q69) (by rw [hR]; exact ⟨rfl, rfl, Nat.le_of_ble_eq_true rfl, Nat.le_of_ble_eq_true rfl, Nat.zero_le _, Nat.zero_le _⟩) ha0 rfl rfl (Nat.le_of_ble_eq_true rfl) dX7_shiftsRuns_182 ?_
            refine R_iadd C dX7_shiftsRuns_185 ?_
            refine R_dup2 C dX7_shiftsRuns_186 rfl rfl ?_
            refine R_ck (fun h71 => ?_)
            refine R_iald C cx66 h71 dX7_shiftsRuns_187 ?_
            refine R_aload_n C 0 rfl dX7_shiftsRuns_188 ?_
            refine R_dr (fun x72 rx72 cx72 => ?_)
            refine R_getr C fl7_51 rfl ha0 rx72 dX7_shiftsRuns_189 ?_
            refine R_aload_n C 0 rfl dX7_shiftsRuns_192 ?_
            refine R_iload_n C 1 rfl dX7_shiftsRuns_193 ?_
            refine R_iload_n C 2 rfl dX7_shiftsRuns_194 ?_
            refine R_bd (fun r75 s73 q74 => ?_)
            refine R_callVi [.int v51, .int v60] [.ref (G.1 + x72), .int (gi s68 x66 ((1227 : Int32) + r70).toNatClampNeg), .int ((1227 : Int32) + r70), .ref (G.1 + x66)] C ml7_168 (kX7_runAt q74) (by rw [hR]; exact ⟨rfl, rfl, Nat.le_of_ble_eq_true rfl, Nat.le_of_ble_eq_true rfl, Nat.zero_le _, Nat.zero_le _⟩) ha0 rfl rfl (Nat.le_of_ble_eq_true rfl) dX7_shiftsRuns_195 ?_
            refine R_ck (fun h76 => ?_)
            refine R_iald C cx72 h76 dX7_shiftsRuns_198 ?_
            refine R_isub C dX7_shiftsRuns_199 ?_
            refine R_ck (fun h77 => ?_)
            refine S_iast C cx66 h77 dX7_shiftsRuns_200 (fun s78 => ?_)
            refine S_iinc (fun v79 => [(2, .int v79), (0, .ref (G.1 + a0)), (1, .int v51)]) 2 C dX7_shiftsRuns_201 rfl (by decide) (by decide) (fun _ => rfl) (fun v79 => ?_)
            refine R_goto C dX7_shiftsRuns_204 ?_
            refine R_loc (lv2 := [(0, .ref (G.1 + a0)), (1, .int v51), (2, .int v79)]) [1, 2, 0] rfl ?_
            exact I65 (v79, s78) b63 s64 K62
  · obtain ⟨v1, s2⟩ := a
    show bX7_shiftsRuns_2 E a0 (fun u0 t => rec (u0, t)) v1 s2 = some (b4, s5) → V κ G (QQ κ G E none σ') E s2 (false, 0, 0) 2 [(0, .ref (G.1 + a0)), (1, .int v1)] []
    unfold bX7_shiftsRuns_2
    refine R_iload_n C 1 rfl dX7_shiftsRuns_2 ?_
    refine R_aload_n C 0 rfl dX7_shiftsRuns_3 ?_
    refine R_bd (fun r9 s7 q8 => ?_)
    refine R_callVi [] [.int v1] C ml7_155 (kX7_tapes q8) (by rw [hR]; exact ⟨rfl, rfl, Nat.le_of_ble_eq_true rfl, Nat.le_of_ble_eq_true rfl, Nat.zero_le _, Nat.zero_le _⟩) ha0 rfl rfl (Nat.le_of_ble_eq_true rfl) dX7_shiftsRuns_4 ?_
    refine B_icmp_ge C dX7_shiftsRuns_7 ?_ ?_
    · refine R_loc (lv2 := [(0, .ref (G.1 + a0))]) [0] rfl ?_
      exact R_end (fun (o : (Int32)) (s : Sg) => V κ G (QQ κ G E none σ') E s (false, 0, 0) 147 [(0, .ref (G.1 + a0))] []) K3
    · refine R_iconst C (0) dX7_shiftsRuns_10 (by decide) ?_
      refine R_istore_n (lv2 := [(2, .int (0 : Int32)), (0, .ref (G.1 + a0)), (1, .int v1)]) C dX7_shiftsRuns_11 rfl (by decide) rfl ?_
      refine R_loc (lv2 := [(0, .ref (G.1 + a0)), (1, .int v1), (2, .int (0 : Int32))]) [1, 2, 0] rfl ?_
      refine R_loop (fun (a : (Int32) × Sg) => V κ G (QQ κ G E none σ') E a.2 (false, 0, 0) 12 [(0, .ref (G.1 + a0)), (1, .int v1), (2, .int a.1)] []) (fun (o : (Int32)) (s : Sg) => V κ G (QQ κ G E none σ') E s (false, 0, 0) 141 [(0, .ref (G.1 + a0)), (1, .int v1)] []) ((0 : Int32), s7) (fun o46 s47 => ?_) (fun rec I15 a b13 s14 K12 => ?_)
      · refine S_iinc (fun v48 => [(1, .int v48), (0, .ref (G.1 + a0))]) 1 C dX7_shiftsRuns_141 rfl (by decide) (by decide) (fun _ => rfl) (fun v48 => ?_)
        refine R_goto C dX7_shiftsRuns_144 ?_
        refine R_loc (lv2 := [(0, .ref (G.1 + a0)), (1, .int v48)]) [1, 0] rfl ?_
        exact I6 (v48, s47) b4 s5 K3
      · obtain ⟨v10, s11⟩ := a
        show bX7_shiftsRuns_12 E a0 v1 (fun u0 t => rec (u0, t)) v10 s11 = some (b13, s14) → V κ G (QQ κ G E none σ') E s11 (false, 0, 0) 12 [(0, .ref (G.1 + a0)), (1, .int v1), (2, .int v10)] []
        unfold bX7_shiftsRuns_12
        refine R_iload_n C 2 rfl dX7_shiftsRuns_12 ?_
        refine R_aload_n C 0 rfl dX7_shiftsRuns_13 ?_
        refine R_dr (fun x16 rx16 cx16 => ?_)
        refine R_getr C fl7_9 rfl ha0 rx16 dX7_shiftsRuns_14 ?_
        refine R_bipush C (20) dX7_shiftsRuns_17 (by decide) ?_
        refine R_iload_n C 1 rfl dX7_shiftsRuns_19 ?_
        refine R_iadd C dX7_shiftsRuns_20 ?_
        refine R_ck (fun h17 => ?_)
        refine R_iald C cx16 h17 dX7_shiftsRuns_21 ?_
        refine B_icmp_ge C dX7_shiftsRuns_22 ?_ ?_
        · refine R_loc (lv2 := [(0, .ref (G.1 + a0)), (1, .int v1)]) [0, 1] rfl ?_
          exact R_end (fun (o : (Int32)) (s : Sg) => V κ G (QQ κ G E none σ') E s (false, 0, 0) 141 [(0, .ref (G.1 + a0)), (1, .int v1)] []) K12
        · refine R_aload_n C 0 rfl dX7_shiftsRuns_25 ?_
          refine R_iload_n C 1 rfl dX7_shiftsRuns_26 ?_
          refine R_iload_n C 2 rfl dX7_shiftsRuns_27 ?_
          refine R_bd (fun r20 s18 q19 => ?_)
          refine R_callVi [.int v1, .int v10] [] C ml7_168 (kX7_runAt q19) (by rw [hR]; exact ⟨rfl, rfl, Nat.le_of_ble_eq_true rfl, Nat.le_of_ble_eq_true rfl, Nat.zero_le _, Nat.zero_le _⟩) ha0 rfl rfl (Nat.le_of_ble_eq_true rfl) dX7_shiftsRuns_28 ?_
          refine R_istore_n (lv2 := [(3, .int r20), (0, .ref (G.1 + a0)), (1, .int v1), (2, .int v10)]) C dX7_shiftsRuns_31 rfl (by decide) rfl ?_
          refine R_iconst C (0) dX7_shiftsRuns_32 (by decide) ?_
          refine R_istore (lv2 := [(4, .int (0 : Int32)), (3, .int r20), (0, .ref (G.1 + a0)), (1, .int v1), (2, .int v10)]) C dX7_shiftsRuns_33 (by decide) rfl ?_
          refine R_iconst C (0) dX7_shiftsRuns_35 (by decide) ?_
          refine R_istore (lv2 := [(5, .int (0 : Int32)), (4, .int (0 : Int32)), (3, .int r20), (0, .ref (G.1 + a0)), (1, .int v1), (2, .int v10)]) C dX7_shiftsRuns_36 (by decide) rfl ?_
          refine R_loc (lv2 := [(3, .int r20), (0, .ref (G.1 + a0)), (1, .int v1), (2, .int v10), (4, .int (0 : Int32)), (5, .int (0 : Int32))]) [2, 3, 4, 5, 1, 0] rfl ?_
          refine R_loop (fun (a : (Int32 × Int32) × Sg) => V κ G (QQ κ G E none σ') E a.2 (false, 0, 0) 38 [(3, .int r20), (0, .ref (G.1 + a0)), (1, .int v1), (2, .int v10), (4, .int a.1.1), (5, .int a.1.2)] []) (fun (o : (Int32 × Int32)) (s : Sg) => V κ G (QQ κ G E none σ') E s (false, 0, 0) 127 [(3, .int r20), (0, .ref (G.1 + a0)), (1, .int v1), (2, .int v10), (4, .int o.1)] []) (((0 : Int32), (0 : Int32)), s18) (fun o40 s41 => ?_) (fun rec I27 a b25 s26 K24 => ?_)
          · refine R_aload_n C 1 rfl dX7_shiftsRuns_127 ?_
            refine R_dr (fun x42 rx42 cx42 => ?_)
            refine R_getr C fl7_51 rfl ha0 rx42 dX7_shiftsRuns_128 ?_
            refine R_iload_n C 0 rfl dX7_shiftsRuns_131 ?_
            refine R_iload C 4 rfl dX7_shiftsRuns_132 ?_
            refine R_ck (fun h43 => ?_)
            refine S_iast C cx42 h43 dX7_shiftsRuns_134 (fun s44 => ?_)
            refine S_iinc (fun v45 => [(2, .int v45), (3, .int r20), (0, .ref (G.1 + a0)), (1, .int v1), (4, .int o40.1)]) 3 C dX7_shiftsRuns_135 rfl (by decide) (by decide) (fun _ => rfl) (fun v45 => ?_)
            refine R_goto C dX7_shiftsRuns_138 ?_
            refine R_loc (lv2 := [(0, .ref (G.1 + a0)), (1, .int v1), (2, .int v45)]) [2, 3, 0] rfl ?_
            exact I15 (v45, s44) b13 s14 K12
          · obtain ⟨⟨v21, v22⟩, s23⟩ := a
            show bX7_shiftsRuns_38 E a0 r20 x16 (fun u0 u1 t => rec ((u0, u1), t)) v21 v22 s23 = some (b25, s26) → V κ G (QQ κ G E none σ') E s23 (false, 0, 0) 38 [(3, .int r20), (0, .ref (G.1 + a0)), (1, .int v1), (2, .int v10), (4, .int v21), (5, .int v22)] []
            unfold bX7_shiftsRuns_38
            refine R_iload C 5 rfl dX7_shiftsRuns_38 ?_
            refine R_bipush C (6) dX7_shiftsRuns_40 (by decide) ?_
            refine B_icmp_ge C dX7_shiftsRuns_42 ?_ ?_
            · refine R_loc (lv2 := [(3, .int r20), (0, .ref (G.1 + a0)), (1, .int v1), (2, .int v10), (4, .int v21)]) [0, 1, 2, 3, 4] rfl ?_
              exact R_end (fun (o : (Int32 × Int32)) (s : Sg) => V κ G (QQ κ G E none σ') E s (false, 0, 0) 127 [(3, .int r20), (0, .ref (G.1 + a0)), (1, .int v1), (2, .int v10), (4, .int o.1)] []) K24
            · refine R_iload C 4 rfl dX7_shiftsRuns_45 ?_
              refine R_aload_n C 1 rfl dX7_shiftsRuns_47 ?_
              refine R_dr (fun x28 rx28 cx28 => ?_)
              refine R_getr C fl7_45 rfl ha0 rx28 dX7_shiftsRuns_48 ?_
              refine R_iload C 5 rfl dX7_shiftsRuns_51 ?_
              refine R_ck (fun h29 => ?_)
              refine R_iald C cx28 h29 dX7_shiftsRuns_53 ?_
              refine R_iconst C (-1) dX7_shiftsRuns_54 (by decide) ?_
              refine R_bdK (fun (w : Int32) (s : Sg) => V κ G (QQ κ G E none σ') E s (false, 0, 0) 118 [(3, .int r20), (0, .ref (G.1 + a0)), (1, .int v1), (2, .int v10), (5, .int v22)] [.int w, .int v21]) (fun w30 s31 => ?_) (fun w30 s31 Kw30 => ?_)
              · refine R_iadd C dX7_shiftsRuns_118 ?_
                refine S_istore C dX7_shiftsRuns_119 (fun v38 => [(4, .int v38), (3, .int r20), (0, .ref (G.1 + a0)), (1, .int v1), (2, .int v10), (5, .int v22)]) (by decide) (fun _ => rfl) (fun v38 => ?_)
                refine S_iinc (fun v39 => [(5, .int v39), (4, .int v38), (3, .int r20), (0, .ref (G.1 + a0)), (1, .int v1), (2, .int v10)]) 5 C dX7_shiftsRuns_121 rfl (by decide) (by decide) (fun _ => rfl) (fun v39 => ?_)
                refine R_goto C dX7_shiftsRuns_124 ?_
                refine R_loc (lv2 := [(3, .int r20), (0, .ref (G.1 + a0)), (1, .int v1), (2, .int v10), (4, .int v38), (5, .int v39)]) [2, 3, 4, 5, 1, 0] rfl ?_
                exact I27 ((v38, v39), s31) b25 s26 K24
              · refine B_icmp_eq C dX7_shiftsRuns_55 ?_ ?_
                · refine R_iconst C (0) dX7_shiftsRuns_117 (by decide) ?_
                  refine R_loc (lv2 := [(3, .int r20), (0, .ref (G.1 + a0)), (1, .int v1), (2, .int v10), (5, .int v22)]) [0, 1, 2, 3, 5] rfl ?_
                  exact R_end (fun (w : Int32) (s : Sg) => V κ G (QQ κ G E none σ') E s (false, 0, 0) 118 [(3, .int r20), (0, .ref (G.1 + a0)), (1, .int v1), (2, .int v10), (5, .int v22)] [.int w, .int v21]) Kw30
                · refine R_aload_n C 1 rfl dX7_shiftsRuns_58 ?_
                  refine R_getr C fl7_45 rfl ha0 rx28 dX7_shiftsRuns_59 ?_
                  refine R_iload C 5 rfl dX7_shiftsRuns_62 ?_
                  refine R_ck (fun h32 => ?_)
                  refine R_iald C cx28 h32 dX7_shiftsRuns_64 ?_
                  refine R_iload_n C 0 rfl dX7_shiftsRuns_65 ?_
                  refine B_icmp_eq C dX7_shiftsRuns_66 ?_ ?_
                  · refine R_iconst C (0) dX7_shiftsRuns_117 (by decide) ?_
                    refine R_loc (lv2 := [(3, .int r20), (0, .ref (G.1 + a0)), (1, .int v1), (2, .int v10), (5, .int v22)]) [0, 1, 2, 3, 5] rfl ?_
                    exact R_end (fun (w : Int32) (s : Sg) => V κ G (QQ κ G E none σ') E s (false, 0, 0) 118 [(3, .int r20), (0, .ref (G.1 + a0)), (1, .int v1), (2, .int v10), (5, .int v22)] [.int w, .int v21]) Kw30
                  · refine R_aload_n C 1 rfl dX7_shiftsRuns_69 ?_
                    refine R_getr C fl7_9 rfl ha0 rx16 dX7_shiftsRuns_70 ?_
                    refine R_sipush C (1227) dX7_shiftsRuns_73 (by decide) ?_
                    refine R_aload_n C 1 rfl dX7_shiftsRuns_76 ?_
                    refine R_getr C fl7_45 rfl ha0 rx28 dX7_shiftsRuns_77 ?_
                    refine R_iload C 5 rfl dX7_shiftsRuns_80 ?_
                    refine R_ck (fun h33 => ?_)
                    refine R_iald C cx28 h33 dX7_shiftsRuns_82 ?_
                    refine R_iadd C dX7_shiftsRuns_83 ?_
                    refine R_ck (fun h34 => ?_)
                    refine R_iald C cx16 h34 dX7_shiftsRuns_84 ?_
                    refine R_aload_n C 1 rfl dX7_shiftsRuns_85 ?_
                    refine R_getr C fl7_9 rfl ha0 rx16 dX7_shiftsRuns_86 ?_
                    refine R_sipush C (1227) dX7_shiftsRuns_89 (by decide) ?_
                    refine R_iload_n C 0 rfl dX7_shiftsRuns_92 ?_
                    refine R_iadd C dX7_shiftsRuns_93 ?_
                    refine R_ck (fun h35 => ?_)
                    refine R_iald C cx16 h35 dX7_shiftsRuns_94 ?_
                    refine B_icmp_ge C dX7_shiftsRuns_95 ?_ ?_
                    · refine R_iconst C (0) dX7_shiftsRuns_117 (by decide) ?_
                      refine R_loc (lv2 := [(3, .int r20), (0, .ref (G.1 + a0)), (1, .int v1), (2, .int v10), (5, .int v22)]) [0, 1, 2, 3, 5] rfl ?_
                      exact R_end (fun (w : Int32) (s : Sg) => V κ G (QQ κ G E none σ') E s (false, 0, 0) 118 [(3, .int r20), (0, .ref (G.1 + a0)), (1, .int v1), (2, .int v10), (5, .int v22)] [.int w, .int v21]) Kw30
                    · refine R_aload_n C 1 rfl dX7_shiftsRuns_98 ?_
                      refine R_getr C fl7_9 rfl ha0 rx16 dX7_shiftsRuns_99 ?_
                      refine R_sipush C (1927) dX7_shiftsRuns_102 (by decide) ?_
                      refine R_aload_n C 1 rfl dX7_shiftsRuns_105 ?_
                      refine R_getr C fl7_45 rfl ha0 rx28 dX7_shiftsRuns_106 ?_
                      refine R_iload C 5 rfl dX7_shiftsRuns_109 ?_
                      refine R_ck (fun h36 => ?_)
                      refine R_iald C cx28 h36 dX7_shiftsRuns_111 ?_
                      refine R_iadd C dX7_shiftsRuns_112 ?_
                      refine R_ck (fun h37 => ?_)
                      refine R_iald C cx16 h37 dX7_shiftsRuns_113 ?_
                      refine R_goto C dX7_shiftsRuns_114 ?_
                      refine R_loc (lv2 := [(3, .int r20), (0, .ref (G.1 + a0)), (1, .int v1), (2, .int v10), (5, .int v22)]) [0, 1, 2, 3, 5] rfl ?_
                      exact R_end (fun (w : Int32) (s : Sg) => V κ G (QQ κ G E none σ') E s (false, 0, 0) 118 [(3, .int r20), (0, .ref (G.1 + a0)), (1, .int v1), (2, .int v10), (5, .int v22)] [.int w, .int v21]) Kw30
theorem dX7_gathers_0 : dk cX7_gathers 0 1 (.iconst 0) 1 := by unfold dk; decide +kernel
theorem dX7_gathers_1 : dk cX7_gathers 1 2 (.istore_n 1) 1 := by unfold dk; decide +kernel
theorem dX7_gathers_2 : dk cX7_gathers 2 3 (.iconst 0) 1 := by unfold dk; decide +kernel
theorem dX7_gathers_3 : dk cX7_gathers 3 4 (.istore_n 2) 1 := by unfold dk; decide +kernel
theorem dX7_gathers_4 : dk cX7_gathers 4 5 (.iconst 0) 1 := by unfold dk; decide +kernel
theorem dX7_gathers_5 : dk cX7_gathers 5 6 (.istore_n 3) 1 := by unfold dk; decide +kernel
theorem dX7_gathers_6 : dk cX7_gathers 6 7 (.iload_n 3) 1 := by unfold dk; decide +kernel
theorem dX7_gathers_7 : dk cX7_gathers 7 8 (.aload_n 0) 1 := by unfold dk; decide +kernel
theorem dX7_gathers_8 : dk cX7_gathers 8 11 (.invokevirtual 93) 3 := by unfold dk; decide +kernel
theorem dX7_gathers_14 : dk cX7_gathers 14 15 (.aload_n 0) 1 := by unfold dk; decide +kernel
theorem dX7_gathers_15 : dk cX7_gathers 15 16 (.iload_n 3) 1 := by unfold dk; decide +kernel
theorem dX7_gathers_16 : dk cX7_gathers 16 19 (.invokevirtual 228) 3 := by unfold dk; decide +kernel
theorem dX7_gathers_19 : bk cX7_gathers 19 22 44 (.ifCond .ne 25) (25) := by unfold bk; decide +kernel
theorem dX7_gathers_44 : dk cX7_gathers 44 47 (.iinc 1 1) 3 := by unfold dk; decide +kernel
theorem dX7_gathers_22 : dk cX7_gathers 22 23 (.aload_n 0) 1 := by unfold dk; decide +kernel
theorem dX7_gathers_23 : dk cX7_gathers 23 26 (.getfield 48) 3 := by unfold dk; decide +kernel
theorem dX7_gathers_26 : dk cX7_gathers 26 27 (.iload_n 2) 1 := by unfold dk; decide +kernel
theorem dX7_gathers_27 : dk cX7_gathers 27 28 (.aload_n 0) 1 := by unfold dk; decide +kernel
theorem dX7_gathers_28 : dk cX7_gathers 28 31 (.getfield 9) 3 := by unfold dk; decide +kernel
theorem dX7_gathers_31 : dk cX7_gathers 31 34 (.sipush 7527) 3 := by unfold dk; decide +kernel
theorem dX7_gathers_34 : dk cX7_gathers 34 35 (.iload_n 3) 1 := by unfold dk; decide +kernel
theorem dX7_gathers_35 : dk cX7_gathers 35 36 (.iadd) 1 := by unfold dk; decide +kernel
theorem dX7_gathers_36 : dk cX7_gathers 36 37 (.iaload) 1 := by unfold dk; decide +kernel
theorem dX7_gathers_37 : dk cX7_gathers 37 38 (.iastore) 1 := by unfold dk; decide +kernel
theorem dX7_gathers_38 : dk cX7_gathers 38 41 (.iinc 2 1) 3 := by unfold dk; decide +kernel
theorem dX7_gathers_41 : bk cX7_gathers 41 44 47 (.goto 6) (6) := by unfold bk; decide +kernel
theorem dX7_gathers_47 : dk cX7_gathers 47 50 (.iinc 3 1) 3 := by unfold dk; decide +kernel
theorem dX7_gathers_50 : bk cX7_gathers 50 53 6 (.goto (-44)) (-44) := by unfold bk; decide +kernel
theorem dX7_gathers_11 : bk cX7_gathers 11 14 53 (.if_icmp .ge 42) (42) := by unfold bk; decide +kernel
theorem dX7_gathers_53 : dk cX7_gathers 53 54 (.iload_n 2) 1 := by unfold dk; decide +kernel
theorem dX7_gathers_54 : dk cX7_gathers 54 55 (.istore_n 3) 1 := by unfold dk; decide +kernel
theorem dX7_gathers_55 : dk cX7_gathers 55 56 (.iconst 0) 1 := by unfold dk; decide +kernel
theorem dX7_gathers_56 : dk cX7_gathers 56 58 (.istore 4) 2 := by unfold dk; decide +kernel
theorem dX7_gathers_58 : dk cX7_gathers 58 60 (.iload 4) 2 := by unfold dk; decide +kernel
theorem dX7_gathers_60 : dk cX7_gathers 60 62 (.bipush 6) 2 := by unfold dk; decide +kernel
theorem dX7_gathers_65 : dk cX7_gathers 65 66 (.aload_n 0) 1 := by unfold dk; decide +kernel
theorem dX7_gathers_66 : dk cX7_gathers 66 69 (.getfield 45) 3 := by unfold dk; decide +kernel
theorem dX7_gathers_69 : dk cX7_gathers 69 71 (.iload 4) 2 := by unfold dk; decide +kernel
theorem dX7_gathers_71 : dk cX7_gathers 71 72 (.iaload) 1 := by unfold dk; decide +kernel
theorem dX7_gathers_72 : dk cX7_gathers 72 73 (.iconst (-1)) 1 := by unfold dk; decide +kernel
theorem dX7_gathers_73 : bk cX7_gathers 73 76 143 (.if_icmp .eq 70) (70) := by unfold bk; decide +kernel
theorem dX7_gathers_76 : dk cX7_gathers 76 77 (.iconst 0) 1 := by unfold dk; decide +kernel
theorem dX7_gathers_77 : dk cX7_gathers 77 79 (.istore 5) 2 := by unfold dk; decide +kernel
theorem dX7_gathers_79 : dk cX7_gathers 79 81 (.iload 5) 2 := by unfold dk; decide +kernel
theorem dX7_gathers_81 : dk cX7_gathers 81 82 (.aload_n 0) 1 := by unfold dk; decide +kernel
theorem dX7_gathers_82 : dk cX7_gathers 82 85 (.getfield 9) 3 := by unfold dk; decide +kernel
theorem dX7_gathers_85 : dk cX7_gathers 85 88 (.sipush 1927) 3 := by unfold dk; decide +kernel
theorem dX7_gathers_88 : dk cX7_gathers 88 89 (.aload_n 0) 1 := by unfold dk; decide +kernel
theorem dX7_gathers_89 : dk cX7_gathers 89 92 (.getfield 45) 3 := by unfold dk; decide +kernel
theorem dX7_gathers_92 : dk cX7_gathers 92 94 (.iload 4) 2 := by unfold dk; decide +kernel
theorem dX7_gathers_94 : dk cX7_gathers 94 95 (.iaload) 1 := by unfold dk; decide +kernel
theorem dX7_gathers_95 : dk cX7_gathers 95 96 (.iadd) 1 := by unfold dk; decide +kernel
theorem dX7_gathers_96 : dk cX7_gathers 96 97 (.iaload) 1 := by unfold dk; decide +kernel
theorem dX7_gathers_100 : dk cX7_gathers 100 101 (.aload_n 0) 1 := by unfold dk; decide +kernel
theorem dX7_gathers_101 : dk cX7_gathers 101 104 (.getfield 48) 3 := by unfold dk; decide +kernel
theorem dX7_gathers_104 : dk cX7_gathers 104 105 (.iload_n 3) 1 := by unfold dk; decide +kernel
theorem dX7_gathers_105 : dk cX7_gathers 105 106 (.aload_n 0) 1 := by unfold dk; decide +kernel
theorem dX7_gathers_106 : dk cX7_gathers 106 109 (.getfield 9) 3 := by unfold dk; decide +kernel
theorem dX7_gathers_109 : dk cX7_gathers 109 112 (.sipush 7527) 3 := by unfold dk; decide +kernel
theorem dX7_gathers_112 : dk cX7_gathers 112 113 (.aload_n 0) 1 := by unfold dk; decide +kernel
theorem dX7_gathers_113 : dk cX7_gathers 113 116 (.getfield 9) 3 := by unfold dk; decide +kernel
theorem dX7_gathers_116 : dk cX7_gathers 116 119 (.sipush 1227) 3 := by unfold dk; decide +kernel
theorem dX7_gathers_119 : dk cX7_gathers 119 120 (.aload_n 0) 1 := by unfold dk; decide +kernel
theorem dX7_gathers_120 : dk cX7_gathers 120 123 (.getfield 45) 3 := by unfold dk; decide +kernel
theorem dX7_gathers_123 : dk cX7_gathers 123 125 (.iload 4) 2 := by unfold dk; decide +kernel
theorem dX7_gathers_125 : dk cX7_gathers 125 126 (.iaload) 1 := by unfold dk; decide +kernel
theorem dX7_gathers_126 : dk cX7_gathers 126 127 (.iadd) 1 := by unfold dk; decide +kernel
theorem dX7_gathers_127 : dk cX7_gathers 127 128 (.iaload) 1 := by unfold dk; decide +kernel
theorem dX7_gathers_128 : dk cX7_gathers 128 129 (.iadd) 1 := by unfold dk; decide +kernel
theorem dX7_gathers_129 : dk cX7_gathers 129 131 (.iload 5) 2 := by unfold dk; decide +kernel
theorem dX7_gathers_131 : dk cX7_gathers 131 132 (.iadd) 1 := by unfold dk; decide +kernel
theorem dX7_gathers_132 : dk cX7_gathers 132 133 (.iaload) 1 := by unfold dk; decide +kernel
theorem dX7_gathers_133 : dk cX7_gathers 133 134 (.iastore) 1 := by unfold dk; decide +kernel
theorem dX7_gathers_134 : dk cX7_gathers 134 137 (.iinc 3 1) 3 := by unfold dk; decide +kernel
theorem dX7_gathers_137 : dk cX7_gathers 137 140 (.iinc 5 1) 3 := by unfold dk; decide +kernel
theorem dX7_gathers_140 : bk cX7_gathers 140 143 79 (.goto (-61)) (-61) := by unfold bk; decide +kernel
theorem dX7_gathers_97 : bk cX7_gathers 97 100 143 (.if_icmp .ge 46) (46) := by unfold bk; decide +kernel
theorem dX7_gathers_143 : dk cX7_gathers 143 146 (.iinc 4 1) 3 := by unfold dk; decide +kernel
theorem dX7_gathers_146 : bk cX7_gathers 146 149 58 (.goto (-88)) (-88) := by unfold bk; decide +kernel
theorem dX7_gathers_62 : bk cX7_gathers 62 65 149 (.if_icmp .ge 87) (87) := by unfold bk; decide +kernel
theorem dX7_gathers_149 : dk cX7_gathers 149 150 (.aload_n 0) 1 := by unfold dk; decide +kernel
theorem dX7_gathers_150 : dk cX7_gathers 150 153 (.invokevirtual 231) 3 := by unfold dk; decide +kernel
theorem dX7_gathers_153 : dk cX7_gathers 153 154 (.iconst 0) 1 := by unfold dk; decide +kernel
theorem dX7_gathers_154 : dk cX7_gathers 154 156 (.istore 4) 2 := by unfold dk; decide +kernel
theorem dX7_gathers_156 : dk cX7_gathers 156 158 (.iload 4) 2 := by unfold dk; decide +kernel
theorem dX7_gathers_158 : dk cX7_gathers 158 159 (.aload_n 0) 1 := by unfold dk; decide +kernel
theorem dX7_gathers_159 : dk cX7_gathers 159 162 (.invokevirtual 93) 3 := by unfold dk; decide +kernel
theorem dX7_gathers_165 : dk cX7_gathers 165 166 (.aload_n 0) 1 := by unfold dk; decide +kernel
theorem dX7_gathers_166 : dk cX7_gathers 166 169 (.getfield 9) 3 := by unfold dk; decide +kernel
theorem dX7_gathers_169 : dk cX7_gathers 169 172 (.sipush 7527) 3 := by unfold dk; decide +kernel
theorem dX7_gathers_172 : dk cX7_gathers 172 174 (.iload 4) 2 := by unfold dk; decide +kernel
theorem dX7_gathers_174 : dk cX7_gathers 174 175 (.iadd) 1 := by unfold dk; decide +kernel
theorem dX7_gathers_175 : dk cX7_gathers 175 176 (.aload_n 0) 1 := by unfold dk; decide +kernel
theorem dX7_gathers_176 : dk cX7_gathers 176 179 (.getfield 48) 3 := by unfold dk; decide +kernel
theorem dX7_gathers_179 : dk cX7_gathers 179 181 (.iload 4) 2 := by unfold dk; decide +kernel
theorem dX7_gathers_181 : dk cX7_gathers 181 182 (.iaload) 1 := by unfold dk; decide +kernel
theorem dX7_gathers_182 : dk cX7_gathers 182 183 (.iastore) 1 := by unfold dk; decide +kernel
theorem dX7_gathers_183 : dk cX7_gathers 183 186 (.iinc 4 1) 3 := by unfold dk; decide +kernel
theorem dX7_gathers_186 : bk cX7_gathers 186 189 156 (.goto (-30)) (-30) := by unfold bk; decide +kernel
theorem dX7_gathers_162 : bk cX7_gathers 162 165 189 (.if_icmp .ge 27) (27) := by unfold bk; decide +kernel
theorem dX7_gathers_189 : dk cX7_gathers 189 190 (.iload_n 2) 1 := by unfold dk; decide +kernel
theorem dX7_gathers_190 : dk cX7_gathers 190 191 (.ireturn) 1 := by unfold dk; decide +kernel
set_option maxHeartbeats 4000000 in
set_option maxRecDepth 100000 in
theorem kX7_gathers {l : Launch} {G : Gl} {E : En} {a0 : Nat} {σ σ' : Sg} {r : Int32} : fX7_gathers E a0 σ = some (r, σ') → CT l yX7_gathers cX7_gathers 6 (some .int) ({ frames := 2, cells := 0, slots := 0, locals := 47 } : Room) [.ref (G.1 + a0)] G E σ (some (.int r)) σ' := by
  intro h
  refine CT_of (lv0 := [(0, .ref (G.1 + a0))]) (by decide) (Nat.le_of_ble_eq_true rfl) rfl (fun κ hl hR hr C => ?_)
  have C : Cx κ G cX7_gathers RX7 6 := C
  revert h
  unfold fX7_gathers
  refine R_tk (fun ha0 => ?_)
  refine R_iconst C (0) dX7_gathers_0 (by decide) ?_
  refine R_istore_n (lv2 := [(1, .int (0 : Int32)), (0, .ref (G.1 + a0))]) C dX7_gathers_1 rfl (by decide) rfl ?_
  refine R_iconst C (0) dX7_gathers_2 (by decide) ?_
  refine R_istore_n (lv2 := [(2, .int (0 : Int32)), (1, .int (0 : Int32)), (0, .ref (G.1 + a0))]) C dX7_gathers_3 rfl (by decide) rfl ?_
  refine R_iconst C (0) dX7_gathers_4 (by decide) ?_
  refine R_istore_n (lv2 := [(3, .int (0 : Int32)), (2, .int (0 : Int32)), (1, .int (0 : Int32)), (0, .ref (G.1 + a0))]) C dX7_gathers_5 rfl (by decide) rfl ?_
  refine R_loc (lv2 := [(0, .ref (G.1 + a0)), (1, .int (0 : Int32)), (2, .int (0 : Int32)), (3, .int (0 : Int32))]) [3, 2, 1, 0] rfl ?_
  refine R_loop (fun (a : (Int32 × Int32 × Int32) × Sg) => V κ G (QQ κ G E (some (.int r)) σ') E a.2 (false, 0, 0) 6 [(0, .ref (G.1 + a0)), (1, .int a.1.1), (2, .int a.1.2.1), (3, .int a.1.2.2)] []) (fun (o : (Int32 × Int32 × Int32)) (s : Sg) => V κ G (QQ κ G E (some (.int r)) σ') E s (false, 0, 0) 53 [(0, .ref (G.1 + a0)), (2, .int o.2.1)] []) (((0 : Int32), (0 : Int32), (0 : Int32)), σ) (fun o25 s26 => ?_) (fun rec I8 a b6 s7 K5 => ?_)
  · refine R_iload_n C 1 rfl dX7_gathers_53 ?_
    refine S_istore_n C dX7_gathers_54 rfl (fun v27 => [(3, .int v27), (0, .ref (G.1 + a0)), (2, .int o25.2.1)]) (by decide) (fun _ => rfl) (fun v27 => ?_)
    refine R_iconst C (0) dX7_gathers_55 (by decide) ?_
    refine R_istore (lv2 := [(4, .int (0 : Int32)), (3, .int v27), (0, .ref (G.1 + a0)), (2, .int o25.2.1)]) C dX7_gathers_56 (by decide) rfl ?_
    refine R_loc (lv2 := [(0, .ref (G.1 + a0)), (2, .int o25.2.1), (3, .int v27), (4, .int (0 : Int32))]) [2, 3, 1, 0] rfl ?_
    refine R_loop (fun (a : (Int32 × Int32) × Sg) => V κ G (QQ κ G E (some (.int r)) σ') E a.2 (false, 0, 0) 58 [(0, .ref (G.1 + a0)), (2, .int o25.2.1), (3, .int a.1.1), (4, .int a.1.2)] []) (fun (o : (Int32 × Int32)) (s : Sg) => V κ G (QQ κ G E (some (.int r)) σ') E s (false, 0, 0) 149 [(0, .ref (G.1 + a0)), (2, .int o25.2.1)] []) ((v27, (0 : Int32)), s26) (fun o60 s61 => ?_) (fun rec I34 a b32 s33 K31 => ?_)
    · refine R_aload_n C 0 rfl dX7_gathers_149 ?_
      refine R_bv (fun s62 q63 => ?_)
      refine R_callVv [] [] C ml7_231 (kX7_shiftsRuns q63) (by rw [hR]; exact ⟨rfl, rfl, Nat.le_of_ble_eq_true rfl, Nat.le_of_ble_eq_true rfl, Nat.zero_le _, Nat.zero_le _⟩) ha0 rfl rfl (Nat.le_of_ble_eq_true rfl) dX7_gathers_150 ?_
      refine R_iconst C (0) dX7_gathers_153 (by decide) ?_
      refine R_istore (lv2 := [(4, .int (0 : Int32)), (0, .ref (G.1 + a0)), (2, .int o25.2.1)]) C dX7_gathers_154 (by decide) rfl ?_
      refine R_loc (lv2 := [(0, .ref (G.1 + a0)), (2, .int o25.2.1), (4, .int (0 : Int32))]) [1, 2, 0] rfl ?_
      refine R_loop (fun (a : (Int32) × Sg) => V κ G (QQ κ G E (some (.int r)) σ') E a.2 (false, 0, 0) 156 [(0, .ref (G.1 + a0)), (2, .int o25.2.1), (4, .int a.1)] []) (fun (o : (Int32)) (s : Sg) => V κ G (QQ κ G E (some (.int r)) σ') E s (false, 0, 0) 189 [(2, .int o25.2.1)] []) ((0 : Int32), s62) (fun o79 s80 => ?_) (fun rec I69 a b67 s68 K66 => ?_)
      · refine R_iload_n C 0 rfl dX7_gathers_189 ?_
        exact R_iret C hr dX7_gathers_190
      · obtain ⟨v64, s65⟩ := a
        show bX7_gathers_156 E a0 (fun u0 t => rec (u0, t)) v64 s65 = some (b67, s68) → V κ G (QQ κ G E (some (.int r)) σ') E s65 (false, 0, 0) 156 [(0, .ref (G.1 + a0)), (2, .int o25.2.1), (4, .int v64)] []
        unfold bX7_gathers_156
        refine R_iload C 2 rfl dX7_gathers_156 ?_
        refine R_aload_n C 0 rfl dX7_gathers_158 ?_
        refine R_bd (fun r72 s70 q71 => ?_)
        refine R_callVi [] [.int v64] C ml7_93 (kX7_many q71) (by rw [hR]; exact ⟨rfl, rfl, Nat.le_of_ble_eq_true rfl, Nat.le_of_ble_eq_true rfl, Nat.zero_le _, Nat.zero_le _⟩) ha0 rfl rfl (Nat.le_of_ble_eq_true rfl) dX7_gathers_159 ?_
        refine B_icmp_ge C dX7_gathers_162 ?_ ?_
        · refine R_loc (lv2 := [(2, .int o25.2.1)]) [1] rfl ?_
          exact R_end (fun (o : (Int32)) (s : Sg) => V κ G (QQ κ G E (some (.int r)) σ') E s (false, 0, 0) 189 [(2, .int o25.2.1)] []) K66
        · refine R_aload_n C 0 rfl dX7_gathers_165 ?_
          refine R_dr (fun x73 rx73 cx73 => ?_)
          refine R_getr C fl7_9 rfl ha0 rx73 dX7_gathers_166 ?_
          refine R_sipush C (7527) dX7_gathers_169 (by decide) ?_
          refine R_iload C 2 rfl dX7_gathers_172 ?_
          refine R_iadd C dX7_gathers_174 ?_
          refine R_aload_n C 0 rfl dX7_gathers_175 ?_
          refine R_dr (fun x74 rx74 cx74 => ?_)
          refine R_getr C fl7_48 rfl ha0 rx74 dX7_gathers_176 ?_
          refine R_iload C 2 rfl dX7_gathers_179 ?_
          refine R_ck (fun h75 => ?_)
          refine R_iald C cx74 h75 dX7_gathers_181 ?_
          refine R_ck (fun h76 => ?_)
          refine S_iast C cx73 h76 dX7_gathers_182 (fun s77 => ?_)
          refine S_iinc (fun v78 => [(4, .int v78), (0, .ref (G.1 + a0)), (2, .int o25.2.1)]) 2 C dX7_gathers_183 rfl (by decide) (by decide) (fun _ => rfl) (fun v78 => ?_)
          refine R_goto C dX7_gathers_186 ?_
          refine R_loc (lv2 := [(0, .ref (G.1 + a0)), (2, .int o25.2.1), (4, .int v78)]) [1, 2, 0] rfl ?_
          exact I69 (v78, s77) b67 s68 K66
    · obtain ⟨⟨v28, v29⟩, s30⟩ := a
      show bX7_gathers_58 E a0 (fun u0 u1 t => rec ((u0, u1), t)) v28 v29 s30 = some (b32, s33) → V κ G (QQ κ G E (some (.int r)) σ') E s30 (false, 0, 0) 58 [(0, .ref (G.1 + a0)), (2, .int o25.2.1), (3, .int v28), (4, .int v29)] []
      unfold bX7_gathers_58
      refine R_iload C 3 rfl dX7_gathers_58 ?_
      refine R_bipush C (6) dX7_gathers_60 (by decide) ?_
      refine B_icmp_ge C dX7_gathers_62 ?_ ?_
      · refine R_loc (lv2 := [(0, .ref (G.1 + a0)), (2, .int o25.2.1)]) [0, 1] rfl ?_
        exact R_end (fun (o : (Int32 × Int32)) (s : Sg) => V κ G (QQ κ G E (some (.int r)) σ') E s (false, 0, 0) 149 [(0, .ref (G.1 + a0)), (2, .int o25.2.1)] []) K31
      · refine R_aload_n C 0 rfl dX7_gathers_65 ?_
        refine R_dr (fun x35 rx35 cx35 => ?_)
        refine R_getr C fl7_45 rfl ha0 rx35 dX7_gathers_66 ?_
        refine R_iload C 3 rfl dX7_gathers_69 ?_
        refine R_ck (fun h36 => ?_)
        refine R_iald C cx35 h36 dX7_gathers_71 ?_
        refine R_iconst C (-1) dX7_gathers_72 (by decide) ?_
        refine R_bdK (fun (w : Int32) (s : Sg) => V κ G (QQ κ G E (some (.int r)) σ') E s (false, 0, 0) 143 [(0, .ref (G.1 + a0)), (2, .int o25.2.1), (4, .int v29), (3, .int w)] []) (fun w37 s38 => ?_) (fun w37 s38 Kw37 => ?_)
        · refine S_iinc (fun v59 => [(4, .int v59), (0, .ref (G.1 + a0)), (2, .int o25.2.1), (3, .int w37)]) 2 C dX7_gathers_143 rfl (by decide) (by decide) (fun _ => rfl) (fun v59 => ?_)
          refine R_goto C dX7_gathers_146 ?_
          refine R_loc (lv2 := [(0, .ref (G.1 + a0)), (2, .int o25.2.1), (3, .int w37), (4, .int v59)]) [1, 2, 3, 0] rfl ?_
          exact I34 ((w37, v59), s38) b32 s33 K31
        · refine B_icmp_eq C dX7_gathers_73 ?_ ?_
          · refine R_loc (lv2 := [(0, .ref (G.1 + a0)), (2, .int o25.2.1), (4, .int v29), (3, .int v28)]) [0, 1, 3, 2] rfl ?_
            exact R_end (fun (w : Int32) (s : Sg) => V κ G (QQ κ G E (some (.int r)) σ') E s (false, 0, 0) 143 [(0, .ref (G.1 + a0)), (2, .int o25.2.1), (4, .int v29), (3, .int w)] []) Kw37
          · refine R_iconst C (0) dX7_gathers_76 (by decide) ?_
            refine R_istore (lv2 := [(5, .int (0 : Int32)), (0, .ref (G.1 + a0)), (2, .int o25.2.1), (3, .int v28), (4, .int v29)]) C dX7_gathers_77 (by decide) rfl ?_
            refine R_loc (lv2 := [(0, .ref (G.1 + a0)), (2, .int o25.2.1), (4, .int v29), (3, .int v28), (5, .int (0 : Int32))]) [1, 2, 4, 3, 0] rfl ?_
            refine R_loop (fun (a : (Int32 × Int32) × Sg) => V κ G (QQ κ G E (some (.int r)) σ') E a.2 (false, 0, 0) 79 [(0, .ref (G.1 + a0)), (2, .int o25.2.1), (4, .int v29), (3, .int a.1.1), (5, .int a.1.2)] []) (fun (o : (Int32 × Int32)) (s : Sg) => V κ G (QQ κ G E (some (.int r)) σ') E s (false, 0, 0) 143 [(0, .ref (G.1 + a0)), (2, .int o25.2.1), (4, .int v29), (3, .int o.1)] []) ((v28, (0 : Int32)), s30) (fun o57 s58 => ?_) (fun rec I45 a b43 s44 K42 => ?_)
            · exact R_end (fun (w : Int32) (s : Sg) => V κ G (QQ κ G E (some (.int r)) σ') E s (false, 0, 0) 143 [(0, .ref (G.1 + a0)), (2, .int o25.2.1), (4, .int v29), (3, .int w)] []) Kw37
            · obtain ⟨⟨v39, v40⟩, s41⟩ := a
              show bX7_gathers_79 E a0 v29 x35 (fun u0 u1 t => rec ((u0, u1), t)) v39 v40 s41 = some (b43, s44) → V κ G (QQ κ G E (some (.int r)) σ') E s41 (false, 0, 0) 79 [(0, .ref (G.1 + a0)), (2, .int o25.2.1), (4, .int v29), (3, .int v39), (5, .int v40)] []
              unfold bX7_gathers_79
              refine R_iload C 4 rfl dX7_gathers_79 ?_
              refine R_aload_n C 0 rfl dX7_gathers_81 ?_
              refine R_dr (fun x46 rx46 cx46 => ?_)
              refine R_getr C fl7_9 rfl ha0 rx46 dX7_gathers_82 ?_
              refine R_sipush C (1927) dX7_gathers_85 (by decide) ?_
              refine R_aload_n C 0 rfl dX7_gathers_88 ?_
              refine R_getr C fl7_45 rfl ha0 rx35 dX7_gathers_89 ?_
              refine R_iload C 2 rfl dX7_gathers_92 ?_
              refine R_ck (fun h47 => ?_)
              refine R_iald C cx35 h47 dX7_gathers_94 ?_
              refine R_iadd C dX7_gathers_95 ?_
              refine R_ck (fun h48 => ?_)
              refine R_iald C cx46 h48 dX7_gathers_96 ?_
              refine B_icmp_ge C dX7_gathers_97 ?_ ?_
              · refine R_loc (lv2 := [(0, .ref (G.1 + a0)), (2, .int o25.2.1), (4, .int v29), (3, .int v39)]) [0, 1, 2, 3] rfl ?_
                exact R_end (fun (o : (Int32 × Int32)) (s : Sg) => V κ G (QQ κ G E (some (.int r)) σ') E s (false, 0, 0) 143 [(0, .ref (G.1 + a0)), (2, .int o25.2.1), (4, .int v29), (3, .int o.1)] []) K42
              · refine R_aload_n C 0 rfl dX7_gathers_100 ?_
                refine R_dr (fun x49 rx49 cx49 => ?_)
                refine R_getr C fl7_48 rfl ha0 rx49 dX7_gathers_101 ?_
                refine R_iload_n C 3 rfl dX7_gathers_104 ?_
                refine R_aload_n C 0 rfl dX7_gathers_105 ?_
                refine R_getr C fl7_9 rfl ha0 rx46 dX7_gathers_106 ?_
                refine R_sipush C (7527) dX7_gathers_109 (by decide) ?_
                refine R_aload_n C 0 rfl dX7_gathers_112 ?_
                refine R_getr C fl7_9 rfl ha0 rx46 dX7_gathers_113 ?_
                refine R_sipush C (1227) dX7_gathers_116 (by decide) ?_
                refine R_aload_n C 0 rfl dX7_gathers_119 ?_
                refine R_getr C fl7_45 rfl ha0 rx35 dX7_gathers_120 ?_
                refine R_iload C 2 rfl dX7_gathers_123 ?_
                refine R_ck (fun h50 => ?_)
                refine R_iald C cx35 h50 dX7_gathers_125 ?_
                refine R_iadd C dX7_gathers_126 ?_
                refine R_ck (fun h51 => ?_)
                refine R_iald C cx46 h51 dX7_gathers_127 ?_
                refine R_iadd C dX7_gathers_128 ?_
                refine R_iload C 4 rfl dX7_gathers_129 ?_
                refine R_iadd C dX7_gathers_131 ?_
                refine R_ck (fun h52 => ?_)
                refine R_iald C cx46 h52 dX7_gathers_132 ?_
                refine R_ck (fun h53 => ?_)
                refine S_iast C cx49 h53 dX7_gathers_133 (fun s54 => ?_)
                refine S_iinc (fun v55 => [(3, .int v55), (0, .ref (G.1 + a0)), (2, .int o25.2.1), (4, .int v29), (5, .int v40)]) 3 C dX7_gathers_134 rfl (by decide) (by decide) (fun _ => rfl) (fun v55 => ?_)
                refine S_iinc (fun v56 => [(5, .int v56), (3, .int v55), (0, .ref (G.1 + a0)), (2, .int o25.2.1), (4, .int v29)]) 4 C dX7_gathers_137 rfl (by decide) (by decide) (fun _ => rfl) (fun v56 => ?_)
                refine R_goto C dX7_gathers_140 ?_
                refine R_loc (lv2 := [(0, .ref (G.1 + a0)), (2, .int o25.2.1), (4, .int v29), (3, .int v55), (5, .int v56)]) [2, 3, 4, 1, 0] rfl ?_
                exact I45 ((v55, v56), s54) b43 s44 K42
  · obtain ⟨⟨v1, v2, v3⟩, s4⟩ := a
    show bX7_gathers_6 E a0 (fun u0 u1 u2 t => rec ((u0, u1, u2), t)) v1 v2 v3 s4 = some (b6, s7) → V κ G (QQ κ G E (some (.int r)) σ') E s4 (false, 0, 0) 6 [(0, .ref (G.1 + a0)), (1, .int v1), (2, .int v2), (3, .int v3)] []
    unfold bX7_gathers_6
    refine R_iload_n C 3 rfl dX7_gathers_6 ?_
    refine R_aload_n C 0 rfl dX7_gathers_7 ?_
    refine R_bd (fun r11 s9 q10 => ?_)
    refine R_callVi [] [.int v3] C ml7_93 (kX7_many q10) (by rw [hR]; exact ⟨rfl, rfl, Nat.le_of_ble_eq_true rfl, Nat.le_of_ble_eq_true rfl, Nat.zero_le _, Nat.zero_le _⟩) ha0 rfl rfl (Nat.le_of_ble_eq_true rfl) dX7_gathers_8 ?_
    refine B_icmp_ge C dX7_gathers_11 ?_ ?_
    · refine R_loc (lv2 := [(0, .ref (G.1 + a0)), (2, .int v2)]) [0, 2] rfl ?_
      exact R_end (fun (o : (Int32 × Int32 × Int32)) (s : Sg) => V κ G (QQ κ G E (some (.int r)) σ') E s (false, 0, 0) 53 [(0, .ref (G.1 + a0)), (2, .int o.2.1)] []) K5
    · refine R_aload_n C 0 rfl dX7_gathers_14 ?_
      refine R_iload_n C 3 rfl dX7_gathers_15 ?_
      refine R_bd (fun r14 s12 q13 => ?_)
      refine R_callVi [.int v3] [] C ml7_228 (kX7_isInTaken q13) (by rw [hR]; exact ⟨rfl, rfl, Nat.le_of_ble_eq_true rfl, Nat.le_of_ble_eq_true rfl, Nat.zero_le _, Nat.zero_le _⟩) ha0 rfl rfl (Nat.le_of_ble_eq_true rfl) dX7_gathers_16 ?_
      refine R_bdK (fun (w : Int32 × Int32) (s : Sg) => V κ G (QQ κ G E (some (.int r)) σ') E s (false, 0, 0) 47 [(0, .ref (G.1 + a0)), (3, .int v3), (1, .int w.1), (2, .int w.2)] []) (fun w15 s16 => ?_) (fun w15 s16 Kw15 => ?_)
      · refine S_iinc (fun v24 => [(3, .int v24), (0, .ref (G.1 + a0)), (1, .int w15.1), (2, .int w15.2)]) 1 C dX7_gathers_47 rfl (by decide) (by decide) (fun _ => rfl) (fun v24 => ?_)
        refine R_goto C dX7_gathers_50 ?_
        refine R_loc (lv2 := [(0, .ref (G.1 + a0)), (1, .int w15.1), (2, .int w15.2), (3, .int v24)]) [1, 2, 3, 0] rfl ?_
        exact I8 ((w15.1, w15.2, v24), s16) b6 s7 K5
      · refine B_if_ne C dX7_gathers_19 ?_ ?_
        · refine S_iinc (fun v17 => [(1, .int v17), (0, .ref (G.1 + a0)), (2, .int v2), (3, .int v3)]) 1 C dX7_gathers_44 rfl (by decide) (by decide) (fun _ => rfl) (fun v17 => ?_)
          refine R_loc (lv2 := [(0, .ref (G.1 + a0)), (3, .int v3), (1, .int v17), (2, .int v2)]) [1, 3, 0, 2] rfl ?_
          exact R_end (fun (w : Int32 × Int32) (s : Sg) => V κ G (QQ κ G E (some (.int r)) σ') E s (false, 0, 0) 47 [(0, .ref (G.1 + a0)), (3, .int v3), (1, .int w.1), (2, .int w.2)] []) Kw15
        · refine R_aload_n C 0 rfl dX7_gathers_22 ?_
          refine R_dr (fun x18 rx18 cx18 => ?_)
          refine R_getr C fl7_48 rfl ha0 rx18 dX7_gathers_23 ?_
          refine R_iload_n C 2 rfl dX7_gathers_26 ?_
          refine R_aload_n C 0 rfl dX7_gathers_27 ?_
          refine R_dr (fun x19 rx19 cx19 => ?_)
          refine R_getr C fl7_9 rfl ha0 rx19 dX7_gathers_28 ?_
          refine R_sipush C (7527) dX7_gathers_31 (by decide) ?_
          refine R_iload_n C 3 rfl dX7_gathers_34 ?_
          refine R_iadd C dX7_gathers_35 ?_
          refine R_ck (fun h20 => ?_)
          refine R_iald C cx19 h20 dX7_gathers_36 ?_
          refine R_ck (fun h21 => ?_)
          refine S_iast C cx18 h21 dX7_gathers_37 (fun s22 => ?_)
          refine S_iinc (fun v23 => [(2, .int v23), (0, .ref (G.1 + a0)), (1, .int v1), (3, .int v3)]) 2 C dX7_gathers_38 rfl (by decide) (by decide) (fun _ => rfl) (fun v23 => ?_)
          refine R_goto C dX7_gathers_41 ?_
          refine R_loc (lv2 := [(0, .ref (G.1 + a0)), (3, .int v3), (1, .int v1), (2, .int v23)]) [1, 3, 2, 0] rfl ?_
          exact R_end (fun (w : Int32 × Int32) (s : Sg) => V κ G (QQ κ G E (some (.int r)) σ') E s (false, 0, 0) 47 [(0, .ref (G.1 + a0)), (3, .int v3), (1, .int w.1), (2, .int w.2)] []) Kw15
