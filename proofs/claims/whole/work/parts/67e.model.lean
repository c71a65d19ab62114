theorem dX7_notesStand_0 : dk cX7_notesStand 0 1 (.iconst 0) 1 := by unfold dk; decide +kernel
theorem dX7_notesStand_1 : dk cX7_notesStand 1 2 (.istore_n 1) 1 := by unfold dk; decide +kernel
theorem dX7_notesStand_2 : dk cX7_notesStand 2 3 (.iload_n 1) 1 := by unfold dk; decide +kernel
theorem dX7_notesStand_3 : dk cX7_notesStand 3 5 (.bipush 6) 2 := by unfold dk; decide +kernel
theorem dX7_notesStand_8 : dk cX7_notesStand 8 9 (.aload_n 0) 1 := by unfold dk; decide +kernel
theorem dX7_notesStand_9 : dk cX7_notesStand 9 12 (.getfield 54) 3 := by unfold dk; decide +kernel
theorem dX7_notesStand_12 : dk cX7_notesStand 12 14 (.bipush 6) 2 := by unfold dk; decide +kernel
theorem dX7_notesStand_14 : dk cX7_notesStand 14 15 (.aload_n 0) 1 := by unfold dk; decide +kernel
theorem dX7_notesStand_15 : dk cX7_notesStand 15 18 (.getfield 264) 3 := by unfold dk; decide +kernel
theorem dX7_notesStand_18 : dk cX7_notesStand 18 19 (.imul) 1 := by unfold dk; decide +kernel
theorem dX7_notesStand_19 : dk cX7_notesStand 19 20 (.iload_n 1) 1 := by unfold dk; decide +kernel
theorem dX7_notesStand_20 : dk cX7_notesStand 20 21 (.iadd) 1 := by unfold dk; decide +kernel
theorem dX7_notesStand_21 : dk cX7_notesStand 21 22 (.iload_n 1) 1 := by unfold dk; decide +kernel
theorem dX7_notesStand_22 : dk cX7_notesStand 22 23 (.aload_n 0) 1 := by unfold dk; decide +kernel
theorem dX7_notesStand_23 : dk cX7_notesStand 23 26 (.invokevirtual 155) 3 := by unfold dk; decide +kernel
theorem dX7_notesStand_26 : bk cX7_notesStand 26 29 41 (.if_icmp .ge 15) (15) := by unfold bk; decide +kernel
theorem dX7_notesStand_41 : dk cX7_notesStand 41 42 (.iconst 0) 1 := by unfold dk; decide +kernel
theorem dX7_notesStand_29 : dk cX7_notesStand 29 30 (.aload_n 0) 1 := by unfold dk; decide +kernel
theorem dX7_notesStand_30 : dk cX7_notesStand 30 33 (.getfield 9) 3 := by unfold dk; decide +kernel
theorem dX7_notesStand_33 : dk cX7_notesStand 33 35 (.bipush 20) 2 := by unfold dk; decide +kernel
theorem dX7_notesStand_35 : dk cX7_notesStand 35 36 (.iload_n 1) 1 := by unfold dk; decide +kernel
theorem dX7_notesStand_36 : dk cX7_notesStand 36 37 (.iadd) 1 := by unfold dk; decide +kernel
theorem dX7_notesStand_37 : dk cX7_notesStand 37 38 (.iaload) 1 := by unfold dk; decide +kernel
theorem dX7_notesStand_38 : bk cX7_notesStand 38 41 42 (.goto 4) (4) := by unfold bk; decide +kernel
theorem dX7_notesStand_42 : dk cX7_notesStand 42 43 (.iastore) 1 := by unfold dk; decide +kernel
theorem dX7_notesStand_43 : dk cX7_notesStand 43 46 (.iinc 1 1) 3 := by unfold dk; decide +kernel
theorem dX7_notesStand_46 : bk cX7_notesStand 46 49 2 (.goto (-44)) (-44) := by unfold bk; decide +kernel
theorem dX7_notesStand_5 : bk cX7_notesStand 5 8 49 (.if_icmp .ge 44) (44) := by unfold bk; decide +kernel
theorem dX7_notesStand_49 : dk cX7_notesStand 49 50 (.iconst 0) 1 := by unfold dk; decide +kernel
theorem dX7_notesStand_50 : dk cX7_notesStand 50 51 (.istore_n 1) 1 := by unfold dk; decide +kernel
theorem dX7_notesStand_51 : dk cX7_notesStand 51 52 (.iload_n 1) 1 := by unfold dk; decide +kernel
theorem dX7_notesStand_52 : dk cX7_notesStand 52 53 (.aload_n 0) 1 := by unfold dk; decide +kernel
theorem dX7_notesStand_53 : dk cX7_notesStand 53 56 (.getfield 264) 3 := by unfold dk; decide +kernel
theorem dX7_notesStand_59 : dk cX7_notesStand 59 60 (.iconst 1) 1 := by unfold dk; decide +kernel
theorem dX7_notesStand_60 : dk cX7_notesStand 60 61 (.istore_n 2) 1 := by unfold dk; decide +kernel
theorem dX7_notesStand_61 : dk cX7_notesStand 61 62 (.iconst 0) 1 := by unfold dk; decide +kernel
theorem dX7_notesStand_62 : dk cX7_notesStand 62 63 (.istore_n 3) 1 := by unfold dk; decide +kernel
theorem dX7_notesStand_63 : dk cX7_notesStand 63 64 (.iload_n 3) 1 := by unfold dk; decide +kernel
theorem dX7_notesStand_64 : dk cX7_notesStand 64 66 (.bipush 6) 2 := by unfold dk; decide +kernel
theorem dX7_notesStand_69 : dk cX7_notesStand 69 70 (.iload_n 2) 1 := by unfold dk; decide +kernel
theorem dX7_notesStand_70 : bk cX7_notesStand 70 73 105 (.ifCond .eq 35) (35) := by unfold bk; decide +kernel
theorem dX7_notesStand_105 : dk cX7_notesStand 105 106 (.iconst 0) 1 := by unfold dk; decide +kernel
theorem dX7_notesStand_73 : dk cX7_notesStand 73 74 (.aload_n 0) 1 := by unfold dk; decide +kernel
theorem dX7_notesStand_74 : dk cX7_notesStand 74 77 (.getfield 54) 3 := by unfold dk; decide +kernel
theorem dX7_notesStand_77 : dk cX7_notesStand 77 79 (.bipush 6) 2 := by unfold dk; decide +kernel
theorem dX7_notesStand_79 : dk cX7_notesStand 79 80 (.iload_n 1) 1 := by unfold dk; decide +kernel
theorem dX7_notesStand_80 : dk cX7_notesStand 80 81 (.imul) 1 := by unfold dk; decide +kernel
theorem dX7_notesStand_81 : dk cX7_notesStand 81 82 (.iload_n 3) 1 := by unfold dk; decide +kernel
theorem dX7_notesStand_82 : dk cX7_notesStand 82 83 (.iadd) 1 := by unfold dk; decide +kernel
theorem dX7_notesStand_83 : dk cX7_notesStand 83 84 (.iaload) 1 := by unfold dk; decide +kernel
theorem dX7_notesStand_84 : dk cX7_notesStand 84 85 (.aload_n 0) 1 := by unfold dk; decide +kernel
theorem dX7_notesStand_85 : dk cX7_notesStand 85 88 (.getfield 54) 3 := by unfold dk; decide +kernel
theorem dX7_notesStand_88 : dk cX7_notesStand 88 90 (.bipush 6) 2 := by unfold dk; decide +kernel
theorem dX7_notesStand_90 : dk cX7_notesStand 90 91 (.aload_n 0) 1 := by unfold dk; decide +kernel
theorem dX7_notesStand_91 : dk cX7_notesStand 91 94 (.getfield 264) 3 := by unfold dk; decide +kernel
theorem dX7_notesStand_94 : dk cX7_notesStand 94 95 (.imul) 1 := by unfold dk; decide +kernel
theorem dX7_notesStand_95 : dk cX7_notesStand 95 96 (.iload_n 3) 1 := by unfold dk; decide +kernel
theorem dX7_notesStand_96 : dk cX7_notesStand 96 97 (.iadd) 1 := by unfold dk; decide +kernel
theorem dX7_notesStand_97 : dk cX7_notesStand 97 98 (.iaload) 1 := by unfold dk; decide +kernel
theorem dX7_notesStand_101 : dk cX7_notesStand 101 102 (.iconst 1) 1 := by unfold dk; decide +kernel
theorem dX7_notesStand_102 : bk cX7_notesStand 102 105 106 (.goto 4) (4) := by unfold bk; decide +kernel
theorem dX7_notesStand_98 : bk cX7_notesStand 98 101 105 (.if_icmp .ne 7) (7) := by unfold bk; decide +kernel
theorem dX7_notesStand_106 : dk cX7_notesStand 106 107 (.istore_n 2) 1 := by unfold dk; decide +kernel
theorem dX7_notesStand_107 : dk cX7_notesStand 107 110 (.iinc 3 1) 3 := by unfold dk; decide +kernel
theorem dX7_notesStand_110 : bk cX7_notesStand 110 113 63 (.goto (-47)) (-47) := by unfold bk; decide +kernel
theorem dX7_notesStand_66 : bk cX7_notesStand 66 69 113 (.if_icmp .ge 47) (47) := by unfold bk; decide +kernel
theorem dX7_notesStand_113 : dk cX7_notesStand 113 114 (.iload_n 2) 1 := by unfold dk; decide +kernel
theorem dX7_notesStand_118 : dk cX7_notesStand 118 121 (.iinc 1 1) 3 := by unfold dk; decide +kernel
theorem dX7_notesStand_121 : bk cX7_notesStand 121 124 51 (.goto (-70)) (-70) := by unfold bk; decide +kernel
theorem dX7_notesStand_117 : dk cX7_notesStand 117 118 (.return_) 1 := by unfold dk; decide +kernel
theorem dX7_notesStand_114 : bk cX7_notesStand 114 117 118 (.ifCond .eq 4) (4) := by unfold bk; decide +kernel
theorem dX7_notesStand_56 : bk cX7_notesStand 56 59 124 (.if_icmp .ge 68) (68) := by unfold bk; decide +kernel
theorem dX7_notesStand_124 : dk cX7_notesStand 124 125 (.aload_n 0) 1 := by unfold dk; decide +kernel
theorem dX7_notesStand_125 : dk cX7_notesStand 125 126 (.dup) 1 := by unfold dk; decide +kernel
theorem dX7_notesStand_126 : dk cX7_notesStand 126 129 (.getfield 264) 3 := by unfold dk; decide +kernel
theorem dX7_notesStand_129 : dk cX7_notesStand 129 130 (.iconst 1) 1 := by unfold dk; decide +kernel
theorem dX7_notesStand_130 : dk cX7_notesStand 130 131 (.iadd) 1 := by unfold dk; decide +kernel
theorem dX7_notesStand_131 : dk cX7_notesStand 131 134 (.putfield 264) 3 := by unfold dk; decide +kernel
theorem dX7_notesStand_134 : dk cX7_notesStand 134 135 (.return_) 1 := by unfold dk; decide +kernel
set_option maxHeartbeats 4000000 in
set_option maxRecDepth 100000 in
theorem kX7_notesStand {l : Launch} {G : Gl} {E : En} {a0 : Nat} {σ σ' : Sg} : fX7_notesStand E a0 σ = some σ' → CT l yX7_notesStand cX7_notesStand 4 none ({ frames := 1, cells := 0, slots := 0, locals := 20 } : Room) [.ref (G.1 + a0)] G E σ none σ' := by
  intro h
  refine CT_of (lv0 := [(0, .ref (G.1 + a0))]) (by decide) (Nat.le_of_ble_eq_true rfl) rfl (fun κ hl hR hr C => ?_)
  have C : Cx κ G cX7_notesStand RX7 4 := C
  revert h
  unfold fX7_notesStand
  refine R_tk (fun ha0 => ?_)
  refine R_iconst C (0) dX7_notesStand_0 (by decide) ?_
  refine R_istore_n (lv2 := [(1, .int (0 : Int32)), (0, .ref (G.1 + a0))]) C dX7_notesStand_1 rfl (by decide) rfl ?_
  refine R_loc (lv2 := [(0, .ref (G.1 + a0)), (1, .int (0 : Int32))]) [1, 0] rfl ?_
  refine R_loop (fun (a : (Int32) × Sg) => V κ G (QQ κ G E none σ') E a.2 (false, 0, 0) 2 [(0, .ref (G.1 + a0)), (1, .int a.1)] []) (fun (o : (Int32)) (s : Sg) => V κ G (QQ κ G E none σ') E s (false, 0, 0) 49 [(0, .ref (G.1 + a0))] []) ((0 : Int32), σ) (fun o18 s19 => ?_) (fun rec I6 a b4 s5 K3 => ?_)
  · refine R_iconst C (0) dX7_notesStand_49 (by decide) ?_
    refine R_istore_n (lv2 := [(1, .int (0 : Int32)), (0, .ref (G.1 + a0))]) C dX7_notesStand_50 rfl (by decide) rfl ?_
    refine R_loc (lv2 := [(0, .ref (G.1 + a0)), (1, .int (0 : Int32))]) [1, 0] rfl ?_
    refine R_loop (fun (a : (Int32) × Sg) => V κ G (QQ κ G E none σ') E a.2 (false, 0, 0) 51 [(0, .ref (G.1 + a0)), (1, .int a.1)] []) (fun (o : ((Int32) ⊕ Unit)) (s : Sg) => sm o (fun o => V κ G (QQ κ G E none σ') E s (false, 0, 0) 124 [(0, .ref (G.1 + a0))] []) (fun rr => some s = some σ')) ((0 : Int32), s19) (fun o42 s43 => ?_) (fun rec I25 a b23 s24 K22 => ?_)
    · rcases o42 with vo42 | ro42
      · refine R_sml ?_
        refine R_aload_n C 0 rfl dX7_notesStand_124 ?_
        refine R_dup C dX7_notesStand_125 rfl ?_
        refine R_geti C fl7_264 rfl ha0 dX7_notesStand_126 ?_
        refine R_iconst C (1) dX7_notesStand_129 (by decide) ?_
        refine R_iadd C dX7_notesStand_130 ?_
        refine S_puti C fl7_264 rfl ha0 rfl rfl dX7_notesStand_131 (fun s44 => ?_)
        exact R_vret C hr dX7_notesStand_134
      · exact fun h => h
    · obtain ⟨v20, s21⟩ := a
      show bX7_notesStand_51 E a0 (fun u0 t => rec (u0, t)) v20 s21 = some (b23, s24) → V κ G (QQ κ G E none σ') E s21 (false, 0, 0) 51 [(0, .ref (G.1 + a0)), (1, .int v20)] []
      unfold bX7_notesStand_51
      refine R_iload_n C 1 rfl dX7_notesStand_51 ?_
      refine R_aload_n C 0 rfl dX7_notesStand_52 ?_
      refine R_geti C fl7_264 rfl ha0 dX7_notesStand_53 ?_
      refine B_icmp_ge C dX7_notesStand_56 ?_ ?_
      · refine R_loc (lv2 := [(0, .ref (G.1 + a0))]) [0] rfl ?_
        exact R_inr (VX := (fun (o : ((Int32) ⊕ Unit)) (s : Sg) => sm o (fun o => V κ G (QQ κ G E none σ') E s (false, 0, 0) 124 [(0, .ref (G.1 + a0))] []) (fun rr => some s = some σ'))) (i := .inl) K22 (fun h => h)
      · refine R_iconst C (1) dX7_notesStand_59 (by decide) ?_
        refine R_istore_n (lv2 := [(2, .int (1 : Int32)), (0, .ref (G.1 + a0)), (1, .int v20)]) C dX7_notesStand_60 rfl (by decide) rfl ?_
        refine R_iconst C (0) dX7_notesStand_61 (by decide) ?_
        refine R_istore_n (lv2 := [(3, .int (0 : Int32)), (2, .int (1 : Int32)), (0, .ref (G.1 + a0)), (1, .int v20)]) C dX7_notesStand_62 rfl (by decide) rfl ?_
        refine R_loc (lv2 := [(0, .ref (G.1 + a0)), (1, .int v20), (2, .int (1 : Int32)), (3, .int (0 : Int32))]) [2, 3, 1, 0] rfl ?_
        refine R_loop (fun (a : (Int32 × Int32) × Sg) => V κ G (QQ κ G E none σ') E a.2 (false, 0, 0) 63 [(0, .ref (G.1 + a0)), (1, .int v20), (2, .int a.1.1), (3, .int a.1.2)] []) (fun (o : (Int32 × Int32)) (s : Sg) => V κ G (QQ κ G E none σ') E s (false, 0, 0) 113 [(0, .ref (G.1 + a0)), (1, .int v20), (2, .int o.1)] []) (((1 : Int32), (0 : Int32)), s21) (fun o39 s40 => ?_) (fun rec I32 a b30 s31 K29 => ?_)
        · refine R_iload_n C 2 rfl dX7_notesStand_113 ?_
          refine B_if_eq C dX7_notesStand_114 ?_ ?_
          · refine S_iinc (fun v41 => [(1, .int v41), (0, .ref (G.1 + a0)), (2, .int o39.1)]) 1 C dX7_notesStand_118 rfl (by decide) (by decide) (fun _ => rfl) (fun v41 => ?_)
            refine R_goto C dX7_notesStand_121 ?_
            refine R_loc (lv2 := [(0, .ref (G.1 + a0)), (1, .int v41)]) [1, 0] rfl ?_
            exact I25 (v41, s40) b23 s24 K22
          · exact R_inr (VX := (fun (o : ((Int32) ⊕ Unit)) (s : Sg) => sm o (fun o => V κ G (QQ κ G E none σ') E s (false, 0, 0) 124 [(0, .ref (G.1 + a0))] []) (fun rr => some s = some σ'))) (i := .inr) K22 (R_vret C hr dX7_notesStand_117)
        · obtain ⟨⟨v26, v27⟩, s28⟩ := a
          show bX7_notesStand_63 E a0 v20 (fun u0 u1 t => rec ((u0, u1), t)) v26 v27 s28 = some (b30, s31) → V κ G (QQ κ G E none σ') E s28 (false, 0, 0) 63 [(0, .ref (G.1 + a0)), (1, .int v20), (2, .int v26), (3, .int v27)] []
          unfold bX7_notesStand_63
          refine R_iload_n C 3 rfl dX7_notesStand_63 ?_
          refine R_bipush C (6) dX7_notesStand_64 (by decide) ?_
          refine B_icmp_ge C dX7_notesStand_66 ?_ ?_
          · refine R_loc (lv2 := [(0, .ref (G.1 + a0)), (1, .int v20), (2, .int v26)]) [0, 1, 2] rfl ?_
            exact R_end (fun (o : (Int32 × Int32)) (s : Sg) => V κ G (QQ κ G E none σ') E s (false, 0, 0) 113 [(0, .ref (G.1 + a0)), (1, .int v20), (2, .int o.1)] []) K29
          · refine R_iload_n C 2 rfl dX7_notesStand_69 ?_
            refine R_bdK (fun (w : Int32) (s : Sg) => V κ G (QQ κ G E none σ') E s (false, 0, 0) 106 [(0, .ref (G.1 + a0)), (1, .int v20), (3, .int v27)] [.int w]) (fun w33 s34 => ?_) (fun w33 s34 Kw33 => ?_)
            · refine R_istore_n (lv2 := [(2, .int w33), (0, .ref (G.1 + a0)), (1, .int v20), (3, .int v27)]) C dX7_notesStand_106 rfl (by decide) rfl ?_
              refine S_iinc (fun v38 => [(3, .int v38), (2, .int w33), (0, .ref (G.1 + a0)), (1, .int v20)]) 3 C dX7_notesStand_107 rfl (by decide) (by decide) (fun _ => rfl) (fun v38 => ?_)
              refine R_goto C dX7_notesStand_110 ?_
              refine R_loc (lv2 := [(0, .ref (G.1 + a0)), (1, .int v20), (2, .int w33), (3, .int v38)]) [2, 3, 1, 0] rfl ?_
              exact I32 ((w33, v38), s34) b30 s31 K29
            · refine B_if_eq C dX7_notesStand_70 ?_ ?_
              · refine R_iconst C (0) dX7_notesStand_105 (by decide) ?_
                refine R_loc (lv2 := [(0, .ref (G.1 + a0)), (1, .int v20), (3, .int v27)]) [0, 1, 3] rfl ?_
                exact R_end (fun (w : Int32) (s : Sg) => V κ G (QQ κ G E none σ') E s (false, 0, 0) 106 [(0, .ref (G.1 + a0)), (1, .int v20), (3, .int v27)] [.int w]) Kw33
              · refine R_aload_n C 0 rfl dX7_notesStand_73 ?_
                refine R_dr (fun x35 rx35 cx35 => ?_)
                refine R_getr C fl7_54 rfl ha0 rx35 dX7_notesStand_74 ?_
                refine R_bipush C (6) dX7_notesStand_77 (by decide) ?_
                refine R_iload_n C 1 rfl dX7_notesStand_79 ?_
                refine R_imul C dX7_notesStand_80 ?_
                refine R_iload_n C 3 rfl dX7_notesStand_81 ?_
                refine R_iadd C dX7_notesStand_82 ?_
                refine R_ck (fun h36 => ?_)
                refine R_iald C cx35 h36 dX7_notesStand_83 ?_
                refine R_aload_n C 0 rfl dX7_notesStand_84 ?_
                refine R_getr C fl7_54 rfl ha0 rx35 dX7_notesStand_85 ?_
                refine R_bipush C (6) dX7_notesStand_88 (by decide) ?_
                refine R_aload_n C 0 rfl dX7_notesStand_90 ?_
                refine R_geti C fl7_264 rfl ha0 dX7_notesStand_91 ?_
                refine R_imul C dX7_notesStand_94 ?_
                refine R_iload_n C 3 rfl dX7_notesStand_95 ?_
                refine R_iadd C dX7_notesStand_96 ?_
                refine R_ck (fun h37 => ?_)
                refine R_iald C cx35 h37 dX7_notesStand_97 ?_
                refine B_icmp_ne C dX7_notesStand_98 ?_ ?_
                · refine R_iconst C (0) dX7_notesStand_105 (by decide) ?_
                  refine R_loc (lv2 := [(0, .ref (G.1 + a0)), (1, .int v20), (3, .int v27)]) [0, 1, 3] rfl ?_
                  exact R_end (fun (w : Int32) (s : Sg) => V κ G (QQ κ G E none σ') E s (false, 0, 0) 106 [(0, .ref (G.1 + a0)), (1, .int v20), (3, .int v27)] [.int w]) Kw33
                · refine R_iconst C (1) dX7_notesStand_101 (by decide) ?_
                  refine R_goto C dX7_notesStand_102 ?_
                  refine R_loc (lv2 := [(0, .ref (G.1 + a0)), (1, .int v20), (3, .int v27)]) [0, 1, 3] rfl ?_
                  exact R_end (fun (w : Int32) (s : Sg) => V κ G (QQ κ G E none σ') E s (false, 0, 0) 106 [(0, .ref (G.1 + a0)), (1, .int v20), (3, .int v27)] [.int w]) Kw33
  · obtain ⟨v1, s2⟩ := a
    show bX7_notesStand_2 E a0 (fun u0 t => rec (u0, t)) v1 s2 = some (b4, s5) → V κ G (QQ κ G E none σ') E s2 (false, 0, 0) 2 [(0, .ref (G.1 + a0)), (1, .int v1)] []
    unfold bX7_notesStand_2
    refine R_iload_n C 1 rfl dX7_notesStand_2 ?_
    refine R_bipush C (6) dX7_notesStand_3 (by decide) ?_
    refine B_icmp_ge C dX7_notesStand_5 ?_ ?_
    · refine R_loc (lv2 := [(0, .ref (G.1 + a0))]) [0] rfl ?_
      exact R_end (fun (o : (Int32)) (s : Sg) => V κ G (QQ κ G E none σ') E s (false, 0, 0) 49 [(0, .ref (G.1 + a0))] []) K3
    · refine R_aload_n C 0 rfl dX7_notesStand_8 ?_
      refine R_dr (fun x7 rx7 cx7 => ?_)
      refine R_getr C fl7_54 rfl ha0 rx7 dX7_notesStand_9 ?_
      refine R_bipush C (6) dX7_notesStand_12 (by decide) ?_
      refine R_aload_n C 0 rfl dX7_notesStand_14 ?_
      refine R_geti C fl7_264 rfl ha0 dX7_notesStand_15 ?_
      refine R_imul C dX7_notesStand_18 ?_
      refine R_iload_n C 1 rfl dX7_notesStand_19 ?_
      refine R_iadd C dX7_notesStand_20 ?_
      refine R_iload_n C 1 rfl dX7_notesStand_21 ?_
      refine R_aload_n C 0 rfl dX7_notesStand_22 ?_
      refine R_bd (fun r10 s8 q9 => ?_)
      refine R_callVi [] [.int v1, .int (((6 : Int32) * (gi s2 a0 20)) + v1), .ref (G.1 + x7)] C ml7_155 (kX7_tapes q9) (by rw [hR]; exact ⟨rfl, rfl, Nat.le_of_ble_eq_true rfl, Nat.le_of_ble_eq_true rfl, Nat.zero_le _, Nat.zero_le _⟩) ha0 rfl rfl (Nat.le_of_ble_eq_true rfl) dX7_notesStand_23 ?_
      refine R_bdK (fun (w : Int32) (s : Sg) => V κ G (QQ κ G E none σ') E s (false, 0, 0) 42 [(0, .ref (G.1 + a0)), (1, .int v1)] [.int w, .int (((6 : Int32) * (gi s2 a0 20)) + v1), .ref (G.1 + x7)]) (fun w11 s12 => ?_) (fun w11 s12 Kw11 => ?_)
      · refine R_ck (fun h15 => ?_)
        refine S_iast C cx7 h15 dX7_notesStand_42 (fun s16 => ?_)
        refine S_iinc (fun v17 => [(1, .int v17), (0, .ref (G.1 + a0))]) 1 C dX7_notesStand_43 rfl (by decide) (by decide) (fun _ => rfl) (fun v17 => ?_)
        refine R_goto C dX7_notesStand_46 ?_
        refine R_loc (lv2 := [(0, .ref (G.1 + a0)), (1, .int v17)]) [1, 0] rfl ?_
        exact I6 (v17, s16) b4 s5 K3
      · refine B_icmp_ge C dX7_notesStand_26 ?_ ?_
        · refine R_iconst C (0) dX7_notesStand_41 (by decide) ?_
          exact R_end (fun (w : Int32) (s : Sg) => V κ G (QQ κ G E none σ') E s (false, 0, 0) 42 [(0, .ref (G.1 + a0)), (1, .int v1)] [.int w, .int (((6 : Int32) * (gi s2 a0 20)) + v1), .ref (G.1 + x7)]) Kw11
        · refine R_aload_n C 0 rfl dX7_notesStand_29 ?_
          refine R_dr (fun x13 rx13 cx13 => ?_)
          refine R_getr C fl7_9 rfl ha0 rx13 dX7_notesStand_30 ?_
          refine R_bipush C (20) dX7_notesStand_33 (by decide) ?_
          refine R_iload_n C 1 rfl dX7_notesStand_35 ?_
          refine R_iadd C dX7_notesStand_36 ?_
          refine R_ck (fun h14 => ?_)
          refine R_iald C cx13 h14 dX7_notesStand_37 ?_
          refine R_goto C dX7_notesStand_38 ?_
          exact R_end (fun (w : Int32) (s : Sg) => V κ G (QQ κ G E none σ') E s (false, 0, 0) 42 [(0, .ref (G.1 + a0)), (1, .int v1)] [.int w, .int (((6 : Int32) * (gi s2 a0 20)) + v1), .ref (G.1 + x7)]) Kw11
theorem dX7_goesThrough_0 : dk cX7_goesThrough 0 1 (.aload_n 0) 1 := by unfold dk; decide +kernel
theorem dX7_goesThrough_1 : dk cX7_goesThrough 1 2 (.aload_n 0) 1 := by unfold dk; decide +kernel
theorem dX7_goesThrough_2 : dk cX7_goesThrough 2 5 (.getfield 13) 3 := by unfold dk; decide +kernel
theorem dX7_goesThrough_5 : dk cX7_goesThrough 5 6 (.iconst 0) 1 := by unfold dk; decide +kernel
theorem dX7_goesThrough_6 : dk cX7_goesThrough 6 9 (.invokevirtual 79) 3 := by unfold dk; decide +kernel
theorem dX7_goesThrough_9 : dk cX7_goesThrough 9 10 (.aload_n 0) 1 := by unfold dk; decide +kernel
theorem dX7_goesThrough_10 : dk cX7_goesThrough 10 13 (.getfield 9) 3 := by unfold dk; decide +kernel
theorem dX7_goesThrough_13 : dk cX7_goesThrough 13 14 (.iconst 2) 1 := by unfold dk; decide +kernel
theorem dX7_goesThrough_14 : dk cX7_goesThrough 14 15 (.iload_n 2) 1 := by unfold dk; decide +kernel
theorem dX7_goesThrough_15 : dk cX7_goesThrough 15 16 (.iastore) 1 := by unfold dk; decide +kernel
theorem dX7_goesThrough_16 : dk cX7_goesThrough 16 17 (.aload_n 0) 1 := by unfold dk; decide +kernel
theorem dX7_goesThrough_17 : dk cX7_goesThrough 17 20 (.getfield 9) 3 := by unfold dk; decide +kernel
theorem dX7_goesThrough_20 : dk cX7_goesThrough 20 21 (.iconst 3) 1 := by unfold dk; decide +kernel
theorem dX7_goesThrough_21 : dk cX7_goesThrough 21 22 (.iload_n 1) 1 := by unfold dk; decide +kernel
theorem dX7_goesThrough_22 : dk cX7_goesThrough 22 23 (.iastore) 1 := by unfold dk; decide +kernel
theorem dX7_goesThrough_23 : dk cX7_goesThrough 23 24 (.aload_n 0) 1 := by unfold dk; decide +kernel
theorem dX7_goesThrough_24 : dk cX7_goesThrough 24 27 (.getfield 9) 3 := by unfold dk; decide +kernel
theorem dX7_goesThrough_27 : dk cX7_goesThrough 27 28 (.iconst 5) 1 := by unfold dk; decide +kernel
theorem dX7_goesThrough_28 : dk cX7_goesThrough 28 29 (.iload_n 3) 1 := by unfold dk; decide +kernel
theorem dX7_goesThrough_29 : dk cX7_goesThrough 29 30 (.iastore) 1 := by unfold dk; decide +kernel
theorem dX7_goesThrough_30 : dk cX7_goesThrough 30 31 (.aload_n 0) 1 := by unfold dk; decide +kernel
theorem dX7_goesThrough_31 : dk cX7_goesThrough 31 32 (.iconst 0) 1 := by unfold dk; decide +kernel
theorem dX7_goesThrough_32 : dk cX7_goesThrough 32 35 (.putfield 264) 3 := by unfold dk; decide +kernel
theorem dX7_goesThrough_35 : dk cX7_goesThrough 35 36 (.aload_n 0) 1 := by unfold dk; decide +kernel
theorem dX7_goesThrough_36 : dk cX7_goesThrough 36 39 (.invokevirtual 219) 3 := by unfold dk; decide +kernel
theorem dX7_goesThrough_39 : dk cX7_goesThrough 39 40 (.aload_n 0) 1 := by unfold dk; decide +kernel
theorem dX7_goesThrough_40 : dk cX7_goesThrough 40 43 (.invokevirtual 267) 3 := by unfold dk; decide +kernel
theorem dX7_goesThrough_43 : dk cX7_goesThrough 43 44 (.aload_n 0) 1 := by unfold dk; decide +kernel
theorem dX7_goesThrough_44 : dk cX7_goesThrough 44 47 (.getfield 9) 3 := by unfold dk; decide +kernel
theorem dX7_goesThrough_47 : dk cX7_goesThrough 47 49 (.bipush 7) 2 := by unfold dk; decide +kernel
theorem dX7_goesThrough_49 : dk cX7_goesThrough 49 50 (.iaload) 1 := by unfold dk; decide +kernel
theorem dX7_goesThrough_50 : dk cX7_goesThrough 50 51 (.iconst 2) 1 := by unfold dk; decide +kernel
theorem dX7_goesThrough_54 : dk cX7_goesThrough 54 55 (.aload_n 0) 1 := by unfold dk; decide +kernel
theorem dX7_goesThrough_55 : dk cX7_goesThrough 55 58 (.invokevirtual 261) 3 := by unfold dk; decide +kernel
theorem dX7_goesThrough_58 : dk cX7_goesThrough 58 59 (.pop) 1 := by unfold dk; decide +kernel
theorem dX7_goesThrough_59 : dk cX7_goesThrough 59 60 (.aload_n 0) 1 := by unfold dk; decide +kernel
theorem dX7_goesThrough_60 : dk cX7_goesThrough 60 63 (.invokevirtual 267) 3 := by unfold dk; decide +kernel
theorem dX7_goesThrough_63 : bk cX7_goesThrough 63 66 43 (.goto (-20)) (-20) := by unfold bk; decide +kernel
theorem dX7_goesThrough_51 : bk cX7_goesThrough 51 54 66 (.if_icmp .ne 15) (15) := by unfold bk; decide +kernel
theorem dX7_goesThrough_66 : dk cX7_goesThrough 66 68 (.iload 4) 2 := by unfold dk; decide +kernel
theorem dX7_goesThrough_68 : dk cX7_goesThrough 68 69 (.iconst 4) 1 := by unfold dk; decide +kernel
theorem dX7_goesThrough_69 : bk cX7_goesThrough 69 72 85 (.if_icmp .ge 16) (16) := by unfold bk; decide +kernel
theorem dX7_goesThrough_85 : dk cX7_goesThrough 85 87 (.iload 4) 2 := by unfold dk; decide +kernel
theorem dX7_goesThrough_87 : dk cX7_goesThrough 87 88 (.iconst 4) 1 := by unfold dk; decide +kernel
theorem dX7_goesThrough_101 : dk cX7_goesThrough 101 102 (.aload_n 0) 1 := by unfold dk; decide +kernel
theorem dX7_goesThrough_102 : dk cX7_goesThrough 102 105 (.getfield 9) 3 := by unfold dk; decide +kernel
theorem dX7_goesThrough_105 : dk cX7_goesThrough 105 107 (.bipush 19) 2 := by unfold dk; decide +kernel
theorem dX7_goesThrough_107 : dk cX7_goesThrough 107 108 (.iaload) 1 := by unfold dk; decide +kernel
theorem dX7_goesThrough_91 : dk cX7_goesThrough 91 92 (.aload_n 0) 1 := by unfold dk; decide +kernel
theorem dX7_goesThrough_92 : dk cX7_goesThrough 92 95 (.getfield 9) 3 := by unfold dk; decide +kernel
theorem dX7_goesThrough_95 : dk cX7_goesThrough 95 97 (.bipush 18) 2 := by unfold dk; decide +kernel
theorem dX7_goesThrough_97 : dk cX7_goesThrough 97 98 (.iaload) 1 := by unfold dk; decide +kernel
theorem dX7_goesThrough_98 : bk cX7_goesThrough 98 101 108 (.goto 10) (10) := by unfold bk; decide +kernel
theorem dX7_goesThrough_88 : bk cX7_goesThrough 88 91 101 (.if_icmp .ne 13) (13) := by unfold bk; decide +kernel
theorem dX7_goesThrough_72 : dk cX7_goesThrough 72 73 (.aload_n 0) 1 := by unfold dk; decide +kernel
theorem dX7_goesThrough_73 : dk cX7_goesThrough 73 76 (.getfield 9) 3 := by unfold dk; decide +kernel
theorem dX7_goesThrough_76 : dk cX7_goesThrough 76 78 (.bipush 9) 2 := by unfold dk; decide +kernel
theorem dX7_goesThrough_78 : dk cX7_goesThrough 78 80 (.iload 4) 2 := by unfold dk; decide +kernel
theorem dX7_goesThrough_80 : dk cX7_goesThrough 80 81 (.iadd) 1 := by unfold dk; decide +kernel
theorem dX7_goesThrough_81 : dk cX7_goesThrough 81 82 (.iaload) 1 := by unfold dk; decide +kernel
theorem dX7_goesThrough_82 : bk cX7_goesThrough 82 85 108 (.goto 26) (26) := by unfold bk; decide +kernel
theorem dX7_goesThrough_108 : dk cX7_goesThrough 108 110 (.istore 5) 2 := by unfold dk; decide +kernel
theorem dX7_goesThrough_110 : dk cX7_goesThrough 110 111 (.aload_n 0) 1 := by unfold dk; decide +kernel
theorem dX7_goesThrough_111 : dk cX7_goesThrough 111 112 (.aload_n 0) 1 := by unfold dk; decide +kernel
theorem dX7_goesThrough_112 : dk cX7_goesThrough 112 115 (.getfield 13) 3 := by unfold dk; decide +kernel
theorem dX7_goesThrough_115 : dk cX7_goesThrough 115 116 (.iconst 0) 1 := by unfold dk; decide +kernel
theorem dX7_goesThrough_116 : dk cX7_goesThrough 116 119 (.invokevirtual 83) 3 := by unfold dk; decide +kernel
theorem dX7_goesThrough_119 : dk cX7_goesThrough 119 121 (.iload 5) 2 := by unfold dk; decide +kernel
theorem dX7_goesThrough_121 : dk cX7_goesThrough 121 122 (.ireturn) 1 := by unfold dk; decide +kernel
set_option maxHeartbeats 4000000 in
set_option maxRecDepth 100000 in
theorem kX7_goesThrough {l : Launch} {G : Gl} {E : En} {a0 : Nat} {a1 : Int32} {a2 : Int32} {a3 : Int32} {a4 : Int32} {σ σ' : Sg} {r : Int32} : fX7_goesThrough E a0 a1 a2 a3 a4 σ = some (r, σ') → CT l yX7_goesThrough cX7_goesThrough 6 (some .int) ({ frames := 5, cells := 0, slots := 0, locals := 113 } : Room) [.ref (G.1 + a0), .int a1, .int a2, .int a3, .int a4] G E σ (some (.int r)) σ' := by
  intro h
  refine CT_of (lv0 := [(0, .ref (G.1 + a0)), (1, .int a1), (2, .int a2), (3, .int a3), (4, .int a4)]) (by decide) (Nat.le_of_ble_eq_true rfl) rfl (fun κ hl hR hr C => ?_)
  have C : Cx κ G cX7_goesThrough RX7 6 := C
  revert h
  unfold fX7_goesThrough
  refine R_tk (fun ha0 => ?_)
  refine R_aload_n C 0 rfl dX7_goesThrough_0 ?_
  refine R_aload_n C 0 rfl dX7_goesThrough_1 ?_
  refine R_dr (fun x1 rx1 cx1 => ?_)
  refine R_getr C fl7_13 rfl ha0 rx1 dX7_goesThrough_2 ?_
  refine R_iconst C (0) dX7_goesThrough_5 (by decide) ?_
  refine R_bv (fun s2 q3 => ?_)
  refine R_callVv [.ref (G.1 + x1), .int (0 : Int32)] [] C ml7_79 (kX7_keepsIn q3) (by rw [hR]; exact ⟨rfl, rfl, Nat.le_of_ble_eq_true rfl, Nat.le_of_ble_eq_true rfl, Nat.zero_le _, Nat.zero_le _⟩) ha0 rfl rfl (Nat.le_of_ble_eq_true rfl) dX7_goesThrough_6 ?_
  refine R_aload_n C 0 rfl dX7_goesThrough_9 ?_
  refine R_dr (fun x4 rx4 cx4 => ?_)
  refine R_getr C fl7_9 rfl ha0 rx4 dX7_goesThrough_10 ?_
  refine R_iconst C (2) dX7_goesThrough_13 (by decide) ?_
  refine R_iload_n C 2 rfl dX7_goesThrough_14 ?_
  refine R_ck (fun h5 => ?_)
  refine S_iast C cx4 h5 dX7_goesThrough_15 (fun s6 => ?_)
  refine R_aload_n C 0 rfl dX7_goesThrough_16 ?_
  refine R_getr C fl7_9 rfl ha0 rx4 dX7_goesThrough_17 ?_
  refine R_iconst C (3) dX7_goesThrough_20 (by decide) ?_
  refine R_iload_n C 1 rfl dX7_goesThrough_21 ?_
  refine R_ck (fun h7 => ?_)
  refine S_iast C cx4 h7 dX7_goesThrough_22 (fun s8 => ?_)
  refine R_aload_n C 0 rfl dX7_goesThrough_23 ?_
  refine R_getr C fl7_9 rfl ha0 rx4 dX7_goesThrough_24 ?_
  refine R_iconst C (5) dX7_goesThrough_27 (by decide) ?_
  refine R_iload_n C 3 rfl dX7_goesThrough_28 ?_
  refine R_ck (fun h9 => ?_)
  refine S_iast C cx4 h9 dX7_goesThrough_29 (fun s10 => ?_)
  refine R_aload_n C 0 rfl dX7_goesThrough_30 ?_
  refine R_iconst C (0) dX7_goesThrough_31 (by decide) ?_
  refine S_puti C fl7_264 rfl ha0 rfl rfl dX7_goesThrough_32 (fun s11 => ?_)
  refine R_aload_n C 0 rfl dX7_goesThrough_35 ?_
  refine R_bv (fun s12 q13 => ?_)
  refine R_callVv [] [] C ml7_219 (kX7_spreads q13) (by rw [hR]; exact ⟨rfl, rfl, Nat.le_of_ble_eq_true rfl, Nat.le_of_ble_eq_true rfl, Nat.zero_le _, Nat.zero_le _⟩) ha0 rfl rfl (Nat.le_of_ble_eq_true rfl) dX7_goesThrough_36 ?_
  refine R_aload_n C 0 rfl dX7_goesThrough_39 ?_
  refine R_bv (fun s14 q15 => ?_)
  refine R_callVv [] [] C ml7_267 (kX7_notesStand q15) (by rw [hR]; exact ⟨rfl, rfl, Nat.le_of_ble_eq_true rfl, Nat.le_of_ble_eq_true rfl, Nat.zero_le _, Nat.zero_le _⟩) ha0 rfl rfl (Nat.le_of_ble_eq_true rfl) dX7_goesThrough_40 ?_
  refine R_loc (lv2 := [(0, .ref (G.1 + a0)), (4, .int a4)]) [0, 4] rfl ?_
  refine R_loop (fun (a : (Unit) × Sg) => V κ G (QQ κ G E (some (.int r)) σ') E a.2 (false, 0, 0) 43 [(0, .ref (G.1 + a0)), (4, .int a4)] []) (fun (o : (Unit)) (s : Sg) => V κ G (QQ κ G E (some (.int r)) σ') E s (false, 0, 0) 66 [(0, .ref (G.1 + a0)), (4, .int a4)] []) ((), s14) (fun o27 s28 => ?_) (fun rec I20 a b18 s19 K17 => ?_)
  · refine R_iload C 1 rfl dX7_goesThrough_66 ?_
    refine R_iconst C (4) dX7_goesThrough_68 (by decide) ?_
    refine R_bdK (fun (w : Int32) (s : Sg) => V κ G (QQ κ G E (some (.int r)) σ') E s (false, 0, 0) 108 [(0, .ref (G.1 + a0))] [.int w]) (fun w29 s30 => ?_) (fun w29 s30 Kw29 => ?_)
    · refine R_istore (lv2 := [(5, .int w29), (0, .ref (G.1 + a0))]) C dX7_goesThrough_108 (by decide) rfl ?_
      refine R_aload_n C 1 rfl dX7_goesThrough_110 ?_
      refine R_aload_n C 1 rfl dX7_goesThrough_111 ?_
      refine R_getr C fl7_13 rfl ha0 rx1 dX7_goesThrough_112 ?_
      refine R_iconst C (0) dX7_goesThrough_115 (by decide) ?_
      refine R_bv (fun s34 q35 => ?_)
      refine R_callVv [.ref (G.1 + x1), .int (0 : Int32)] [] C ml7_83 (kX7_laysFrom q35) (by rw [hR]; exact ⟨rfl, rfl, Nat.le_of_ble_eq_true rfl, Nat.le_of_ble_eq_true rfl, Nat.zero_le _, Nat.zero_le _⟩) ha0 rfl rfl (Nat.le_of_ble_eq_true rfl) dX7_goesThrough_116 ?_
      refine R_iload C 0 rfl dX7_goesThrough_119 ?_
      exact R_iret C hr dX7_goesThrough_121
    · refine B_icmp_ge C dX7_goesThrough_69 ?_ ?_
      · refine R_iload C 1 rfl dX7_goesThrough_85 ?_
        refine R_iconst C (4) dX7_goesThrough_87 (by decide) ?_
        refine B_icmp_ne C dX7_goesThrough_88 ?_ ?_
        · refine R_aload_n C 0 rfl dX7_goesThrough_101 ?_
          refine R_getr C fl7_9 rfl ha0 rx4 dX7_goesThrough_102 ?_
          refine R_bipush C (19) dX7_goesThrough_105 (by decide) ?_
          refine R_ck (fun h31 => ?_)
          refine R_iald C cx4 h31 dX7_goesThrough_107 ?_
          refine R_loc (lv2 := [(0, .ref (G.1 + a0))]) [0] rfl ?_
          exact R_end (fun (w : Int32) (s : Sg) => V κ G (QQ κ G E (some (.int r)) σ') E s (false, 0, 0) 108 [(0, .ref (G.1 + a0))] [.int w]) Kw29
        · refine R_aload_n C 0 rfl dX7_goesThrough_91 ?_
          refine R_getr C fl7_9 rfl ha0 rx4 dX7_goesThrough_92 ?_
          refine R_bipush C (18) dX7_goesThrough_95 (by decide) ?_
          refine R_ck (fun h32 => ?_)
          refine R_iald C cx4 h32 dX7_goesThrough_97 ?_
          refine R_goto C dX7_goesThrough_98 ?_
          refine R_loc (lv2 := [(0, .ref (G.1 + a0))]) [0] rfl ?_
          exact R_end (fun (w : Int32) (s : Sg) => V κ G (QQ κ G E (some (.int r)) σ') E s (false, 0, 0) 108 [(0, .ref (G.1 + a0))] [.int w]) Kw29
      · refine R_aload_n C 0 rfl dX7_goesThrough_72 ?_
        refine R_getr C fl7_9 rfl ha0 rx4 dX7_goesThrough_73 ?_
        refine R_bipush C (9) dX7_goesThrough_76 (by decide) ?_
        refine R_iload C 1 rfl dX7_goesThrough_78 ?_
        refine R_iadd C dX7_goesThrough_80 ?_
        refine R_ck (fun h33 => ?_)
        refine R_iald C cx4 h33 dX7_goesThrough_81 ?_
        refine R_goto C dX7_goesThrough_82 ?_
        refine R_loc (lv2 := [(0, .ref (G.1 + a0))]) [0] rfl ?_
        exact R_end (fun (w : Int32) (s : Sg) => V κ G (QQ κ G E (some (.int r)) σ') E s (false, 0, 0) 108 [(0, .ref (G.1 + a0))] [.int w]) Kw29
  · obtain ⟨_, s16⟩ := a
    show bX7_goesThrough_43 E x4 a0 (fun t => rec ((), t))  s16 = some (b18, s19) → V κ G (QQ κ G E (some (.int r)) σ') E s16 (false, 0, 0) 43 [(0, .ref (G.1 + a0)), (4, .int a4)] []
    unfold bX7_goesThrough_43
    refine R_aload_n C 0 rfl dX7_goesThrough_43 ?_
    refine R_getr C fl7_9 rfl ha0 rx4 dX7_goesThrough_44 ?_
    refine R_bipush C (7) dX7_goesThrough_47 (by decide) ?_
    refine R_ck (fun h21 => ?_)
    refine R_iald C cx4 h21 dX7_goesThrough_49 ?_
    refine R_iconst C (2) dX7_goesThrough_50 (by decide) ?_
    refine B_icmp_ne C dX7_goesThrough_51 ?_ ?_
    · exact R_end (fun (o : (Unit)) (s : Sg) => V κ G (QQ κ G E (some (.int r)) σ') E s (false, 0, 0) 66 [(0, .ref (G.1 + a0)), (4, .int a4)] []) K17
    · refine R_aload_n C 0 rfl dX7_goesThrough_54 ?_
      refine R_bd (fun r24 s22 q23 => ?_)
      refine R_callVi [] [] C ml7_261 (kX7_steps q23) (by rw [hR]; exact ⟨rfl, rfl, Nat.le_of_ble_eq_true rfl, Nat.le_of_ble_eq_true rfl, Nat.zero_le _, Nat.zero_le _⟩) ha0 rfl rfl (Nat.le_of_ble_eq_true rfl) dX7_goesThrough_55 ?_
      refine R_pop C dX7_goesThrough_58 rfl ?_
      refine R_aload_n C 0 rfl dX7_goesThrough_59 ?_
      refine R_bv (fun s25 q26 => ?_)
      refine R_callVv [] [] C ml7_267 (kX7_notesStand q26) (by rw [hR]; exact ⟨rfl, rfl, Nat.le_of_ble_eq_true rfl, Nat.le_of_ble_eq_true rfl, Nat.zero_le _, Nat.zero_le _⟩) ha0 rfl rfl (Nat.le_of_ble_eq_true rfl) dX7_goesThrough_60 ?_
      refine R_goto C dX7_goesThrough_63 ?_
      exact I20 ((), s25) b18 s19 K17
theorem dX7_plan_0 : dk cX7_plan 0 1 (.aload_n 0) 1 := by unfold dk; decide +kernel
theorem dX7_plan_1 : dk cX7_plan 1 4 (.invokevirtual 216) 3 := by unfold dk; decide +kernel
theorem dX7_plan_16 : dk cX7_plan 16 17 (.iconst (-1)) 1 := by unfold dk; decide +kernel
theorem dX7_plan_17 : dk cX7_plan 17 18 (.ireturn) 1 := by unfold dk; decide +kernel
theorem dX7_plan_7 : dk cX7_plan 7 8 (.iload_n 1) 1 := by unfold dk; decide +kernel
theorem dX7_plan_8 : dk cX7_plan 8 9 (.iconst 0) 1 := by unfold dk; decide +kernel
theorem dX7_plan_9 : dk cX7_plan 9 10 (.iconst 5) 1 := by unfold dk; decide +kernel
theorem dX7_plan_10 : dk cX7_plan 10 13 (.invokestatic 116) 3 := by unfold dk; decide +kernel
theorem dX7_plan_18 : dk cX7_plan 18 19 (.aload_n 0) 1 := by unfold dk; decide +kernel
theorem dX7_plan_19 : dk cX7_plan 19 20 (.aload_n 0) 1 := by unfold dk; decide +kernel
theorem dX7_plan_20 : dk cX7_plan 20 23 (.invokevirtual 158) 3 := by unfold dk; decide +kernel
theorem dX7_plan_23 : dk cX7_plan 23 24 (.aload_n 0) 1 := by unfold dk; decide +kernel
theorem dX7_plan_24 : dk cX7_plan 24 27 (.invokevirtual 155) 3 := by unfold dk; decide +kernel
theorem dX7_plan_27 : dk cX7_plan 27 28 (.aload_n 0) 1 := by unfold dk; decide +kernel
theorem dX7_plan_28 : dk cX7_plan 28 31 (.getfield 9) 3 := by unfold dk; decide +kernel
theorem dX7_plan_31 : dk cX7_plan 31 32 (.iconst 5) 1 := by unfold dk; decide +kernel
theorem dX7_plan_32 : dk cX7_plan 32 33 (.iaload) 1 := by unfold dk; decide +kernel
theorem dX7_plan_33 : dk cX7_plan 33 34 (.iload_n 1) 1 := by unfold dk; decide +kernel
theorem dX7_plan_34 : dk cX7_plan 34 37 (.invokevirtual 270) 3 := by unfold dk; decide +kernel
theorem dX7_plan_37 : dk cX7_plan 37 38 (.ireturn) 1 := by unfold dk; decide +kernel
theorem dX7_plan_13 : bk cX7_plan 13 16 18 (.ifCond .ne 5) (5) := by unfold bk; decide +kernel
theorem dX7_plan_4 : bk cX7_plan 4 7 16 (.ifCond .eq 12) (12) := by unfold bk; decide +kernel
set_option maxHeartbeats 4000000 in
set_option maxRecDepth 100000 in
theorem kX7_plan {l : Launch} {G : Gl} {E : En} {a0 : Nat} {a1 : Int32} {σ σ' : Sg} {r : Int32} : fX7_plan E a0 a1 σ = some (r, σ') → CT l yX7_plan cX7_plan 2 (some .int) ({ frames := 6, cells := 0, slots := 0, locals := 138 } : Room) [.ref (G.1 + a0), .int a1] G E σ (some (.int r)) σ' := by
  intro h
  refine CT_of (lv0 := [(0, .ref (G.1 + a0)), (1, .int a1)]) (by decide) (Nat.le_of_ble_eq_true rfl) rfl (fun κ hl hR hr C => ?_)
  have C : Cx κ G cX7_plan RX7 2 := C
  revert h
  unfold fX7_plan
  refine R_tk (fun ha0 => ?_)
  refine R_aload_n C 0 rfl dX7_plan_0 ?_
  refine R_bd (fun r3 s1 q2 => ?_)
  refine R_callVi [] [] C ml7_216 (kX7_canSpread q2) (by rw [hR]; exact ⟨rfl, rfl, Nat.le_of_ble_eq_true rfl, Nat.le_of_ble_eq_true rfl, Nat.zero_le _, Nat.zero_le _⟩) ha0 rfl rfl (Nat.le_of_ble_eq_true rfl) dX7_plan_1 ?_
  refine B_if_eq C dX7_plan_4 ?_ ?_
  · refine R_iconst C (-1) dX7_plan_16 (by decide) ?_
    exact R_iret C hr dX7_plan_17
  · refine R_iload_n C 1 rfl dX7_plan_7 ?_
    refine R_iconst C (0) dX7_plan_8 (by decide) ?_
    refine R_iconst C (5) dX7_plan_9 (by decide) ?_
    refine R_bd (fun r6 s4 q5 => ?_)
    refine R_callSi [.int a1, .int (0 : Int32), .int (5 : Int32)] [] C ml7_116 (kX7_in q5) (by rw [hR]; exact ⟨rfl, rfl, Nat.le_of_ble_eq_true rfl, Nat.le_of_ble_eq_true rfl, Nat.zero_le _, Nat.zero_le _⟩) rfl rfl (Nat.le_of_ble_eq_true rfl) dX7_plan_10 ?_
    refine B_if_ne C dX7_plan_13 ?_ ?_
    · refine R_aload_n C 0 rfl dX7_plan_18 ?_
      refine R_aload_n C 0 rfl dX7_plan_19 ?_
      refine R_bd (fun r9 s7 q8 => ?_)
      refine R_callVi [] [.ref (G.1 + a0)] C ml7_158 (kX7_way q8) (by rw [hR]; exact ⟨rfl, rfl, Nat.le_of_ble_eq_true rfl, Nat.le_of_ble_eq_true rfl, Nat.zero_le _, Nat.zero_le _⟩) ha0 rfl rfl (Nat.le_of_ble_eq_true rfl) dX7_plan_20 ?_
      refine R_aload_n C 0 rfl dX7_plan_23 ?_
      refine R_bd (fun r12 s10 q11 => ?_)
      refine R_callVi [] [.int r9, .ref (G.1 + a0)] C ml7_155 (kX7_tapes q11) (by rw [hR]; exact ⟨rfl, rfl, Nat.le_of_ble_eq_true rfl, Nat.le_of_ble_eq_true rfl, Nat.zero_le _, Nat.zero_le _⟩) ha0 rfl rfl (Nat.le_of_ble_eq_true rfl) dX7_plan_24 ?_
      refine R_aload_n C 0 rfl dX7_plan_27 ?_
      refine R_dr (fun x13 rx13 cx13 => ?_)
      refine R_getr C fl7_9 rfl ha0 rx13 dX7_plan_28 ?_
      refine R_iconst C (5) dX7_plan_31 (by decide) ?_
      refine R_ck (fun h14 => ?_)
      refine R_iald C cx13 h14 dX7_plan_32 ?_
      refine R_iload_n C 1 rfl dX7_plan_33 ?_
      refine R_bd (fun r17 s15 q16 => ?_)
      refine R_callVi [.int r9, .int r12, .int (gi s10 x13 (5 : Int32).toNatClampNeg), .int a1] [] C ml7_270 (kX7_goesThrough q16) (by rw [hR]; exact ⟨rfl, rfl, Nat.le_of_ble_eq_true rfl, Nat.le_of_ble_eq_true rfl, Nat.zero_le _, Nat.zero_le _⟩) ha0 rfl rfl (Nat.le_of_ble_eq_true rfl) dX7_plan_34 ?_
      exact R_iret C hr dX7_plan_37
    · refine R_iconst C (-1) dX7_plan_16 (by decide) ?_
      exact R_iret C hr dX7_plan_17
theorem dX7_planned_0 : dk cX7_planned 0 1 (.aload_n 0) 1 := by unfold dk; decide +kernel
theorem dX7_planned_1 : dk cX7_planned 1 4 (.getfield 9) 3 := by unfold dk; decide +kernel
theorem dX7_planned_4 : dk cX7_planned 4 6 (.bipush 7) 2 := by unfold dk; decide +kernel
theorem dX7_planned_6 : dk cX7_planned 6 7 (.iaload) 1 := by unfold dk; decide +kernel
theorem dX7_planned_44 : dk cX7_planned 44 45 (.iconst (-1)) 1 := by unfold dk; decide +kernel
theorem dX7_planned_45 : dk cX7_planned 45 46 (.ireturn) 1 := by unfold dk; decide +kernel
theorem dX7_planned_10 : dk cX7_planned 10 11 (.iconst 2) 1 := by unfold dk; decide +kernel
theorem dX7_planned_11 : dk cX7_planned 11 12 (.iload_n 1) 1 := by unfold dk; decide +kernel
theorem dX7_planned_12 : dk cX7_planned 12 15 (.invokestatic 124) 3 := by unfold dk; decide +kernel
theorem dX7_planned_18 : dk cX7_planned 18 19 (.iconst 1) 1 := by unfold dk; decide +kernel
theorem dX7_planned_19 : dk cX7_planned 19 20 (.iload_n 2) 1 := by unfold dk; decide +kernel
theorem dX7_planned_20 : dk cX7_planned 20 23 (.invokestatic 124) 3 := by unfold dk; decide +kernel
theorem dX7_planned_26 : dk cX7_planned 26 27 (.iconst 4) 1 := by unfold dk; decide +kernel
theorem dX7_planned_27 : dk cX7_planned 27 28 (.iload_n 3) 1 := by unfold dk; decide +kernel
theorem dX7_planned_28 : dk cX7_planned 28 31 (.invokestatic 124) 3 := by unfold dk; decide +kernel
theorem dX7_planned_34 : dk cX7_planned 34 35 (.iload_n 1) 1 := by unfold dk; decide +kernel
theorem dX7_planned_35 : dk cX7_planned 35 36 (.iconst 1) 1 := by unfold dk; decide +kernel
theorem dX7_planned_46 : dk cX7_planned 46 47 (.aload_n 0) 1 := by unfold dk; decide +kernel
theorem dX7_planned_47 : dk cX7_planned 47 48 (.iload_n 1) 1 := by unfold dk; decide +kernel
theorem dX7_planned_48 : dk cX7_planned 48 49 (.iload_n 2) 1 := by unfold dk; decide +kernel
theorem dX7_planned_49 : dk cX7_planned 49 50 (.iload_n 3) 1 := by unfold dk; decide +kernel
theorem dX7_planned_50 : dk cX7_planned 50 51 (.iconst 0) 1 := by unfold dk; decide +kernel
theorem dX7_planned_51 : dk cX7_planned 51 54 (.invokevirtual 270) 3 := by unfold dk; decide +kernel
theorem dX7_planned_54 : dk cX7_planned 54 55 (.ireturn) 1 := by unfold dk; decide +kernel
theorem dX7_planned_39 : dk cX7_planned 39 40 (.iload_n 2) 1 := by unfold dk; decide +kernel
theorem dX7_planned_40 : dk cX7_planned 40 41 (.iconst 3) 1 := by unfold dk; decide +kernel
theorem dX7_planned_41 : bk cX7_planned 41 44 46 (.if_icmp .ne 5) (5) := by unfold bk; decide +kernel
theorem dX7_planned_36 : bk cX7_planned 36 39 46 (.if_icmp .ne 10) (10) := by unfold bk; decide +kernel
theorem dX7_planned_31 : bk cX7_planned 31 34 44 (.ifCond .eq 13) (13) := by unfold bk; decide +kernel
theorem dX7_planned_23 : bk cX7_planned 23 26 44 (.ifCond .eq 21) (21) := by unfold bk; decide +kernel
theorem dX7_planned_15 : bk cX7_planned 15 18 44 (.ifCond .eq 29) (29) := by unfold bk; decide +kernel
theorem dX7_planned_7 : bk cX7_planned 7 10 44 (.ifCond .eq 37) (37) := by unfold bk; decide +kernel
set_option maxHeartbeats 4000000 in
set_option maxRecDepth 100000 in
theorem kX7_planned {l : Launch} {G : Gl} {E : En} {a0 : Nat} {a1 : Int32} {a2 : Int32} {a3 : Int32} {σ σ' : Sg} {r : Int32} : fX7_planned E a0 a1 a2 a3 σ = some (r, σ') → CT l yX7_planned cX7_planned 4 (some .int) ({ frames := 6, cells := 0, slots := 0, locals := 138 } : Room) [.ref (G.1 + a0), .int a1, .int a2, .int a3] G E σ (some (.int r)) σ' := by
  intro h
  refine CT_of (lv0 := [(0, .ref (G.1 + a0)), (1, .int a1), (2, .int a2), (3, .int a3)]) (by decide) (Nat.le_of_ble_eq_true rfl) rfl (fun κ hl hR hr C => ?_)
  have C : Cx κ G cX7_planned RX7 4 := C
  revert h
  unfold fX7_planned
  refine R_tk (fun ha0 => ?_)
  refine R_aload_n C 0 rfl dX7_planned_0 ?_
  refine R_dr (fun x1 rx1 cx1 => ?_)
  refine R_getr C fl7_9 rfl ha0 rx1 dX7_planned_1 ?_
  refine R_bipush C (7) dX7_planned_4 (by decide) ?_
  refine R_ck (fun h2 => ?_)
  refine R_iald C cx1 h2 dX7_planned_6 ?_
  refine B_if_eq C dX7_planned_7 ?_ ?_
  · refine R_iconst C (-1) dX7_planned_44 (by decide) ?_
    exact R_iret C hr dX7_planned_45
  · refine R_iconst C (2) dX7_planned_10 (by decide) ?_
    refine R_iload_n C 1 rfl dX7_planned_11 ?_
    refine R_bd (fun r5 s3 q4 => ?_)
    refine R_callSi [.int (2 : Int32), .int a1] [] C ml7_124 (kX7_canSet q4) (by rw [hR]; exact ⟨rfl, rfl, Nat.le_of_ble_eq_true rfl, Nat.le_of_ble_eq_true rfl, Nat.zero_le _, Nat.zero_le _⟩) rfl rfl (Nat.le_of_ble_eq_true rfl) dX7_planned_12 ?_
    refine B_if_eq C dX7_planned_15 ?_ ?_
    · refine R_iconst C (-1) dX7_planned_44 (by decide) ?_
      exact R_iret C hr dX7_planned_45
    · refine R_iconst C (1) dX7_planned_18 (by decide) ?_
      refine R_iload_n C 2 rfl dX7_planned_19 ?_
      refine R_bd (fun r8 s6 q7 => ?_)
      refine R_callSi [.int (1 : Int32), .int a2] [] C ml7_124 (kX7_canSet q7) (by rw [hR]; exact ⟨rfl, rfl, Nat.le_of_ble_eq_true rfl, Nat.le_of_ble_eq_true rfl, Nat.zero_le _, Nat.zero_le _⟩) rfl rfl (Nat.le_of_ble_eq_true rfl) dX7_planned_20 ?_
      refine B_if_eq C dX7_planned_23 ?_ ?_
      · refine R_iconst C (-1) dX7_planned_44 (by decide) ?_
        exact R_iret C hr dX7_planned_45
      · refine R_iconst C (4) dX7_planned_26 (by decide) ?_
        refine R_iload_n C 3 rfl dX7_planned_27 ?_
        refine R_bd (fun r11 s9 q10 => ?_)
        refine R_callSi [.int (4 : Int32), .int a3] [] C ml7_124 (kX7_canSet q10) (by rw [hR]; exact ⟨rfl, rfl, Nat.le_of_ble_eq_true rfl, Nat.le_of_ble_eq_true rfl, Nat.zero_le _, Nat.zero_le _⟩) rfl rfl (Nat.le_of_ble_eq_true rfl) dX7_planned_28 ?_
        refine B_if_eq C dX7_planned_31 ?_ ?_
        · refine R_iconst C (-1) dX7_planned_44 (by decide) ?_
          exact R_iret C hr dX7_planned_45
        · refine R_iload_n C 1 rfl dX7_planned_34 ?_
          refine R_iconst C (1) dX7_planned_35 (by decide) ?_
          refine B_icmp_ne C dX7_planned_36 ?_ ?_
          · refine R_aload_n C 0 rfl dX7_planned_46 ?_
            refine R_iload_n C 1 rfl dX7_planned_47 ?_
            refine R_iload_n C 2 rfl dX7_planned_48 ?_
            refine R_iload_n C 3 rfl dX7_planned_49 ?_
            refine R_iconst C (0) dX7_planned_50 (by decide) ?_
            refine R_bd (fun r14 s12 q13 => ?_)
            refine R_callVi [.int a1, .int a2, .int a3, .int (0 : Int32)] [] C ml7_270 (kX7_goesThrough q13) (by rw [hR]; exact ⟨rfl, rfl, Nat.le_of_ble_eq_true rfl, Nat.le_of_ble_eq_true rfl, Nat.zero_le _, Nat.zero_le _⟩) ha0 rfl rfl (Nat.le_of_ble_eq_true rfl) dX7_planned_51 ?_
            exact R_iret C hr dX7_planned_54
          · refine R_iload_n C 2 rfl dX7_planned_39 ?_
            refine R_iconst C (3) dX7_planned_40 (by decide) ?_
            refine B_icmp_ne C dX7_planned_41 ?_ ?_
            · refine R_aload_n C 0 rfl dX7_planned_46 ?_
              refine R_iload_n C 1 rfl dX7_planned_47 ?_
              refine R_iload_n C 2 rfl dX7_planned_48 ?_
              refine R_iload_n C 3 rfl dX7_planned_49 ?_
              refine R_iconst C (0) dX7_planned_50 (by decide) ?_
              refine R_bd (fun r17 s15 q16 => ?_)
              refine R_callVi [.int a1, .int a2, .int a3, .int (0 : Int32)] [] C ml7_270 (kX7_goesThrough q16) (by rw [hR]; exact ⟨rfl, rfl, Nat.le_of_ble_eq_true rfl, Nat.le_of_ble_eq_true rfl, Nat.zero_le _, Nat.zero_le _⟩) ha0 rfl rfl (Nat.le_of_ble_eq_true rfl) dX7_planned_51 ?_
              exact R_iret C hr dX7_planned_54
            · refine R_iconst C (-1) dX7_planned_44 (by decide) ?_
              exact R_iret C hr dX7_planned_45
theorem dX7_stands_0 : dk cX7_stands 0 1 (.aload_n 0) 1 := by unfold dk; decide +kernel
theorem dX7_stands_1 : dk cX7_stands 1 4 (.invokevirtual 216) 3 := by unfold dk; decide +kernel
theorem dX7_stands_9 : dk cX7_stands 9 10 (.aload_n 0) 1 := by unfold dk; decide +kernel
theorem dX7_stands_10 : dk cX7_stands 10 11 (.aload_n 0) 1 := by unfold dk; decide +kernel
theorem dX7_stands_11 : dk cX7_stands 11 14 (.invokevirtual 158) 3 := by unfold dk; decide +kernel
theorem dX7_stands_14 : dk cX7_stands 14 15 (.aload_n 0) 1 := by unfold dk; decide +kernel
theorem dX7_stands_15 : dk cX7_stands 15 18 (.invokevirtual 155) 3 := by unfold dk; decide +kernel
theorem dX7_stands_18 : dk cX7_stands 18 19 (.aload_n 0) 1 := by unfold dk; decide +kernel
theorem dX7_stands_19 : dk cX7_stands 19 22 (.getfield 9) 3 := by unfold dk; decide +kernel
theorem dX7_stands_22 : dk cX7_stands 22 23 (.iconst 5) 1 := by unfold dk; decide +kernel
theorem dX7_stands_23 : dk cX7_stands 23 24 (.iaload) 1 := by unfold dk; decide +kernel
theorem dX7_stands_24 : dk cX7_stands 24 25 (.iconst 0) 1 := by unfold dk; decide +kernel
theorem dX7_stands_25 : dk cX7_stands 25 28 (.invokevirtual 270) 3 := by unfold dk; decide +kernel
theorem dX7_stands_28 : dk cX7_stands 28 29 (.pop) 1 := by unfold dk; decide +kernel
theorem dX7_stands_29 : dk cX7_stands 29 30 (.aload_n 0) 1 := by unfold dk; decide +kernel
theorem dX7_stands_30 : dk cX7_stands 30 33 (.getfield 264) 3 := by unfold dk; decide +kernel
theorem dX7_stands_33 : dk cX7_stands 33 34 (.ireturn) 1 := by unfold dk; decide +kernel
theorem dX7_stands_7 : dk cX7_stands 7 8 (.iconst (-1)) 1 := by unfold dk; decide +kernel
theorem dX7_stands_8 : dk cX7_stands 8 9 (.ireturn) 1 := by unfold dk; decide +kernel
theorem dX7_stands_4 : bk cX7_stands 4 7 9 (.ifCond .ne 5) (5) := by unfold bk; decide +kernel
set_option maxHeartbeats 4000000 in
set_option maxRecDepth 100000 in
theorem kX7_stands {l : Launch} {G : Gl} {E : En} {a0 : Nat} {σ σ' : Sg} {r : Int32} : fX7_stands E a0 σ = some (r, σ') → CT l yX7_stands cX7_stands 1 (some .int) ({ frames := 6, cells := 0, slots := 0, locals := 138 } : Room) [.ref (G.1 + a0)] G E σ (some (.int r)) σ' := by
  intro h
  refine CT_of (lv0 := [(0, .ref (G.1 + a0))]) (by decide) (Nat.le_of_ble_eq_true rfl) rfl (fun κ hl hR hr C => ?_)
  have C : Cx κ G cX7_stands RX7 1 := C
  revert h
  unfold fX7_stands
  refine R_tk (fun ha0 => ?_)
  refine R_aload_n C 0 rfl dX7_stands_0 ?_
  refine R_bd (fun r3 s1 q2 => ?_)
  refine R_callVi [] [] C ml7_216 (kX7_canSpread q2) (by rw [hR]; exact ⟨rfl, rfl, Nat.le_of_ble_eq_true rfl, Nat.le_of_ble_eq_true rfl, Nat.zero_le _, Nat.zero_le _⟩) ha0 rfl rfl (Nat.le_of_ble_eq_true rfl) dX7_stands_1 ?_
  refine B_if_ne C dX7_stands_4 ?_ ?_
  · refine R_aload_n C 0 rfl dX7_stands_9 ?_
    refine R_aload_n C 0 rfl dX7_stands_10 ?_
    refine R_bd (fun r6 s4 q5 => ?_)
    refine R_callVi [] [.ref (G.1 + a0)] C ml7_158 (kX7_way q5) (by rw [hR]; exact ⟨rfl, rfl, Nat.le_of_ble_eq_true rfl, Nat.le_of_ble_eq_true rfl, Nat.zero_le _, Nat.zero_le _⟩) ha0 rfl rfl (Nat.le_of_ble_eq_true rfl) dX7_stands_11 ?_
    refine R_aload_n C 0 rfl dX7_stands_14 ?_
    refine R_bd (fun r9 s7 q8 => ?_)
    refine R_callVi [] [.int r6, .ref (G.1 + a0)] C ml7_155 (kX7_tapes q8) (by rw [hR]; exact ⟨rfl, rfl, Nat.le_of_ble_eq_true rfl, Nat.le_of_ble_eq_true rfl, Nat.zero_le _, Nat.zero_le _⟩) ha0 rfl rfl (Nat.le_of_ble_eq_true rfl) dX7_stands_15 ?_
    refine R_aload_n C 0 rfl dX7_stands_18 ?_
    refine R_dr (fun x10 rx10 cx10 => ?_)
    refine R_getr C fl7_9 rfl ha0 rx10 dX7_stands_19 ?_
    refine R_iconst C (5) dX7_stands_22 (by decide) ?_
    refine R_ck (fun h11 => ?_)
    refine R_iald C cx10 h11 dX7_stands_23 ?_
    refine R_iconst C (0) dX7_stands_24 (by decide) ?_
    refine R_bd (fun r14 s12 q13 => ?_)
    refine R_callVi [.int r6, .int r9, .int (gi s7 x10 (5 : Int32).toNatClampNeg), .int (0 : Int32)] [] C ml7_270 (kX7_goesThrough q13) (by rw [hR]; exact ⟨rfl, rfl, Nat.le_of_ble_eq_true rfl, Nat.le_of_ble_eq_true rfl, Nat.zero_le _, Nat.zero_le _⟩) ha0 rfl rfl (Nat.le_of_ble_eq_true rfl) dX7_stands_25 ?_
    refine R_pop C dX7_stands_28 rfl ?_
    refine R_aload_n C 0 rfl dX7_stands_29 ?_
    refine R_geti C fl7_264 rfl ha0 dX7_stands_30 ?_
    exact R_iret C hr dX7_stands_33
  · refine R_iconst C (-1) dX7_stands_7 (by decide) ?_
    exact R_iret C hr dX7_stands_8
theorem dX7_depth_0 : dk cX7_depth 0 1 (.aload_n 0) 1 := by unfold dk; decide +kernel
theorem dX7_depth_1 : dk cX7_depth 1 4 (.invokevirtual 216) 3 := by unfold dk; decide +kernel
theorem dX7_depth_24 : dk cX7_depth 24 25 (.iconst (-1)) 1 := by unfold dk; decide +kernel
theorem dX7_depth_25 : dk cX7_depth 25 26 (.ireturn) 1 := by unfold dk; decide +kernel
theorem dX7_depth_7 : dk cX7_depth 7 8 (.iload_n 1) 1 := by unfold dk; decide +kernel
theorem dX7_depth_8 : dk cX7_depth 8 9 (.iconst 0) 1 := by unfold dk; decide +kernel
theorem dX7_depth_9 : dk cX7_depth 9 10 (.aload_n 0) 1 := by unfold dk; decide +kernel
theorem dX7_depth_10 : dk cX7_depth 10 13 (.getfield 9) 3 := by unfold dk; decide +kernel
theorem dX7_depth_13 : dk cX7_depth 13 15 (.bipush 14) 2 := by unfold dk; decide +kernel
theorem dX7_depth_15 : dk cX7_depth 15 16 (.iaload) 1 := by unfold dk; decide +kernel
theorem dX7_depth_16 : dk cX7_depth 16 17 (.iconst 1) 1 := by unfold dk; decide +kernel
theorem dX7_depth_17 : dk cX7_depth 17 18 (.isub) 1 := by unfold dk; decide +kernel
theorem dX7_depth_18 : dk cX7_depth 18 21 (.invokestatic 116) 3 := by unfold dk; decide +kernel
theorem dX7_depth_26 : dk cX7_depth 26 27 (.aload_n 0) 1 := by unfold dk; decide +kernel
theorem dX7_depth_27 : dk cX7_depth 27 30 (.getfield 9) 3 := by unfold dk; decide +kernel
theorem dX7_depth_30 : dk cX7_depth 30 33 (.sipush 626) 3 := by unfold dk; decide +kernel
theorem dX7_depth_33 : dk cX7_depth 33 34 (.aload_n 0) 1 := by unfold dk; decide +kernel
theorem dX7_depth_34 : dk cX7_depth 34 37 (.getfield 9) 3 := by unfold dk; decide +kernel
theorem dX7_depth_37 : dk cX7_depth 37 40 (.sipush 926) 3 := by unfold dk; decide +kernel
theorem dX7_depth_40 : dk cX7_depth 40 41 (.iload_n 1) 1 := by unfold dk; decide +kernel
theorem dX7_depth_41 : dk cX7_depth 41 42 (.iadd) 1 := by unfold dk; decide +kernel
theorem dX7_depth_42 : dk cX7_depth 42 43 (.iaload) 1 := by unfold dk; decide +kernel
theorem dX7_depth_43 : dk cX7_depth 43 44 (.iadd) 1 := by unfold dk; decide +kernel
theorem dX7_depth_44 : dk cX7_depth 44 45 (.iaload) 1 := by unfold dk; decide +kernel
theorem dX7_depth_45 : dk cX7_depth 45 46 (.istore_n 2) 1 := by unfold dk; decide +kernel
theorem dX7_depth_46 : dk cX7_depth 46 47 (.aload_n 0) 1 := by unfold dk; decide +kernel
theorem dX7_depth_47 : dk cX7_depth 47 48 (.aload_n 0) 1 := by unfold dk; decide +kernel
theorem dX7_depth_48 : dk cX7_depth 48 51 (.getfield 13) 3 := by unfold dk; decide +kernel
theorem dX7_depth_51 : dk cX7_depth 51 52 (.iconst 0) 1 := by unfold dk; decide +kernel
theorem dX7_depth_52 : dk cX7_depth 52 55 (.invokevirtual 79) 3 := by unfold dk; decide +kernel
theorem dX7_depth_55 : dk cX7_depth 55 56 (.aload_n 0) 1 := by unfold dk; decide +kernel
theorem dX7_depth_56 : dk cX7_depth 56 59 (.invokevirtual 219) 3 := by unfold dk; decide +kernel
theorem dX7_depth_59 : dk cX7_depth 59 60 (.iconst 0) 1 := by unfold dk; decide +kernel
theorem dX7_depth_60 : dk cX7_depth 60 61 (.istore_n 3) 1 := by unfold dk; decide +kernel
theorem dX7_depth_61 : dk cX7_depth 61 62 (.aload_n 0) 1 := by unfold dk; decide +kernel
theorem dX7_depth_62 : dk cX7_depth 62 65 (.getfield 9) 3 := by unfold dk; decide +kernel
theorem dX7_depth_65 : dk cX7_depth 65 67 (.bipush 7) 2 := by unfold dk; decide +kernel
theorem dX7_depth_67 : dk cX7_depth 67 68 (.iaload) 1 := by unfold dk; decide +kernel
theorem dX7_depth_68 : dk cX7_depth 68 69 (.iconst 2) 1 := by unfold dk; decide +kernel
theorem dX7_depth_72 : dk cX7_depth 72 73 (.aload_n 0) 1 := by unfold dk; decide +kernel
theorem dX7_depth_73 : dk cX7_depth 73 76 (.invokevirtual 234) 3 := by unfold dk; decide +kernel
theorem dX7_depth_76 : dk cX7_depth 76 77 (.pop) 1 := by unfold dk; decide +kernel
theorem dX7_depth_77 : dk cX7_depth 77 78 (.iconst 0) 1 := by unfold dk; decide +kernel
theorem dX7_depth_78 : dk cX7_depth 78 80 (.istore 4) 2 := by unfold dk; decide +kernel
theorem dX7_depth_80 : dk cX7_depth 80 82 (.iload 4) 2 := by unfold dk; decide +kernel
theorem dX7_depth_82 : dk cX7_depth 82 83 (.aload_n 0) 1 := by unfold dk; decide +kernel
theorem dX7_depth_83 : dk cX7_depth 83 86 (.invokevirtual 93) 3 := by unfold dk; decide +kernel
theorem dX7_depth_89 : dk cX7_depth 89 90 (.iload_n 3) 1 := by unfold dk; decide +kernel
theorem dX7_depth_90 : dk cX7_depth 90 91 (.aload_n 0) 1 := by unfold dk; decide +kernel
theorem dX7_depth_91 : dk cX7_depth 91 94 (.getfield 9) 3 := by unfold dk; decide +kernel
theorem dX7_depth_94 : dk cX7_depth 94 97 (.sipush 7527) 3 := by unfold dk; decide +kernel
theorem dX7_depth_97 : dk cX7_depth 97 99 (.iload 4) 2 := by unfold dk; decide +kernel
theorem dX7_depth_99 : dk cX7_depth 99 100 (.iadd) 1 := by unfold dk; decide +kernel
theorem dX7_depth_100 : dk cX7_depth 100 101 (.iaload) 1 := by unfold dk; decide +kernel
theorem dX7_depth_101 : dk cX7_depth 101 102 (.iload_n 2) 1 := by unfold dk; decide +kernel
theorem dX7_depth_102 : bk cX7_depth 102 105 118 (.if_icmp .ne 16) (16) := by unfold bk; decide +kernel
theorem dX7_depth_118 : dk cX7_depth 118 119 (.iconst 0) 1 := by unfold dk; decide +kernel
theorem dX7_depth_105 : dk cX7_depth 105 106 (.aload_n 0) 1 := by unfold dk; decide +kernel
theorem dX7_depth_106 : dk cX7_depth 106 108 (.iload 4) 2 := by unfold dk; decide +kernel
theorem dX7_depth_108 : dk cX7_depth 108 111 (.invokevirtual 228) 3 := by unfold dk; decide +kernel
theorem dX7_depth_114 : dk cX7_depth 114 115 (.iconst 1) 1 := by unfold dk; decide +kernel
theorem dX7_depth_115 : bk cX7_depth 115 118 119 (.goto 4) (4) := by unfold bk; decide +kernel
theorem dX7_depth_111 : bk cX7_depth 111 114 118 (.ifCond .eq 7) (7) := by unfold bk; decide +kernel
theorem dX7_depth_119 : dk cX7_depth 119 122 (.invokestatic 151) 3 := by unfold dk; decide +kernel
theorem dX7_depth_122 : dk cX7_depth 122 123 (.iadd) 1 := by unfold dk; decide +kernel
theorem dX7_depth_123 : dk cX7_depth 123 124 (.istore_n 3) 1 := by unfold dk; decide +kernel
theorem dX7_depth_124 : dk cX7_depth 124 127 (.iinc 4 1) 3 := by unfold dk; decide +kernel
theorem dX7_depth_127 : bk cX7_depth 127 130 80 (.goto (-47)) (-47) := by unfold bk; decide +kernel
theorem dX7_depth_86 : bk cX7_depth 86 89 130 (.if_icmp .ge 44) (44) := by unfold bk; decide +kernel
theorem dX7_depth_130 : dk cX7_depth 130 131 (.aload_n 0) 1 := by unfold dk; decide +kernel
theorem dX7_depth_131 : dk cX7_depth 131 134 (.invokevirtual 261) 3 := by unfold dk; decide +kernel
theorem dX7_depth_134 : dk cX7_depth 134 135 (.pop) 1 := by unfold dk; decide +kernel
theorem dX7_depth_135 : bk cX7_depth 135 138 61 (.goto (-74)) (-74) := by unfold bk; decide +kernel
theorem dX7_depth_69 : bk cX7_depth 69 72 138 (.if_icmp .ne 69) (69) := by unfold bk; decide +kernel
theorem dX7_depth_138 : dk cX7_depth 138 139 (.aload_n 0) 1 := by unfold dk; decide +kernel
theorem dX7_depth_139 : dk cX7_depth 139 140 (.aload_n 0) 1 := by unfold dk; decide +kernel
theorem dX7_depth_140 : dk cX7_depth 140 143 (.getfield 13) 3 := by unfold dk; decide +kernel
theorem dX7_depth_143 : dk cX7_depth 143 144 (.iconst 0) 1 := by unfold dk; decide +kernel
theorem dX7_depth_144 : dk cX7_depth 144 147 (.invokevirtual 83) 3 := by unfold dk; decide +kernel
theorem dX7_depth_147 : dk cX7_depth 147 148 (.iload_n 3) 1 := by unfold dk; decide +kernel
theorem dX7_depth_148 : dk cX7_depth 148 149 (.ireturn) 1 := by unfold dk; decide +kernel
theorem dX7_depth_21 : bk cX7_depth 21 24 26 (.ifCond .ne 5) (5) := by unfold bk; decide +kernel
theorem dX7_depth_4 : bk cX7_depth 4 7 24 (.ifCond .eq 20) (20) := by unfold bk; decide +kernel
set_option maxHeartbeats 4000000 in
set_option maxRecDepth 100000 in
theorem kX7_depth {l : Launch} {G : Gl} {E : En} {a0 : Nat} {a1 : Int32} {σ σ' : Sg} {r : Int32} : fX7_depth E a0 a1 σ = some (r, σ') → CT l yX7_depth cX7_depth 5 (some .int) ({ frames := 5, cells := 0, slots := 0, locals := 113 } : Room) [.ref (G.1 + a0), .int a1] G E σ (some (.int r)) σ' := by
  intro h
  refine CT_of (lv0 := [(0, .ref (G.1 + a0)), (1, .int a1)]) (by decide) (Nat.le_of_ble_eq_true rfl) rfl (fun κ hl hR hr C => ?_)
  have C : Cx κ G cX7_depth RX7 5 := C
  revert h
  unfold fX7_depth
  refine R_tk (fun ha0 => ?_)
  refine R_aload_n C 0 rfl dX7_depth_0 ?_
  refine R_bd (fun r3 s1 q2 => ?_)
  refine R_callVi [] [] C ml7_216 (kX7_canSpread q2) (by rw [hR]; exact ⟨rfl, rfl, Nat.le_of_ble_eq_true rfl, Nat.le_of_ble_eq_true rfl, Nat.zero_le _, Nat.zero_le _⟩) ha0 rfl rfl (Nat.le_of_ble_eq_true rfl) dX7_depth_1 ?_
  refine B_if_eq C dX7_depth_4 ?_ ?_
  · refine R_iconst C (-1) dX7_depth_24 (by decide) ?_
    exact R_iret C hr dX7_depth_25
  · refine R_iload_n C 1 rfl dX7_depth_7 ?_
    refine R_iconst C (0) dX7_depth_8 (by decide) ?_
    refine R_aload_n C 0 rfl dX7_depth_9 ?_
    refine R_dr (fun x4 rx4 cx4 => ?_)
    refine R_getr C fl7_9 rfl ha0 rx4 dX7_depth_10 ?_
    refine R_bipush C (14) dX7_depth_13 (by decide) ?_
    refine R_ck (fun h5 => ?_)
    refine R_iald C cx4 h5 dX7_depth_15 ?_
    refine R_iconst C (1) dX7_depth_16 (by decide) ?_
    refine R_isub C dX7_depth_17 ?_
    refine R_bd (fun r8 s6 q7 => ?_)
    refine R_callSi [.int a1, .int (0 : Int32), .int ((gi s1 x4 (14 : Int32).toNatClampNeg) - (1 : Int32))] [] C ml7_116 (kX7_in q7) (by rw [hR]; exact ⟨rfl, rfl, Nat.le_of_ble_eq_true rfl, Nat.le_of_ble_eq_true rfl, Nat.zero_le _, Nat.zero_le _⟩) rfl rfl (Nat.le_of_ble_eq_true rfl) dX7_depth_18 ?_
    refine B_if_ne C dX7_depth_21 ?_ ?_
    · refine R_aload_n C 0 rfl dX7_depth_26 ?_
      refine R_getr C fl7_9 rfl ha0 rx4 dX7_depth_27 ?_
      refine R_sipush C (626) dX7_depth_30 (by decide) ?_
      refine R_aload_n C 0 rfl dX7_depth_33 ?_
      refine R_getr C fl7_9 rfl ha0 rx4 dX7_depth_34 ?_
      refine R_sipush C (926) dX7_depth_37 (by decide) ?_
      refine R_iload_n C 1 rfl dX7_depth_40 ?_
      refine R_iadd C dX7_depth_41 ?_
      refine R_ck (fun h9 => ?_)
      refine R_iald C cx4 h9 dX7_depth_42 ?_
      refine R_iadd C dX7_depth_43 ?_
      refine R_ck (fun h10 => ?_)
      refine R_iald C cx4 h10 dX7_depth_44 ?_
      refine S_istore_n C dX7_depth_45 rfl (fun v11 => [(2, .int v11), (0, .ref (G.1 + a0)), (1, .int a1)]) (by decide) (fun _ => rfl) (fun v11 => ?_)
      refine R_aload_n C 1 rfl dX7_depth_46 ?_
      refine R_aload_n C 1 rfl dX7_depth_47 ?_
      refine R_dr (fun x12 rx12 cx12 => ?_)
      refine R_getr C fl7_13 rfl ha0 rx12 dX7_depth_48 ?_
      refine R_iconst C (0) dX7_depth_51 (by decide) ?_
      refine R_bv (fun s13 q14 => ?_)
      refine R_callVv [.ref (G.1 + x12), .int (0 : Int32)] [] C ml7_79 (kX7_keepsIn q14) (by rw [hR]; exact ⟨rfl, rfl, Nat.le_of_ble_eq_true rfl, Nat.le_of_ble_eq_true rfl, Nat.zero_le _, Nat.zero_le _⟩) ha0 rfl rfl (Nat.le_of_ble_eq_true rfl) dX7_depth_52 ?_
      refine R_aload_n C 1 rfl dX7_depth_55 ?_
      refine R_bv (fun s15 q16 => ?_)
      refine R_callVv [] [] C ml7_219 (kX7_spreads q16) (by rw [hR]; exact ⟨rfl, rfl, Nat.le_of_ble_eq_true rfl, Nat.le_of_ble_eq_true rfl, Nat.zero_le _, Nat.zero_le _⟩) ha0 rfl rfl (Nat.le_of_ble_eq_true rfl) dX7_depth_56 ?_
      refine R_iconst C (0) dX7_depth_59 (by decide) ?_
      refine R_istore_n (lv2 := [(3, .int (0 : Int32)), (2, .int v11), (0, .ref (G.1 + a0)), (1, .int a1)]) C dX7_depth_60 rfl (by decide) rfl ?_
      refine R_loc (lv2 := [(2, .int v11), (0, .ref (G.1 + a0)), (3, .int (0 : Int32))]) [1, 2, 0] rfl ?_
      refine R_loop (fun (a : (Int32) × Sg) => V κ G (QQ κ G E (some (.int r)) σ') E a.2 (false, 0, 0) 61 [(2, .int v11), (0, .ref (G.1 + a0)), (3, .int a.1)] []) (fun (o : (Int32)) (s : Sg) => V κ G (QQ κ G E (some (.int r)) σ') E s (false, 0, 0) 138 [(0, .ref (G.1 + a0)), (3, .int o)] []) ((0 : Int32), s15) (fun o53 s54 => ?_) (fun rec I22 a b20 s21 K19 => ?_)
      · refine R_aload_n C 0 rfl dX7_depth_138 ?_
        refine R_aload_n C 0 rfl dX7_depth_139 ?_
        refine R_getr C fl7_13 rfl ha0 rx12 dX7_depth_140 ?_
        refine R_iconst C (0) dX7_depth_143 (by decide) ?_
        refine R_bv (fun s55 q56 => ?_)
        refine R_callVv [.ref (G.1 + x12), .int (0 : Int32)] [] C ml7_83 (kX7_laysFrom q56) (by rw [hR]; exact ⟨rfl, rfl, Nat.le_of_ble_eq_true rfl, Nat.le_of_ble_eq_true rfl, Nat.zero_le _, Nat.zero_le _⟩) ha0 rfl rfl (Nat.le_of_ble_eq_true rfl) dX7_depth_144 ?_
        refine R_iload_n C 1 rfl dX7_depth_147 ?_
        exact R_iret C hr dX7_depth_148
      · obtain ⟨v17, s18⟩ := a
        show bX7_depth_61 E x4 a0 v11 (fun u0 t => rec (u0, t)) v17 s18 = some (b20, s21) → V κ G (QQ κ G E (some (.int r)) σ') E s18 (false, 0, 0) 61 [(2, .int v11), (0, .ref (G.1 + a0)), (3, .int v17)] []
        unfold bX7_depth_61
        refine R_aload_n C 1 rfl dX7_depth_61 ?_
        refine R_getr C fl7_9 rfl ha0 rx4 dX7_depth_62 ?_
        refine R_bipush C (7) dX7_depth_65 (by decide) ?_
        refine R_ck (fun h23 => ?_)
        refine R_iald C cx4 h23 dX7_depth_67 ?_
        refine R_iconst C (2) dX7_depth_68 (by decide) ?_
        refine B_icmp_ne C dX7_depth_69 ?_ ?_
        · refine R_loc (lv2 := [(0, .ref (G.1 + a0)), (3, .int v17)]) [1, 2] rfl ?_
          exact R_end (fun (o : (Int32)) (s : Sg) => V κ G (QQ κ G E (some (.int r)) σ') E s (false, 0, 0) 138 [(0, .ref (G.1 + a0)), (3, .int o)] []) K19
        · refine R_aload_n C 1 rfl dX7_depth_72 ?_
          refine R_bd (fun r26 s24 q25 => ?_)
          refine R_callVi [] [] C ml7_234 (kX7_laysTaken q25) (by rw [hR]; exact ⟨rfl, rfl, Nat.le_of_ble_eq_true rfl, Nat.le_of_ble_eq_true rfl, Nat.zero_le _, Nat.zero_le _⟩) ha0 rfl rfl (Nat.le_of_ble_eq_true rfl) dX7_depth_73 ?_
          refine R_pop C dX7_depth_76 rfl ?_
          refine R_iconst C (0) dX7_depth_77 (by decide) ?_
          refine R_istore (lv2 := [(4, .int (0 : Int32)), (2, .int v11), (0, .ref (G.1 + a0)), (3, .int v17)]) C dX7_depth_78 (by decide) rfl ?_
          refine R_loc (lv2 := [(2, .int v11), (0, .ref (G.1 + a0)), (3, .int v17), (4, .int (0 : Int32))]) [1, 2, 3, 0] rfl ?_
          refine R_loop (fun (a : (Int32 × Int32) × Sg) => V κ G (QQ κ G E (some (.int r)) σ') E a.2 (false, 0, 0) 80 [(2, .int v11), (0, .ref (G.1 + a0)), (3, .int a.1.1), (4, .int a.1.2)] []) (fun (o : (Int32 × Int32)) (s : Sg) => V κ G (QQ κ G E (some (.int r)) σ') E s (false, 0, 0) 130 [(2, .int v11), (0, .ref (G.1 + a0)), (3, .int o.1)] []) ((v17, (0 : Int32)), s24) (fun o48 s49 => ?_) (fun rec I33 a b31 s32 K30 => ?_)
          · refine R_aload_n C 1 rfl dX7_depth_130 ?_
            refine R_bd (fun r52 s50 q51 => ?_)
            refine R_callVi [] [] C ml7_261 (kX7_steps q51) (by rw [hR]; exact ⟨rfl, rfl, Nat.le_of_ble_eq_true rfl, Nat.le_of_ble_eq_true rfl, Nat.zero_le _, Nat.zero_le _⟩) ha0 rfl rfl (Nat.le_of_ble_eq_true rfl) dX7_depth_131 ?_
            refine R_pop C dX7_depth_134 rfl ?_
            refine R_goto C dX7_depth_135 ?_
            exact I22 (o48.1, s50) b20 s21 K19
          · obtain ⟨⟨v27, v28⟩, s29⟩ := a
            show bX7_depth_80 E a0 x4 v11 (fun u0 u1 t => rec ((u0, u1), t)) v27 v28 s29 = some (b31, s32) → V κ G (QQ κ G E (some (.int r)) σ') E s29 (false, 0, 0) 80 [(2, .int v11), (0, .ref (G.1 + a0)), (3, .int v27), (4, .int v28)] []
            unfold bX7_depth_80
            refine R_iload C 3 rfl dX7_depth_80 ?_
            refine R_aload_n C 1 rfl dX7_depth_82 ?_
            refine R_bd (fun r36 s34 q35 => ?_)
            refine R_callVi [] [.int v28] C ml7_93 (kX7_many q35) (by rw [hR]; exact ⟨rfl, rfl, Nat.le_of_ble_eq_true rfl, Nat.le_of_ble_eq_true rfl, Nat.zero_le _, Nat.zero_le _⟩) ha0 rfl rfl (Nat.le_of_ble_eq_true rfl) dX7_depth_83 ?_
            refine B_icmp_ge C dX7_depth_86 ?_ ?_
            · refine R_loc (lv2 := [(2, .int v11), (0, .ref (G.1 + a0)), (3, .int v27)]) [0, 1, 2] rfl ?_
              exact R_end (fun (o : (Int32 × Int32)) (s : Sg) => V κ G (QQ κ G E (some (.int r)) σ') E s (false, 0, 0) 130 [(2, .int v11), (0, .ref (G.1 + a0)), (3, .int o.1)] []) K30
            · refine R_iload_n C 2 rfl dX7_depth_89 ?_
              refine R_aload_n C 1 rfl dX7_depth_90 ?_
              refine R_getr C fl7_9 rfl ha0 rx4 dX7_depth_91 ?_
              refine R_sipush C (7527) dX7_depth_94 (by decide) ?_
              refine R_iload C 3 rfl dX7_depth_97 ?_
              refine R_iadd C dX7_depth_99 ?_
              refine R_ck (fun h37 => ?_)
              refine R_iald C cx4 h37 dX7_depth_100 ?_
              refine R_iload_n C 0 rfl dX7_depth_101 ?_
              refine R_bdK (fun (w : Int32) (s : Sg) => V κ G (QQ κ G E (some (.int r)) σ') E s (false, 0, 0) 119 [(2, .int v11), (0, .ref (G.1 + a0)), (4, .int v28)] [.int w, .int v27]) (fun w38 s39 => ?_) (fun w38 s39 Kw38 => ?_)
              · refine R_bd (fun r45 s43 q44 => ?_)
                refine R_callSi [.int w38] [.int v27] C ml7_151 (kX7_truth q44) (by rw [hR]; exact ⟨rfl, rfl, Nat.le_of_ble_eq_true rfl, Nat.le_of_ble_eq_true rfl, Nat.zero_le _, Nat.zero_le _⟩) rfl rfl (Nat.le_of_ble_eq_true rfl) dX7_depth_119 ?_
                refine R_iadd C dX7_depth_122 ?_
                refine S_istore_n C dX7_depth_123 rfl (fun v46 => [(3, .int v46), (2, .int v11), (0, .ref (G.1 + a0)), (4, .int v28)]) (by decide) (fun _ => rfl) (fun v46 => ?_)
                refine S_iinc (fun v47 => [(4, .int v47), (3, .int v46), (2, .int v11), (0, .ref (G.1 + a0))]) 3 C dX7_depth_124 rfl (by decide) (by decide) (fun _ => rfl) (fun v47 => ?_)
                refine R_goto C dX7_depth_127 ?_
                refine R_loc (lv2 := [(2, .int v11), (0, .ref (G.1 + a0)), (3, .int v46), (4, .int v47)]) [2, 3, 1, 0] rfl ?_
                exact I33 ((v46, v47), s43) b31 s32 K30
              · refine B_icmp_ne C dX7_depth_102 ?_ ?_
                · refine R_iconst C (0) dX7_depth_118 (by decide) ?_
                  refine R_loc (lv2 := [(2, .int v11), (0, .ref (G.1 + a0)), (4, .int v28)]) [0, 1, 3] rfl ?_
                  exact R_end (fun (w : Int32) (s : Sg) => V κ G (QQ κ G E (some (.int r)) σ') E s (false, 0, 0) 119 [(2, .int v11), (0, .ref (G.1 + a0)), (4, .int v28)] [.int w, .int v27]) Kw38
                · refine R_aload_n C 1 rfl dX7_depth_105 ?_
                  refine R_iload C 3 rfl dX7_depth_106 ?_
                  refine R_bd (fun r42 s40 q41 => ?_)
                  refine R_callVi [.int v28] [.int v27] C ml7_228 (kX7_isInTaken q41) (by rw [hR]; exact ⟨rfl, rfl, Nat.le_of_ble_eq_true rfl, Nat.le_of_ble_eq_true rfl, Nat.zero_le _, Nat.zero_le _⟩) ha0 rfl rfl (Nat.le_of_ble_eq_true rfl) dX7_depth_108 ?_
                  refine B_if_eq C dX7_depth_111 ?_ ?_
                  · refine R_iconst C (0) dX7_depth_118 (by decide) ?_
                    refine R_loc (lv2 := [(2, .int v11), (0, .ref (G.1 + a0)), (4, .int v28)]) [0, 1, 3] rfl ?_
                    exact R_end (fun (w : Int32) (s : Sg) => V κ G (QQ κ G E (some (.int r)) σ') E s (false, 0, 0) 119 [(2, .int v11), (0, .ref (G.1 + a0)), (4, .int v28)] [.int w, .int v27]) Kw38
                  · refine R_iconst C (1) dX7_depth_114 (by decide) ?_
                    refine R_goto C dX7_depth_115 ?_
                    refine R_loc (lv2 := [(2, .int v11), (0, .ref (G.1 + a0)), (4, .int v28)]) [0, 1, 3] rfl ?_
                    exact R_end (fun (w : Int32) (s : Sg) => V κ G (QQ κ G E (some (.int r)) σ') E s (false, 0, 0) 119 [(2, .int v11), (0, .ref (G.1 + a0)), (4, .int v28)] [.int w, .int v27]) Kw38
    · refine R_iconst C (-1) dX7_depth_24 (by decide) ?_
      exact R_iret C hr dX7_depth_25
theorem dX7_givesUnits_0 : dk cX7_givesUnits 0 1 (.iload_n 1) 1 := by unfold dk; decide +kernel
theorem dX7_givesUnits_1 : dk cX7_givesUnits 1 2 (.aload_n 0) 1 := by unfold dk; decide +kernel
theorem dX7_givesUnits_2 : dk cX7_givesUnits 2 5 (.getfield 274) 3 := by unfold dk; decide +kernel
theorem dX7_givesUnits_5 : bk cX7_givesUnits 5 8 21 (.if_icmp .eq 16) (16) := by unfold bk; decide +kernel
theorem dX7_givesUnits_21 : dk cX7_givesUnits 21 22 (.iconst 0) 1 := by unfold dk; decide +kernel
theorem dX7_givesUnits_8 : dk cX7_givesUnits 8 9 (.aload_n 0) 1 := by unfold dk; decide +kernel
theorem dX7_givesUnits_9 : dk cX7_givesUnits 9 12 (.getfield 57) 3 := by unfold dk; decide +kernel
theorem dX7_givesUnits_12 : dk cX7_givesUnits 12 13 (.iload_n 1) 1 := by unfold dk; decide +kernel
theorem dX7_givesUnits_13 : dk cX7_givesUnits 13 14 (.iaload) 1 := by unfold dk; decide +kernel
theorem dX7_givesUnits_17 : dk cX7_givesUnits 17 18 (.iconst 1) 1 := by unfold dk; decide +kernel
theorem dX7_givesUnits_18 : bk cX7_givesUnits 18 21 22 (.goto 4) (4) := by unfold bk; decide +kernel
theorem dX7_givesUnits_14 : bk cX7_givesUnits 14 17 21 (.ifCond .le 7) (7) := by unfold bk; decide +kernel
theorem dX7_givesUnits_22 : dk cX7_givesUnits 22 23 (.istore_n 2) 1 := by unfold dk; decide +kernel
theorem dX7_givesUnits_23 : dk cX7_givesUnits 23 24 (.iload_n 2) 1 := by unfold dk; decide +kernel
theorem dX7_givesUnits_24 : bk cX7_givesUnits 24 27 61 (.ifCond .eq 37) (37) := by unfold bk; decide +kernel
theorem dX7_givesUnits_61 : dk cX7_givesUnits 61 62 (.iconst 0) 1 := by unfold dk; decide +kernel
theorem dX7_givesUnits_27 : dk cX7_givesUnits 27 28 (.aload_n 0) 1 := by unfold dk; decide +kernel
theorem dX7_givesUnits_28 : dk cX7_givesUnits 28 31 (.invokevirtual 158) 3 := by unfold dk; decide +kernel
theorem dX7_givesUnits_57 : dk cX7_givesUnits 57 58 (.iconst 1) 1 := by unfold dk; decide +kernel
theorem dX7_givesUnits_58 : bk cX7_givesUnits 58 61 62 (.goto 4) (4) := by unfold bk; decide +kernel
theorem dX7_givesUnits_34 : dk cX7_givesUnits 34 35 (.aload_n 0) 1 := by unfold dk; decide +kernel
theorem dX7_givesUnits_35 : dk cX7_givesUnits 35 38 (.getfield 277) 3 := by unfold dk; decide +kernel
theorem dX7_givesUnits_38 : dk cX7_givesUnits 38 39 (.iload_n 1) 1 := by unfold dk; decide +kernel
theorem dX7_givesUnits_39 : dk cX7_givesUnits 39 40 (.ishr) 1 := by unfold dk; decide +kernel
theorem dX7_givesUnits_40 : dk cX7_givesUnits 40 41 (.iconst 1) 1 := by unfold dk; decide +kernel
theorem dX7_givesUnits_41 : dk cX7_givesUnits 41 42 (.iand) 1 := by unfold dk; decide +kernel
theorem dX7_givesUnits_42 : dk cX7_givesUnits 42 43 (.iconst 1) 1 := by unfold dk; decide +kernel
theorem dX7_givesUnits_46 : dk cX7_givesUnits 46 47 (.aload_n 0) 1 := by unfold dk; decide +kernel
theorem dX7_givesUnits_47 : dk cX7_givesUnits 47 50 (.getfield 280) 3 := by unfold dk; decide +kernel
theorem dX7_givesUnits_50 : dk cX7_givesUnits 50 51 (.iload_n 1) 1 := by unfold dk; decide +kernel
theorem dX7_givesUnits_51 : dk cX7_givesUnits 51 52 (.ishr) 1 := by unfold dk; decide +kernel
theorem dX7_givesUnits_52 : dk cX7_givesUnits 52 53 (.iconst 1) 1 := by unfold dk; decide +kernel
theorem dX7_givesUnits_53 : dk cX7_givesUnits 53 54 (.iand) 1 := by unfold dk; decide +kernel
theorem dX7_givesUnits_54 : bk cX7_givesUnits 54 57 61 (.ifCond .ne 7) (7) := by unfold bk; decide +kernel
theorem dX7_givesUnits_43 : bk cX7_givesUnits 43 46 61 (.if_icmp .ne 18) (18) := by unfold bk; decide +kernel
theorem dX7_givesUnits_31 : bk cX7_givesUnits 31 34 57 (.ifCond .eq 26) (26) := by unfold bk; decide +kernel
theorem dX7_givesUnits_62 : dk cX7_givesUnits 62 63 (.ireturn) 1 := by unfold dk; decide +kernel
set_option maxHeartbeats 4000000 in
set_option maxRecDepth 100000 in
theorem kX7_givesUnits {l : Launch} {G : Gl} {E : En} {a0 : Nat} {a1 : Int32} {σ σ' : Sg} {r : Int32} : fX7_givesUnits E a0 a1 σ = some (r, σ') → CT l yX7_givesUnits cX7_givesUnits 3 (some .boolean) ({ frames := 1, cells := 0, slots := 0, locals := 20 } : Room) [.ref (G.1 + a0), .int a1] G E σ (some (.int r)) σ' := by
  intro h
  refine CT_of (lv0 := [(0, .ref (G.1 + a0)), (1, .int a1)]) (by decide) (Nat.le_of_ble_eq_true rfl) rfl (fun κ hl hR hr C => ?_)
  have C : Cx κ G cX7_givesUnits RX7 3 := C
  revert h
  unfold fX7_givesUnits
  refine R_tk (fun ha0 => ?_)
  refine R_iload_n C 1 rfl dX7_givesUnits_0 ?_
  refine R_aload_n C 0 rfl dX7_givesUnits_1 ?_
  refine R_geti C fl7_274 rfl ha0 dX7_givesUnits_2 ?_
  refine R_bdK (fun (w : Int32) (s : Sg) => V κ G (QQ κ G E (some (.int r)) σ') E s (false, 0, 0) 22 [(0, .ref (G.1 + a0)), (1, .int a1)] [.int w]) (fun w1 s2 => ?_) (fun w1 s2 Kw1 => ?_)
  · refine R_istore_n (lv2 := [(2, .int w1), (0, .ref (G.1 + a0)), (1, .int a1)]) C dX7_givesUnits_22 rfl (by decide) rfl ?_
    refine R_iload_n C 0 rfl dX7_givesUnits_23 ?_
    refine R_bdK (fun (w : Int32) (s : Sg) => V κ G (QQ κ G E (some (.int r)) σ') E s (false, 0, 0) 62 [] [.int w]) (fun w5 s6 => ?_) (fun w5 s6 Kw5 => ?_)
    · refine R_kb (fun h10 => ?_)
      exact R_zret C hr h10 dX7_givesUnits_62
    · refine B_if_eq C dX7_givesUnits_24 ?_ ?_
      · refine R_iconst C (0) dX7_givesUnits_61 (by decide) ?_
        refine R_loc (lv2 := []) [] rfl ?_
        exact R_end (fun (w : Int32) (s : Sg) => V κ G (QQ κ G E (some (.int r)) σ') E s (false, 0, 0) 62 [] [.int w]) Kw5
      · refine R_aload_n C 1 rfl dX7_givesUnits_27 ?_
        refine R_bd (fun r9 s7 q8 => ?_)
        refine R_callVi [] [] C ml7_158 (kX7_way q8) (by rw [hR]; exact ⟨rfl, rfl, Nat.le_of_ble_eq_true rfl, Nat.le_of_ble_eq_true rfl, Nat.zero_le _, Nat.zero_le _⟩) ha0 rfl rfl (Nat.le_of_ble_eq_true rfl) dX7_givesUnits_28 ?_
        refine B_if_eq C dX7_givesUnits_31 ?_ ?_
        · refine R_iconst C (1) dX7_givesUnits_57 (by decide) ?_
          refine R_goto C dX7_givesUnits_58 ?_
          refine R_loc (lv2 := []) [] rfl ?_
          exact R_end (fun (w : Int32) (s : Sg) => V κ G (QQ κ G E (some (.int r)) σ') E s (false, 0, 0) 62 [] [.int w]) Kw5
        · refine R_aload_n C 1 rfl dX7_givesUnits_34 ?_
          refine R_geti C fl7_277 rfl ha0 dX7_givesUnits_35 ?_
          refine R_iload_n C 2 rfl dX7_givesUnits_38 ?_
          refine R_ishr C dX7_givesUnits_39 ?_
          refine R_iconst C (1) dX7_givesUnits_40 (by decide) ?_
          refine R_iand C dX7_givesUnits_41 ?_
          refine R_iconst C (1) dX7_givesUnits_42 (by decide) ?_
          refine B_icmp_ne C dX7_givesUnits_43 ?_ ?_
          · refine R_iconst C (0) dX7_givesUnits_61 (by decide) ?_
            refine R_loc (lv2 := []) [] rfl ?_
            exact R_end (fun (w : Int32) (s : Sg) => V κ G (QQ κ G E (some (.int r)) σ') E s (false, 0, 0) 62 [] [.int w]) Kw5
          · refine R_aload_n C 1 rfl dX7_givesUnits_46 ?_
            refine R_geti C fl7_280 rfl ha0 dX7_givesUnits_47 ?_
            refine R_iload_n C 2 rfl dX7_givesUnits_50 ?_
            refine R_ishr C dX7_givesUnits_51 ?_
            refine R_iconst C (1) dX7_givesUnits_52 (by decide) ?_
            refine R_iand C dX7_givesUnits_53 ?_
            refine B_if_ne C dX7_givesUnits_54 ?_ ?_
            · refine R_iconst C (0) dX7_givesUnits_61 (by decide) ?_
              refine R_loc (lv2 := []) [] rfl ?_
              exact R_end (fun (w : Int32) (s : Sg) => V κ G (QQ κ G E (some (.int r)) σ') E s (false, 0, 0) 62 [] [.int w]) Kw5
            · refine R_iconst C (1) dX7_givesUnits_57 (by decide) ?_
              refine R_goto C dX7_givesUnits_58 ?_
              refine R_loc (lv2 := []) [] rfl ?_
              exact R_end (fun (w : Int32) (s : Sg) => V κ G (QQ κ G E (some (.int r)) σ') E s (false, 0, 0) 62 [] [.int w]) Kw5
  · refine B_icmp_eq C dX7_givesUnits_5 ?_ ?_
    · refine R_iconst C (0) dX7_givesUnits_21 (by decide) ?_
      exact R_end (fun (w : Int32) (s : Sg) => V κ G (QQ κ G E (some (.int r)) σ') E s (false, 0, 0) 22 [(0, .ref (G.1 + a0)), (1, .int a1)] [.int w]) Kw1
    · refine R_aload_n C 0 rfl dX7_givesUnits_8 ?_
      refine R_dr (fun x3 rx3 cx3 => ?_)
      refine R_getr C fl7_57 rfl ha0 rx3 dX7_givesUnits_9 ?_
      refine R_iload_n C 1 rfl dX7_givesUnits_12 ?_
      refine R_ck (fun h4 => ?_)
      refine R_iald C cx3 h4 dX7_givesUnits_13 ?_
      refine B_if_le C dX7_givesUnits_14 ?_ ?_
      · refine R_iconst C (0) dX7_givesUnits_21 (by decide) ?_
        exact R_end (fun (w : Int32) (s : Sg) => V κ G (QQ κ G E (some (.int r)) σ') E s (false, 0, 0) 22 [(0, .ref (G.1 + a0)), (1, .int a1)] [.int w]) Kw1
      · refine R_iconst C (1) dX7_givesUnits_17 (by decide) ?_
        refine R_goto C dX7_givesUnits_18 ?_
        exact R_end (fun (w : Int32) (s : Sg) => V κ G (QQ κ G E (some (.int r)) σ') E s (false, 0, 0) 22 [(0, .ref (G.1 + a0)), (1, .int a1)] [.int w]) Kw1
theorem dX7_beginsUnits_0 : dk cX7_beginsUnits 0 1 (.aload_n 0) 1 := by unfold dk; decide +kernel
theorem dX7_beginsUnits_1 : dk cX7_beginsUnits 1 2 (.iconst 0) 1 := by unfold dk; decide +kernel
theorem dX7_beginsUnits_2 : dk cX7_beginsUnits 2 5 (.putfield 277) 3 := by unfold dk; decide +kernel
theorem dX7_beginsUnits_5 : dk cX7_beginsUnits 5 6 (.iconst 0) 1 := by unfold dk; decide +kernel
theorem dX7_beginsUnits_6 : dk cX7_beginsUnits 6 7 (.istore_n 1) 1 := by unfold dk; decide +kernel
theorem dX7_beginsUnits_7 : dk cX7_beginsUnits 7 8 (.iload_n 1) 1 := by unfold dk; decide +kernel
theorem dX7_beginsUnits_8 : dk cX7_beginsUnits 8 9 (.aload_n 0) 1 := by unfold dk; decide +kernel
theorem dX7_beginsUnits_9 : dk cX7_beginsUnits 9 12 (.invokevirtual 155) 3 := by unfold dk; decide +kernel
theorem dX7_beginsUnits_15 : dk cX7_beginsUnits 15 16 (.aload_n 0) 1 := by unfold dk; decide +kernel
theorem dX7_beginsUnits_16 : dk cX7_beginsUnits 16 17 (.dup) 1 := by unfold dk; decide +kernel
theorem dX7_beginsUnits_17 : dk cX7_beginsUnits 17 20 (.getfield 277) 3 := by unfold dk; decide +kernel
theorem dX7_beginsUnits_20 : dk cX7_beginsUnits 20 21 (.aload_n 0) 1 := by unfold dk; decide +kernel
theorem dX7_beginsUnits_21 : dk cX7_beginsUnits 21 24 (.getfield 57) 3 := by unfold dk; decide +kernel
theorem dX7_beginsUnits_24 : dk cX7_beginsUnits 24 25 (.iload_n 1) 1 := by unfold dk; decide +kernel
theorem dX7_beginsUnits_25 : dk cX7_beginsUnits 25 26 (.iaload) 1 := by unfold dk; decide +kernel
theorem dX7_beginsUnits_26 : bk cX7_beginsUnits 26 29 33 (.ifCond .le 7) (7) := by unfold bk; decide +kernel
theorem dX7_beginsUnits_33 : dk cX7_beginsUnits 33 34 (.iconst 0) 1 := by unfold dk; decide +kernel
theorem dX7_beginsUnits_29 : dk cX7_beginsUnits 29 30 (.iconst 1) 1 := by unfold dk; decide +kernel
theorem dX7_beginsUnits_30 : bk cX7_beginsUnits 30 33 34 (.goto 4) (4) := by unfold bk; decide +kernel
theorem dX7_beginsUnits_34 : dk cX7_beginsUnits 34 37 (.invokestatic 151) 3 := by unfold dk; decide +kernel
theorem dX7_beginsUnits_37 : dk cX7_beginsUnits 37 38 (.iload_n 1) 1 := by unfold dk; decide +kernel
theorem dX7_beginsUnits_38 : dk cX7_beginsUnits 38 39 (.ishl) 1 := by unfold dk; decide +kernel
theorem dX7_beginsUnits_39 : dk cX7_beginsUnits 39 40 (.ior) 1 := by unfold dk; decide +kernel
theorem dX7_beginsUnits_40 : dk cX7_beginsUnits 40 43 (.putfield 277) 3 := by unfold dk; decide +kernel
theorem dX7_beginsUnits_43 : dk cX7_beginsUnits 43 46 (.iinc 1 1) 3 := by unfold dk; decide +kernel
theorem dX7_beginsUnits_46 : bk cX7_beginsUnits 46 49 7 (.goto (-39)) (-39) := by unfold bk; decide +kernel
theorem dX7_beginsUnits_12 : bk cX7_beginsUnits 12 15 49 (.if_icmp .ge 37) (37) := by unfold bk; decide +kernel
theorem dX7_beginsUnits_49 : dk cX7_beginsUnits 49 50 (.aload_n 0) 1 := by unfold dk; decide +kernel
theorem dX7_beginsUnits_50 : dk cX7_beginsUnits 50 51 (.iconst 1) 1 := by unfold dk; decide +kernel
theorem dX7_beginsUnits_51 : dk cX7_beginsUnits 51 52 (.aload_n 0) 1 := by unfold dk; decide +kernel
theorem dX7_beginsUnits_52 : dk cX7_beginsUnits 52 55 (.getfield 274) 3 := by unfold dk; decide +kernel
theorem dX7_beginsUnits_55 : dk cX7_beginsUnits 55 56 (.ishl) 1 := by unfold dk; decide +kernel
theorem dX7_beginsUnits_56 : dk cX7_beginsUnits 56 59 (.putfield 280) 3 := by unfold dk; decide +kernel
theorem dX7_beginsUnits_59 : dk cX7_beginsUnits 59 60 (.return_) 1 := by unfold dk; decide +kernel
set_option maxHeartbeats 4000000 in
set_option maxRecDepth 100000 in
theorem kX7_beginsUnits {l : Launch} {G : Gl} {E : En} {a0 : Nat} {σ σ' : Sg} : fX7_beginsUnits E a0 σ = some σ' → CT l yX7_beginsUnits cX7_beginsUnits 2 none ({ frames := 1, cells := 0, slots := 0, locals := 20 } : Room) [.ref (G.1 + a0)] G E σ none σ' := by
  intro h
  refine CT_of (lv0 := [(0, .ref (G.1 + a0))]) (by decide) (Nat.le_of_ble_eq_true rfl) rfl (fun κ hl hR hr C => ?_)
  have C : Cx κ G cX7_beginsUnits RX7 2 := C
  revert h
  unfold fX7_beginsUnits
  refine R_tk (fun ha0 => ?_)
  refine R_aload_n C 0 rfl dX7_beginsUnits_0 ?_
  refine R_iconst C (0) dX7_beginsUnits_1 (by decide) ?_
  refine S_puti C fl7_277 rfl ha0 rfl rfl dX7_beginsUnits_2 (fun s1 => ?_)
  refine R_iconst C (0) dX7_beginsUnits_5 (by decide) ?_
  refine R_istore_n (lv2 := [(1, .int (0 : Int32)), (0, .ref (G.1 + a0))]) C dX7_beginsUnits_6 rfl (by decide) rfl ?_
  refine R_loc (lv2 := [(0, .ref (G.1 + a0)), (1, .int (0 : Int32))]) [1, 0] rfl ?_
  refine R_loop (fun (a : (Int32) × Sg) => V κ G (QQ κ G E none σ') E a.2 (false, 0, 0) 7 [(0, .ref (G.1 + a0)), (1, .int a.1)] []) (fun (o : (Int32)) (s : Sg) => V κ G (QQ κ G E none σ') E s (false, 0, 0) 49 [(0, .ref (G.1 + a0))] []) ((0 : Int32), s1) (fun o20 s21 => ?_) (fun rec I7 a b5 s6 K4 => ?_)
  · refine R_aload_n C 0 rfl dX7_beginsUnits_49 ?_
    refine R_iconst C (1) dX7_beginsUnits_50 (by decide) ?_
    refine R_aload_n C 0 rfl dX7_beginsUnits_51 ?_
    refine R_geti C fl7_274 rfl ha0 dX7_beginsUnits_52 ?_
    refine R_ishl C dX7_beginsUnits_55 ?_
    refine S_puti C fl7_280 rfl ha0 rfl rfl dX7_beginsUnits_56 (fun s22 => ?_)
    exact R_vret C hr dX7_beginsUnits_59
  · obtain ⟨v2, s3⟩ := a
    show bX7_beginsUnits_7 E a0 (fun u0 t => rec (u0, t)) v2 s3 = some (b5, s6) → V κ G (QQ κ G E none σ') E s3 (false, 0, 0) 7 [(0, .ref (G.1 + a0)), (1, .int v2)] []
    unfold bX7_beginsUnits_7
    refine R_iload_n C 1 rfl dX7_beginsUnits_7 ?_
    refine R_aload_n C 0 rfl dX7_beginsUnits_8 ?_
    refine R_bd (fun r10 s8 q9 => ?_)
    refine R_callVi [] [.int v2] C ml7_155 (kX7_tapes q9) (by rw [hR]; exact ⟨rfl, rfl, Nat.le_of_ble_eq_true rfl, Nat.le_of_ble_eq_true rfl, Nat.zero_le _, Nat.zero_le _⟩) ha0 rfl rfl (Nat.le_of_ble_eq_true rfl) dX7_beginsUnits_9 ?_
    refine B_icmp_ge C dX7_beginsUnits_12 ?_ ?_
    · refine R_loc (lv2 := [(0, .ref (G.1 + a0))]) [0] rfl ?_
      exact R_end (fun (o : (Int32)) (s : Sg) => V κ G (QQ κ G E none σ') E s (false, 0, 0) 49 [(0, .ref (G.1 + a0))] []) K4
    · refine R_aload_n C 0 rfl dX7_beginsUnits_15 ?_
      refine R_dup C dX7_beginsUnits_16 rfl ?_
      refine R_geti C fl7_277 rfl ha0 dX7_beginsUnits_17 ?_
      refine R_aload_n C 0 rfl dX7_beginsUnits_20 ?_
      refine R_dr (fun x11 rx11 cx11 => ?_)
      refine R_getr C fl7_57 rfl ha0 rx11 dX7_beginsUnits_21 ?_
      refine R_iload_n C 1 rfl dX7_beginsUnits_24 ?_
      refine R_ck (fun h12 => ?_)
      refine R_iald C cx11 h12 dX7_beginsUnits_25 ?_
      refine R_bdK (fun (w : Int32) (s : Sg) => V κ G (QQ κ G E none σ') E s (false, 0, 0) 34 [(0, .ref (G.1 + a0)), (1, .int v2)] [.int w, .int (gi s8 a0 24), .ref (G.1 + a0)]) (fun w13 s14 => ?_) (fun w13 s14 Kw13 => ?_)
      · refine R_bd (fun r17 s15 q16 => ?_)
        refine R_callSi [.int w13] [.int (gi s8 a0 24), .ref (G.1 + a0)] C ml7_151 (kX7_truth q16) (by rw [hR]; exact ⟨rfl, rfl, Nat.le_of_ble_eq_true rfl, Nat.le_of_ble_eq_true rfl, Nat.zero_le _, Nat.zero_le _⟩) rfl rfl (Nat.le_of_ble_eq_true rfl) dX7_beginsUnits_34 ?_
        refine R_iload_n C 1 rfl dX7_beginsUnits_37 ?_
        refine R_ishl C dX7_beginsUnits_38 ?_
        refine R_ior C dX7_beginsUnits_39 ?_
        refine S_puti C fl7_277 rfl ha0 rfl rfl dX7_beginsUnits_40 (fun s18 => ?_)
        refine S_iinc (fun v19 => [(1, .int v19), (0, .ref (G.1 + a0))]) 1 C dX7_beginsUnits_43 rfl (by decide) (by decide) (fun _ => rfl) (fun v19 => ?_)
        refine R_goto C dX7_beginsUnits_46 ?_
        refine R_loc (lv2 := [(0, .ref (G.1 + a0)), (1, .int v19)]) [1, 0] rfl ?_
        exact I7 (v19, s18) b5 s6 K4
      · refine B_if_le C dX7_beginsUnits_26 ?_ ?_
        · refine R_iconst C (0) dX7_beginsUnits_33 (by decide) ?_
          exact R_end (fun (w : Int32) (s : Sg) => V κ G (QQ κ G E none σ') E s (false, 0, 0) 34 [(0, .ref (G.1 + a0)), (1, .int v2)] [.int w, .int (gi s8 a0 24), .ref (G.1 + a0)]) Kw13
        · refine R_iconst C (1) dX7_beginsUnits_29 (by decide) ?_
          refine R_goto C dX7_beginsUnits_30 ?_
          exact R_end (fun (w : Int32) (s : Sg) => V κ G (QQ κ G E none σ') E s (false, 0, 0) 34 [(0, .ref (G.1 + a0)), (1, .int v2)] [.int w, .int (gi s8 a0 24), .ref (G.1 + a0)]) Kw13
theorem dX7_goesUnits_0 : dk cX7_goesUnits 0 3 (.ldc_w 285) 3 := by unfold dk; decide +kernel
theorem dX7_goesUnits_3 : dk cX7_goesUnits 3 4 (.istore_n 1) 1 := by unfold dk; decide +kernel
theorem dX7_goesUnits_4 : dk cX7_goesUnits 4 5 (.iconst 0) 1 := by unfold dk; decide +kernel
theorem dX7_goesUnits_5 : dk cX7_goesUnits 5 6 (.istore_n 2) 1 := by unfold dk; decide +kernel
theorem dX7_goesUnits_6 : dk cX7_goesUnits 6 7 (.iconst (-1)) 1 := by unfold dk; decide +kernel
theorem dX7_goesUnits_7 : dk cX7_goesUnits 7 8 (.istore_n 3) 1 := by unfold dk; decide +kernel
theorem dX7_goesUnits_8 : dk cX7_goesUnits 8 9 (.iconst 0) 1 := by unfold dk; decide +kernel
theorem dX7_goesUnits_9 : dk cX7_goesUnits 9 11 (.istore 4) 2 := by unfold dk; decide +kernel
theorem dX7_goesUnits_11 : dk cX7_goesUnits 11 13 (.iload 4) 2 := by unfold dk; decide +kernel
theorem dX7_goesUnits_13 : dk cX7_goesUnits 13 14 (.aload_n 0) 1 := by unfold dk; decide +kernel
theorem dX7_goesUnits_14 : dk cX7_goesUnits 14 17 (.invokevirtual 155) 3 := by unfold dk; decide +kernel
theorem dX7_goesUnits_20 : dk cX7_goesUnits 20 21 (.aload_n 0) 1 := by unfold dk; decide +kernel
theorem dX7_goesUnits_21 : dk cX7_goesUnits 21 23 (.iload 4) 2 := by unfold dk; decide +kernel
theorem dX7_goesUnits_23 : dk cX7_goesUnits 23 26 (.invokevirtual 286) 3 := by unfold dk; decide +kernel
theorem dX7_goesUnits_26 : bk cX7_goesUnits 26 29 69 (.ifCond .eq 43) (43) := by unfold bk; decide +kernel
theorem dX7_goesUnits_29 : dk cX7_goesUnits 29 30 (.aload_n 0) 1 := by unfold dk; decide +kernel
theorem dX7_goesUnits_30 : dk cX7_goesUnits 30 33 (.getfield 57) 3 := by unfold dk; decide +kernel
theorem dX7_goesUnits_33 : dk cX7_goesUnits 33 35 (.iload 4) 2 := by unfold dk; decide +kernel
theorem dX7_goesUnits_35 : dk cX7_goesUnits 35 36 (.iaload) 1 := by unfold dk; decide +kernel
theorem dX7_goesUnits_36 : dk cX7_goesUnits 36 37 (.iload_n 1) 1 := by unfold dk; decide +kernel
theorem dX7_goesUnits_37 : bk cX7_goesUnits 37 40 45 (.if_icmp .ge 8) (8) := by unfold bk; decide +kernel
theorem dX7_goesUnits_45 : dk cX7_goesUnits 45 46 (.iload_n 3) 1 := by unfold dk; decide +kernel
theorem dX7_goesUnits_40 : dk cX7_goesUnits 40 42 (.iload 4) 2 := by unfold dk; decide +kernel
theorem dX7_goesUnits_42 : bk cX7_goesUnits 42 45 46 (.goto 4) (4) := by unfold bk; decide +kernel
theorem dX7_goesUnits_46 : dk cX7_goesUnits 46 47 (.istore_n 3) 1 := by unfold dk; decide +kernel
theorem dX7_goesUnits_47 : dk cX7_goesUnits 47 48 (.iload_n 1) 1 := by unfold dk; decide +kernel
theorem dX7_goesUnits_48 : dk cX7_goesUnits 48 49 (.aload_n 0) 1 := by unfold dk; decide +kernel
theorem dX7_goesUnits_49 : dk cX7_goesUnits 49 52 (.getfield 57) 3 := by unfold dk; decide +kernel
theorem dX7_goesUnits_52 : dk cX7_goesUnits 52 54 (.iload 4) 2 := by unfold dk; decide +kernel
theorem dX7_goesUnits_54 : dk cX7_goesUnits 54 55 (.iaload) 1 := by unfold dk; decide +kernel
theorem dX7_goesUnits_55 : dk cX7_goesUnits 55 58 (.invokestatic 289) 3 := by unfold dk; decide +kernel
theorem dX7_goesUnits_58 : dk cX7_goesUnits 58 59 (.istore_n 1) 1 := by unfold dk; decide +kernel
theorem dX7_goesUnits_59 : dk cX7_goesUnits 59 60 (.iload_n 2) 1 := by unfold dk; decide +kernel
theorem dX7_goesUnits_60 : dk cX7_goesUnits 60 61 (.aload_n 0) 1 := by unfold dk; decide +kernel
theorem dX7_goesUnits_61 : dk cX7_goesUnits 61 64 (.getfield 60) 3 := by unfold dk; decide +kernel
theorem dX7_goesUnits_64 : dk cX7_goesUnits 64 66 (.iload 4) 2 := by unfold dk; decide +kernel
theorem dX7_goesUnits_66 : dk cX7_goesUnits 66 67 (.iaload) 1 := by unfold dk; decide +kernel
theorem dX7_goesUnits_67 : dk cX7_goesUnits 67 68 (.iadd) 1 := by unfold dk; decide +kernel
theorem dX7_goesUnits_68 : dk cX7_goesUnits 68 69 (.istore_n 2) 1 := by unfold dk; decide +kernel
theorem dX7_goesUnits_69 : dk cX7_goesUnits 69 72 (.iinc 4 1) 3 := by unfold dk; decide +kernel
theorem dX7_goesUnits_72 : bk cX7_goesUnits 72 75 11 (.goto (-61)) (-61) := by unfold bk; decide +kernel
theorem dX7_goesUnits_17 : bk cX7_goesUnits 17 20 75 (.if_icmp .ge 58) (58) := by unfold bk; decide +kernel
theorem dX7_goesUnits_75 : dk cX7_goesUnits 75 76 (.aload_n 0) 1 := by unfold dk; decide +kernel
theorem dX7_goesUnits_76 : dk cX7_goesUnits 76 79 (.getfield 274) 3 := by unfold dk; decide +kernel
theorem dX7_goesUnits_79 : dk cX7_goesUnits 79 81 (.istore 4) 2 := by unfold dk; decide +kernel
theorem dX7_goesUnits_81 : dk cX7_goesUnits 81 82 (.iconst 0) 1 := by unfold dk; decide +kernel
theorem dX7_goesUnits_82 : dk cX7_goesUnits 82 84 (.istore 5) 2 := by unfold dk; decide +kernel
theorem dX7_goesUnits_84 : dk cX7_goesUnits 84 86 (.iload 5) 2 := by unfold dk; decide +kernel
theorem dX7_goesUnits_86 : dk cX7_goesUnits 86 87 (.aload_n 0) 1 := by unfold dk; decide +kernel
theorem dX7_goesUnits_87 : dk cX7_goesUnits 87 90 (.invokevirtual 155) 3 := by unfold dk; decide +kernel
theorem dX7_goesUnits_93 : dk cX7_goesUnits 93 94 (.aload_n 0) 1 := by unfold dk; decide +kernel
theorem dX7_goesUnits_94 : dk cX7_goesUnits 94 97 (.getfield 57) 3 := by unfold dk; decide +kernel
theorem dX7_goesUnits_97 : dk cX7_goesUnits 97 99 (.iload 5) 2 := by unfold dk; decide +kernel
theorem dX7_goesUnits_99 : dk cX7_goesUnits 99 100 (.dup2) 1 := by unfold dk; decide +kernel
theorem dX7_goesUnits_100 : dk cX7_goesUnits 100 101 (.iaload) 1 := by unfold dk; decide +kernel
theorem dX7_goesUnits_101 : dk cX7_goesUnits 101 102 (.aload_n 0) 1 := by unfold dk; decide +kernel
theorem dX7_goesUnits_102 : dk cX7_goesUnits 102 104 (.iload 5) 2 := by unfold dk; decide +kernel
theorem dX7_goesUnits_104 : dk cX7_goesUnits 104 107 (.invokevirtual 286) 3 := by unfold dk; decide +kernel
theorem dX7_goesUnits_107 : bk cX7_goesUnits 107 110 114 (.ifCond .eq 7) (7) := by unfold bk; decide +kernel
theorem dX7_goesUnits_114 : dk cX7_goesUnits 114 115 (.iconst 0) 1 := by unfold dk; decide +kernel
theorem dX7_goesUnits_110 : dk cX7_goesUnits 110 111 (.iload_n 1) 1 := by unfold dk; decide +kernel
theorem dX7_goesUnits_111 : bk cX7_goesUnits 111 114 115 (.goto 4) (4) := by unfold bk; decide +kernel
theorem dX7_goesUnits_115 : dk cX7_goesUnits 115 116 (.isub) 1 := by unfold dk; decide +kernel
theorem dX7_goesUnits_116 : dk cX7_goesUnits 116 117 (.iastore) 1 := by unfold dk; decide +kernel
theorem dX7_goesUnits_117 : dk cX7_goesUnits 117 120 (.iinc 5 1) 3 := by unfold dk; decide +kernel
theorem dX7_goesUnits_120 : bk cX7_goesUnits 120 123 84 (.goto (-36)) (-36) := by unfold bk; decide +kernel
theorem dX7_goesUnits_90 : bk cX7_goesUnits 90 93 123 (.if_icmp .ge 33) (33) := by unfold bk; decide +kernel
theorem dX7_goesUnits_123 : dk cX7_goesUnits 123 124 (.aload_n 0) 1 := by unfold dk; decide +kernel
theorem dX7_goesUnits_124 : dk cX7_goesUnits 124 127 (.getfield 57) 3 := by unfold dk; decide +kernel
theorem dX7_goesUnits_127 : dk cX7_goesUnits 127 129 (.iload 4) 2 := by unfold dk; decide +kernel
theorem dX7_goesUnits_129 : dk cX7_goesUnits 129 130 (.iload_n 1) 1 := by unfold dk; decide +kernel
theorem dX7_goesUnits_130 : dk cX7_goesUnits 130 131 (.iastore) 1 := by unfold dk; decide +kernel
theorem dX7_goesUnits_131 : dk cX7_goesUnits 131 132 (.aload_n 0) 1 := by unfold dk; decide +kernel
theorem dX7_goesUnits_132 : dk cX7_goesUnits 132 135 (.getfield 60) 3 := by unfold dk; decide +kernel
theorem dX7_goesUnits_135 : dk cX7_goesUnits 135 137 (.iload 4) 2 := by unfold dk; decide +kernel
theorem dX7_goesUnits_137 : dk cX7_goesUnits 137 138 (.iload_n 2) 1 := by unfold dk; decide +kernel
theorem dX7_goesUnits_138 : dk cX7_goesUnits 138 139 (.iastore) 1 := by unfold dk; decide +kernel
theorem dX7_goesUnits_139 : dk cX7_goesUnits 139 140 (.aload_n 0) 1 := by unfold dk; decide +kernel
theorem dX7_goesUnits_140 : dk cX7_goesUnits 140 141 (.iload_n 3) 1 := by unfold dk; decide +kernel
theorem dX7_goesUnits_141 : dk cX7_goesUnits 141 144 (.putfield 274) 3 := by unfold dk; decide +kernel
theorem dX7_goesUnits_144 : dk cX7_goesUnits 144 145 (.aload_n 0) 1 := by unfold dk; decide +kernel
theorem dX7_goesUnits_145 : dk cX7_goesUnits 145 146 (.dup) 1 := by unfold dk; decide +kernel
theorem dX7_goesUnits_146 : dk cX7_goesUnits 146 149 (.getfield 280) 3 := by unfold dk; decide +kernel
theorem dX7_goesUnits_149 : dk cX7_goesUnits 149 150 (.iconst 1) 1 := by unfold dk; decide +kernel
theorem dX7_goesUnits_150 : dk cX7_goesUnits 150 151 (.iload_n 3) 1 := by unfold dk; decide +kernel
theorem dX7_goesUnits_151 : dk cX7_goesUnits 151 152 (.ishl) 1 := by unfold dk; decide +kernel
theorem dX7_goesUnits_152 : dk cX7_goesUnits 152 153 (.ior) 1 := by unfold dk; decide +kernel
theorem dX7_goesUnits_153 : dk cX7_goesUnits 153 156 (.putfield 280) 3 := by unfold dk; decide +kernel
theorem dX7_goesUnits_156 : dk cX7_goesUnits 156 157 (.iconst 0) 1 := by unfold dk; decide +kernel
theorem dX7_goesUnits_157 : dk cX7_goesUnits 157 159 (.istore 5) 2 := by unfold dk; decide +kernel
theorem dX7_goesUnits_159 : dk cX7_goesUnits 159 160 (.iconst 0) 1 := by unfold dk; decide +kernel
theorem dX7_goesUnits_160 : dk cX7_goesUnits 160 162 (.istore 6) 2 := by unfold dk; decide +kernel
theorem dX7_goesUnits_162 : dk cX7_goesUnits 162 164 (.iload 6) 2 := by unfold dk; decide +kernel
theorem dX7_goesUnits_164 : dk cX7_goesUnits 164 165 (.aload_n 0) 1 := by unfold dk; decide +kernel
theorem dX7_goesUnits_165 : dk cX7_goesUnits 165 168 (.invokevirtual 155) 3 := by unfold dk; decide +kernel
theorem dX7_goesUnits_171 : dk cX7_goesUnits 171 173 (.iload 5) 2 := by unfold dk; decide +kernel
theorem dX7_goesUnits_173 : dk cX7_goesUnits 173 174 (.aload_n 0) 1 := by unfold dk; decide +kernel
theorem dX7_goesUnits_174 : dk cX7_goesUnits 174 176 (.iload 6) 2 := by unfold dk; decide +kernel
theorem dX7_goesUnits_176 : dk cX7_goesUnits 176 179 (.invokevirtual 286) 3 := by unfold dk; decide +kernel
theorem dX7_goesUnits_179 : dk cX7_goesUnits 179 182 (.invokestatic 151) 3 := by unfold dk; decide +kernel
theorem dX7_goesUnits_182 : dk cX7_goesUnits 182 183 (.iadd) 1 := by unfold dk; decide +kernel
theorem dX7_goesUnits_183 : dk cX7_goesUnits 183 185 (.istore 5) 2 := by unfold dk; decide +kernel
theorem dX7_goesUnits_185 : dk cX7_goesUnits 185 188 (.iinc 6 1) 3 := by unfold dk; decide +kernel
theorem dX7_goesUnits_188 : bk cX7_goesUnits 188 191 162 (.goto (-26)) (-26) := by unfold bk; decide +kernel
theorem dX7_goesUnits_168 : bk cX7_goesUnits 168 171 191 (.if_icmp .ge 23) (23) := by unfold bk; decide +kernel
theorem dX7_goesUnits_191 : dk cX7_goesUnits 191 193 (.iload 5) 2 := by unfold dk; decide +kernel
theorem dX7_goesUnits_193 : dk cX7_goesUnits 193 194 (.iconst 2) 1 := by unfold dk; decide +kernel
theorem dX7_goesUnits_194 : bk cX7_goesUnits 194 197 201 (.if_icmp .ge 7) (7) := by unfold bk; decide +kernel
theorem dX7_goesUnits_197 : dk cX7_goesUnits 197 198 (.aload_n 0) 1 := by unfold dk; decide +kernel
theorem dX7_goesUnits_198 : dk cX7_goesUnits 198 201 (.invokevirtual 294) 3 := by unfold dk; decide +kernel
theorem dX7_goesUnits_201 : dk cX7_goesUnits 201 202 (.iload_n 1) 1 := by unfold dk; decide +kernel
theorem dX7_goesUnits_202 : dk cX7_goesUnits 202 203 (.iload_n 2) 1 := by unfold dk; decide +kernel
theorem dX7_goesUnits_203 : dk cX7_goesUnits 203 204 (.imul) 1 := by unfold dk; decide +kernel
theorem dX7_goesUnits_204 : dk cX7_goesUnits 204 205 (.ireturn) 1 := by unfold dk; decide +kernel
set_option maxHeartbeats 4000000 in
set_option maxRecDepth 100000 in
theorem kX7_goesUnits {l : Launch} {G : Gl} {E : En} {a0 : Nat} {σ σ' : Sg} {r : Int32} : fX7_goesUnits E a0 σ = some (r, σ') → CT l yX7_goesUnits cX7_goesUnits 7 (some .int) ({ frames := 2, cells := 0, slots := 0, locals := 42 } : Room) [.ref (G.1 + a0)] G E σ (some (.int r)) σ' := by
  intro h
  refine CT_of (lv0 := [(0, .ref (G.1 + a0))]) (by decide) (Nat.le_of_ble_eq_true rfl) rfl (fun κ hl hR hr C => ?_)
  have C : Cx κ G cX7_goesUnits RX7 7 := C
  revert h
  unfold fX7_goesUnits
  refine R_tk (fun ha0 => ?_)
  refine R_ldcw C cs7_285 dX7_goesUnits_0 ?_
  refine R_istore_n (lv2 := [(1, .int (2147483647 : Int32)), (0, .ref (G.1 + a0))]) C dX7_goesUnits_3 rfl (by decide) rfl ?_
  refine R_iconst C (0) dX7_goesUnits_4 (by decide) ?_
  refine R_istore_n (lv2 := [(2, .int (0 : Int32)), (1, .int (2147483647 : Int32)), (0, .ref (G.1 + a0))]) C dX7_goesUnits_5 rfl (by decide) rfl ?_
  refine R_iconst C (-1) dX7_goesUnits_6 (by decide) ?_
  refine R_istore_n (lv2 := [(3, .int (-1 : Int32)), (2, .int (0 : Int32)), (1, .int (2147483647 : Int32)), (0, .ref (G.1 + a0))]) C dX7_goesUnits_7 rfl (by decide) rfl ?_
  refine R_iconst C (0) dX7_goesUnits_8 (by decide) ?_
  refine R_istore (lv2 := [(4, .int (0 : Int32)), (3, .int (-1 : Int32)), (2, .int (0 : Int32)), (1, .int (2147483647 : Int32)), (0, .ref (G.1 + a0))]) C dX7_goesUnits_9 (by decide) rfl ?_
  refine R_loc (lv2 := [(0, .ref (G.1 + a0)), (1, .int (2147483647 : Int32)), (2, .int (0 : Int32)), (3, .int (-1 : Int32)), (4, .int (0 : Int32))]) [4, 3, 2, 1, 0] rfl ?_
  refine R_loop (fun (a : (Int32 × Int32 × Int32 × Int32) × Sg) => V κ G (QQ κ G E (some (.int r)) σ') E a.2 (false, 0, 0) 11 [(0, .ref (G.1 + a0)), (1, .int a.1.1), (2, .int a.1.2.1), (3, .int a.1.2.2.1), (4, .int a.1.2.2.2)] []) (fun (o : (Int32 × Int32 × Int32 × Int32)) (s : Sg) => V κ G (QQ κ G E (some (.int r)) σ') E s (false, 0, 0) 75 [(0, .ref (G.1 + a0)), (1, .int o.1), (2, .int o.2.1), (3, .int o.2.2.1)] []) (((2147483647 : Int32), (0 : Int32), (-1 : Int32), (0 : Int32)), σ) (fun o28 s29 => ?_) (fun rec I9 a b7 s8 K6 => ?_)
  · refine R_aload_n C 0 rfl dX7_goesUnits_75 ?_
    refine R_geti C fl7_274 rfl ha0 dX7_goesUnits_76 ?_
    refine S_istore C dX7_goesUnits_79 (fun v30 => [(4, .int v30), (0, .ref (G.1 + a0)), (1, .int o28.1), (2, .int o28.2.1), (3, .int o28.2.2.1)]) (by decide) (fun _ => rfl) (fun v30 => ?_)
    refine R_iconst C (0) dX7_goesUnits_81 (by decide) ?_
    refine R_istore (lv2 := [(5, .int (0 : Int32)), (4, .int v30), (0, .ref (G.1 + a0)), (1, .int o28.1), (2, .int o28.2.1), (3, .int o28.2.2.1)]) C dX7_goesUnits_82 (by decide) rfl ?_
    refine R_loc (lv2 := [(4, .int v30), (0, .ref (G.1 + a0)), (1, .int o28.1), (2, .int o28.2.1), (3, .int o28.2.2.1), (5, .int (0 : Int32))]) [1, 2, 3, 4, 5, 0] rfl ?_
    refine R_loop (fun (a : (Int32) × Sg) => V κ G (QQ κ G E (some (.int r)) σ') E a.2 (false, 0, 0) 84 [(4, .int v30), (0, .ref (G.1 + a0)), (1, .int o28.1), (2, .int o28.2.1), (3, .int o28.2.2.1), (5, .int a.1)] []) (fun (o : (Int32)) (s : Sg) => V κ G (QQ κ G E (some (.int r)) σ') E s (false, 0, 0) 123 [(4, .int v30), (0, .ref (G.1 + a0)), (1, .int o28.1), (2, .int o28.2.1), (3, .int o28.2.2.1)] []) ((0 : Int32), s29) (fun o50 s51 => ?_) (fun rec I36 a b34 s35 K33 => ?_)
    · refine R_aload_n C 1 rfl dX7_goesUnits_123 ?_
      refine R_dr (fun x52 rx52 cx52 => ?_)
      refine R_getr C fl7_57 rfl ha0 rx52 dX7_goesUnits_124 ?_
      refine R_iload C 0 rfl dX7_goesUnits_127 ?_
      refine R_iload_n C 2 rfl dX7_goesUnits_129 ?_
      refine R_ck (fun h53 => ?_)
      refine S_iast C cx52 h53 dX7_goesUnits_130 (fun s54 => ?_)
      refine R_aload_n C 1 rfl dX7_goesUnits_131 ?_
      refine R_dr (fun x55 rx55 cx55 => ?_)
      refine R_getr C fl7_60 rfl ha0 rx55 dX7_goesUnits_132 ?_
      refine R_iload C 0 rfl dX7_goesUnits_135 ?_
      refine R_iload_n C 3 rfl dX7_goesUnits_137 ?_
      refine R_ck (fun h56 => ?_)
      refine S_iast C cx55 h56 dX7_goesUnits_138 (fun s57 => ?_)
      refine R_aload_n C 1 rfl dX7_goesUnits_139 ?_
      refine R_iload_n C 4 rfl dX7_goesUnits_140 ?_
      refine S_puti C fl7_274 rfl ha0 rfl rfl dX7_goesUnits_141 (fun s58 => ?_)
      refine R_aload_n C 1 rfl dX7_goesUnits_144 ?_
      refine R_dup C dX7_goesUnits_145 rfl ?_
      refine R_geti C fl7_280 rfl ha0 dX7_goesUnits_146 ?_
      refine R_iconst C (1) dX7_goesUnits_149 (by decide) ?_
      refine R_iload_n C 4 rfl dX7_goesUnits_150 ?_
      refine R_ishl C dX7_goesUnits_151 ?_
      refine R_ior C dX7_goesUnits_152 ?_
      refine S_puti C fl7_280 rfl ha0 rfl rfl dX7_goesUnits_153 (fun s59 => ?_)
      refine R_iconst C (0) dX7_goesUnits_156 (by decide) ?_
      refine R_istore (lv2 := [(5, .int (0 : Int32)), (4, .int v30), (0, .ref (G.1 + a0)), (1, .int o28.1), (2, .int o28.2.1), (3, .int o28.2.2.1)]) C dX7_goesUnits_157 (by decide) rfl ?_
      refine R_iconst C (0) dX7_goesUnits_159 (by decide) ?_
      refine R_istore (lv2 := [(6, .int (0 : Int32)), (5, .int (0 : Int32)), (4, .int v30), (0, .ref (G.1 + a0)), (1, .int o28.1), (2, .int o28.2.1), (3, .int o28.2.2.1)]) C dX7_goesUnits_160 (by decide) rfl ?_
      refine R_loc (lv2 := [(0, .ref (G.1 + a0)), (1, .int o28.1), (2, .int o28.2.1), (5, .int (0 : Int32)), (6, .int (0 : Int32))]) [3, 4, 5, 1, 0] rfl ?_
      refine R_loop (fun (a : (Int32 × Int32) × Sg) => V κ G (QQ κ G E (some (.int r)) σ') E a.2 (false, 0, 0) 162 [(0, .ref (G.1 + a0)), (1, .int o28.1), (2, .int o28.2.1), (5, .int a.1.1), (6, .int a.1.2)] []) (fun (o : (Int32 × Int32)) (s : Sg) => V κ G (QQ κ G E (some (.int r)) σ') E s (false, 0, 0) 191 [(0, .ref (G.1 + a0)), (1, .int o28.1), (2, .int o28.2.1), (5, .int o.1)] []) (((0 : Int32), (0 : Int32)), s59) (fun o78 s79 => ?_) (fun rec I66 a b64 s65 K63 => ?_)
      · refine R_iload C 3 rfl dX7_goesUnits_191 ?_
        refine R_iconst C (2) dX7_goesUnits_193 (by decide) ?_
        refine R_bdK (fun (w : Unit) (s : Sg) => V κ G (QQ κ G E (some (.int r)) σ') E s (false, 0, 0) 201 [(1, .int o28.1), (2, .int o28.2.1)] []) (fun w80 s81 => ?_) (fun w80 s81 Kw80 => ?_)
        · refine R_iload_n C 0 rfl dX7_goesUnits_201 ?_
          refine R_iload_n C 1 rfl dX7_goesUnits_202 ?_
          refine R_imul C dX7_goesUnits_203 ?_
          exact R_iret C hr dX7_goesUnits_204
        · refine B_icmp_ge C dX7_goesUnits_194 ?_ ?_
          · refine R_loc (lv2 := [(1, .int o28.1), (2, .int o28.2.1)]) [1, 2] rfl ?_
            exact R_end (fun (w : Unit) (s : Sg) => V κ G (QQ κ G E (some (.int r)) σ') E s (false, 0, 0) 201 [(1, .int o28.1), (2, .int o28.2.1)] []) Kw80
          · refine R_aload_n C 0 rfl dX7_goesUnits_197 ?_
            refine R_bv (fun s82 q83 => ?_)
            refine R_callVv [] [] C ml7_294 (kX7_beginsUnits q83) (by rw [hR]; exact ⟨rfl, rfl, Nat.le_of_ble_eq_true rfl, Nat.le_of_ble_eq_true rfl, Nat.zero_le _, Nat.zero_le _⟩) ha0 rfl rfl (Nat.le_of_ble_eq_true rfl) dX7_goesUnits_198 ?_
            refine R_loc (lv2 := [(1, .int o28.1), (2, .int o28.2.1)]) [1, 2] rfl ?_
            exact R_end (fun (w : Unit) (s : Sg) => V κ G (QQ κ G E (some (.int r)) σ') E s (false, 0, 0) 201 [(1, .int o28.1), (2, .int o28.2.1)] []) Kw80
      · obtain ⟨⟨v60, v61⟩, s62⟩ := a
        show bX7_goesUnits_162 E a0 (fun u0 u1 t => rec ((u0, u1), t)) v60 v61 s62 = some (b64, s65) → V κ G (QQ κ G E (some (.int r)) σ') E s62 (false, 0, 0) 162 [(0, .ref (G.1 + a0)), (1, .int o28.1), (2, .int o28.2.1), (5, .int v60), (6, .int v61)] []
        unfold bX7_goesUnits_162
        refine R_iload C 4 rfl dX7_goesUnits_162 ?_
        refine R_aload_n C 0 rfl dX7_goesUnits_164 ?_
        refine R_bd (fun r69 s67 q68 => ?_)
        refine R_callVi [] [.int v61] C ml7_155 (kX7_tapes q68) (by rw [hR]; exact ⟨rfl, rfl, Nat.le_of_ble_eq_true rfl, Nat.le_of_ble_eq_true rfl, Nat.zero_le _, Nat.zero_le _⟩) ha0 rfl rfl (Nat.le_of_ble_eq_true rfl) dX7_goesUnits_165 ?_
        refine B_icmp_ge C dX7_goesUnits_168 ?_ ?_
        · refine R_loc (lv2 := [(0, .ref (G.1 + a0)), (1, .int o28.1), (2, .int o28.2.1), (5, .int v60)]) [0, 1, 2, 3] rfl ?_
          exact R_end (fun (o : (Int32 × Int32)) (s : Sg) => V κ G (QQ κ G E (some (.int r)) σ') E s (false, 0, 0) 191 [(0, .ref (G.1 + a0)), (1, .int o28.1), (2, .int o28.2.1), (5, .int o.1)] []) K63
        · refine R_iload C 3 rfl dX7_goesUnits_171 ?_
          refine R_aload_n C 0 rfl dX7_goesUnits_173 ?_
          refine R_iload C 4 rfl dX7_goesUnits_174 ?_
          refine R_bd (fun r72 s70 q71 => ?_)
          refine R_callVi [.int v61] [.int v60] C ml7_286 (kX7_givesUnits q71) (by rw [hR]; exact ⟨rfl, rfl, Nat.le_of_ble_eq_true rfl, Nat.le_of_ble_eq_true rfl, Nat.zero_le _, Nat.zero_le _⟩) ha0 rfl rfl (Nat.le_of_ble_eq_true rfl) dX7_goesUnits_176 ?_
          refine R_bd (fun r75 s73 q74 => ?_)
          refine R_callSi [.int r72] [.int v60] C ml7_151 (kX7_truth q74) (by rw [hR]; exact ⟨rfl, rfl, Nat.le_of_ble_eq_true rfl, Nat.le_of_ble_eq_true rfl, Nat.zero_le _, Nat.zero_le _⟩) rfl rfl (Nat.le_of_ble_eq_true rfl) dX7_goesUnits_179 ?_
          refine R_iadd C dX7_goesUnits_182 ?_
          refine S_istore C dX7_goesUnits_183 (fun v76 => [(5, .int v76), (0, .ref (G.1 + a0)), (1, .int o28.1), (2, .int o28.2.1), (6, .int v61)]) (by decide) (fun _ => rfl) (fun v76 => ?_)
          refine S_iinc (fun v77 => [(6, .int v77), (5, .int v76), (0, .ref (G.1 + a0)), (1, .int o28.1), (2, .int o28.2.1)]) 4 C dX7_goesUnits_185 rfl (by decide) (by decide) (fun _ => rfl) (fun v77 => ?_)
          refine R_goto C dX7_goesUnits_188 ?_
          refine R_loc (lv2 := [(0, .ref (G.1 + a0)), (1, .int o28.1), (2, .int o28.2.1), (5, .int v76), (6, .int v77)]) [2, 3, 4, 1, 0] rfl ?_
          exact I66 ((v76, v77), s73) b64 s65 K63
    · obtain ⟨v31, s32⟩ := a
      show bX7_goesUnits_84 E a0 o28 (fun u0 t => rec (u0, t)) v31 s32 = some (b34, s35) → V κ G (QQ κ G E (some (.int r)) σ') E s32 (false, 0, 0) 84 [(4, .int v30), (0, .ref (G.1 + a0)), (1, .int o28.1), (2, .int o28.2.1), (3, .int o28.2.2.1), (5, .int v31)] []
      unfold bX7_goesUnits_84
      refine R_iload C 5 rfl dX7_goesUnits_84 ?_
      refine R_aload_n C 1 rfl dX7_goesUnits_86 ?_
      refine R_bd (fun r39 s37 q38 => ?_)
      refine R_callVi [] [.int v31] C ml7_155 (kX7_tapes q38) (by rw [hR]; exact ⟨rfl, rfl, Nat.le_of_ble_eq_true rfl, Nat.le_of_ble_eq_true rfl, Nat.zero_le _, Nat.zero_le _⟩) ha0 rfl rfl (Nat.le_of_ble_eq_true rfl) dX7_goesUnits_87 ?_
      refine B_icmp_ge C dX7_goesUnits_90 ?_ ?_
      · refine R_loc (lv2 := [(4, .int v30), (0, .ref (G.1 + a0)), (1, .int o28.1), (2, .int o28.2.1), (3, .int o28.2.2.1)]) [0, 1, 2, 3, 4] rfl ?_
        exact R_end (fun (o : (Int32)) (s : Sg) => V κ G (QQ κ G E (some (.int r)) σ') E s (false, 0, 0) 123 [(4, .int v30), (0, .ref (G.1 + a0)), (1, .int o28.1), (2, .int o28.2.1), (3, .int o28.2.2.1)] []) K33
      · refine R_aload_n C 1 rfl dX7_goesUnits_93 ?_
        refine R_dr (fun x40 rx40 cx40 => ?_)
        refine R_getr C fl7_57 rfl ha0 rx40 dX7_goesUnits_94 ?_
        refine R_iload C 5 rfl dX7_goesUnits_97 ?_
        refine R_dup2 C dX7_goesUnits_99 rfl rfl ?_
        refine R_ck (fun h41 => ?_)
        refine R_iald C cx40 h41 dX7_goesUnits_100 ?_
        refine R_aload_n C 1 rfl dX7_goesUnits_101 ?_
        refine R_iload C 5 rfl dX7_goesUnits_102 ?_
        refine R_bd (fun r44 s42 q43 => ?_)
        refine R_callVi [.int v31] [.int (gi s37 x40 v31.toNatClampNeg), .int v31, .ref (G.1 + x40)] C ml7_286 (kX7_givesUnits q43) (by rw [hR]; exact ⟨rfl, rfl, Nat.le_of_ble_eq_true rfl, Nat.le_of_ble_eq_true rfl, Nat.zero_le _, Nat.zero_le _⟩) ha0 rfl rfl (Nat.le_of_ble_eq_true rfl) dX7_goesUnits_104 ?_
        refine R_bdK (fun (w : Int32) (s : Sg) => V κ G (QQ κ G E (some (.int r)) σ') E s (false, 0, 0) 115 [(4, .int v30), (0, .ref (G.1 + a0)), (1, .int o28.1), (2, .int o28.2.1), (3, .int o28.2.2.1), (5, .int v31)] [.int w, .int (gi s37 x40 v31.toNatClampNeg), .int v31, .ref (G.1 + x40)]) (fun w45 s46 => ?_) (fun w45 s46 Kw45 => ?_)
        · refine R_isub C dX7_goesUnits_115 ?_
          refine R_ck (fun h47 => ?_)
          refine S_iast C cx40 h47 dX7_goesUnits_116 (fun s48 => ?_)
          refine S_iinc (fun v49 => [(5, .int v49), (4, .int v30), (0, .ref (G.1 + a0)), (1, .int o28.1), (2, .int o28.2.1), (3, .int o28.2.2.1)]) 5 C dX7_goesUnits_117 rfl (by decide) (by decide) (fun _ => rfl) (fun v49 => ?_)
          refine R_goto C dX7_goesUnits_120 ?_
          refine R_loc (lv2 := [(4, .int v30), (0, .ref (G.1 + a0)), (1, .int o28.1), (2, .int o28.2.1), (3, .int o28.2.2.1), (5, .int v49)]) [1, 2, 3, 4, 5, 0] rfl ?_
          exact I36 (v49, s48) b34 s35 K33
        · refine B_if_eq C dX7_goesUnits_107 ?_ ?_
          · refine R_iconst C (0) dX7_goesUnits_114 (by decide) ?_
            exact R_end (fun (w : Int32) (s : Sg) => V κ G (QQ κ G E (some (.int r)) σ') E s (false, 0, 0) 115 [(4, .int v30), (0, .ref (G.1 + a0)), (1, .int o28.1), (2, .int o28.2.1), (3, .int o28.2.2.1), (5, .int v31)] [.int w, .int (gi s37 x40 v31.toNatClampNeg), .int v31, .ref (G.1 + x40)]) Kw45
          · refine R_iload_n C 2 rfl dX7_goesUnits_110 ?_
            refine R_goto C dX7_goesUnits_111 ?_
            exact R_end (fun (w : Int32) (s : Sg) => V κ G (QQ κ G E (some (.int r)) σ') E s (false, 0, 0) 115 [(4, .int v30), (0, .ref (G.1 + a0)), (1, .int o28.1), (2, .int o28.2.1), (3, .int o28.2.2.1), (5, .int v31)] [.int w, .int (gi s37 x40 v31.toNatClampNeg), .int v31, .ref (G.1 + x40)]) Kw45
  · obtain ⟨⟨v1, v2, v3, v4⟩, s5⟩ := a
    show bX7_goesUnits_11 E a0 (fun u0 u1 u2 u3 t => rec ((u0, u1, u2, u3), t)) v1 v2 v3 v4 s5 = some (b7, s8) → V κ G (QQ κ G E (some (.int r)) σ') E s5 (false, 0, 0) 11 [(0, .ref (G.1 + a0)), (1, .int v1), (2, .int v2), (3, .int v3), (4, .int v4)] []
    unfold bX7_goesUnits_11
    refine R_iload C 4 rfl dX7_goesUnits_11 ?_
    refine R_aload_n C 0 rfl dX7_goesUnits_13 ?_
    refine R_bd (fun r12 s10 q11 => ?_)
    refine R_callVi [] [.int v4] C ml7_155 (kX7_tapes q11) (by rw [hR]; exact ⟨rfl, rfl, Nat.le_of_ble_eq_true rfl, Nat.le_of_ble_eq_true rfl, Nat.zero_le _, Nat.zero_le _⟩) ha0 rfl rfl (Nat.le_of_ble_eq_true rfl) dX7_goesUnits_14 ?_
    refine B_icmp_ge C dX7_goesUnits_17 ?_ ?_
    · refine R_loc (lv2 := [(0, .ref (G.1 + a0)), (1, .int v1), (2, .int v2), (3, .int v3)]) [0, 1, 2, 3] rfl ?_
      exact R_end (fun (o : (Int32 × Int32 × Int32 × Int32)) (s : Sg) => V κ G (QQ κ G E (some (.int r)) σ') E s (false, 0, 0) 75 [(0, .ref (G.1 + a0)), (1, .int o.1), (2, .int o.2.1), (3, .int o.2.2.1)] []) K6
    · refine R_aload_n C 0 rfl dX7_goesUnits_20 ?_
      refine R_iload C 4 rfl dX7_goesUnits_21 ?_
      refine R_bd (fun r15 s13 q14 => ?_)
      refine R_callVi [.int v4] [] C ml7_286 (kX7_givesUnits q14) (by rw [hR]; exact ⟨rfl, rfl, Nat.le_of_ble_eq_true rfl, Nat.le_of_ble_eq_true rfl, Nat.zero_le _, Nat.zero_le _⟩) ha0 rfl rfl (Nat.le_of_ble_eq_true rfl) dX7_goesUnits_23 ?_
      refine R_bdK (fun (w : Int32 × Int32 × Int32) (s : Sg) => V κ G (QQ κ G E (some (.int r)) σ') E s (false, 0, 0) 69 [(0, .ref (G.1 + a0)), (4, .int v4), (1, .int w.1), (2, .int w.2.1), (3, .int w.2.2)] []) (fun w16 s17 => ?_) (fun w16 s17 Kw16 => ?_)
      · refine S_iinc (fun v27 => [(4, .int v27), (0, .ref (G.1 + a0)), (1, .int w16.1), (2, .int w16.2.1), (3, .int w16.2.2)]) 1 C dX7_goesUnits_69 rfl (by decide) (by decide) (fun _ => rfl) (fun v27 => ?_)
        refine R_goto C dX7_goesUnits_72 ?_
        refine R_loc (lv2 := [(0, .ref (G.1 + a0)), (1, .int w16.1), (2, .int w16.2.1), (3, .int w16.2.2), (4, .int v27)]) [1, 2, 3, 4, 0] rfl ?_
        exact I9 ((w16.1, w16.2.1, w16.2.2, v27), s17) b7 s8 K6
      · refine B_if_eq C dX7_goesUnits_26 ?_ ?_
        · refine R_loc (lv2 := [(0, .ref (G.1 + a0)), (4, .int v4), (1, .int v1), (2, .int v2), (3, .int v3)]) [0, 4, 1, 2, 3] rfl ?_
          exact R_end (fun (w : Int32 × Int32 × Int32) (s : Sg) => V κ G (QQ κ G E (some (.int r)) σ') E s (false, 0, 0) 69 [(0, .ref (G.1 + a0)), (4, .int v4), (1, .int w.1), (2, .int w.2.1), (3, .int w.2.2)] []) Kw16
        · refine R_aload_n C 0 rfl dX7_goesUnits_29 ?_
          refine R_dr (fun x18 rx18 cx18 => ?_)
          refine R_getr C fl7_57 rfl ha0 rx18 dX7_goesUnits_30 ?_
          refine R_iload C 4 rfl dX7_goesUnits_33 ?_
          refine R_ck (fun h19 => ?_)
          refine R_iald C cx18 h19 dX7_goesUnits_35 ?_
          refine R_iload_n C 1 rfl dX7_goesUnits_36 ?_
          refine R_bdK (fun (w : Int32) (s : Sg) => V κ G (QQ κ G E (some (.int r)) σ') E s (false, 0, 0) 46 [(0, .ref (G.1 + a0)), (1, .int v1), (2, .int v2), (4, .int v4)] [.int w]) (fun w20 s21 => ?_) (fun w20 s21 Kw20 => ?_)
          · refine R_istore_n (lv2 := [(3, .int w20), (0, .ref (G.1 + a0)), (1, .int v1), (2, .int v2), (4, .int v4)]) C dX7_goesUnits_46 rfl (by decide) rfl ?_
            refine R_iload_n C 2 rfl dX7_goesUnits_47 ?_
            refine R_aload_n C 1 rfl dX7_goesUnits_48 ?_
            refine R_getr C fl7_57 rfl ha0 rx18 dX7_goesUnits_49 ?_
            refine R_iload C 4 rfl dX7_goesUnits_52 ?_
            refine R_ck (fun h22 => ?_)
            refine R_iald C cx18 h22 dX7_goesUnits_54 ?_
            refine R_mmin C jd7_289 (by rw [hR]; exact ⟨Nat.le_of_ble_eq_true rfl, Nat.le_of_ble_eq_true rfl, Nat.zero_le _, Nat.zero_le _⟩) dX7_goesUnits_55 ?_
            refine S_istore_n C dX7_goesUnits_58 rfl (fun v23 => [(1, .int v23), (3, .int w20), (0, .ref (G.1 + a0)), (2, .int v2), (4, .int v4)]) (by decide) (fun _ => rfl) (fun v23 => ?_)
            refine R_iload_n C 3 rfl dX7_goesUnits_59 ?_
            refine R_aload_n C 2 rfl dX7_goesUnits_60 ?_
            refine R_dr (fun x24 rx24 cx24 => ?_)
            refine R_getr C fl7_60 rfl ha0 rx24 dX7_goesUnits_61 ?_
            refine R_iload C 4 rfl dX7_goesUnits_64 ?_
            refine R_ck (fun h25 => ?_)
            refine R_iald C cx24 h25 dX7_goesUnits_66 ?_
            refine R_iadd C dX7_goesUnits_67 ?_
            refine S_istore_n C dX7_goesUnits_68 rfl (fun v26 => [(2, .int v26), (1, .int v23), (3, .int w20), (0, .ref (G.1 + a0)), (4, .int v4)]) (by decide) (fun _ => rfl) (fun v26 => ?_)
            refine R_loc (lv2 := [(0, .ref (G.1 + a0)), (4, .int v4), (1, .int v23), (2, .int v26), (3, .int w20)]) [3, 4, 1, 0, 2] rfl ?_
            exact R_end (fun (w : Int32 × Int32 × Int32) (s : Sg) => V κ G (QQ κ G E (some (.int r)) σ') E s (false, 0, 0) 69 [(0, .ref (G.1 + a0)), (4, .int v4), (1, .int w.1), (2, .int w.2.1), (3, .int w.2.2)] []) Kw16
          · refine B_icmp_ge C dX7_goesUnits_37 ?_ ?_
            · refine R_iload_n C 3 rfl dX7_goesUnits_45 ?_
              refine R_loc (lv2 := [(0, .ref (G.1 + a0)), (1, .int v1), (2, .int v2), (4, .int v4)]) [0, 1, 2, 4] rfl ?_
              exact R_end (fun (w : Int32) (s : Sg) => V κ G (QQ κ G E (some (.int r)) σ') E s (false, 0, 0) 46 [(0, .ref (G.1 + a0)), (1, .int v1), (2, .int v2), (4, .int v4)] [.int w]) Kw20
            · refine R_iload C 4 rfl dX7_goesUnits_40 ?_
              refine R_goto C dX7_goesUnits_42 ?_
              refine R_loc (lv2 := [(0, .ref (G.1 + a0)), (1, .int v1), (2, .int v2), (4, .int v4)]) [0, 1, 2, 4] rfl ?_
              exact R_end (fun (w : Int32) (s : Sg) => V κ G (QQ κ G E (some (.int r)) σ') E s (false, 0, 0) 46 [(0, .ref (G.1 + a0)), (1, .int v1), (2, .int v2), (4, .int v4)] [.int w]) Kw20
theorem dX7_isMoreThanOne_0 : dk cX7_isMoreThanOne 0 1 (.iconst 0) 1 := by unfold dk; decide +kernel
theorem dX7_isMoreThanOne_1 : dk cX7_isMoreThanOne 1 2 (.istore_n 1) 1 := by unfold dk; decide +kernel
theorem dX7_isMoreThanOne_2 : dk cX7_isMoreThanOne 2 3 (.iconst 0) 1 := by unfold dk; decide +kernel
theorem dX7_isMoreThanOne_3 : dk cX7_isMoreThanOne 3 4 (.istore_n 2) 1 := by unfold dk; decide +kernel
theorem dX7_isMoreThanOne_4 : dk cX7_isMoreThanOne 4 5 (.iload_n 2) 1 := by unfold dk; decide +kernel
theorem dX7_isMoreThanOne_5 : dk cX7_isMoreThanOne 5 6 (.aload_n 0) 1 := by unfold dk; decide +kernel
theorem dX7_isMoreThanOne_6 : dk cX7_isMoreThanOne 6 9 (.invokevirtual 155) 3 := by unfold dk; decide +kernel
theorem dX7_isMoreThanOne_12 : dk cX7_isMoreThanOne 12 13 (.iload_n 1) 1 := by unfold dk; decide +kernel
theorem dX7_isMoreThanOne_13 : dk cX7_isMoreThanOne 13 14 (.aload_n 0) 1 := by unfold dk; decide +kernel
theorem dX7_isMoreThanOne_14 : dk cX7_isMoreThanOne 14 17 (.getfield 57) 3 := by unfold dk; decide +kernel
theorem dX7_isMoreThanOne_17 : dk cX7_isMoreThanOne 17 18 (.iload_n 2) 1 := by unfold dk; decide +kernel
theorem dX7_isMoreThanOne_18 : dk cX7_isMoreThanOne 18 19 (.iaload) 1 := by unfold dk; decide +kernel
theorem dX7_isMoreThanOne_19 : dk cX7_isMoreThanOne 19 20 (.iadd) 1 := by unfold dk; decide +kernel
theorem dX7_isMoreThanOne_20 : dk cX7_isMoreThanOne 20 21 (.istore_n 1) 1 := by unfold dk; decide +kernel
theorem dX7_isMoreThanOne_21 : dk cX7_isMoreThanOne 21 24 (.iinc 2 1) 3 := by unfold dk; decide +kernel
theorem dX7_isMoreThanOne_24 : bk cX7_isMoreThanOne 24 27 4 (.goto (-20)) (-20) := by unfold bk; decide +kernel
theorem dX7_isMoreThanOne_9 : bk cX7_isMoreThanOne 9 12 27 (.if_icmp .ge 18) (18) := by unfold bk; decide +kernel
theorem dX7_isMoreThanOne_27 : dk cX7_isMoreThanOne 27 28 (.iload_n 1) 1 := by unfold dk; decide +kernel
theorem dX7_isMoreThanOne_28 : dk cX7_isMoreThanOne 28 29 (.iconst 1) 1 := by unfold dk; decide +kernel
theorem dX7_isMoreThanOne_29 : bk cX7_isMoreThanOne 29 32 36 (.if_icmp .le 7) (7) := by unfold bk; decide +kernel
theorem dX7_isMoreThanOne_36 : dk cX7_isMoreThanOne 36 37 (.iconst 0) 1 := by unfold dk; decide +kernel
theorem dX7_isMoreThanOne_32 : dk cX7_isMoreThanOne 32 33 (.iconst 1) 1 := by unfold dk; decide +kernel
theorem dX7_isMoreThanOne_33 : bk cX7_isMoreThanOne 33 36 37 (.goto 4) (4) := by unfold bk; decide +kernel
theorem dX7_isMoreThanOne_37 : dk cX7_isMoreThanOne 37 38 (.ireturn) 1 := by unfold dk; decide +kernel
set_option maxHeartbeats 4000000 in
set_option maxRecDepth 100000 in
theorem kX7_isMoreThanOne {l : Launch} {G : Gl} {E : En} {a0 : Nat} {σ σ' : Sg} {r : Int32} : fX7_isMoreThanOne E a0 σ = some (r, σ') → CT l yX7_isMoreThanOne cX7_isMoreThanOne 3 (some .boolean) ({ frames := 1, cells := 0, slots := 0, locals := 20 } : Room) [.ref (G.1 + a0)] G E σ (some (.int r)) σ' := by
  intro h
  refine CT_of (lv0 := [(0, .ref (G.1 + a0))]) (by decide) (Nat.le_of_ble_eq_true rfl) rfl (fun κ hl hR hr C => ?_)
  have C : Cx κ G cX7_isMoreThanOne RX7 3 := C
  revert h
  unfold fX7_isMoreThanOne
  refine R_tk (fun ha0 => ?_)
  refine R_iconst C (0) dX7_isMoreThanOne_0 (by decide) ?_
  refine R_istore_n (lv2 := [(1, .int (0 : Int32)), (0, .ref (G.1 + a0))]) C dX7_isMoreThanOne_1 rfl (by decide) rfl ?_
  refine R_iconst C (0) dX7_isMoreThanOne_2 (by decide) ?_
  refine R_istore_n (lv2 := [(2, .int (0 : Int32)), (1, .int (0 : Int32)), (0, .ref (G.1 + a0))]) C dX7_isMoreThanOne_3 rfl (by decide) rfl ?_
  refine R_loc (lv2 := [(0, .ref (G.1 + a0)), (1, .int (0 : Int32)), (2, .int (0 : Int32))]) [2, 1, 0] rfl ?_
  refine R_loop (fun (a : (Int32 × Int32) × Sg) => V κ G (QQ κ G E (some (.int r)) σ') E a.2 (false, 0, 0) 4 [(0, .ref (G.1 + a0)), (1, .int a.1.1), (2, .int a.1.2)] []) (fun (o : (Int32 × Int32)) (s : Sg) => V κ G (QQ κ G E (some (.int r)) σ') E s (false, 0, 0) 27 [(1, .int o.1)] []) (((0 : Int32), (0 : Int32)), σ) (fun o15 s16 => ?_) (fun rec I7 a b5 s6 K4 => ?_)
  · refine R_iload_n C 0 rfl dX7_isMoreThanOne_27 ?_
    refine R_iconst C (1) dX7_isMoreThanOne_28 (by decide) ?_
    refine R_bdK (fun (w : Int32) (s : Sg) => V κ G (QQ κ G E (some (.int r)) σ') E s (false, 0, 0) 37 [] [.int w]) (fun w17 s18 => ?_) (fun w17 s18 Kw17 => ?_)
    · refine R_kb (fun h19 => ?_)
      exact R_zret C hr h19 dX7_isMoreThanOne_37
    · refine B_icmp_le C dX7_isMoreThanOne_29 ?_ ?_
      · refine R_iconst C (0) dX7_isMoreThanOne_36 (by decide) ?_
        refine R_loc (lv2 := []) [] rfl ?_
        exact R_end (fun (w : Int32) (s : Sg) => V κ G (QQ κ G E (some (.int r)) σ') E s (false, 0, 0) 37 [] [.int w]) Kw17
      · refine R_iconst C (1) dX7_isMoreThanOne_32 (by decide) ?_
        refine R_goto C dX7_isMoreThanOne_33 ?_
        refine R_loc (lv2 := []) [] rfl ?_
        exact R_end (fun (w : Int32) (s : Sg) => V κ G (QQ κ G E (some (.int r)) σ') E s (false, 0, 0) 37 [] [.int w]) Kw17
  · obtain ⟨⟨v1, v2⟩, s3⟩ := a
    show bX7_isMoreThanOne_4 E a0 (fun u0 u1 t => rec ((u0, u1), t)) v1 v2 s3 = some (b5, s6) → V κ G (QQ κ G E (some (.int r)) σ') E s3 (false, 0, 0) 4 [(0, .ref (G.1 + a0)), (1, .int v1), (2, .int v2)] []
    unfold bX7_isMoreThanOne_4
    refine R_iload_n C 2 rfl dX7_isMoreThanOne_4 ?_
    refine R_aload_n C 0 rfl dX7_isMoreThanOne_5 ?_
    refine R_bd (fun r10 s8 q9 => ?_)
    refine R_callVi [] [.int v2] C ml7_155 (kX7_tapes q9) (by rw [hR]; exact ⟨rfl, rfl, Nat.le_of_ble_eq_true rfl, Nat.le_of_ble_eq_true rfl, Nat.zero_le _, Nat.zero_le _⟩) ha0 rfl rfl (Nat.le_of_ble_eq_true rfl) dX7_isMoreThanOne_6 ?_
    refine B_icmp_ge C dX7_isMoreThanOne_9 ?_ ?_
    · refine R_loc (lv2 := [(1, .int v1)]) [1] rfl ?_
      exact R_end (fun (o : (Int32 × Int32)) (s : Sg) => V κ G (QQ κ G E (some (.int r)) σ') E s (false, 0, 0) 27 [(1, .int o.1)] []) K4
    · refine R_iload_n C 1 rfl dX7_isMoreThanOne_12 ?_
      refine R_aload_n C 0 rfl dX7_isMoreThanOne_13 ?_
      refine R_dr (fun x11 rx11 cx11 => ?_)
      refine R_getr C fl7_57 rfl ha0 rx11 dX7_isMoreThanOne_14 ?_
      refine R_iload_n C 2 rfl dX7_isMoreThanOne_17 ?_
      refine R_ck (fun h12 => ?_)
      refine R_iald C cx11 h12 dX7_isMoreThanOne_18 ?_
      refine R_iadd C dX7_isMoreThanOne_19 ?_
      refine S_istore_n C dX7_isMoreThanOne_20 rfl (fun v13 => [(1, .int v13), (0, .ref (G.1 + a0)), (2, .int v2)]) (by decide) (fun _ => rfl) (fun v13 => ?_)
      refine S_iinc (fun v14 => [(2, .int v14), (1, .int v13), (0, .ref (G.1 + a0))]) 2 C dX7_isMoreThanOne_21 rfl (by decide) (by decide) (fun _ => rfl) (fun v14 => ?_)
      refine R_goto C dX7_isMoreThanOne_24 ?_
      refine R_loc (lv2 := [(0, .ref (G.1 + a0)), (1, .int v13), (2, .int v14)]) [2, 1, 0] rfl ?_
      exact I7 ((v13, v14), s8) b5 s6 K4
theorem dX7_units_0 : dk cX7_units 0 1 (.iload_n 1) 1 := by unfold dk; decide +kernel
theorem dX7_units_1 : dk cX7_units 1 2 (.iconst 0) 1 := by unfold dk; decide +kernel
theorem dX7_units_2 : dk cX7_units 2 3 (.iconst 5) 1 := by unfold dk; decide +kernel
theorem dX7_units_3 : dk cX7_units 3 6 (.invokestatic 116) 3 := by unfold dk; decide +kernel
theorem dX7_units_17 : dk cX7_units 17 18 (.iconst (-1)) 1 := by unfold dk; decide +kernel
theorem dX7_units_18 : dk cX7_units 18 19 (.ireturn) 1 := by unfold dk; decide +kernel
theorem dX7_units_9 : dk cX7_units 9 10 (.aload_n 0) 1 := by unfold dk; decide +kernel
theorem dX7_units_10 : dk cX7_units 10 13 (.invokevirtual 158) 3 := by unfold dk; decide +kernel
theorem dX7_units_13 : dk cX7_units 13 14 (.iconst 1) 1 := by unfold dk; decide +kernel
theorem dX7_units_19 : dk cX7_units 19 20 (.aload_n 0) 1 := by unfold dk; decide +kernel
theorem dX7_units_20 : dk cX7_units 20 23 (.invokevirtual 155) 3 := by unfold dk; decide +kernel
theorem dX7_units_23 : dk cX7_units 23 24 (.iconst 1) 1 := by unfold dk; decide +kernel
theorem dX7_units_24 : dk cX7_units 24 25 (.isub) 1 := by unfold dk; decide +kernel
theorem dX7_units_25 : dk cX7_units 25 26 (.istore_n 2) 1 := by unfold dk; decide +kernel
theorem dX7_units_26 : dk cX7_units 26 27 (.aload_n 0) 1 := by unfold dk; decide +kernel
theorem dX7_units_27 : dk cX7_units 27 28 (.iload_n 1) 1 := by unfold dk; decide +kernel
theorem dX7_units_28 : dk cX7_units 28 29 (.aload_n 0) 1 := by unfold dk; decide +kernel
theorem dX7_units_29 : dk cX7_units 29 32 (.invokevirtual 158) 3 := by unfold dk; decide +kernel
theorem dX7_units_32 : dk cX7_units 32 33 (.iload_n 2) 1 := by unfold dk; decide +kernel
theorem dX7_units_33 : dk cX7_units 33 36 (.invokevirtual 161) 3 := by unfold dk; decide +kernel
theorem dX7_units_36 : dk cX7_units 36 37 (.iconst 0) 1 := by unfold dk; decide +kernel
theorem dX7_units_37 : dk cX7_units 37 38 (.istore_n 3) 1 := by unfold dk; decide +kernel
theorem dX7_units_38 : dk cX7_units 38 39 (.iload_n 3) 1 := by unfold dk; decide +kernel
theorem dX7_units_39 : dk cX7_units 39 41 (.bipush 6) 2 := by unfold dk; decide +kernel
theorem dX7_units_44 : dk cX7_units 44 45 (.aload_n 0) 1 := by unfold dk; decide +kernel
theorem dX7_units_45 : dk cX7_units 45 48 (.getfield 57) 3 := by unfold dk; decide +kernel
theorem dX7_units_48 : dk cX7_units 48 49 (.iload_n 3) 1 := by unfold dk; decide +kernel
theorem dX7_units_49 : dk cX7_units 49 50 (.iload_n 3) 1 := by unfold dk; decide +kernel
theorem dX7_units_50 : dk cX7_units 50 51 (.iload_n 2) 1 := by unfold dk; decide +kernel
theorem dX7_units_51 : bk cX7_units 51 54 63 (.if_icmp .ge 12) (12) := by unfold bk; decide +kernel
theorem dX7_units_63 : dk cX7_units 63 64 (.iconst 0) 1 := by unfold dk; decide +kernel
theorem dX7_units_54 : dk cX7_units 54 55 (.aload_n 0) 1 := by unfold dk; decide +kernel
theorem dX7_units_55 : dk cX7_units 55 58 (.getfield 33) 3 := by unfold dk; decide +kernel
theorem dX7_units_58 : dk cX7_units 58 59 (.iload_n 3) 1 := by unfold dk; decide +kernel
theorem dX7_units_59 : dk cX7_units 59 60 (.iaload) 1 := by unfold dk; decide +kernel
theorem dX7_units_60 : bk cX7_units 60 63 64 (.goto 4) (4) := by unfold bk; decide +kernel
theorem dX7_units_64 : dk cX7_units 64 65 (.iastore) 1 := by unfold dk; decide +kernel
theorem dX7_units_65 : dk cX7_units 65 66 (.aload_n 0) 1 := by unfold dk; decide +kernel
theorem dX7_units_66 : dk cX7_units 66 69 (.getfield 60) 3 := by unfold dk; decide +kernel
theorem dX7_units_69 : dk cX7_units 69 70 (.iload_n 3) 1 := by unfold dk; decide +kernel
theorem dX7_units_70 : dk cX7_units 70 71 (.iconst 1) 1 := by unfold dk; decide +kernel
theorem dX7_units_71 : dk cX7_units 71 72 (.iastore) 1 := by unfold dk; decide +kernel
theorem dX7_units_72 : dk cX7_units 72 75 (.iinc 3 1) 3 := by unfold dk; decide +kernel
theorem dX7_units_75 : bk cX7_units 75 78 38 (.goto (-37)) (-37) := by unfold bk; decide +kernel
theorem dX7_units_41 : bk cX7_units 41 44 78 (.if_icmp .ge 37) (37) := by unfold bk; decide +kernel
theorem dX7_units_78 : dk cX7_units 78 79 (.aload_n 0) 1 := by unfold dk; decide +kernel
theorem dX7_units_79 : dk cX7_units 79 80 (.iload_n 2) 1 := by unfold dk; decide +kernel
theorem dX7_units_80 : dk cX7_units 80 83 (.putfield 274) 3 := by unfold dk; decide +kernel
theorem dX7_units_83 : dk cX7_units 83 84 (.aload_n 0) 1 := by unfold dk; decide +kernel
theorem dX7_units_84 : dk cX7_units 84 87 (.invokevirtual 294) 3 := by unfold dk; decide +kernel
theorem dX7_units_87 : dk cX7_units 87 88 (.iconst 0) 1 := by unfold dk; decide +kernel
theorem dX7_units_88 : dk cX7_units 88 89 (.istore_n 3) 1 := by unfold dk; decide +kernel
theorem dX7_units_89 : dk cX7_units 89 90 (.aload_n 0) 1 := by unfold dk; decide +kernel
theorem dX7_units_90 : dk cX7_units 90 93 (.invokevirtual 297) 3 := by unfold dk; decide +kernel
theorem dX7_units_96 : dk cX7_units 96 97 (.iload_n 3) 1 := by unfold dk; decide +kernel
theorem dX7_units_97 : dk cX7_units 97 98 (.aload_n 0) 1 := by unfold dk; decide +kernel
theorem dX7_units_98 : dk cX7_units 98 101 (.invokevirtual 300) 3 := by unfold dk; decide +kernel
theorem dX7_units_101 : dk cX7_units 101 102 (.iadd) 1 := by unfold dk; decide +kernel
theorem dX7_units_102 : dk cX7_units 102 103 (.istore_n 3) 1 := by unfold dk; decide +kernel
theorem dX7_units_103 : bk cX7_units 103 106 89 (.goto (-14)) (-14) := by unfold bk; decide +kernel
theorem dX7_units_93 : bk cX7_units 93 96 106 (.ifCond .eq 13) (13) := by unfold bk; decide +kernel
theorem dX7_units_106 : dk cX7_units 106 107 (.iload_n 3) 1 := by unfold dk; decide +kernel
theorem dX7_units_107 : dk cX7_units 107 108 (.ireturn) 1 := by unfold dk; decide +kernel
theorem dX7_units_14 : bk cX7_units 14 17 19 (.if_icmp .ne 5) (5) := by unfold bk; decide +kernel
theorem dX7_units_6 : bk cX7_units 6 9 17 (.ifCond .eq 11) (11) := by unfold bk; decide +kernel
set_option maxHeartbeats 4000000 in
set_option maxRecDepth 100000 in
theorem kX7_units {l : Launch} {G : Gl} {E : En} {a0 : Nat} {a1 : Int32} {σ σ' : Sg} {r : Int32} : fX7_units E a0 a1 σ = some (r, σ') → CT l yX7_units cX7_units 4 (some .int) ({ frames := 3, cells := 0, slots := 0, locals := 68 } : Room) [.ref (G.1 + a0), .int a1] G E σ (some (.int r)) σ' := by
  intro h
  refine CT_of (lv0 := [(0, .ref (G.1 + a0)), (1, .int a1)]) (by decide) (Nat.le_of_ble_eq_true rfl) rfl (fun κ hl hR hr C => ?_)
  have C : Cx κ G cX7_units RX7 4 := C
  revert h
  unfold fX7_units
  refine R_tk (fun ha0 => ?_)
  refine R_iload_n C 1 rfl dX7_units_0 ?_
  refine R_iconst C (0) dX7_units_1 (by decide) ?_
  refine R_iconst C (5) dX7_units_2 (by decide) ?_
  refine R_bd (fun r3 s1 q2 => ?_)
  refine R_callSi [.int a1, .int (0 : Int32), .int (5 : Int32)] [] C ml7_116 (kX7_in q2) (by rw [hR]; exact ⟨rfl, rfl, Nat.le_of_ble_eq_true rfl, Nat.le_of_ble_eq_true rfl, Nat.zero_le _, Nat.zero_le _⟩) rfl rfl (Nat.le_of_ble_eq_true rfl) dX7_units_3 ?_
  refine B_if_eq C dX7_units_6 ?_ ?_
  · refine R_iconst C (-1) dX7_units_17 (by decide) ?_
    exact R_iret C hr dX7_units_18
  · refine R_aload_n C 0 rfl dX7_units_9 ?_
    refine R_bd (fun r6 s4 q5 => ?_)
    refine R_callVi [] [] C ml7_158 (kX7_way q5) (by rw [hR]; exact ⟨rfl, rfl, Nat.le_of_ble_eq_true rfl, Nat.le_of_ble_eq_true rfl, Nat.zero_le _, Nat.zero_le _⟩) ha0 rfl rfl (Nat.le_of_ble_eq_true rfl) dX7_units_10 ?_
    refine R_iconst C (1) dX7_units_13 (by decide) ?_
    refine B_icmp_ne C dX7_units_14 ?_ ?_
    · refine R_aload_n C 0 rfl dX7_units_19 ?_
      refine R_bd (fun r9 s7 q8 => ?_)
      refine R_callVi [] [] C ml7_155 (kX7_tapes q8) (by rw [hR]; exact ⟨rfl, rfl, Nat.le_of_ble_eq_true rfl, Nat.le_of_ble_eq_true rfl, Nat.zero_le _, Nat.zero_le _⟩) ha0 rfl rfl (Nat.le_of_ble_eq_true rfl) dX7_units_20 ?_
      refine R_iconst C (1) dX7_units_23 (by decide) ?_
      refine R_isub C dX7_units_24 ?_
      refine S_istore_n C dX7_units_25 rfl (fun v10 => [(2, .int v10), (0, .ref (G.1 + a0)), (1, .int a1)]) (by decide) (fun _ => rfl) (fun v10 => ?_)
      refine R_aload_n C 1 rfl dX7_units_26 ?_
      refine R_iload_n C 2 rfl dX7_units_27 ?_
      refine R_aload_n C 1 rfl dX7_units_28 ?_
      refine R_bd (fun r13 s11 q12 => ?_)
      refine R_callVi [] [.int a1, .ref (G.1 + a0)] C ml7_158 (kX7_way q12) (by rw [hR]; exact ⟨rfl, rfl, Nat.le_of_ble_eq_true rfl, Nat.le_of_ble_eq_true rfl, Nat.zero_le _, Nat.zero_le _⟩) ha0 rfl rfl (Nat.le_of_ble_eq_true rfl) dX7_units_29 ?_
      refine R_iload_n C 0 rfl dX7_units_32 ?_
      refine R_bv (fun s14 q15 => ?_)
      refine R_callVv [.int a1, .int r13, .int v10] [] C ml7_161 (kX7_laysPerfect q15) (by rw [hR]; exact ⟨rfl, rfl, Nat.le_of_ble_eq_true rfl, Nat.le_of_ble_eq_true rfl, Nat.zero_le _, Nat.zero_le _⟩) ha0 rfl rfl (Nat.le_of_ble_eq_true rfl) dX7_units_33 ?_
      refine R_iconst C (0) dX7_units_36 (by decide) ?_
      refine R_istore_n (lv2 := [(3, .int (0 : Int32)), (2, .int v10), (0, .ref (G.1 + a0)), (1, .int a1)]) C dX7_units_37 rfl (by decide) rfl ?_
      refine R_loc (lv2 := [(2, .int v10), (0, .ref (G.1 + a0)), (3, .int (0 : Int32))]) [1, 2, 0] rfl ?_
      refine R_loop (fun (a : (Int32) × Sg) => V κ G (QQ κ G E (some (.int r)) σ') E a.2 (false, 0, 0) 38 [(2, .int v10), (0, .ref (G.1 + a0)), (3, .int a.1)] []) (fun (o : (Int32)) (s : Sg) => V κ G (QQ κ G E (some (.int r)) σ') E s (false, 0, 0) 78 [(2, .int v10), (0, .ref (G.1 + a0))] []) ((0 : Int32), s14) (fun o33 s34 => ?_) (fun rec I21 a b19 s20 K18 => ?_)
      · refine R_aload_n C 1 rfl dX7_units_78 ?_
        refine R_iload_n C 0 rfl dX7_units_79 ?_
        refine S_puti C fl7_274 rfl ha0 rfl rfl dX7_units_80 (fun s35 => ?_)
        refine R_aload_n C 1 rfl dX7_units_83 ?_
        refine R_bv (fun s36 q37 => ?_)
        refine R_callVv [] [] C ml7_294 (kX7_beginsUnits q37) (by rw [hR]; exact ⟨rfl, rfl, Nat.le_of_ble_eq_true rfl, Nat.le_of_ble_eq_true rfl, Nat.zero_le _, Nat.zero_le _⟩) ha0 rfl rfl (Nat.le_of_ble_eq_true rfl) dX7_units_84 ?_
        refine R_iconst C (0) dX7_units_87 (by decide) ?_
        refine R_istore_n (lv2 := [(3, .int (0 : Int32)), (2, .int v10), (0, .ref (G.1 + a0))]) C dX7_units_88 rfl (by decide) rfl ?_
        refine R_loc (lv2 := [(0, .ref (G.1 + a0)), (3, .int (0 : Int32))]) [2, 0] rfl ?_
        refine R_loop (fun (a : (Int32) × Sg) => V κ G (QQ κ G E (some (.int r)) σ') E a.2 (false, 0, 0) 89 [(0, .ref (G.1 + a0)), (3, .int a.1)] []) (fun (o : (Int32)) (s : Sg) => V κ G (QQ κ G E (some (.int r)) σ') E s (false, 0, 0) 106 [(3, .int o)] []) ((0 : Int32), s36) (fun o51 s52 => ?_) (fun rec I43 a b41 s42 K40 => ?_)
        · refine R_iload_n C 0 rfl dX7_units_106 ?_
          exact R_iret C hr dX7_units_107
        · obtain ⟨v38, s39⟩ := a
          show bX7_units_89 E a0 (fun u0 t => rec (u0, t)) v38 s39 = some (b41, s42) → V κ G (QQ κ G E (some (.int r)) σ') E s39 (false, 0, 0) 89 [(0, .ref (G.1 + a0)), (3, .int v38)] []
          unfold bX7_units_89
          refine R_aload_n C 0 rfl dX7_units_89 ?_
          refine R_bd (fun r46 s44 q45 => ?_)
          refine R_callVi [] [] C ml7_297 (kX7_isMoreThanOne q45) (by rw [hR]; exact ⟨rfl, rfl, Nat.le_of_ble_eq_true rfl, Nat.le_of_ble_eq_true rfl, Nat.zero_le _, Nat.zero_le _⟩) ha0 rfl rfl (Nat.le_of_ble_eq_true rfl) dX7_units_90 ?_
          refine B_if_eq C dX7_units_93 ?_ ?_
          · refine R_loc (lv2 := [(3, .int v38)]) [1] rfl ?_
            exact R_end (fun (o : (Int32)) (s : Sg) => V κ G (QQ κ G E (some (.int r)) σ') E s (false, 0, 0) 106 [(3, .int o)] []) K40
          · refine R_iload_n C 1 rfl dX7_units_96 ?_
            refine R_aload_n C 0 rfl dX7_units_97 ?_
            refine R_bd (fun r49 s47 q48 => ?_)
            refine R_callVi [] [.int v38] C ml7_300 (kX7_goesUnits q48) (by rw [hR]; exact ⟨rfl, rfl, Nat.le_of_ble_eq_true rfl, Nat.le_of_ble_eq_true rfl, Nat.zero_le _, Nat.zero_le _⟩) ha0 rfl rfl (Nat.le_of_ble_eq_true rfl) dX7_units_98 ?_
            refine R_iadd C dX7_units_101 ?_
            refine S_istore_n C dX7_units_102 rfl (fun v50 => [(3, .int v50), (0, .ref (G.1 + a0))]) (by decide) (fun _ => rfl) (fun v50 => ?_)
            refine R_goto C dX7_units_103 ?_
            refine R_loc (lv2 := [(0, .ref (G.1 + a0)), (3, .int v50)]) [1, 0] rfl ?_
            exact I43 (v50, s47) b41 s42 K40
      · obtain ⟨v16, s17⟩ := a
        show bX7_units_38 E a0 v10 (fun u0 t => rec (u0, t)) v16 s17 = some (b19, s20) → V κ G (QQ κ G E (some (.int r)) σ') E s17 (false, 0, 0) 38 [(2, .int v10), (0, .ref (G.1 + a0)), (3, .int v16)] []
        unfold bX7_units_38
        refine R_iload_n C 2 rfl dX7_units_38 ?_
        refine R_bipush C (6) dX7_units_39 (by decide) ?_
        refine B_icmp_ge C dX7_units_41 ?_ ?_
        · refine R_loc (lv2 := [(2, .int v10), (0, .ref (G.1 + a0))]) [0, 1] rfl ?_
          exact R_end (fun (o : (Int32)) (s : Sg) => V κ G (QQ κ G E (some (.int r)) σ') E s (false, 0, 0) 78 [(2, .int v10), (0, .ref (G.1 + a0))] []) K18
        · refine R_aload_n C 1 rfl dX7_units_44 ?_
          refine R_dr (fun x22 rx22 cx22 => ?_)
          refine R_getr C fl7_57 rfl ha0 rx22 dX7_units_45 ?_
          refine R_iload_n C 2 rfl dX7_units_48 ?_
          refine R_iload_n C 2 rfl dX7_units_49 ?_
          refine R_iload_n C 0 rfl dX7_units_50 ?_
          refine R_bdK (fun (w : Int32) (s : Sg) => V κ G (QQ κ G E (some (.int r)) σ') E s (false, 0, 0) 64 [(2, .int v10), (0, .ref (G.1 + a0)), (3, .int v16)] [.int w, .int v16, .ref (G.1 + x22)]) (fun w23 s24 => ?_) (fun w23 s24 Kw23 => ?_)
          · refine R_ck (fun h27 => ?_)
            refine S_iast C cx22 h27 dX7_units_64 (fun s28 => ?_)
            refine R_aload_n C 1 rfl dX7_units_65 ?_
            refine R_dr (fun x29 rx29 cx29 => ?_)
            refine R_getr C fl7_60 rfl ha0 rx29 dX7_units_66 ?_
            refine R_iload_n C 2 rfl dX7_units_69 ?_
            refine R_iconst C (1) dX7_units_70 (by decide) ?_
            refine R_ck (fun h30 => ?_)
            refine S_iast C cx29 h30 dX7_units_71 (fun s31 => ?_)
            refine S_iinc (fun v32 => [(3, .int v32), (2, .int v10), (0, .ref (G.1 + a0))]) 2 C dX7_units_72 rfl (by decide) (by decide) (fun _ => rfl) (fun v32 => ?_)
            refine R_goto C dX7_units_75 ?_
            refine R_loc (lv2 := [(2, .int v10), (0, .ref (G.1 + a0)), (3, .int v32)]) [1, 2, 0] rfl ?_
            exact I21 (v32, s31) b19 s20 K18
          · refine B_icmp_ge C dX7_units_51 ?_ ?_
            · refine R_iconst C (0) dX7_units_63 (by decide) ?_
              exact R_end (fun (w : Int32) (s : Sg) => V κ G (QQ κ G E (some (.int r)) σ') E s (false, 0, 0) 64 [(2, .int v10), (0, .ref (G.1 + a0)), (3, .int v16)] [.int w, .int v16, .ref (G.1 + x22)]) Kw23
            · refine R_aload_n C 1 rfl dX7_units_54 ?_
              refine R_dr (fun x25 rx25 cx25 => ?_)
              refine R_getr C fl7_33 rfl ha0 rx25 dX7_units_55 ?_
              refine R_iload_n C 2 rfl dX7_units_58 ?_
              refine R_ck (fun h26 => ?_)
              refine R_iald C cx25 h26 dX7_units_59 ?_
              refine R_goto C dX7_units_60 ?_
              exact R_end (fun (w : Int32) (s : Sg) => V κ G (QQ κ G E (some (.int r)) σ') E s (false, 0, 0) 64 [(2, .int v10), (0, .ref (G.1 + a0)), (3, .int v16)] [.int w, .int v16, .ref (G.1 + x22)]) Kw23
    · refine R_iconst C (-1) dX7_units_17 (by decide) ?_
      exact R_iret C hr dX7_units_18
theorem dX7_takesLeast_0 : dk cX7_takesLeast 0 1 (.iconst 0) 1 := by unfold dk; decide +kernel
theorem dX7_takesLeast_1 : dk cX7_takesLeast 1 2 (.istore_n 2) 1 := by unfold dk; decide +kernel
theorem dX7_takesLeast_2 : dk cX7_takesLeast 2 3 (.iconst 1) 1 := by unfold dk; decide +kernel
theorem dX7_takesLeast_3 : dk cX7_takesLeast 3 4 (.istore_n 3) 1 := by unfold dk; decide +kernel
theorem dX7_takesLeast_4 : dk cX7_takesLeast 4 5 (.iload_n 3) 1 := by unfold dk; decide +kernel
theorem dX7_takesLeast_5 : dk cX7_takesLeast 5 6 (.iload_n 1) 1 := by unfold dk; decide +kernel
theorem dX7_takesLeast_9 : dk cX7_takesLeast 9 10 (.aload_n 0) 1 := by unfold dk; decide +kernel
theorem dX7_takesLeast_10 : dk cX7_takesLeast 10 13 (.getfield 63) 3 := by unfold dk; decide +kernel
theorem dX7_takesLeast_13 : dk cX7_takesLeast 13 14 (.iload_n 3) 1 := by unfold dk; decide +kernel
theorem dX7_takesLeast_14 : dk cX7_takesLeast 14 15 (.iaload) 1 := by unfold dk; decide +kernel
theorem dX7_takesLeast_15 : dk cX7_takesLeast 15 16 (.aload_n 0) 1 := by unfold dk; decide +kernel
theorem dX7_takesLeast_16 : dk cX7_takesLeast 16 19 (.getfield 63) 3 := by unfold dk; decide +kernel
theorem dX7_takesLeast_19 : dk cX7_takesLeast 19 20 (.iload_n 2) 1 := by unfold dk; decide +kernel
theorem dX7_takesLeast_20 : dk cX7_takesLeast 20 21 (.iaload) 1 := by unfold dk; decide +kernel
theorem dX7_takesLeast_21 : bk cX7_takesLeast 21 24 28 (.if_icmp .ge 7) (7) := by unfold bk; decide +kernel
theorem dX7_takesLeast_28 : dk cX7_takesLeast 28 29 (.iload_n 2) 1 := by unfold dk; decide +kernel
theorem dX7_takesLeast_24 : dk cX7_takesLeast 24 25 (.iload_n 3) 1 := by unfold dk; decide +kernel
theorem dX7_takesLeast_25 : bk cX7_takesLeast 25 28 29 (.goto 4) (4) := by unfold bk; decide +kernel
theorem dX7_takesLeast_29 : dk cX7_takesLeast 29 30 (.istore_n 2) 1 := by unfold dk; decide +kernel
theorem dX7_takesLeast_30 : dk cX7_takesLeast 30 33 (.iinc 3 1) 3 := by unfold dk; decide +kernel
theorem dX7_takesLeast_33 : bk cX7_takesLeast 33 36 4 (.goto (-29)) (-29) := by unfold bk; decide +kernel
theorem dX7_takesLeast_6 : bk cX7_takesLeast 6 9 36 (.if_icmp .ge 30) (30) := by unfold bk; decide +kernel
theorem dX7_takesLeast_36 : dk cX7_takesLeast 36 37 (.aload_n 0) 1 := by unfold dk; decide +kernel
theorem dX7_takesLeast_37 : dk cX7_takesLeast 37 40 (.getfield 63) 3 := by unfold dk; decide +kernel
theorem dX7_takesLeast_40 : dk cX7_takesLeast 40 41 (.iload_n 2) 1 := by unfold dk; decide +kernel
theorem dX7_takesLeast_41 : dk cX7_takesLeast 41 42 (.iaload) 1 := by unfold dk; decide +kernel
theorem dX7_takesLeast_42 : dk cX7_takesLeast 42 43 (.istore_n 3) 1 := by unfold dk; decide +kernel
theorem dX7_takesLeast_43 : dk cX7_takesLeast 43 44 (.aload_n 0) 1 := by unfold dk; decide +kernel
theorem dX7_takesLeast_44 : dk cX7_takesLeast 44 47 (.getfield 63) 3 := by unfold dk; decide +kernel
theorem dX7_takesLeast_47 : dk cX7_takesLeast 47 48 (.iload_n 2) 1 := by unfold dk; decide +kernel
theorem dX7_takesLeast_48 : dk cX7_takesLeast 48 49 (.aload_n 0) 1 := by unfold dk; decide +kernel
theorem dX7_takesLeast_49 : dk cX7_takesLeast 49 52 (.getfield 63) 3 := by unfold dk; decide +kernel
theorem dX7_takesLeast_52 : dk cX7_takesLeast 52 53 (.iload_n 1) 1 := by unfold dk; decide +kernel
theorem dX7_takesLeast_53 : dk cX7_takesLeast 53 54 (.iconst 1) 1 := by unfold dk; decide +kernel
theorem dX7_takesLeast_54 : dk cX7_takesLeast 54 55 (.isub) 1 := by unfold dk; decide +kernel
theorem dX7_takesLeast_55 : dk cX7_takesLeast 55 56 (.iaload) 1 := by unfold dk; decide +kernel
theorem dX7_takesLeast_56 : dk cX7_takesLeast 56 57 (.iastore) 1 := by unfold dk; decide +kernel
theorem dX7_takesLeast_57 : dk cX7_takesLeast 57 58 (.iload_n 3) 1 := by unfold dk; decide +kernel
theorem dX7_takesLeast_58 : dk cX7_takesLeast 58 59 (.ireturn) 1 := by unfold dk; decide +kernel
set_option maxHeartbeats 4000000 in
set_option maxRecDepth 100000 in
theorem kX7_takesLeast {l : Launch} {G : Gl} {E : En} {a0 : Nat} {a1 : Int32} {σ σ' : Sg} {r : Int32} : fX7_takesLeast E a0 a1 σ = some (r, σ') → CT l yX7_takesLeast cX7_takesLeast 4 (some .int) ({ frames := 0, cells := 0, slots := 0, locals := 0 } : Room) [.ref (G.1 + a0), .int a1] G E σ (some (.int r)) σ' := by
  intro h
  refine CT_of (lv0 := [(0, .ref (G.1 + a0)), (1, .int a1)]) (by decide) (Nat.le_of_ble_eq_true rfl) rfl (fun κ hl hR hr C => ?_)
  have C : Cx κ G cX7_takesLeast RX7 4 := C
  revert h
  unfold fX7_takesLeast
  refine R_tk (fun ha0 => ?_)
  refine R_iconst C (0) dX7_takesLeast_0 (by decide) ?_
  refine R_istore_n (lv2 := [(2, .int (0 : Int32)), (0, .ref (G.1 + a0)), (1, .int a1)]) C dX7_takesLeast_1 rfl (by decide) rfl ?_
  refine R_iconst C (1) dX7_takesLeast_2 (by decide) ?_
  refine R_istore_n (lv2 := [(3, .int (1 : Int32)), (2, .int (0 : Int32)), (0, .ref (G.1 + a0)), (1, .int a1)]) C dX7_takesLeast_3 rfl (by decide) rfl ?_
  refine R_loc (lv2 := [(0, .ref (G.1 + a0)), (1, .int a1), (2, .int (0 : Int32)), (3, .int (1 : Int32))]) [2, 3, 1, 0] rfl ?_
  refine R_loop (fun (a : (Int32 × Int32) × Sg) => V κ G (QQ κ G E (some (.int r)) σ') E a.2 (false, 0, 0) 4 [(0, .ref (G.1 + a0)), (1, .int a1), (2, .int a.1.1), (3, .int a.1.2)] []) (fun (o : (Int32 × Int32)) (s : Sg) => V κ G (QQ κ G E (some (.int r)) σ') E s (false, 0, 0) 36 [(0, .ref (G.1 + a0)), (1, .int a1), (2, .int o.1)] []) (((0 : Int32), (1 : Int32)), σ) (fun o14 s15 => ?_) (fun rec I7 a b5 s6 K4 => ?_)
  · refine R_aload_n C 0 rfl dX7_takesLeast_36 ?_
    refine R_dr (fun x16 rx16 cx16 => ?_)
    refine R_getr C fl7_63 rfl ha0 rx16 dX7_takesLeast_37 ?_
    refine R_iload_n C 2 rfl dX7_takesLeast_40 ?_
    refine R_ck (fun h17 => ?_)
    refine R_iald C cx16 h17 dX7_takesLeast_41 ?_
    refine S_istore_n C dX7_takesLeast_42 rfl (fun v18 => [(3, .int v18), (0, .ref (G.1 + a0)), (1, .int a1), (2, .int o14.1)]) (by decide) (fun _ => rfl) (fun v18 => ?_)
    refine R_aload_n C 1 rfl dX7_takesLeast_43 ?_
    refine R_getr C fl7_63 rfl ha0 rx16 dX7_takesLeast_44 ?_
    refine R_iload_n C 3 rfl dX7_takesLeast_47 ?_
    refine R_aload_n C 1 rfl dX7_takesLeast_48 ?_
    refine R_getr C fl7_63 rfl ha0 rx16 dX7_takesLeast_49 ?_
    refine R_iload_n C 2 rfl dX7_takesLeast_52 ?_
    refine R_iconst C (1) dX7_takesLeast_53 (by decide) ?_
    refine R_isub C dX7_takesLeast_54 ?_
    refine R_ck (fun h19 => ?_)
    refine R_iald C cx16 h19 dX7_takesLeast_55 ?_
    refine R_ck (fun h20 => ?_)
    refine S_iast C cx16 h20 dX7_takesLeast_56 (fun s21 => ?_)
    refine R_iload_n C 0 rfl dX7_takesLeast_57 ?_
    exact R_iret C hr dX7_takesLeast_58
  · obtain ⟨⟨v1, v2⟩, s3⟩ := a
    show bX7_takesLeast_4 E a1 a0 (fun u0 u1 t => rec ((u0, u1), t)) v1 v2 s3 = some (b5, s6) → V κ G (QQ κ G E (some (.int r)) σ') E s3 (false, 0, 0) 4 [(0, .ref (G.1 + a0)), (1, .int a1), (2, .int v1), (3, .int v2)] []
    unfold bX7_takesLeast_4
    refine R_iload_n C 3 rfl dX7_takesLeast_4 ?_
    refine R_iload_n C 1 rfl dX7_takesLeast_5 ?_
    refine B_icmp_ge C dX7_takesLeast_6 ?_ ?_
    · refine R_loc (lv2 := [(0, .ref (G.1 + a0)), (1, .int a1), (2, .int v1)]) [0, 1, 2] rfl ?_
      exact R_end (fun (o : (Int32 × Int32)) (s : Sg) => V κ G (QQ κ G E (some (.int r)) σ') E s (false, 0, 0) 36 [(0, .ref (G.1 + a0)), (1, .int a1), (2, .int o.1)] []) K4
    · refine R_aload_n C 0 rfl dX7_takesLeast_9 ?_
      refine R_dr (fun x8 rx8 cx8 => ?_)
      refine R_getr C fl7_63 rfl ha0 rx8 dX7_takesLeast_10 ?_
      refine R_iload_n C 3 rfl dX7_takesLeast_13 ?_
      refine R_ck (fun h9 => ?_)
      refine R_iald C cx8 h9 dX7_takesLeast_14 ?_
      refine R_aload_n C 0 rfl dX7_takesLeast_15 ?_
      refine R_getr C fl7_63 rfl ha0 rx8 dX7_takesLeast_16 ?_
      refine R_iload_n C 2 rfl dX7_takesLeast_19 ?_
      refine R_ck (fun h10 => ?_)
      refine R_iald C cx8 h10 dX7_takesLeast_20 ?_
      refine R_bdK (fun (w : Int32) (s : Sg) => V κ G (QQ κ G E (some (.int r)) σ') E s (false, 0, 0) 29 [(0, .ref (G.1 + a0)), (1, .int a1), (3, .int v2)] [.int w]) (fun w11 s12 => ?_) (fun w11 s12 Kw11 => ?_)
      · refine R_istore_n (lv2 := [(2, .int w11), (0, .ref (G.1 + a0)), (1, .int a1), (3, .int v2)]) C dX7_takesLeast_29 rfl (by decide) rfl ?_
        refine S_iinc (fun v13 => [(3, .int v13), (2, .int w11), (0, .ref (G.1 + a0)), (1, .int a1)]) 3 C dX7_takesLeast_30 rfl (by decide) (by decide) (fun _ => rfl) (fun v13 => ?_)
        refine R_goto C dX7_takesLeast_33 ?_
        refine R_loc (lv2 := [(0, .ref (G.1 + a0)), (1, .int a1), (2, .int w11), (3, .int v13)]) [2, 3, 1, 0] rfl ?_
        exact I7 ((w11, v13), s12) b5 s6 K4
      · refine B_icmp_ge C dX7_takesLeast_21 ?_ ?_
        · refine R_iload_n C 2 rfl dX7_takesLeast_28 ?_
          refine R_loc (lv2 := [(0, .ref (G.1 + a0)), (1, .int a1), (3, .int v2)]) [0, 1, 3] rfl ?_
          exact R_end (fun (w : Int32) (s : Sg) => V κ G (QQ κ G E (some (.int r)) σ') E s (false, 0, 0) 29 [(0, .ref (G.1 + a0)), (1, .int a1), (3, .int v2)] [.int w]) Kw11
        · refine R_iload_n C 3 rfl dX7_takesLeast_24 ?_
          refine R_goto C dX7_takesLeast_25 ?_
          refine R_loc (lv2 := [(0, .ref (G.1 + a0)), (1, .int a1), (3, .int v2)]) [0, 1, 3] rfl ?_
          exact R_end (fun (w : Int32) (s : Sg) => V κ G (QQ κ G E (some (.int r)) σ') E s (false, 0, 0) 29 [(0, .ref (G.1 + a0)), (1, .int a1), (3, .int v2)] [.int w]) Kw11
theorem dX7_least_0 : dk cX7_least 0 1 (.iload_n 1) 1 := by unfold dk; decide +kernel
theorem dX7_least_1 : dk cX7_least 1 2 (.iconst 2) 1 := by unfold dk; decide +kernel
theorem dX7_least_2 : dk cX7_least 2 3 (.iconst 5) 1 := by unfold dk; decide +kernel
theorem dX7_least_3 : dk cX7_least 3 6 (.invokestatic 116) 3 := by unfold dk; decide +kernel
theorem dX7_least_19 : dk cX7_least 19 20 (.iconst (-1)) 1 := by unfold dk; decide +kernel
theorem dX7_least_20 : dk cX7_least 20 21 (.ireturn) 1 := by unfold dk; decide +kernel
theorem dX7_least_9 : dk cX7_least 9 10 (.aload_n 0) 1 := by unfold dk; decide +kernel
theorem dX7_least_10 : dk cX7_least 10 13 (.getfield 9) 3 := by unfold dk; decide +kernel
theorem dX7_least_13 : dk cX7_least 13 15 (.bipush 7) 2 := by unfold dk; decide +kernel
theorem dX7_least_15 : dk cX7_least 15 16 (.iaload) 1 := by unfold dk; decide +kernel
theorem dX7_least_21 : dk cX7_least 21 22 (.iconst 0) 1 := by unfold dk; decide +kernel
theorem dX7_least_22 : dk cX7_least 22 23 (.istore_n 2) 1 := by unfold dk; decide +kernel
theorem dX7_least_23 : dk cX7_least 23 24 (.iconst 0) 1 := by unfold dk; decide +kernel
theorem dX7_least_24 : dk cX7_least 24 25 (.istore_n 3) 1 := by unfold dk; decide +kernel
theorem dX7_least_25 : dk cX7_least 25 26 (.iload_n 3) 1 := by unfold dk; decide +kernel
theorem dX7_least_26 : dk cX7_least 26 27 (.aload_n 0) 1 := by unfold dk; decide +kernel
theorem dX7_least_27 : dk cX7_least 27 30 (.getfield 9) 3 := by unfold dk; decide +kernel
theorem dX7_least_30 : dk cX7_least 30 32 (.bipush 14) 2 := by unfold dk; decide +kernel
theorem dX7_least_32 : dk cX7_least 32 33 (.iaload) 1 := by unfold dk; decide +kernel
theorem dX7_least_36 : dk cX7_least 36 37 (.aload_n 0) 1 := by unfold dk; decide +kernel
theorem dX7_least_37 : dk cX7_least 37 40 (.getfield 63) 3 := by unfold dk; decide +kernel
theorem dX7_least_40 : dk cX7_least 40 41 (.iload_n 2) 1 := by unfold dk; decide +kernel
theorem dX7_least_41 : dk cX7_least 41 42 (.aload_n 0) 1 := by unfold dk; decide +kernel
theorem dX7_least_42 : dk cX7_least 42 43 (.iload_n 3) 1 := by unfold dk; decide +kernel
theorem dX7_least_43 : dk cX7_least 43 46 (.invokevirtual 185) 3 := by unfold dk; decide +kernel
theorem dX7_least_46 : dk cX7_least 46 47 (.iastore) 1 := by unfold dk; decide +kernel
theorem dX7_least_47 : dk cX7_least 47 50 (.iinc 2 1) 3 := by unfold dk; decide +kernel
theorem dX7_least_50 : dk cX7_least 50 53 (.iinc 3 1) 3 := by unfold dk; decide +kernel
theorem dX7_least_53 : bk cX7_least 53 56 25 (.goto (-28)) (-28) := by unfold bk; decide +kernel
theorem dX7_least_33 : bk cX7_least 33 36 56 (.if_icmp .ge 23) (23) := by unfold bk; decide +kernel
theorem dX7_least_56 : dk cX7_least 56 57 (.iload_n 2) 1 := by unfold dk; decide +kernel
theorem dX7_least_57 : dk cX7_least 57 58 (.iconst 1) 1 := by unfold dk; decide +kernel
theorem dX7_least_58 : dk cX7_least 58 59 (.isub) 1 := by unfold dk; decide +kernel
theorem dX7_least_59 : dk cX7_least 59 60 (.iload_n 1) 1 := by unfold dk; decide +kernel
theorem dX7_least_60 : dk cX7_least 60 61 (.iconst 1) 1 := by unfold dk; decide +kernel
theorem dX7_least_61 : dk cX7_least 61 62 (.isub) 1 := by unfold dk; decide +kernel
theorem dX7_least_62 : dk cX7_least 62 63 (.irem) 1 := by unfold dk; decide +kernel
theorem dX7_least_66 : dk cX7_least 66 67 (.aload_n 0) 1 := by unfold dk; decide +kernel
theorem dX7_least_67 : dk cX7_least 67 70 (.getfield 63) 3 := by unfold dk; decide +kernel
theorem dX7_least_70 : dk cX7_least 70 71 (.iload_n 2) 1 := by unfold dk; decide +kernel
theorem dX7_least_71 : dk cX7_least 71 72 (.iconst 0) 1 := by unfold dk; decide +kernel
theorem dX7_least_72 : dk cX7_least 72 73 (.iastore) 1 := by unfold dk; decide +kernel
theorem dX7_least_73 : dk cX7_least 73 76 (.iinc 2 1) 3 := by unfold dk; decide +kernel
theorem dX7_least_76 : bk cX7_least 76 79 56 (.goto (-20)) (-20) := by unfold bk; decide +kernel
theorem dX7_least_63 : bk cX7_least 63 66 79 (.ifCond .eq 16) (16) := by unfold bk; decide +kernel
theorem dX7_least_79 : dk cX7_least 79 80 (.iconst 0) 1 := by unfold dk; decide +kernel
theorem dX7_least_80 : dk cX7_least 80 81 (.istore_n 3) 1 := by unfold dk; decide +kernel
theorem dX7_least_81 : dk cX7_least 81 82 (.iload_n 2) 1 := by unfold dk; decide +kernel
theorem dX7_least_82 : dk cX7_least 82 83 (.iconst 1) 1 := by unfold dk; decide +kernel
theorem dX7_least_86 : dk cX7_least 86 87 (.iconst 0) 1 := by unfold dk; decide +kernel
theorem dX7_least_87 : dk cX7_least 87 89 (.istore 4) 2 := by unfold dk; decide +kernel
theorem dX7_least_89 : dk cX7_least 89 90 (.iconst 0) 1 := by unfold dk; decide +kernel
theorem dX7_least_90 : dk cX7_least 90 92 (.istore 5) 2 := by unfold dk; decide +kernel
theorem dX7_least_92 : dk cX7_least 92 94 (.iload 5) 2 := by unfold dk; decide +kernel
theorem dX7_least_94 : dk cX7_least 94 95 (.iload_n 1) 1 := by unfold dk; decide +kernel
theorem dX7_least_98 : dk cX7_least 98 100 (.iload 4) 2 := by unfold dk; decide +kernel
theorem dX7_least_100 : dk cX7_least 100 101 (.aload_n 0) 1 := by unfold dk; decide +kernel
theorem dX7_least_101 : dk cX7_least 101 102 (.iload_n 2) 1 := by unfold dk; decide +kernel
theorem dX7_least_102 : dk cX7_least 102 105 (.invokevirtual 303) 3 := by unfold dk; decide +kernel
theorem dX7_least_105 : dk cX7_least 105 106 (.iadd) 1 := by unfold dk; decide +kernel
theorem dX7_least_106 : dk cX7_least 106 108 (.istore 4) 2 := by unfold dk; decide +kernel
theorem dX7_least_108 : dk cX7_least 108 111 (.iinc 2 (-1)) 3 := by unfold dk; decide +kernel
theorem dX7_least_111 : dk cX7_least 111 114 (.iinc 5 1) 3 := by unfold dk; decide +kernel
theorem dX7_least_114 : bk cX7_least 114 117 92 (.goto (-22)) (-22) := by unfold bk; decide +kernel
theorem dX7_least_95 : bk cX7_least 95 98 117 (.if_icmp .ge 22) (22) := by unfold bk; decide +kernel
theorem dX7_least_117 : dk cX7_least 117 118 (.aload_n 0) 1 := by unfold dk; decide +kernel
theorem dX7_least_118 : dk cX7_least 118 121 (.getfield 63) 3 := by unfold dk; decide +kernel
theorem dX7_least_121 : dk cX7_least 121 122 (.iload_n 2) 1 := by unfold dk; decide +kernel
theorem dX7_least_122 : dk cX7_least 122 124 (.iload 4) 2 := by unfold dk; decide +kernel
theorem dX7_least_124 : dk cX7_least 124 125 (.iastore) 1 := by unfold dk; decide +kernel
theorem dX7_least_125 : dk cX7_least 125 128 (.iinc 2 1) 3 := by unfold dk; decide +kernel
theorem dX7_least_128 : dk cX7_least 128 129 (.iload_n 3) 1 := by unfold dk; decide +kernel
theorem dX7_least_129 : dk cX7_least 129 131 (.iload 4) 2 := by unfold dk; decide +kernel
theorem dX7_least_131 : dk cX7_least 131 132 (.iadd) 1 := by unfold dk; decide +kernel
theorem dX7_least_132 : dk cX7_least 132 133 (.istore_n 3) 1 := by unfold dk; decide +kernel
theorem dX7_least_133 : bk cX7_least 133 136 81 (.goto (-52)) (-52) := by unfold bk; decide +kernel
theorem dX7_least_83 : bk cX7_least 83 86 136 (.if_icmp .le 53) (53) := by unfold bk; decide +kernel
theorem dX7_least_136 : dk cX7_least 136 137 (.iload_n 3) 1 := by unfold dk; decide +kernel
theorem dX7_least_137 : dk cX7_least 137 138 (.ireturn) 1 := by unfold dk; decide +kernel
theorem dX7_least_16 : bk cX7_least 16 19 21 (.ifCond .ne 5) (5) := by unfold bk; decide +kernel
theorem dX7_least_6 : bk cX7_least 6 9 19 (.ifCond .eq 13) (13) := by unfold bk; decide +kernel
set_option maxHeartbeats 4000000 in
set_option maxRecDepth 100000 in
theorem kX7_least {l : Launch} {G : Gl} {E : En} {a0 : Nat} {a1 : Int32} {σ σ' : Sg} {r : Int32} : fX7_least E a0 a1 σ = some (r, σ') → CT l yX7_least cX7_least 6 (some .int) ({ frames := 1, cells := 0, slots := 0, locals := 23 } : Room) [.ref (G.1 + a0), .int a1] G E σ (some (.int r)) σ' := by
  intro h
  refine CT_of (lv0 := [(0, .ref (G.1 + a0)), (1, .int a1)]) (by decide) (Nat.le_of_ble_eq_true rfl) rfl (fun κ hl hR hr C => ?_)
  have C : Cx κ G cX7_least RX7 6 := C
  revert h
  unfold fX7_least
  refine R_tk (fun ha0 => ?_)
  refine R_iload_n C 1 rfl dX7_least_0 ?_
  refine R_iconst C (2) dX7_least_1 (by decide) ?_
  refine R_iconst C (5) dX7_least_2 (by decide) ?_
  refine R_bd (fun r3 s1 q2 => ?_)
  refine R_callSi [.int a1, .int (2 : Int32), .int (5 : Int32)] [] C ml7_116 (kX7_in q2) (by rw [hR]; exact ⟨rfl, rfl, Nat.le_of_ble_eq_true rfl, Nat.le_of_ble_eq_true rfl, Nat.zero_le _, Nat.zero_le _⟩) rfl rfl (Nat.le_of_ble_eq_true rfl) dX7_least_3 ?_
  refine B_if_eq C dX7_least_6 ?_ ?_
  · refine R_iconst C (-1) dX7_least_19 (by decide) ?_
    exact R_iret C hr dX7_least_20
  · refine R_aload_n C 0 rfl dX7_least_9 ?_
    refine R_dr (fun x4 rx4 cx4 => ?_)
    refine R_getr C fl7_9 rfl ha0 rx4 dX7_least_10 ?_
    refine R_bipush C (7) dX7_least_13 (by decide) ?_
    refine R_ck (fun h5 => ?_)
    refine R_iald C cx4 h5 dX7_least_15 ?_
    refine B_if_ne C dX7_least_16 ?_ ?_
    · refine R_iconst C (0) dX7_least_21 (by decide) ?_
      refine R_istore_n (lv2 := [(2, .int (0 : Int32)), (0, .ref (G.1 + a0)), (1, .int a1)]) C dX7_least_22 rfl (by decide) rfl ?_
      refine R_iconst C (0) dX7_least_23 (by decide) ?_
      refine R_istore_n (lv2 := [(3, .int (0 : Int32)), (2, .int (0 : Int32)), (0, .ref (G.1 + a0)), (1, .int a1)]) C dX7_least_24 rfl (by decide) rfl ?_
      refine R_loc (lv2 := [(0, .ref (G.1 + a0)), (1, .int a1), (2, .int (0 : Int32)), (3, .int (0 : Int32))]) [2, 3, 1, 0] rfl ?_
      refine R_loop (fun (a : (Int32 × Int32) × Sg) => V κ G (QQ κ G E (some (.int r)) σ') E a.2 (false, 0, 0) 25 [(0, .ref (G.1 + a0)), (1, .int a1), (2, .int a.1.1), (3, .int a.1.2)] []) (fun (o : (Int32 × Int32)) (s : Sg) => V κ G (QQ κ G E (some (.int r)) σ') E s (false, 0, 0) 56 [(0, .ref (G.1 + a0)), (1, .int a1), (2, .int o.1)] []) (((0 : Int32), (0 : Int32)), s1) (fun o22 s23 => ?_) (fun rec I12 a b10 s11 K9 => ?_)
      · refine R_loop (fun (a : (Int32) × Sg) => V κ G (QQ κ G E (some (.int r)) σ') E a.2 (false, 0, 0) 56 [(0, .ref (G.1 + a0)), (1, .int a1), (2, .int a.1)] []) (fun (o : (Int32)) (s : Sg) => V κ G (QQ κ G E (some (.int r)) σ') E s (false, 0, 0) 79 [(0, .ref (G.1 + a0)), (1, .int a1), (2, .int o)] []) (o22.1, s23) (fun o35 s36 => ?_) (fun rec I29 a b27 s28 K26 => ?_)
        · refine R_iconst C (0) dX7_least_79 (by decide) ?_
          refine R_istore_n (lv2 := [(3, .int (0 : Int32)), (0, .ref (G.1 + a0)), (1, .int a1), (2, .int o35)]) C dX7_least_80 rfl (by decide) rfl ?_
          refine R_loc (lv2 := [(0, .ref (G.1 + a0)), (1, .int a1), (2, .int o35), (3, .int (0 : Int32))]) [1, 2, 3, 0] rfl ?_
          refine R_loop (fun (a : (Int32 × Int32) × Sg) => V κ G (QQ κ G E (some (.int r)) σ') E a.2 (false, 0, 0) 81 [(0, .ref (G.1 + a0)), (1, .int a1), (2, .int a.1.1), (3, .int a.1.2)] []) (fun (o : (Int32 × Int32)) (s : Sg) => V κ G (QQ κ G E (some (.int r)) σ') E s (false, 0, 0) 136 [(3, .int o.2)] []) ((o35, (0 : Int32)), s36) (fun o65 s66 => ?_) (fun rec I43 a b41 s42 K40 => ?_)
          · refine R_iload_n C 0 rfl dX7_least_136 ?_
            exact R_iret C hr dX7_least_137
          · obtain ⟨⟨v37, v38⟩, s39⟩ := a
            show bX7_least_81 E a1 a0 (fun u0 u1 t => rec ((u0, u1), t)) v37 v38 s39 = some (b41, s42) → V κ G (QQ κ G E (some (.int r)) σ') E s39 (false, 0, 0) 81 [(0, .ref (G.1 + a0)), (1, .int a1), (2, .int v37), (3, .int v38)] []
            unfold bX7_least_81
            refine R_iload_n C 2 rfl dX7_least_81 ?_
            refine R_iconst C (1) dX7_least_82 (by decide) ?_
            refine B_icmp_le C dX7_least_83 ?_ ?_
            · refine R_loc (lv2 := [(3, .int v38)]) [3] rfl ?_
              exact R_end (fun (o : (Int32 × Int32)) (s : Sg) => V κ G (QQ κ G E (some (.int r)) σ') E s (false, 0, 0) 136 [(3, .int o.2)] []) K40
            · refine R_iconst C (0) dX7_least_86 (by decide) ?_
              refine R_istore (lv2 := [(4, .int (0 : Int32)), (0, .ref (G.1 + a0)), (1, .int a1), (2, .int v37), (3, .int v38)]) C dX7_least_87 (by decide) rfl ?_
              refine R_iconst C (0) dX7_least_89 (by decide) ?_
              refine R_istore (lv2 := [(5, .int (0 : Int32)), (4, .int (0 : Int32)), (0, .ref (G.1 + a0)), (1, .int a1), (2, .int v37), (3, .int v38)]) C dX7_least_90 (by decide) rfl ?_
              refine R_loc (lv2 := [(0, .ref (G.1 + a0)), (1, .int a1), (3, .int v38), (2, .int v37), (4, .int (0 : Int32)), (5, .int (0 : Int32))]) [2, 3, 5, 4, 1, 0] rfl ?_
              refine R_loop (fun (a : (Int32 × Int32 × Int32) × Sg) => V κ G (QQ κ G E (some (.int r)) σ') E a.2 (false, 0, 0) 92 [(0, .ref (G.1 + a0)), (1, .int a1), (3, .int v38), (2, .int a.1.1), (4, .int a.1.2.1), (5, .int a.1.2.2)] []) (fun (o : (Int32 × Int32 × Int32)) (s : Sg) => V κ G (QQ κ G E (some (.int r)) σ') E s (false, 0, 0) 117 [(0, .ref (G.1 + a0)), (1, .int a1), (3, .int v38), (2, .int o.1), (4, .int o.2.1)] []) ((v37, (0 : Int32), (0 : Int32)), s39) (fun o58 s59 => ?_) (fun rec I51 a b49 s50 K48 => ?_)
              · refine R_aload_n C 0 rfl dX7_least_117 ?_
                refine R_dr (fun x60 rx60 cx60 => ?_)
                refine R_getr C fl7_63 rfl ha0 rx60 dX7_least_118 ?_
                refine R_iload_n C 3 rfl dX7_least_121 ?_
                refine R_iload C 4 rfl dX7_least_122 ?_
                refine R_ck (fun h61 => ?_)
                refine S_iast C cx60 h61 dX7_least_124 (fun s62 => ?_)
                refine S_iinc (fun v63 => [(2, .int v63), (0, .ref (G.1 + a0)), (1, .int a1), (3, .int v38), (4, .int o58.2.1)]) 3 C dX7_least_125 rfl (by decide) (by decide) (fun _ => rfl) (fun v63 => ?_)
                refine R_iload_n C 3 rfl dX7_least_128 ?_
                refine R_iload C 4 rfl dX7_least_129 ?_
                refine R_iadd C dX7_least_131 ?_
                refine S_istore_n C dX7_least_132 rfl (fun v64 => [(3, .int v64), (2, .int v63), (0, .ref (G.1 + a0)), (1, .int a1), (4, .int o58.2.1)]) (by decide) (fun _ => rfl) (fun v64 => ?_)
                refine R_goto C dX7_least_133 ?_
                refine R_loc (lv2 := [(0, .ref (G.1 + a0)), (1, .int a1), (2, .int v63), (3, .int v64)]) [2, 3, 1, 0] rfl ?_
                exact I43 ((v63, v64), s62) b41 s42 K40
              · obtain ⟨⟨v44, v45, v46⟩, s47⟩ := a
                show bX7_least_92 E a1 a0 (fun u0 u1 u2 t => rec ((u0, u1, u2), t)) v44 v45 v46 s47 = some (b49, s50) → V κ G (QQ κ G E (some (.int r)) σ') E s47 (false, 0, 0) 92 [(0, .ref (G.1 + a0)), (1, .int a1), (3, .int v38), (2, .int v44), (4, .int v45), (5, .int v46)] []
                unfold bX7_least_92
                refine R_iload C 5 rfl dX7_least_92 ?_
                refine R_iload_n C 1 rfl dX7_least_94 ?_
                refine B_icmp_ge C dX7_least_95 ?_ ?_
                · refine R_loc (lv2 := [(0, .ref (G.1 + a0)), (1, .int a1), (3, .int v38), (2, .int v44), (4, .int v45)]) [0, 1, 2, 3, 4] rfl ?_
                  exact R_end (fun (o : (Int32 × Int32 × Int32)) (s : Sg) => V κ G (QQ κ G E (some (.int r)) σ') E s (false, 0, 0) 117 [(0, .ref (G.1 + a0)), (1, .int a1), (3, .int v38), (2, .int o.1), (4, .int o.2.1)] []) K48
                · refine R_iload C 4 rfl dX7_least_98 ?_
                  refine R_aload_n C 0 rfl dX7_least_100 ?_
                  refine R_iload_n C 3 rfl dX7_least_101 ?_
                  refine R_bd (fun r54 s52 q53 => ?_)
                  refine R_callVi [.int v44] [.int v45] C ml7_303 (kX7_takesLeast q53) (by rw [hR]; exact ⟨rfl, rfl, Nat.le_of_ble_eq_true rfl, Nat.le_of_ble_eq_true rfl, Nat.zero_le _, Nat.zero_le _⟩) ha0 rfl rfl (Nat.le_of_ble_eq_true rfl) dX7_least_102 ?_
                  refine R_iadd C dX7_least_105 ?_
                  refine S_istore C dX7_least_106 (fun v55 => [(4, .int v55), (0, .ref (G.1 + a0)), (1, .int a1), (3, .int v38), (2, .int v44), (5, .int v46)]) (by decide) (fun _ => rfl) (fun v55 => ?_)
                  refine S_iinc (fun v56 => [(2, .int v56), (4, .int v55), (0, .ref (G.1 + a0)), (1, .int a1), (3, .int v38), (5, .int v46)]) 4 C dX7_least_108 rfl (by decide) (by decide) (fun _ => rfl) (fun v56 => ?_)
                  refine S_iinc (fun v57 => [(5, .int v57), (2, .int v56), (4, .int v55), (0, .ref (G.1 + a0)), (1, .int a1), (3, .int v38)]) 5 C dX7_least_111 rfl (by decide) (by decide) (fun _ => rfl) (fun v57 => ?_)
                  refine R_goto C dX7_least_114 ?_
                  refine R_loc (lv2 := [(0, .ref (G.1 + a0)), (1, .int a1), (3, .int v38), (2, .int v56), (4, .int v55), (5, .int v57)]) [3, 4, 5, 1, 2, 0] rfl ?_
                  exact I51 ((v56, v55, v57), s52) b49 s50 K48
        · obtain ⟨v24, s25⟩ := a
          show bX7_least_56 E a1 a0 (fun u0 t => rec (u0, t)) v24 s25 = some (b27, s28) → V κ G (QQ κ G E (some (.int r)) σ') E s25 (false, 0, 0) 56 [(0, .ref (G.1 + a0)), (1, .int a1), (2, .int v24)] []
          unfold bX7_least_56
          refine R_iload_n C 2 rfl dX7_least_56 ?_
          refine R_iconst C (1) dX7_least_57 (by decide) ?_
          refine R_isub C dX7_least_58 ?_
          refine R_iload_n C 1 rfl dX7_least_59 ?_
          refine R_iconst C (1) dX7_least_60 (by decide) ?_
          refine R_isub C dX7_least_61 ?_
          refine R_nz (fun h30 => ?_)
          refine R_irem C dX7_least_62 h30 ?_
          refine B_if_eq C dX7_least_63 ?_ ?_
          · exact R_end (fun (o : (Int32)) (s : Sg) => V κ G (QQ κ G E (some (.int r)) σ') E s (false, 0, 0) 79 [(0, .ref (G.1 + a0)), (1, .int a1), (2, .int o)] []) K26
          · refine R_aload_n C 0 rfl dX7_least_66 ?_
            refine R_dr (fun x31 rx31 cx31 => ?_)
            refine R_getr C fl7_63 rfl ha0 rx31 dX7_least_67 ?_
            refine R_iload_n C 2 rfl dX7_least_70 ?_
            refine R_iconst C (0) dX7_least_71 (by decide) ?_
            refine R_ck (fun h32 => ?_)
            refine S_iast C cx31 h32 dX7_least_72 (fun s33 => ?_)
            refine S_iinc (fun v34 => [(2, .int v34), (0, .ref (G.1 + a0)), (1, .int a1)]) 2 C dX7_least_73 rfl (by decide) (by decide) (fun _ => rfl) (fun v34 => ?_)
            refine R_goto C dX7_least_76 ?_
            refine R_loc (lv2 := [(0, .ref (G.1 + a0)), (1, .int a1), (2, .int v34)]) [1, 2, 0] rfl ?_
            exact I29 (v34, s33) b27 s28 K26
      · obtain ⟨⟨v6, v7⟩, s8⟩ := a
        show bX7_least_25 E x4 a0 (fun u0 u1 t => rec ((u0, u1), t)) v6 v7 s8 = some (b10, s11) → V κ G (QQ κ G E (some (.int r)) σ') E s8 (false, 0, 0) 25 [(0, .ref (G.1 + a0)), (1, .int a1), (2, .int v6), (3, .int v7)] []
        unfold bX7_least_25
        refine R_iload_n C 3 rfl dX7_least_25 ?_
        refine R_aload_n C 0 rfl dX7_least_26 ?_
        refine R_getr C fl7_9 rfl ha0 rx4 dX7_least_27 ?_
        refine R_bipush C (14) dX7_least_30 (by decide) ?_
        refine R_ck (fun h13 => ?_)
        refine R_iald C cx4 h13 dX7_least_32 ?_
        refine B_icmp_ge C dX7_least_33 ?_ ?_
        · refine R_loc (lv2 := [(0, .ref (G.1 + a0)), (1, .int a1), (2, .int v6)]) [0, 1, 2] rfl ?_
          exact R_end (fun (o : (Int32 × Int32)) (s : Sg) => V κ G (QQ κ G E (some (.int r)) σ') E s (false, 0, 0) 56 [(0, .ref (G.1 + a0)), (1, .int a1), (2, .int o.1)] []) K9
        · refine R_aload_n C 0 rfl dX7_least_36 ?_
          refine R_dr (fun x14 rx14 cx14 => ?_)
          refine R_getr C fl7_63 rfl ha0 rx14 dX7_least_37 ?_
          refine R_iload_n C 2 rfl dX7_least_40 ?_
          refine R_aload_n C 0 rfl dX7_least_41 ?_
          refine R_iload_n C 3 rfl dX7_least_42 ?_
          refine R_bd (fun r17 s15 q16 => ?_)
          refine R_callVi [.int v7] [.int v6, .ref (G.1 + x14)] C ml7_185 (kX7_runSize q16) (by rw [hR]; exact ⟨rfl, rfl, Nat.le_of_ble_eq_true rfl, Nat.le_of_ble_eq_true rfl, Nat.zero_le _, Nat.zero_le _⟩) ha0 rfl rfl (Nat.le_of_ble_eq_true rfl) dX7_least_43 ?_
          refine R_ck (fun h18 => ?_)
          refine S_iast C cx14 h18 dX7_least_46 (fun s19 => ?_)
          refine S_iinc (fun v20 => [(2, .int v20), (0, .ref (G.1 + a0)), (1, .int a1), (3, .int v7)]) 2 C dX7_least_47 rfl (by decide) (by decide) (fun _ => rfl) (fun v20 => ?_)
          refine S_iinc (fun v21 => [(3, .int v21), (2, .int v20), (0, .ref (G.1 + a0)), (1, .int a1)]) 3 C dX7_least_50 rfl (by decide) (by decide) (fun _ => rfl) (fun v21 => ?_)
          refine R_goto C dX7_least_53 ?_
          refine R_loc (lv2 := [(0, .ref (G.1 + a0)), (1, .int a1), (2, .int v20), (3, .int v21)]) [2, 3, 1, 0] rfl ?_
          exact I12 ((v20, v21), s19) b10 s11 K9
    · refine R_iconst C (-1) dX7_least_19 (by decide) ?_
      exact R_iret C hr dX7_least_20
