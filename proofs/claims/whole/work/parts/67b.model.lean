theorem dX7_laysPerfect_0 : dk cX7_laysPerfect 0 1 (.iconst 0) 1 := by unfold dk; decide +kernel
theorem dX7_laysPerfect_1 : dk cX7_laysPerfect 1 3 (.istore 4) 2 := by unfold dk; decide +kernel
theorem dX7_laysPerfect_3 : dk cX7_laysPerfect 3 5 (.iload 4) 2 := by unfold dk; decide +kernel
theorem dX7_laysPerfect_5 : dk cX7_laysPerfect 5 6 (.iload_n 3) 1 := by unfold dk; decide +kernel
theorem dX7_laysPerfect_9 : dk cX7_laysPerfect 9 10 (.aload_n 0) 1 := by unfold dk; decide +kernel
theorem dX7_laysPerfect_10 : dk cX7_laysPerfect 10 13 (.getfield 33) 3 := by unfold dk; decide +kernel
theorem dX7_laysPerfect_13 : dk cX7_laysPerfect 13 15 (.iload 4) 2 := by unfold dk; decide +kernel
theorem dX7_laysPerfect_15 : dk cX7_laysPerfect 15 17 (.iload 4) 2 := by unfold dk; decide +kernel
theorem dX7_laysPerfect_17 : bk cX7_laysPerfect 17 20 24 (.ifCond .ne 7) (7) := by unfold bk; decide +kernel
theorem dX7_laysPerfect_24 : dk cX7_laysPerfect 24 25 (.iconst 0) 1 := by unfold dk; decide +kernel
theorem dX7_laysPerfect_20 : dk cX7_laysPerfect 20 21 (.iconst 1) 1 := by unfold dk; decide +kernel
theorem dX7_laysPerfect_21 : bk cX7_laysPerfect 21 24 25 (.goto 4) (4) := by unfold bk; decide +kernel
theorem dX7_laysPerfect_25 : dk cX7_laysPerfect 25 28 (.invokestatic 151) 3 := by unfold dk; decide +kernel
theorem dX7_laysPerfect_28 : dk cX7_laysPerfect 28 29 (.iastore) 1 := by unfold dk; decide +kernel
theorem dX7_laysPerfect_29 : dk cX7_laysPerfect 29 32 (.iinc 4 1) 3 := by unfold dk; decide +kernel
theorem dX7_laysPerfect_32 : bk cX7_laysPerfect 32 35 3 (.goto (-29)) (-29) := by unfold bk; decide +kernel
theorem dX7_laysPerfect_6 : bk cX7_laysPerfect 6 9 35 (.if_icmp .ge 29) (29) := by unfold bk; decide +kernel
theorem dX7_laysPerfect_35 : dk cX7_laysPerfect 35 36 (.iconst 0) 1 := by unfold dk; decide +kernel
theorem dX7_laysPerfect_36 : dk cX7_laysPerfect 36 38 (.istore 4) 2 := by unfold dk; decide +kernel
theorem dX7_laysPerfect_38 : dk cX7_laysPerfect 38 40 (.iload 4) 2 := by unfold dk; decide +kernel
theorem dX7_laysPerfect_40 : dk cX7_laysPerfect 40 41 (.iload_n 1) 1 := by unfold dk; decide +kernel
theorem dX7_laysPerfect_44 : dk cX7_laysPerfect 44 45 (.iconst 0) 1 := by unfold dk; decide +kernel
theorem dX7_laysPerfect_45 : dk cX7_laysPerfect 45 47 (.istore 5) 2 := by unfold dk; decide +kernel
theorem dX7_laysPerfect_47 : dk cX7_laysPerfect 47 48 (.iconst 0) 1 := by unfold dk; decide +kernel
theorem dX7_laysPerfect_48 : dk cX7_laysPerfect 48 50 (.istore 6) 2 := by unfold dk; decide +kernel
theorem dX7_laysPerfect_50 : dk cX7_laysPerfect 50 52 (.iload 6) 2 := by unfold dk; decide +kernel
theorem dX7_laysPerfect_52 : dk cX7_laysPerfect 52 53 (.iload_n 3) 1 := by unfold dk; decide +kernel
theorem dX7_laysPerfect_56 : dk cX7_laysPerfect 56 58 (.iload 5) 2 := by unfold dk; decide +kernel
theorem dX7_laysPerfect_58 : dk cX7_laysPerfect 58 59 (.aload_n 0) 1 := by unfold dk; decide +kernel
theorem dX7_laysPerfect_59 : dk cX7_laysPerfect 59 62 (.getfield 33) 3 := by unfold dk; decide +kernel
theorem dX7_laysPerfect_62 : dk cX7_laysPerfect 62 64 (.iload 6) 2 := by unfold dk; decide +kernel
theorem dX7_laysPerfect_64 : dk cX7_laysPerfect 64 65 (.iaload) 1 := by unfold dk; decide +kernel
theorem dX7_laysPerfect_65 : dk cX7_laysPerfect 65 66 (.iadd) 1 := by unfold dk; decide +kernel
theorem dX7_laysPerfect_66 : dk cX7_laysPerfect 66 68 (.istore 5) 2 := by unfold dk; decide +kernel
theorem dX7_laysPerfect_68 : dk cX7_laysPerfect 68 69 (.iload_n 2) 1 := by unfold dk; decide +kernel
theorem dX7_laysPerfect_69 : bk cX7_laysPerfect 69 72 110 (.ifCond .ne 41) (41) := by unfold bk; decide +kernel
theorem dX7_laysPerfect_110 : dk cX7_laysPerfect 110 111 (.aload_n 0) 1 := by unfold dk; decide +kernel
theorem dX7_laysPerfect_111 : dk cX7_laysPerfect 111 114 (.getfield 36) 3 := by unfold dk; decide +kernel
theorem dX7_laysPerfect_114 : dk cX7_laysPerfect 114 115 (.iload_n 3) 1 := by unfold dk; decide +kernel
theorem dX7_laysPerfect_115 : dk cX7_laysPerfect 115 116 (.iconst 1) 1 := by unfold dk; decide +kernel
theorem dX7_laysPerfect_116 : dk cX7_laysPerfect 116 117 (.isub) 1 := by unfold dk; decide +kernel
theorem dX7_laysPerfect_117 : dk cX7_laysPerfect 117 119 (.iload 6) 2 := by unfold dk; decide +kernel
theorem dX7_laysPerfect_119 : dk cX7_laysPerfect 119 120 (.isub) 1 := by unfold dk; decide +kernel
theorem dX7_laysPerfect_120 : dk cX7_laysPerfect 120 122 (.iload 5) 2 := by unfold dk; decide +kernel
theorem dX7_laysPerfect_122 : dk cX7_laysPerfect 122 123 (.iastore) 1 := by unfold dk; decide +kernel
theorem dX7_laysPerfect_72 : dk cX7_laysPerfect 72 73 (.aload_n 0) 1 := by unfold dk; decide +kernel
theorem dX7_laysPerfect_73 : dk cX7_laysPerfect 73 76 (.getfield 36) 3 := by unfold dk; decide +kernel
theorem dX7_laysPerfect_76 : dk cX7_laysPerfect 76 78 (.iload 6) 2 := by unfold dk; decide +kernel
theorem dX7_laysPerfect_78 : dk cX7_laysPerfect 78 79 (.aload_n 0) 1 := by unfold dk; decide +kernel
theorem dX7_laysPerfect_79 : dk cX7_laysPerfect 79 82 (.getfield 33) 3 := by unfold dk; decide +kernel
theorem dX7_laysPerfect_82 : dk cX7_laysPerfect 82 83 (.iconst 0) 1 := by unfold dk; decide +kernel
theorem dX7_laysPerfect_83 : dk cX7_laysPerfect 83 84 (.iaload) 1 := by unfold dk; decide +kernel
theorem dX7_laysPerfect_84 : dk cX7_laysPerfect 84 86 (.iload 6) 2 := by unfold dk; decide +kernel
theorem dX7_laysPerfect_86 : dk cX7_laysPerfect 86 87 (.iconst 1) 1 := by unfold dk; decide +kernel
theorem dX7_laysPerfect_87 : dk cX7_laysPerfect 87 88 (.iadd) 1 := by unfold dk; decide +kernel
theorem dX7_laysPerfect_88 : dk cX7_laysPerfect 88 89 (.iload_n 3) 1 := by unfold dk; decide +kernel
theorem dX7_laysPerfect_89 : bk cX7_laysPerfect 89 92 104 (.if_icmp .ge 15) (15) := by unfold bk; decide +kernel
theorem dX7_laysPerfect_104 : dk cX7_laysPerfect 104 105 (.iconst 0) 1 := by unfold dk; decide +kernel
theorem dX7_laysPerfect_92 : dk cX7_laysPerfect 92 93 (.aload_n 0) 1 := by unfold dk; decide +kernel
theorem dX7_laysPerfect_93 : dk cX7_laysPerfect 93 96 (.getfield 33) 3 := by unfold dk; decide +kernel
theorem dX7_laysPerfect_96 : dk cX7_laysPerfect 96 98 (.iload 6) 2 := by unfold dk; decide +kernel
theorem dX7_laysPerfect_98 : dk cX7_laysPerfect 98 99 (.iconst 1) 1 := by unfold dk; decide +kernel
theorem dX7_laysPerfect_99 : dk cX7_laysPerfect 99 100 (.iadd) 1 := by unfold dk; decide +kernel
theorem dX7_laysPerfect_100 : dk cX7_laysPerfect 100 101 (.iaload) 1 := by unfold dk; decide +kernel
theorem dX7_laysPerfect_101 : bk cX7_laysPerfect 101 104 105 (.goto 4) (4) := by unfold bk; decide +kernel
theorem dX7_laysPerfect_105 : dk cX7_laysPerfect 105 106 (.iadd) 1 := by unfold dk; decide +kernel
theorem dX7_laysPerfect_106 : dk cX7_laysPerfect 106 107 (.iastore) 1 := by unfold dk; decide +kernel
theorem dX7_laysPerfect_107 : bk cX7_laysPerfect 107 110 123 (.goto 16) (16) := by unfold bk; decide +kernel
theorem dX7_laysPerfect_123 : dk cX7_laysPerfect 123 126 (.iinc 6 1) 3 := by unfold dk; decide +kernel
theorem dX7_laysPerfect_126 : bk cX7_laysPerfect 126 129 50 (.goto (-76)) (-76) := by unfold bk; decide +kernel
theorem dX7_laysPerfect_53 : bk cX7_laysPerfect 53 56 129 (.if_icmp .ge 76) (76) := by unfold bk; decide +kernel
theorem dX7_laysPerfect_129 : dk cX7_laysPerfect 129 130 (.iconst 0) 1 := by unfold dk; decide +kernel
theorem dX7_laysPerfect_130 : dk cX7_laysPerfect 130 132 (.istore 6) 2 := by unfold dk; decide +kernel
theorem dX7_laysPerfect_132 : dk cX7_laysPerfect 132 134 (.iload 6) 2 := by unfold dk; decide +kernel
theorem dX7_laysPerfect_134 : dk cX7_laysPerfect 134 135 (.iload_n 3) 1 := by unfold dk; decide +kernel
theorem dX7_laysPerfect_138 : dk cX7_laysPerfect 138 139 (.aload_n 0) 1 := by unfold dk; decide +kernel
theorem dX7_laysPerfect_139 : dk cX7_laysPerfect 139 142 (.getfield 33) 3 := by unfold dk; decide +kernel
theorem dX7_laysPerfect_142 : dk cX7_laysPerfect 142 144 (.iload 6) 2 := by unfold dk; decide +kernel
theorem dX7_laysPerfect_144 : dk cX7_laysPerfect 144 145 (.aload_n 0) 1 := by unfold dk; decide +kernel
theorem dX7_laysPerfect_145 : dk cX7_laysPerfect 145 148 (.getfield 36) 3 := by unfold dk; decide +kernel
theorem dX7_laysPerfect_148 : dk cX7_laysPerfect 148 150 (.iload 6) 2 := by unfold dk; decide +kernel
theorem dX7_laysPerfect_150 : dk cX7_laysPerfect 150 151 (.iaload) 1 := by unfold dk; decide +kernel
theorem dX7_laysPerfect_151 : dk cX7_laysPerfect 151 152 (.iastore) 1 := by unfold dk; decide +kernel
theorem dX7_laysPerfect_152 : dk cX7_laysPerfect 152 155 (.iinc 6 1) 3 := by unfold dk; decide +kernel
theorem dX7_laysPerfect_155 : bk cX7_laysPerfect 155 158 132 (.goto (-23)) (-23) := by unfold bk; decide +kernel
theorem dX7_laysPerfect_135 : bk cX7_laysPerfect 135 138 158 (.if_icmp .ge 23) (23) := by unfold bk; decide +kernel
theorem dX7_laysPerfect_158 : dk cX7_laysPerfect 158 161 (.iinc 4 1) 3 := by unfold dk; decide +kernel
theorem dX7_laysPerfect_161 : bk cX7_laysPerfect 161 164 38 (.goto (-123)) (-123) := by unfold bk; decide +kernel
theorem dX7_laysPerfect_41 : bk cX7_laysPerfect 41 44 164 (.if_icmp .ge 123) (123) := by unfold bk; decide +kernel
theorem dX7_laysPerfect_164 : dk cX7_laysPerfect 164 165 (.return_) 1 := by unfold dk; decide +kernel
set_option maxHeartbeats 4000000 in
set_option maxRecDepth 100000 in
theorem kX7_laysPerfect {l : Launch} {G : Gl} {E : En} {a0 : Nat} {a1 : Int32} {a2 : Int32} {a3 : Int32} {σ σ' : Sg} : fX7_laysPerfect E a0 a1 a2 a3 σ = some σ' → CT l yX7_laysPerfect cX7_laysPerfect 7 none ({ frames := 1, cells := 0, slots := 0, locals := 20 } : Room) [.ref (G.1 + a0), .int a1, .int a2, .int a3] G E σ none σ' := by
  intro h
  refine CT_of (lv0 := [(0, .ref (G.1 + a0)), (1, .int a1), (2, .int a2), (3, .int a3)]) (by decide) (Nat.le_of_ble_eq_true rfl) rfl (fun κ hl hR hr C => ?_)
  have C : Cx κ G cX7_laysPerfect RX7 7 := C
  revert h
  unfold fX7_laysPerfect
  refine R_tk (fun ha0 => ?_)
  refine R_iconst C (0) dX7_laysPerfect_0 (by decide) ?_
  refine R_istore (lv2 := [(4, .int (0 : Int32)), (0, .ref (G.1 + a0)), (1, .int a1), (2, .int a2), (3, .int a3)]) C dX7_laysPerfect_1 (by decide) rfl ?_
  refine R_loc (lv2 := [(0, .ref (G.1 + a0)), (1, .int a1), (2, .int a2), (3, .int a3), (4, .int (0 : Int32))]) [1, 2, 3, 4, 0] rfl ?_
  refine R_loop (fun (a : (Int32) × Sg) => V κ G (QQ κ G E none σ') E a.2 (false, 0, 0) 3 [(0, .ref (G.1 + a0)), (1, .int a1), (2, .int a2), (3, .int a3), (4, .int a.1)] []) (fun (o : (Int32)) (s : Sg) => V κ G (QQ κ G E none σ') E s (false, 0, 0) 35 [(0, .ref (G.1 + a0)), (1, .int a1), (2, .int a2), (3, .int a3)] []) ((0 : Int32), σ) (fun o16 s17 => ?_) (fun rec I6 a b4 s5 K3 => ?_)
  · refine R_iconst C (0) dX7_laysPerfect_35 (by decide) ?_
    refine R_istore (lv2 := [(4, .int (0 : Int32)), (0, .ref (G.1 + a0)), (1, .int a1), (2, .int a2), (3, .int a3)]) C dX7_laysPerfect_36 (by decide) rfl ?_
    refine R_loc (lv2 := [(0, .ref (G.1 + a0)), (1, .int a1), (2, .int a2), (3, .int a3), (4, .int (0 : Int32))]) [1, 2, 3, 4, 0] rfl ?_
    refine R_loop (fun (a : (Int32) × Sg) => V κ G (QQ κ G E none σ') E a.2 (false, 0, 0) 38 [(0, .ref (G.1 + a0)), (1, .int a1), (2, .int a2), (3, .int a3), (4, .int a.1)] []) (fun (o : (Int32)) (s : Sg) => V κ G (QQ κ G E none σ') E s (false, 0, 0) 164 [] []) ((0 : Int32), s17) (fun o64 s65 => ?_) (fun rec I23 a b21 s22 K20 => ?_)
    · exact R_vret C hr dX7_laysPerfect_164
    · obtain ⟨v18, s19⟩ := a
      show bX7_laysPerfect_38 E a1 a3 a0 a2 (fun u0 t => rec (u0, t)) v18 s19 = some (b21, s22) → V κ G (QQ κ G E none σ') E s19 (false, 0, 0) 38 [(0, .ref (G.1 + a0)), (1, .int a1), (2, .int a2), (3, .int a3), (4, .int v18)] []
      unfold bX7_laysPerfect_38
      refine R_iload C 4 rfl dX7_laysPerfect_38 ?_
      refine R_iload_n C 1 rfl dX7_laysPerfect_40 ?_
      refine B_icmp_ge C dX7_laysPerfect_41 ?_ ?_
      · refine R_loc (lv2 := []) [] rfl ?_
        exact R_end (fun (o : (Int32)) (s : Sg) => V κ G (QQ κ G E none σ') E s (false, 0, 0) 164 [] []) K20
      · refine R_iconst C (0) dX7_laysPerfect_44 (by decide) ?_
        refine R_istore (lv2 := [(5, .int (0 : Int32)), (0, .ref (G.1 + a0)), (1, .int a1), (2, .int a2), (3, .int a3), (4, .int v18)]) C dX7_laysPerfect_45 (by decide) rfl ?_
        refine R_iconst C (0) dX7_laysPerfect_47 (by decide) ?_
        refine R_istore (lv2 := [(6, .int (0 : Int32)), (5, .int (0 : Int32)), (0, .ref (G.1 + a0)), (1, .int a1), (2, .int a2), (3, .int a3), (4, .int v18)]) C dX7_laysPerfect_48 (by decide) rfl ?_
        refine R_loc (lv2 := [(0, .ref (G.1 + a0)), (1, .int a1), (2, .int a2), (3, .int a3), (4, .int v18), (5, .int (0 : Int32)), (6, .int (0 : Int32))]) [2, 3, 4, 5, 6, 1, 0] rfl ?_
        refine R_loop (fun (a : (Int32 × Int32) × Sg) => V κ G (QQ κ G E none σ') E a.2 (false, 0, 0) 50 [(0, .ref (G.1 + a0)), (1, .int a1), (2, .int a2), (3, .int a3), (4, .int v18), (5, .int a.1.1), (6, .int a.1.2)] []) (fun (o : (Int32 × Int32)) (s : Sg) => V κ G (QQ κ G E none σ') E s (false, 0, 0) 129 [(0, .ref (G.1 + a0)), (1, .int a1), (2, .int a2), (3, .int a3), (4, .int v18)] []) (((0 : Int32), (0 : Int32)), s19) (fun o47 s48 => ?_) (fun rec I30 a b28 s29 K27 => ?_)
        · refine R_iconst C (0) dX7_laysPerfect_129 (by decide) ?_
          refine R_istore (lv2 := [(6, .int (0 : Int32)), (0, .ref (G.1 + a0)), (1, .int a1), (2, .int a2), (3, .int a3), (4, .int v18)]) C dX7_laysPerfect_130 (by decide) rfl ?_
          refine R_loc (lv2 := [(0, .ref (G.1 + a0)), (1, .int a1), (2, .int a2), (3, .int a3), (4, .int v18), (6, .int (0 : Int32))]) [1, 2, 3, 4, 5, 0] rfl ?_
          refine R_loop (fun (a : (Int32) × Sg) => V κ G (QQ κ G E none σ') E a.2 (false, 0, 0) 132 [(0, .ref (G.1 + a0)), (1, .int a1), (2, .int a2), (3, .int a3), (4, .int v18), (6, .int a.1)] []) (fun (o : (Int32)) (s : Sg) => V κ G (QQ κ G E none σ') E s (false, 0, 0) 158 [(0, .ref (G.1 + a0)), (1, .int a1), (2, .int a2), (3, .int a3), (4, .int v18)] []) ((0 : Int32), s48) (fun o61 s62 => ?_) (fun rec I54 a b52 s53 K51 => ?_)
          · refine S_iinc (fun v63 => [(4, .int v63), (0, .ref (G.1 + a0)), (1, .int a1), (2, .int a2), (3, .int a3)]) 4 C dX7_laysPerfect_158 rfl (by decide) (by decide) (fun _ => rfl) (fun v63 => ?_)
            refine R_goto C dX7_laysPerfect_161 ?_
            refine R_loc (lv2 := [(0, .ref (G.1 + a0)), (1, .int a1), (2, .int a2), (3, .int a3), (4, .int v63)]) [1, 2, 3, 4, 0] rfl ?_
            exact I23 (v63, s62) b21 s22 K20
          · obtain ⟨v49, s50⟩ := a
            show bX7_laysPerfect_132 E a3 a0 (fun u0 t => rec (u0, t)) v49 s50 = some (b52, s53) → V κ G (QQ κ G E none σ') E s50 (false, 0, 0) 132 [(0, .ref (G.1 + a0)), (1, .int a1), (2, .int a2), (3, .int a3), (4, .int v18), (6, .int v49)] []
            unfold bX7_laysPerfect_132
            refine R_iload C 5 rfl dX7_laysPerfect_132 ?_
            refine R_iload_n C 3 rfl dX7_laysPerfect_134 ?_
            refine B_icmp_ge C dX7_laysPerfect_135 ?_ ?_
            · refine R_loc (lv2 := [(0, .ref (G.1 + a0)), (1, .int a1), (2, .int a2), (3, .int a3), (4, .int v18)]) [0, 1, 2, 3, 4] rfl ?_
              exact R_end (fun (o : (Int32)) (s : Sg) => V κ G (QQ κ G E none σ') E s (false, 0, 0) 158 [(0, .ref (G.1 + a0)), (1, .int a1), (2, .int a2), (3, .int a3), (4, .int v18)] []) K51
            · refine R_aload_n C 0 rfl dX7_laysPerfect_138 ?_
              refine R_dr (fun x55 rx55 cx55 => ?_)
              refine R_getr C fl7_33 rfl ha0 rx55 dX7_laysPerfect_139 ?_
              refine R_iload C 5 rfl dX7_laysPerfect_142 ?_
              refine R_aload_n C 0 rfl dX7_laysPerfect_144 ?_
              refine R_dr (fun x56 rx56 cx56 => ?_)
              refine R_getr C fl7_36 rfl ha0 rx56 dX7_laysPerfect_145 ?_
              refine R_iload C 5 rfl dX7_laysPerfect_148 ?_
              refine R_ck (fun h57 => ?_)
              refine R_iald C cx56 h57 dX7_laysPerfect_150 ?_
              refine R_ck (fun h58 => ?_)
              refine S_iast C cx55 h58 dX7_laysPerfect_151 (fun s59 => ?_)
              refine S_iinc (fun v60 => [(6, .int v60), (0, .ref (G.1 + a0)), (1, .int a1), (2, .int a2), (3, .int a3), (4, .int v18)]) 5 C dX7_laysPerfect_152 rfl (by decide) (by decide) (fun _ => rfl) (fun v60 => ?_)
              refine R_goto C dX7_laysPerfect_155 ?_
              refine R_loc (lv2 := [(0, .ref (G.1 + a0)), (1, .int a1), (2, .int a2), (3, .int a3), (4, .int v18), (6, .int v60)]) [1, 2, 3, 4, 5, 0] rfl ?_
              exact I54 (v60, s59) b52 s53 K51
        · obtain ⟨⟨v24, v25⟩, s26⟩ := a
          show bX7_laysPerfect_50 E a3 a0 a2 (fun u0 u1 t => rec ((u0, u1), t)) v24 v25 s26 = some (b28, s29) → V κ G (QQ κ G E none σ') E s26 (false, 0, 0) 50 [(0, .ref (G.1 + a0)), (1, .int a1), (2, .int a2), (3, .int a3), (4, .int v18), (5, .int v24), (6, .int v25)] []
          unfold bX7_laysPerfect_50
          refine R_iload C 6 rfl dX7_laysPerfect_50 ?_
          refine R_iload_n C 3 rfl dX7_laysPerfect_52 ?_
          refine B_icmp_ge C dX7_laysPerfect_53 ?_ ?_
          · refine R_loc (lv2 := [(0, .ref (G.1 + a0)), (1, .int a1), (2, .int a2), (3, .int a3), (4, .int v18)]) [0, 1, 2, 3, 4] rfl ?_
            exact R_end (fun (o : (Int32 × Int32)) (s : Sg) => V κ G (QQ κ G E none σ') E s (false, 0, 0) 129 [(0, .ref (G.1 + a0)), (1, .int a1), (2, .int a2), (3, .int a3), (4, .int v18)] []) K27
          · refine R_iload C 5 rfl dX7_laysPerfect_56 ?_
            refine R_aload_n C 0 rfl dX7_laysPerfect_58 ?_
            refine R_dr (fun x31 rx31 cx31 => ?_)
            refine R_getr C fl7_33 rfl ha0 rx31 dX7_laysPerfect_59 ?_
            refine R_iload C 6 rfl dX7_laysPerfect_62 ?_
            refine R_ck (fun h32 => ?_)
            refine R_iald C cx31 h32 dX7_laysPerfect_64 ?_
            refine R_iadd C dX7_laysPerfect_65 ?_
            refine S_istore C dX7_laysPerfect_66 (fun v33 => [(5, .int v33), (0, .ref (G.1 + a0)), (1, .int a1), (2, .int a2), (3, .int a3), (4, .int v18), (6, .int v25)]) (by decide) (fun _ => rfl) (fun v33 => ?_)
            refine R_iload_n C 3 rfl dX7_laysPerfect_68 ?_
            refine R_bdK (fun (w : Unit) (s : Sg) => V κ G (QQ κ G E none σ') E s (false, 0, 0) 123 [(5, .int v33), (0, .ref (G.1 + a0)), (1, .int a1), (2, .int a2), (3, .int a3), (4, .int v18), (6, .int v25)] []) (fun w34 s35 => ?_) (fun w34 s35 Kw34 => ?_)
            · refine S_iinc (fun v46 => [(6, .int v46), (5, .int v33), (0, .ref (G.1 + a0)), (1, .int a1), (2, .int a2), (3, .int a3), (4, .int v18)]) 6 C dX7_laysPerfect_123 rfl (by decide) (by decide) (fun _ => rfl) (fun v46 => ?_)
              refine R_goto C dX7_laysPerfect_126 ?_
              refine R_loc (lv2 := [(0, .ref (G.1 + a0)), (1, .int a1), (2, .int a2), (3, .int a3), (4, .int v18), (5, .int v33), (6, .int v46)]) [2, 3, 4, 5, 6, 1, 0] rfl ?_
              exact I30 ((v33, v46), s35) b28 s29 K27
            · refine B_if_ne C dX7_laysPerfect_69 ?_ ?_
              · refine R_aload_n C 1 rfl dX7_laysPerfect_110 ?_
                refine R_dr (fun x36 rx36 cx36 => ?_)
                refine R_getr C fl7_36 rfl ha0 rx36 dX7_laysPerfect_111 ?_
                refine R_iload_n C 4 rfl dX7_laysPerfect_114 ?_
                refine R_iconst C (1) dX7_laysPerfect_115 (by decide) ?_
                refine R_isub C dX7_laysPerfect_116 ?_
                refine R_iload C 6 rfl dX7_laysPerfect_117 ?_
                refine R_isub C dX7_laysPerfect_119 ?_
                refine R_iload C 0 rfl dX7_laysPerfect_120 ?_
                refine R_ck (fun h37 => ?_)
                refine S_iast C cx36 h37 dX7_laysPerfect_122 (fun s38 => ?_)
                exact R_end (fun (w : Unit) (s : Sg) => V κ G (QQ κ G E none σ') E s (false, 0, 0) 123 [(5, .int v33), (0, .ref (G.1 + a0)), (1, .int a1), (2, .int a2), (3, .int a3), (4, .int v18), (6, .int v25)] []) Kw34
              · refine R_aload_n C 1 rfl dX7_laysPerfect_72 ?_
                refine R_dr (fun x39 rx39 cx39 => ?_)
                refine R_getr C fl7_36 rfl ha0 rx39 dX7_laysPerfect_73 ?_
                refine R_iload C 6 rfl dX7_laysPerfect_76 ?_
                refine R_aload_n C 1 rfl dX7_laysPerfect_78 ?_
                refine R_getr C fl7_33 rfl ha0 rx31 dX7_laysPerfect_79 ?_
                refine R_iconst C (0) dX7_laysPerfect_82 (by decide) ?_
                refine R_ck (fun h40 => ?_)
                refine R_iald C cx31 h40 dX7_laysPerfect_83 ?_
                refine R_iload C 6 rfl dX7_laysPerfect_84 ?_
                refine R_iconst C (1) dX7_laysPerfect_86 (by decide) ?_
                refine R_iadd C dX7_laysPerfect_87 ?_
                refine R_iload_n C 4 rfl dX7_laysPerfect_88 ?_
                refine R_bdK (fun (w : Int32) (s : Sg) => V κ G (QQ κ G E none σ') E s (false, 0, 0) 105 [(5, .int v33), (0, .ref (G.1 + a0)), (1, .int a1), (2, .int a2), (3, .int a3), (4, .int v18), (6, .int v25)] [.int w, .int (gi s26 x31 (0 : Int32).toNatClampNeg), .int v25, .ref (G.1 + x39)]) (fun w41 s42 => ?_) (fun w41 s42 Kw41 => ?_)
                · refine R_iadd C dX7_laysPerfect_105 ?_
                  refine R_ck (fun h44 => ?_)
                  refine S_iast C cx39 h44 dX7_laysPerfect_106 (fun s45 => ?_)
                  refine R_goto C dX7_laysPerfect_107 ?_
                  exact R_end (fun (w : Unit) (s : Sg) => V κ G (QQ κ G E none σ') E s (false, 0, 0) 123 [(5, .int v33), (0, .ref (G.1 + a0)), (1, .int a1), (2, .int a2), (3, .int a3), (4, .int v18), (6, .int v25)] []) Kw34
                · refine B_icmp_ge C dX7_laysPerfect_89 ?_ ?_
                  · refine R_iconst C (0) dX7_laysPerfect_104 (by decide) ?_
                    exact R_end (fun (w : Int32) (s : Sg) => V κ G (QQ κ G E none σ') E s (false, 0, 0) 105 [(5, .int v33), (0, .ref (G.1 + a0)), (1, .int a1), (2, .int a2), (3, .int a3), (4, .int v18), (6, .int v25)] [.int w, .int (gi s26 x31 (0 : Int32).toNatClampNeg), .int v25, .ref (G.1 + x39)]) Kw41
                  · refine R_aload_n C 1 rfl dX7_laysPerfect_92 ?_
                    refine R_getr C fl7_33 rfl ha0 rx31 dX7_laysPerfect_93 ?_
                    refine R_iload C 6 rfl dX7_laysPerfect_96 ?_
                    refine R_iconst C (1) dX7_laysPerfect_98 (by decide) ?_
                    refine R_iadd C dX7_laysPerfect_99 ?_
                    refine R_ck (fun h43 => ?_)
                    refine R_iald C cx31 h43 dX7_laysPerfect_100 ?_
                    refine R_goto C dX7_laysPerfect_101 ?_
                    exact R_end (fun (w : Int32) (s : Sg) => V κ G (QQ κ G E none σ') E s (false, 0, 0) 105 [(5, .int v33), (0, .ref (G.1 + a0)), (1, .int a1), (2, .int a2), (3, .int a3), (4, .int v18), (6, .int v25)] [.int w, .int (gi s26 x31 (0 : Int32).toNatClampNeg), .int v25, .ref (G.1 + x39)]) Kw41
  · obtain ⟨v1, s2⟩ := a
    show bX7_laysPerfect_3 E a3 a0 (fun u0 t => rec (u0, t)) v1 s2 = some (b4, s5) → V κ G (QQ κ G E none σ') E s2 (false, 0, 0) 3 [(0, .ref (G.1 + a0)), (1, .int a1), (2, .int a2), (3, .int a3), (4, .int v1)] []
    unfold bX7_laysPerfect_3
    refine R_iload C 4 rfl dX7_laysPerfect_3 ?_
    refine R_iload_n C 3 rfl dX7_laysPerfect_5 ?_
    refine B_icmp_ge C dX7_laysPerfect_6 ?_ ?_
    · refine R_loc (lv2 := [(0, .ref (G.1 + a0)), (1, .int a1), (2, .int a2), (3, .int a3)]) [0, 1, 2, 3] rfl ?_
      exact R_end (fun (o : (Int32)) (s : Sg) => V κ G (QQ κ G E none σ') E s (false, 0, 0) 35 [(0, .ref (G.1 + a0)), (1, .int a1), (2, .int a2), (3, .int a3)] []) K3
    · refine R_aload_n C 0 rfl dX7_laysPerfect_9 ?_
      refine R_dr (fun x7 rx7 cx7 => ?_)
      refine R_getr C fl7_33 rfl ha0 rx7 dX7_laysPerfect_10 ?_
      refine R_iload C 4 rfl dX7_laysPerfect_13 ?_
      refine R_iload C 4 rfl dX7_laysPerfect_15 ?_
      refine R_bdK (fun (w : Int32) (s : Sg) => V κ G (QQ κ G E none σ') E s (false, 0, 0) 25 [(0, .ref (G.1 + a0)), (1, .int a1), (2, .int a2), (3, .int a3), (4, .int v1)] [.int w, .int v1, .ref (G.1 + x7)]) (fun w8 s9 => ?_) (fun w8 s9 Kw8 => ?_)
      · refine R_bd (fun r12 s10 q11 => ?_)
        refine R_callSi [.int w8] [.int v1, .ref (G.1 + x7)] C ml7_151 (kX7_truth q11) (by rw [hR]; exact ⟨rfl, rfl, Nat.le_of_ble_eq_true rfl, Nat.le_of_ble_eq_true rfl, Nat.zero_le _, Nat.zero_le _⟩) rfl rfl (Nat.le_of_ble_eq_true rfl) dX7_laysPerfect_25 ?_
        refine R_ck (fun h13 => ?_)
        refine S_iast C cx7 h13 dX7_laysPerfect_28 (fun s14 => ?_)
        refine S_iinc (fun v15 => [(4, .int v15), (0, .ref (G.1 + a0)), (1, .int a1), (2, .int a2), (3, .int a3)]) 4 C dX7_laysPerfect_29 rfl (by decide) (by decide) (fun _ => rfl) (fun v15 => ?_)
        refine R_goto C dX7_laysPerfect_32 ?_
        refine R_loc (lv2 := [(0, .ref (G.1 + a0)), (1, .int a1), (2, .int a2), (3, .int a3), (4, .int v15)]) [1, 2, 3, 4, 0] rfl ?_
        exact I6 (v15, s14) b4 s5 K3
      · refine B_if_ne C dX7_laysPerfect_17 ?_ ?_
        · refine R_iconst C (0) dX7_laysPerfect_24 (by decide) ?_
          exact R_end (fun (w : Int32) (s : Sg) => V κ G (QQ κ G E none σ') E s (false, 0, 0) 25 [(0, .ref (G.1 + a0)), (1, .int a1), (2, .int a2), (3, .int a3), (4, .int v1)] [.int w, .int v1, .ref (G.1 + x7)]) Kw8
        · refine R_iconst C (1) dX7_laysPerfect_20 (by decide) ?_
          refine R_goto C dX7_laysPerfect_21 ?_
          exact R_end (fun (w : Int32) (s : Sg) => V κ G (QQ κ G E none σ') E s (false, 0, 0) 25 [(0, .ref (G.1 + a0)), (1, .int a1), (2, .int a2), (3, .int a3), (4, .int v1)] [.int w, .int v1, .ref (G.1 + x7)]) Kw8
theorem dX7_allPerfect_0 : dk cX7_allPerfect 0 1 (.iconst 0) 1 := by unfold dk; decide +kernel
theorem dX7_allPerfect_1 : dk cX7_allPerfect 1 2 (.istore_n 2) 1 := by unfold dk; decide +kernel
theorem dX7_allPerfect_2 : dk cX7_allPerfect 2 3 (.iconst 0) 1 := by unfold dk; decide +kernel
theorem dX7_allPerfect_3 : dk cX7_allPerfect 3 4 (.istore_n 3) 1 := by unfold dk; decide +kernel
theorem dX7_allPerfect_4 : dk cX7_allPerfect 4 5 (.iload_n 3) 1 := by unfold dk; decide +kernel
theorem dX7_allPerfect_5 : dk cX7_allPerfect 5 6 (.iload_n 1) 1 := by unfold dk; decide +kernel
theorem dX7_allPerfect_9 : dk cX7_allPerfect 9 10 (.iload_n 2) 1 := by unfold dk; decide +kernel
theorem dX7_allPerfect_10 : dk cX7_allPerfect 10 11 (.aload_n 0) 1 := by unfold dk; decide +kernel
theorem dX7_allPerfect_11 : dk cX7_allPerfect 11 14 (.getfield 33) 3 := by unfold dk; decide +kernel
theorem dX7_allPerfect_14 : dk cX7_allPerfect 14 15 (.iload_n 3) 1 := by unfold dk; decide +kernel
theorem dX7_allPerfect_15 : dk cX7_allPerfect 15 16 (.iaload) 1 := by unfold dk; decide +kernel
theorem dX7_allPerfect_16 : dk cX7_allPerfect 16 17 (.iadd) 1 := by unfold dk; decide +kernel
theorem dX7_allPerfect_17 : dk cX7_allPerfect 17 18 (.istore_n 2) 1 := by unfold dk; decide +kernel
theorem dX7_allPerfect_18 : dk cX7_allPerfect 18 21 (.iinc 3 1) 3 := by unfold dk; decide +kernel
theorem dX7_allPerfect_21 : bk cX7_allPerfect 21 24 4 (.goto (-17)) (-17) := by unfold bk; decide +kernel
theorem dX7_allPerfect_6 : bk cX7_allPerfect 6 9 24 (.if_icmp .ge 18) (18) := by unfold bk; decide +kernel
theorem dX7_allPerfect_24 : dk cX7_allPerfect 24 25 (.iload_n 2) 1 := by unfold dk; decide +kernel
theorem dX7_allPerfect_25 : dk cX7_allPerfect 25 26 (.ireturn) 1 := by unfold dk; decide +kernel
set_option maxHeartbeats 4000000 in
set_option maxRecDepth 100000 in
theorem kX7_allPerfect {l : Launch} {G : Gl} {E : En} {a0 : Nat} {a1 : Int32} {σ σ' : Sg} {r : Int32} : fX7_allPerfect E a0 a1 σ = some (r, σ') → CT l yX7_allPerfect cX7_allPerfect 4 (some .int) ({ frames := 0, cells := 0, slots := 0, locals := 0 } : Room) [.ref (G.1 + a0), .int a1] G E σ (some (.int r)) σ' := by
  intro h
  refine CT_of (lv0 := [(0, .ref (G.1 + a0)), (1, .int a1)]) (by decide) (Nat.le_of_ble_eq_true rfl) rfl (fun κ hl hR hr C => ?_)
  have C : Cx κ G cX7_allPerfect RX7 4 := C
  revert h
  unfold fX7_allPerfect
  refine R_tk (fun ha0 => ?_)
  refine R_iconst C (0) dX7_allPerfect_0 (by decide) ?_
  refine R_istore_n (lv2 := [(2, .int (0 : Int32)), (0, .ref (G.1 + a0)), (1, .int a1)]) C dX7_allPerfect_1 rfl (by decide) rfl ?_
  refine R_iconst C (0) dX7_allPerfect_2 (by decide) ?_
  refine R_istore_n (lv2 := [(3, .int (0 : Int32)), (2, .int (0 : Int32)), (0, .ref (G.1 + a0)), (1, .int a1)]) C dX7_allPerfect_3 rfl (by decide) rfl ?_
  refine R_loc (lv2 := [(0, .ref (G.1 + a0)), (1, .int a1), (2, .int (0 : Int32)), (3, .int (0 : Int32))]) [2, 3, 1, 0] rfl ?_
  refine R_loop (fun (a : (Int32 × Int32) × Sg) => V κ G (QQ κ G E (some (.int r)) σ') E a.2 (false, 0, 0) 4 [(0, .ref (G.1 + a0)), (1, .int a1), (2, .int a.1.1), (3, .int a.1.2)] []) (fun (o : (Int32 × Int32)) (s : Sg) => V κ G (QQ κ G E (some (.int r)) σ') E s (false, 0, 0) 24 [(2, .int o.1)] []) (((0 : Int32), (0 : Int32)), σ) (fun o12 s13 => ?_) (fun rec I7 a b5 s6 K4 => ?_)
  · refine R_iload_n C 0 rfl dX7_allPerfect_24 ?_
    exact R_iret C hr dX7_allPerfect_25
  · obtain ⟨⟨v1, v2⟩, s3⟩ := a
    show bX7_allPerfect_4 E a1 a0 (fun u0 u1 t => rec ((u0, u1), t)) v1 v2 s3 = some (b5, s6) → V κ G (QQ κ G E (some (.int r)) σ') E s3 (false, 0, 0) 4 [(0, .ref (G.1 + a0)), (1, .int a1), (2, .int v1), (3, .int v2)] []
    unfold bX7_allPerfect_4
    refine R_iload_n C 3 rfl dX7_allPerfect_4 ?_
    refine R_iload_n C 1 rfl dX7_allPerfect_5 ?_
    refine B_icmp_ge C dX7_allPerfect_6 ?_ ?_
    · refine R_loc (lv2 := [(2, .int v1)]) [2] rfl ?_
      exact R_end (fun (o : (Int32 × Int32)) (s : Sg) => V κ G (QQ κ G E (some (.int r)) σ') E s (false, 0, 0) 24 [(2, .int o.1)] []) K4
    · refine R_iload_n C 2 rfl dX7_allPerfect_9 ?_
      refine R_aload_n C 0 rfl dX7_allPerfect_10 ?_
      refine R_dr (fun x8 rx8 cx8 => ?_)
      refine R_getr C fl7_33 rfl ha0 rx8 dX7_allPerfect_11 ?_
      refine R_iload_n C 3 rfl dX7_allPerfect_14 ?_
      refine R_ck (fun h9 => ?_)
      refine R_iald C cx8 h9 dX7_allPerfect_15 ?_
      refine R_iadd C dX7_allPerfect_16 ?_
      refine S_istore_n C dX7_allPerfect_17 rfl (fun v10 => [(2, .int v10), (0, .ref (G.1 + a0)), (1, .int a1), (3, .int v2)]) (by decide) (fun _ => rfl) (fun v10 => ?_)
      refine S_iinc (fun v11 => [(3, .int v11), (2, .int v10), (0, .ref (G.1 + a0)), (1, .int a1)]) 3 C dX7_allPerfect_18 rfl (by decide) (by decide) (fun _ => rfl) (fun v11 => ?_)
      refine R_goto C dX7_allPerfect_21 ?_
      refine R_loc (lv2 := [(0, .ref (G.1 + a0)), (1, .int a1), (2, .int v10), (3, .int v11)]) [2, 3, 1, 0] rfl ?_
      exact I7 ((v10, v11), s3) b5 s6 K4
theorem dX7_perfect_0 : dk cX7_perfect 0 1 (.aload_n 0) 1 := by unfold dk; decide +kernel
theorem dX7_perfect_1 : dk cX7_perfect 1 4 (.invokevirtual 155) 3 := by unfold dk; decide +kernel
theorem dX7_perfect_4 : dk cX7_perfect 4 5 (.iconst 1) 1 := by unfold dk; decide +kernel
theorem dX7_perfect_5 : dk cX7_perfect 5 6 (.isub) 1 := by unfold dk; decide +kernel
theorem dX7_perfect_6 : dk cX7_perfect 6 7 (.istore_n 3) 1 := by unfold dk; decide +kernel
theorem dX7_perfect_7 : dk cX7_perfect 7 8 (.iload_n 1) 1 := by unfold dk; decide +kernel
theorem dX7_perfect_8 : dk cX7_perfect 8 9 (.iconst 0) 1 := by unfold dk; decide +kernel
theorem dX7_perfect_9 : dk cX7_perfect 9 11 (.bipush 8) 2 := by unfold dk; decide +kernel
theorem dX7_perfect_11 : dk cX7_perfect 11 14 (.invokestatic 116) 3 := by unfold dk; decide +kernel
theorem dX7_perfect_36 : dk cX7_perfect 36 37 (.iconst (-1)) 1 := by unfold dk; decide +kernel
theorem dX7_perfect_37 : dk cX7_perfect 37 38 (.ireturn) 1 := by unfold dk; decide +kernel
theorem dX7_perfect_17 : dk cX7_perfect 17 18 (.iload_n 2) 1 := by unfold dk; decide +kernel
theorem dX7_perfect_18 : dk cX7_perfect 18 19 (.iconst (-1)) 1 := by unfold dk; decide +kernel
theorem dX7_perfect_19 : dk cX7_perfect 19 20 (.iload_n 3) 1 := by unfold dk; decide +kernel
theorem dX7_perfect_20 : dk cX7_perfect 20 21 (.iconst 1) 1 := by unfold dk; decide +kernel
theorem dX7_perfect_21 : dk cX7_perfect 21 22 (.isub) 1 := by unfold dk; decide +kernel
theorem dX7_perfect_22 : dk cX7_perfect 22 25 (.invokestatic 116) 3 := by unfold dk; decide +kernel
theorem dX7_perfect_28 : dk cX7_perfect 28 29 (.aload_n 0) 1 := by unfold dk; decide +kernel
theorem dX7_perfect_29 : dk cX7_perfect 29 32 (.invokevirtual 158) 3 := by unfold dk; decide +kernel
theorem dX7_perfect_32 : dk cX7_perfect 32 33 (.iconst 1) 1 := by unfold dk; decide +kernel
theorem dX7_perfect_38 : dk cX7_perfect 38 39 (.aload_n 0) 1 := by unfold dk; decide +kernel
theorem dX7_perfect_39 : dk cX7_perfect 39 40 (.iload_n 1) 1 := by unfold dk; decide +kernel
theorem dX7_perfect_40 : dk cX7_perfect 40 41 (.aload_n 0) 1 := by unfold dk; decide +kernel
theorem dX7_perfect_41 : dk cX7_perfect 41 44 (.invokevirtual 158) 3 := by unfold dk; decide +kernel
theorem dX7_perfect_44 : dk cX7_perfect 44 45 (.iload_n 3) 1 := by unfold dk; decide +kernel
theorem dX7_perfect_45 : dk cX7_perfect 45 48 (.invokevirtual 161) 3 := by unfold dk; decide +kernel
theorem dX7_perfect_48 : dk cX7_perfect 48 49 (.iload_n 2) 1 := by unfold dk; decide +kernel
theorem dX7_perfect_49 : dk cX7_perfect 49 50 (.iconst (-1)) 1 := by unfold dk; decide +kernel
theorem dX7_perfect_50 : bk cX7_perfect 50 53 61 (.if_icmp .ne 11) (11) := by unfold bk; decide +kernel
theorem dX7_perfect_61 : dk cX7_perfect 61 62 (.aload_n 0) 1 := by unfold dk; decide +kernel
theorem dX7_perfect_62 : dk cX7_perfect 62 65 (.getfield 33) 3 := by unfold dk; decide +kernel
theorem dX7_perfect_65 : dk cX7_perfect 65 66 (.iload_n 2) 1 := by unfold dk; decide +kernel
theorem dX7_perfect_66 : dk cX7_perfect 66 67 (.iaload) 1 := by unfold dk; decide +kernel
theorem dX7_perfect_53 : dk cX7_perfect 53 54 (.aload_n 0) 1 := by unfold dk; decide +kernel
theorem dX7_perfect_54 : dk cX7_perfect 54 55 (.iload_n 3) 1 := by unfold dk; decide +kernel
theorem dX7_perfect_55 : dk cX7_perfect 55 58 (.invokevirtual 165) 3 := by unfold dk; decide +kernel
theorem dX7_perfect_58 : bk cX7_perfect 58 61 67 (.goto 9) (9) := by unfold bk; decide +kernel
theorem dX7_perfect_67 : dk cX7_perfect 67 68 (.ireturn) 1 := by unfold dk; decide +kernel
theorem dX7_perfect_33 : bk cX7_perfect 33 36 38 (.if_icmp .ne 5) (5) := by unfold bk; decide +kernel
theorem dX7_perfect_25 : bk cX7_perfect 25 28 36 (.ifCond .eq 11) (11) := by unfold bk; decide +kernel
theorem dX7_perfect_14 : bk cX7_perfect 14 17 36 (.ifCond .eq 22) (22) := by unfold bk; decide +kernel
set_option maxHeartbeats 4000000 in
set_option maxRecDepth 100000 in
theorem kX7_perfect {l : Launch} {G : Gl} {E : En} {a0 : Nat} {a1 : Int32} {a2 : Int32} {σ σ' : Sg} {r : Int32} : fX7_perfect E a0 a1 a2 σ = some (r, σ') → CT l yX7_perfect cX7_perfect 4 (some .int) ({ frames := 2, cells := 0, slots := 0, locals := 46 } : Room) [.ref (G.1 + a0), .int a1, .int a2] G E σ (some (.int r)) σ' := by
  intro h
  refine CT_of (lv0 := [(0, .ref (G.1 + a0)), (1, .int a1), (2, .int a2)]) (by decide) (Nat.le_of_ble_eq_true rfl) rfl (fun κ hl hR hr C => ?_)
  have C : Cx κ G cX7_perfect RX7 4 := C
  revert h
  unfold fX7_perfect
  refine R_tk (fun ha0 => ?_)
  refine R_aload_n C 0 rfl dX7_perfect_0 ?_
  refine R_bd (fun r3 s1 q2 => ?_)
  refine R_callVi [] [] C ml7_155 (kX7_tapes q2) (by rw [hR]; exact ⟨rfl, rfl, Nat.le_of_ble_eq_true rfl, Nat.le_of_ble_eq_true rfl, Nat.zero_le _, Nat.zero_le _⟩) ha0 rfl rfl (Nat.le_of_ble_eq_true rfl) dX7_perfect_1 ?_
  refine R_iconst C (1) dX7_perfect_4 (by decide) ?_
  refine R_isub C dX7_perfect_5 ?_
  refine S_istore_n C dX7_perfect_6 rfl (fun v4 => [(3, .int v4), (0, .ref (G.1 + a0)), (1, .int a1), (2, .int a2)]) (by decide) (fun _ => rfl) (fun v4 => ?_)
  refine R_iload_n C 2 rfl dX7_perfect_7 ?_
  refine R_iconst C (0) dX7_perfect_8 (by decide) ?_
  refine R_bipush C (8) dX7_perfect_9 (by decide) ?_
  refine R_bd (fun r7 s5 q6 => ?_)
  refine R_callSi [.int a1, .int (0 : Int32), .int (8 : Int32)] [] C ml7_116 (kX7_in q6) (by rw [hR]; exact ⟨rfl, rfl, Nat.le_of_ble_eq_true rfl, Nat.le_of_ble_eq_true rfl, Nat.zero_le _, Nat.zero_le _⟩) rfl rfl (Nat.le_of_ble_eq_true rfl) dX7_perfect_11 ?_
  refine B_if_eq C dX7_perfect_14 ?_ ?_
  · refine R_iconst C (-1) dX7_perfect_36 (by decide) ?_
    exact R_iret C hr dX7_perfect_37
  · refine R_iload_n C 3 rfl dX7_perfect_17 ?_
    refine R_iconst C (-1) dX7_perfect_18 (by decide) ?_
    refine R_iload_n C 0 rfl dX7_perfect_19 ?_
    refine R_iconst C (1) dX7_perfect_20 (by decide) ?_
    refine R_isub C dX7_perfect_21 ?_
    refine R_bd (fun r10 s8 q9 => ?_)
    refine R_callSi [.int a2, .int (-1 : Int32), .int (v4 - (1 : Int32))] [] C ml7_116 (kX7_in q9) (by rw [hR]; exact ⟨rfl, rfl, Nat.le_of_ble_eq_true rfl, Nat.le_of_ble_eq_true rfl, Nat.zero_le _, Nat.zero_le _⟩) rfl rfl (Nat.le_of_ble_eq_true rfl) dX7_perfect_22 ?_
    refine B_if_eq C dX7_perfect_25 ?_ ?_
    · refine R_iconst C (-1) dX7_perfect_36 (by decide) ?_
      exact R_iret C hr dX7_perfect_37
    · refine R_aload_n C 1 rfl dX7_perfect_28 ?_
      refine R_bd (fun r13 s11 q12 => ?_)
      refine R_callVi [] [] C ml7_158 (kX7_way q12) (by rw [hR]; exact ⟨rfl, rfl, Nat.le_of_ble_eq_true rfl, Nat.le_of_ble_eq_true rfl, Nat.zero_le _, Nat.zero_le _⟩) ha0 rfl rfl (Nat.le_of_ble_eq_true rfl) dX7_perfect_29 ?_
      refine R_iconst C (1) dX7_perfect_32 (by decide) ?_
      refine B_icmp_ne C dX7_perfect_33 ?_ ?_
      · refine R_aload_n C 1 rfl dX7_perfect_38 ?_
        refine R_iload_n C 2 rfl dX7_perfect_39 ?_
        refine R_aload_n C 1 rfl dX7_perfect_40 ?_
        refine R_bd (fun r16 s14 q15 => ?_)
        refine R_callVi [] [.int a1, .ref (G.1 + a0)] C ml7_158 (kX7_way q15) (by rw [hR]; exact ⟨rfl, rfl, Nat.le_of_ble_eq_true rfl, Nat.le_of_ble_eq_true rfl, Nat.zero_le _, Nat.zero_le _⟩) ha0 rfl rfl (Nat.le_of_ble_eq_true rfl) dX7_perfect_41 ?_
        refine R_iload_n C 0 rfl dX7_perfect_44 ?_
        refine R_bv (fun s17 q18 => ?_)
        refine R_callVv [.int a1, .int r16, .int v4] [] C ml7_161 (kX7_laysPerfect q18) (by rw [hR]; exact ⟨rfl, rfl, Nat.le_of_ble_eq_true rfl, Nat.le_of_ble_eq_true rfl, Nat.zero_le _, Nat.zero_le _⟩) ha0 rfl rfl (Nat.le_of_ble_eq_true rfl) dX7_perfect_45 ?_
        refine R_iload_n C 3 rfl dX7_perfect_48 ?_
        refine R_iconst C (-1) dX7_perfect_49 (by decide) ?_
        refine R_bdK (fun (w : Int32) (s : Sg) => V κ G (QQ κ G E (some (.int r)) σ') E s (false, 0, 0) 67 [] [.int w]) (fun w19 s20 => ?_) (fun w19 s20 Kw19 => ?_)
        · exact R_iret C hr dX7_perfect_67
        · refine B_icmp_ne C dX7_perfect_50 ?_ ?_
          · refine R_aload_n C 1 rfl dX7_perfect_61 ?_
            refine R_dr (fun x21 rx21 cx21 => ?_)
            refine R_getr C fl7_33 rfl ha0 rx21 dX7_perfect_62 ?_
            refine R_iload_n C 3 rfl dX7_perfect_65 ?_
            refine R_ck (fun h22 => ?_)
            refine R_iald C cx21 h22 dX7_perfect_66 ?_
            refine R_loc (lv2 := []) [] rfl ?_
            exact R_end (fun (w : Int32) (s : Sg) => V κ G (QQ κ G E (some (.int r)) σ') E s (false, 0, 0) 67 [] [.int w]) Kw19
          · refine R_aload_n C 1 rfl dX7_perfect_53 ?_
            refine R_iload_n C 0 rfl dX7_perfect_54 ?_
            refine R_bd (fun r25 s23 q24 => ?_)
            refine R_callVi [.int v4] [] C ml7_165 (kX7_allPerfect q24) (by rw [hR]; exact ⟨rfl, rfl, Nat.le_of_ble_eq_true rfl, Nat.le_of_ble_eq_true rfl, Nat.zero_le _, Nat.zero_le _⟩) ha0 rfl rfl (Nat.le_of_ble_eq_true rfl) dX7_perfect_55 ?_
            refine R_goto C dX7_perfect_58 ?_
            refine R_loc (lv2 := []) [] rfl ?_
            exact R_end (fun (w : Int32) (s : Sg) => V κ G (QQ κ G E (some (.int r)) σ') E s (false, 0, 0) 67 [] [.int w]) Kw19
      · refine R_iconst C (-1) dX7_perfect_36 (by decide) ?_
        exact R_iret C hr dX7_perfect_37
theorem dX7_runAt_0 : dk cX7_runAt 0 1 (.aload_n 0) 1 := by unfold dk; decide +kernel
theorem dX7_runAt_1 : dk cX7_runAt 1 4 (.getfield 9) 3 := by unfold dk; decide +kernel
theorem dX7_runAt_4 : dk cX7_runAt 4 7 (.sipush 3327) 3 := by unfold dk; decide +kernel
theorem dX7_runAt_7 : dk cX7_runAt 7 10 (.sipush 700) 3 := by unfold dk; decide +kernel
theorem dX7_runAt_10 : dk cX7_runAt 10 11 (.iload_n 1) 1 := by unfold dk; decide +kernel
theorem dX7_runAt_11 : dk cX7_runAt 11 12 (.imul) 1 := by unfold dk; decide +kernel
theorem dX7_runAt_12 : dk cX7_runAt 12 13 (.iadd) 1 := by unfold dk; decide +kernel
theorem dX7_runAt_13 : dk cX7_runAt 13 14 (.iload_n 2) 1 := by unfold dk; decide +kernel
theorem dX7_runAt_14 : dk cX7_runAt 14 15 (.iadd) 1 := by unfold dk; decide +kernel
theorem dX7_runAt_15 : dk cX7_runAt 15 16 (.iaload) 1 := by unfold dk; decide +kernel
theorem dX7_runAt_16 : dk cX7_runAt 16 17 (.ireturn) 1 := by unfold dk; decide +kernel
set_option maxHeartbeats 4000000 in
set_option maxRecDepth 100000 in
theorem kX7_runAt {l : Launch} {G : Gl} {E : En} {a0 : Nat} {a1 : Int32} {a2 : Int32} {σ σ' : Sg} {r : Int32} : fX7_runAt E a0 a1 a2 σ = some (r, σ') → CT l yX7_runAt cX7_runAt 3 (some .int) ({ frames := 0, cells := 0, slots := 0, locals := 0 } : Room) [.ref (G.1 + a0), .int a1, .int a2] G E σ (some (.int r)) σ' := by
  intro h
  refine CT_of (lv0 := [(0, .ref (G.1 + a0)), (1, .int a1), (2, .int a2)]) (by decide) (Nat.le_of_ble_eq_true rfl) rfl (fun κ hl hR hr C => ?_)
  have C : Cx κ G cX7_runAt RX7 3 := C
  revert h
  unfold fX7_runAt
  refine R_tk (fun ha0 => ?_)
  refine R_aload_n C 0 rfl dX7_runAt_0 ?_
  refine R_dr (fun x1 rx1 cx1 => ?_)
  refine R_getr C fl7_9 rfl ha0 rx1 dX7_runAt_1 ?_
  refine R_sipush C (3327) dX7_runAt_4 (by decide) ?_
  refine R_sipush C (700) dX7_runAt_7 (by decide) ?_
  refine R_iload_n C 1 rfl dX7_runAt_10 ?_
  refine R_imul C dX7_runAt_11 ?_
  refine R_iadd C dX7_runAt_12 ?_
  refine R_iload_n C 2 rfl dX7_runAt_13 ?_
  refine R_iadd C dX7_runAt_14 ?_
  refine R_ck (fun h2 => ?_)
  refine R_iald C cx1 h2 dX7_runAt_15 ?_
  exact R_iret C hr dX7_runAt_16
theorem dX7_comesLast_0 : dk cX7_comesLast 0 1 (.aload_n 0) 1 := by unfold dk; decide +kernel
theorem dX7_comesLast_1 : dk cX7_comesLast 1 4 (.getfield 9) 3 := by unfold dk; decide +kernel
theorem dX7_comesLast_4 : dk cX7_comesLast 4 7 (.sipush 3327) 3 := by unfold dk; decide +kernel
theorem dX7_comesLast_7 : dk cX7_comesLast 7 10 (.sipush 700) 3 := by unfold dk; decide +kernel
theorem dX7_comesLast_10 : dk cX7_comesLast 10 11 (.iload_n 1) 1 := by unfold dk; decide +kernel
theorem dX7_comesLast_11 : dk cX7_comesLast 11 12 (.imul) 1 := by unfold dk; decide +kernel
theorem dX7_comesLast_12 : dk cX7_comesLast 12 13 (.iadd) 1 := by unfold dk; decide +kernel
theorem dX7_comesLast_13 : dk cX7_comesLast 13 14 (.aload_n 0) 1 := by unfold dk; decide +kernel
theorem dX7_comesLast_14 : dk cX7_comesLast 14 17 (.getfield 9) 3 := by unfold dk; decide +kernel
theorem dX7_comesLast_17 : dk cX7_comesLast 17 19 (.bipush 20) 2 := by unfold dk; decide +kernel
theorem dX7_comesLast_19 : dk cX7_comesLast 19 20 (.iload_n 1) 1 := by unfold dk; decide +kernel
theorem dX7_comesLast_20 : dk cX7_comesLast 20 21 (.iadd) 1 := by unfold dk; decide +kernel
theorem dX7_comesLast_21 : dk cX7_comesLast 21 22 (.iaload) 1 := by unfold dk; decide +kernel
theorem dX7_comesLast_22 : dk cX7_comesLast 22 23 (.iadd) 1 := by unfold dk; decide +kernel
theorem dX7_comesLast_23 : dk cX7_comesLast 23 24 (.iload_n 2) 1 := by unfold dk; decide +kernel
theorem dX7_comesLast_24 : dk cX7_comesLast 24 25 (.iastore) 1 := by unfold dk; decide +kernel
theorem dX7_comesLast_25 : dk cX7_comesLast 25 26 (.aload_n 0) 1 := by unfold dk; decide +kernel
theorem dX7_comesLast_26 : dk cX7_comesLast 26 29 (.getfield 9) 3 := by unfold dk; decide +kernel
theorem dX7_comesLast_29 : dk cX7_comesLast 29 31 (.bipush 20) 2 := by unfold dk; decide +kernel
theorem dX7_comesLast_31 : dk cX7_comesLast 31 32 (.iload_n 1) 1 := by unfold dk; decide +kernel
theorem dX7_comesLast_32 : dk cX7_comesLast 32 33 (.iadd) 1 := by unfold dk; decide +kernel
theorem dX7_comesLast_33 : dk cX7_comesLast 33 34 (.dup2) 1 := by unfold dk; decide +kernel
theorem dX7_comesLast_34 : dk cX7_comesLast 34 35 (.iaload) 1 := by unfold dk; decide +kernel
theorem dX7_comesLast_35 : dk cX7_comesLast 35 36 (.iconst 1) 1 := by unfold dk; decide +kernel
theorem dX7_comesLast_36 : dk cX7_comesLast 36 37 (.iadd) 1 := by unfold dk; decide +kernel
theorem dX7_comesLast_37 : dk cX7_comesLast 37 38 (.iastore) 1 := by unfold dk; decide +kernel
theorem dX7_comesLast_38 : dk cX7_comesLast 38 39 (.return_) 1 := by unfold dk; decide +kernel
set_option maxHeartbeats 4000000 in
set_option maxRecDepth 100000 in
theorem kX7_comesLast {l : Launch} {G : Gl} {E : En} {a0 : Nat} {a1 : Int32} {a2 : Int32} {σ σ' : Sg} : fX7_comesLast E a0 a1 a2 σ = some σ' → CT l yX7_comesLast cX7_comesLast 3 none ({ frames := 0, cells := 0, slots := 0, locals := 0 } : Room) [.ref (G.1 + a0), .int a1, .int a2] G E σ none σ' := by
  intro h
  refine CT_of (lv0 := [(0, .ref (G.1 + a0)), (1, .int a1), (2, .int a2)]) (by decide) (Nat.le_of_ble_eq_true rfl) rfl (fun κ hl hR hr C => ?_)
  have C : Cx κ G cX7_comesLast RX7 3 := C
  revert h
  unfold fX7_comesLast
  refine R_tk (fun ha0 => ?_)
  refine R_aload_n C 0 rfl dX7_comesLast_0 ?_
  refine R_dr (fun x1 rx1 cx1 => ?_)
  refine R_getr C fl7_9 rfl ha0 rx1 dX7_comesLast_1 ?_
  refine R_sipush C (3327) dX7_comesLast_4 (by decide) ?_
  refine R_sipush C (700) dX7_comesLast_7 (by decide) ?_
  refine R_iload_n C 1 rfl dX7_comesLast_10 ?_
  refine R_imul C dX7_comesLast_11 ?_
  refine R_iadd C dX7_comesLast_12 ?_
  refine R_aload_n C 0 rfl dX7_comesLast_13 ?_
  refine R_getr C fl7_9 rfl ha0 rx1 dX7_comesLast_14 ?_
  refine R_bipush C (20) dX7_comesLast_17 (by decide) ?_
  refine R_iload_n C 1 rfl dX7_comesLast_19 ?_
  refine R_iadd C dX7_comesLast_20 ?_
  refine R_ck (fun h2 => ?_)
  refine R_iald C cx1 h2 dX7_comesLast_21 ?_
  refine R_iadd C dX7_comesLast_22 ?_
  refine R_iload_n C 2 rfl dX7_comesLast_23 ?_
  refine R_ck (fun h3 => ?_)
  refine S_iast C cx1 h3 dX7_comesLast_24 (fun s4 => ?_)
  refine R_aload_n C 0 rfl dX7_comesLast_25 ?_
  refine R_getr C fl7_9 rfl ha0 rx1 dX7_comesLast_26 ?_
  refine R_bipush C (20) dX7_comesLast_29 (by decide) ?_
  refine R_iload_n C 1 rfl dX7_comesLast_31 ?_
  refine R_iadd C dX7_comesLast_32 ?_
  refine R_dup2 C dX7_comesLast_33 rfl rfl ?_
  refine R_ck (fun h5 => ?_)
  refine R_iald C cx1 h5 dX7_comesLast_34 ?_
  refine R_iconst C (1) dX7_comesLast_35 (by decide) ?_
  refine R_iadd C dX7_comesLast_36 ?_
  refine R_ck (fun h6 => ?_)
  refine S_iast C cx1 h6 dX7_comesLast_37 (fun s7 => ?_)
  exact R_vret C hr dX7_comesLast_38
theorem dX7_comesFirst_0 : dk cX7_comesFirst 0 1 (.aload_n 0) 1 := by unfold dk; decide +kernel
theorem dX7_comesFirst_1 : dk cX7_comesFirst 1 4 (.getfield 9) 3 := by unfold dk; decide +kernel
theorem dX7_comesFirst_4 : dk cX7_comesFirst 4 6 (.bipush 20) 2 := by unfold dk; decide +kernel
theorem dX7_comesFirst_6 : dk cX7_comesFirst 6 7 (.iload_n 1) 1 := by unfold dk; decide +kernel
theorem dX7_comesFirst_7 : dk cX7_comesFirst 7 8 (.iadd) 1 := by unfold dk; decide +kernel
theorem dX7_comesFirst_8 : dk cX7_comesFirst 8 9 (.iaload) 1 := by unfold dk; decide +kernel
theorem dX7_comesFirst_9 : dk cX7_comesFirst 9 10 (.istore_n 3) 1 := by unfold dk; decide +kernel
theorem dX7_comesFirst_10 : dk cX7_comesFirst 10 11 (.iload_n 3) 1 := by unfold dk; decide +kernel
theorem dX7_comesFirst_14 : dk cX7_comesFirst 14 15 (.aload_n 0) 1 := by unfold dk; decide +kernel
theorem dX7_comesFirst_15 : dk cX7_comesFirst 15 18 (.getfield 9) 3 := by unfold dk; decide +kernel
theorem dX7_comesFirst_18 : dk cX7_comesFirst 18 21 (.sipush 3327) 3 := by unfold dk; decide +kernel
theorem dX7_comesFirst_21 : dk cX7_comesFirst 21 24 (.sipush 700) 3 := by unfold dk; decide +kernel
theorem dX7_comesFirst_24 : dk cX7_comesFirst 24 25 (.iload_n 1) 1 := by unfold dk; decide +kernel
theorem dX7_comesFirst_25 : dk cX7_comesFirst 25 26 (.imul) 1 := by unfold dk; decide +kernel
theorem dX7_comesFirst_26 : dk cX7_comesFirst 26 27 (.iadd) 1 := by unfold dk; decide +kernel
theorem dX7_comesFirst_27 : dk cX7_comesFirst 27 28 (.iload_n 3) 1 := by unfold dk; decide +kernel
theorem dX7_comesFirst_28 : dk cX7_comesFirst 28 29 (.iadd) 1 := by unfold dk; decide +kernel
theorem dX7_comesFirst_29 : dk cX7_comesFirst 29 30 (.aload_n 0) 1 := by unfold dk; decide +kernel
theorem dX7_comesFirst_30 : dk cX7_comesFirst 30 33 (.getfield 9) 3 := by unfold dk; decide +kernel
theorem dX7_comesFirst_33 : dk cX7_comesFirst 33 36 (.sipush 3327) 3 := by unfold dk; decide +kernel
theorem dX7_comesFirst_36 : dk cX7_comesFirst 36 39 (.sipush 700) 3 := by unfold dk; decide +kernel
theorem dX7_comesFirst_39 : dk cX7_comesFirst 39 40 (.iload_n 1) 1 := by unfold dk; decide +kernel
theorem dX7_comesFirst_40 : dk cX7_comesFirst 40 41 (.imul) 1 := by unfold dk; decide +kernel
theorem dX7_comesFirst_41 : dk cX7_comesFirst 41 42 (.iadd) 1 := by unfold dk; decide +kernel
theorem dX7_comesFirst_42 : dk cX7_comesFirst 42 43 (.iload_n 3) 1 := by unfold dk; decide +kernel
theorem dX7_comesFirst_43 : dk cX7_comesFirst 43 44 (.iadd) 1 := by unfold dk; decide +kernel
theorem dX7_comesFirst_44 : dk cX7_comesFirst 44 45 (.iconst 1) 1 := by unfold dk; decide +kernel
theorem dX7_comesFirst_45 : dk cX7_comesFirst 45 46 (.isub) 1 := by unfold dk; decide +kernel
theorem dX7_comesFirst_46 : dk cX7_comesFirst 46 47 (.iaload) 1 := by unfold dk; decide +kernel
theorem dX7_comesFirst_47 : dk cX7_comesFirst 47 48 (.iastore) 1 := by unfold dk; decide +kernel
theorem dX7_comesFirst_48 : dk cX7_comesFirst 48 51 (.iinc 3 (-1)) 3 := by unfold dk; decide +kernel
theorem dX7_comesFirst_51 : bk cX7_comesFirst 51 54 10 (.goto (-41)) (-41) := by unfold bk; decide +kernel
theorem dX7_comesFirst_11 : bk cX7_comesFirst 11 14 54 (.ifCond .le 43) (43) := by unfold bk; decide +kernel
theorem dX7_comesFirst_54 : dk cX7_comesFirst 54 55 (.aload_n 0) 1 := by unfold dk; decide +kernel
theorem dX7_comesFirst_55 : dk cX7_comesFirst 55 58 (.getfield 9) 3 := by unfold dk; decide +kernel
theorem dX7_comesFirst_58 : dk cX7_comesFirst 58 61 (.sipush 3327) 3 := by unfold dk; decide +kernel
theorem dX7_comesFirst_61 : dk cX7_comesFirst 61 64 (.sipush 700) 3 := by unfold dk; decide +kernel
theorem dX7_comesFirst_64 : dk cX7_comesFirst 64 65 (.iload_n 1) 1 := by unfold dk; decide +kernel
theorem dX7_comesFirst_65 : dk cX7_comesFirst 65 66 (.imul) 1 := by unfold dk; decide +kernel
theorem dX7_comesFirst_66 : dk cX7_comesFirst 66 67 (.iadd) 1 := by unfold dk; decide +kernel
theorem dX7_comesFirst_67 : dk cX7_comesFirst 67 68 (.iload_n 2) 1 := by unfold dk; decide +kernel
theorem dX7_comesFirst_68 : dk cX7_comesFirst 68 69 (.iastore) 1 := by unfold dk; decide +kernel
theorem dX7_comesFirst_69 : dk cX7_comesFirst 69 70 (.aload_n 0) 1 := by unfold dk; decide +kernel
theorem dX7_comesFirst_70 : dk cX7_comesFirst 70 73 (.getfield 9) 3 := by unfold dk; decide +kernel
theorem dX7_comesFirst_73 : dk cX7_comesFirst 73 75 (.bipush 20) 2 := by unfold dk; decide +kernel
theorem dX7_comesFirst_75 : dk cX7_comesFirst 75 76 (.iload_n 1) 1 := by unfold dk; decide +kernel
theorem dX7_comesFirst_76 : dk cX7_comesFirst 76 77 (.iadd) 1 := by unfold dk; decide +kernel
theorem dX7_comesFirst_77 : dk cX7_comesFirst 77 78 (.dup2) 1 := by unfold dk; decide +kernel
theorem dX7_comesFirst_78 : dk cX7_comesFirst 78 79 (.iaload) 1 := by unfold dk; decide +kernel
theorem dX7_comesFirst_79 : dk cX7_comesFirst 79 80 (.iconst 1) 1 := by unfold dk; decide +kernel
theorem dX7_comesFirst_80 : dk cX7_comesFirst 80 81 (.iadd) 1 := by unfold dk; decide +kernel
theorem dX7_comesFirst_81 : dk cX7_comesFirst 81 82 (.iastore) 1 := by unfold dk; decide +kernel
theorem dX7_comesFirst_82 : dk cX7_comesFirst 82 83 (.return_) 1 := by unfold dk; decide +kernel
set_option maxHeartbeats 4000000 in
set_option maxRecDepth 100000 in
theorem kX7_comesFirst {l : Launch} {G : Gl} {E : En} {a0 : Nat} {a1 : Int32} {a2 : Int32} {σ σ' : Sg} : fX7_comesFirst E a0 a1 a2 σ = some σ' → CT l yX7_comesFirst cX7_comesFirst 4 none ({ frames := 0, cells := 0, slots := 0, locals := 0 } : Room) [.ref (G.1 + a0), .int a1, .int a2] G E σ none σ' := by
  intro h
  refine CT_of (lv0 := [(0, .ref (G.1 + a0)), (1, .int a1), (2, .int a2)]) (by decide) (Nat.le_of_ble_eq_true rfl) rfl (fun κ hl hR hr C => ?_)
  have C : Cx κ G cX7_comesFirst RX7 4 := C
  revert h
  unfold fX7_comesFirst
  refine R_tk (fun ha0 => ?_)
  refine R_aload_n C 0 rfl dX7_comesFirst_0 ?_
  refine R_dr (fun x1 rx1 cx1 => ?_)
  refine R_getr C fl7_9 rfl ha0 rx1 dX7_comesFirst_1 ?_
  refine R_bipush C (20) dX7_comesFirst_4 (by decide) ?_
  refine R_iload_n C 1 rfl dX7_comesFirst_6 ?_
  refine R_iadd C dX7_comesFirst_7 ?_
  refine R_ck (fun h2 => ?_)
  refine R_iald C cx1 h2 dX7_comesFirst_8 ?_
  refine S_istore_n C dX7_comesFirst_9 rfl (fun v3 => [(3, .int v3), (0, .ref (G.1 + a0)), (1, .int a1), (2, .int a2)]) (by decide) (fun _ => rfl) (fun v3 => ?_)
  refine R_loc (lv2 := [(0, .ref (G.1 + a0)), (1, .int a1), (2, .int a2), (3, .int v3)]) [1, 2, 3, 0] rfl ?_
  refine R_loop (fun (a : (Int32) × Sg) => V κ G (QQ κ G E none σ') E a.2 (false, 0, 0) 10 [(0, .ref (G.1 + a0)), (1, .int a1), (2, .int a2), (3, .int a.1)] []) (fun (o : (Int32)) (s : Sg) => V κ G (QQ κ G E none σ') E s (false, 0, 0) 54 [(0, .ref (G.1 + a0)), (1, .int a1), (2, .int a2)] []) (v3, σ) (fun o14 s15 => ?_) (fun rec I9 a b7 s8 K6 => ?_)
  · refine R_aload_n C 0 rfl dX7_comesFirst_54 ?_
    refine R_getr C fl7_9 rfl ha0 rx1 dX7_comesFirst_55 ?_
    refine R_sipush C (3327) dX7_comesFirst_58 (by decide) ?_
    refine R_sipush C (700) dX7_comesFirst_61 (by decide) ?_
    refine R_iload_n C 1 rfl dX7_comesFirst_64 ?_
    refine R_imul C dX7_comesFirst_65 ?_
    refine R_iadd C dX7_comesFirst_66 ?_
    refine R_iload_n C 2 rfl dX7_comesFirst_67 ?_
    refine R_ck (fun h16 => ?_)
    refine S_iast C cx1 h16 dX7_comesFirst_68 (fun s17 => ?_)
    refine R_aload_n C 0 rfl dX7_comesFirst_69 ?_
    refine R_getr C fl7_9 rfl ha0 rx1 dX7_comesFirst_70 ?_
    refine R_bipush C (20) dX7_comesFirst_73 (by decide) ?_
    refine R_iload_n C 1 rfl dX7_comesFirst_75 ?_
    refine R_iadd C dX7_comesFirst_76 ?_
    refine R_dup2 C dX7_comesFirst_77 rfl rfl ?_
    refine R_ck (fun h18 => ?_)
    refine R_iald C cx1 h18 dX7_comesFirst_78 ?_
    refine R_iconst C (1) dX7_comesFirst_79 (by decide) ?_
    refine R_iadd C dX7_comesFirst_80 ?_
    refine R_ck (fun h19 => ?_)
    refine S_iast C cx1 h19 dX7_comesFirst_81 (fun s20 => ?_)
    exact R_vret C hr dX7_comesFirst_82
  · obtain ⟨v4, s5⟩ := a
    show bX7_comesFirst_10 E a1 x1 (fun u0 t => rec (u0, t)) v4 s5 = some (b7, s8) → V κ G (QQ κ G E none σ') E s5 (false, 0, 0) 10 [(0, .ref (G.1 + a0)), (1, .int a1), (2, .int a2), (3, .int v4)] []
    unfold bX7_comesFirst_10
    refine R_iload_n C 3 rfl dX7_comesFirst_10 ?_
    refine B_if_le C dX7_comesFirst_11 ?_ ?_
    · refine R_loc (lv2 := [(0, .ref (G.1 + a0)), (1, .int a1), (2, .int a2)]) [0, 1, 2] rfl ?_
      exact R_end (fun (o : (Int32)) (s : Sg) => V κ G (QQ κ G E none σ') E s (false, 0, 0) 54 [(0, .ref (G.1 + a0)), (1, .int a1), (2, .int a2)] []) K6
    · refine R_aload_n C 0 rfl dX7_comesFirst_14 ?_
      refine R_getr C fl7_9 rfl ha0 rx1 dX7_comesFirst_15 ?_
      refine R_sipush C (3327) dX7_comesFirst_18 (by decide) ?_
      refine R_sipush C (700) dX7_comesFirst_21 (by decide) ?_
      refine R_iload_n C 1 rfl dX7_comesFirst_24 ?_
      refine R_imul C dX7_comesFirst_25 ?_
      refine R_iadd C dX7_comesFirst_26 ?_
      refine R_iload_n C 3 rfl dX7_comesFirst_27 ?_
      refine R_iadd C dX7_comesFirst_28 ?_
      refine R_aload_n C 0 rfl dX7_comesFirst_29 ?_
      refine R_getr C fl7_9 rfl ha0 rx1 dX7_comesFirst_30 ?_
      refine R_sipush C (3327) dX7_comesFirst_33 (by decide) ?_
      refine R_sipush C (700) dX7_comesFirst_36 (by decide) ?_
      refine R_iload_n C 1 rfl dX7_comesFirst_39 ?_
      refine R_imul C dX7_comesFirst_40 ?_
      refine R_iadd C dX7_comesFirst_41 ?_
      refine R_iload_n C 3 rfl dX7_comesFirst_42 ?_
      refine R_iadd C dX7_comesFirst_43 ?_
      refine R_iconst C (1) dX7_comesFirst_44 (by decide) ?_
      refine R_isub C dX7_comesFirst_45 ?_
      refine R_ck (fun h10 => ?_)
      refine R_iald C cx1 h10 dX7_comesFirst_46 ?_
      refine R_ck (fun h11 => ?_)
      refine S_iast C cx1 h11 dX7_comesFirst_47 (fun s12 => ?_)
      refine S_iinc (fun v13 => [(3, .int v13), (0, .ref (G.1 + a0)), (1, .int a1), (2, .int a2)]) 3 C dX7_comesFirst_48 rfl (by decide) (by decide) (fun _ => rfl) (fun v13 => ?_)
      refine R_goto C dX7_comesFirst_51 ?_
      refine R_loc (lv2 := [(0, .ref (G.1 + a0)), (1, .int a1), (2, .int a2), (3, .int v13)]) [1, 2, 3, 0] rfl ?_
      exact I9 (v13, s12) b7 s8 K6
theorem dX7_takesFirst_0 : dk cX7_takesFirst 0 1 (.aload_n 0) 1 := by unfold dk; decide +kernel
theorem dX7_takesFirst_1 : dk cX7_takesFirst 1 2 (.iload_n 1) 1 := by unfold dk; decide +kernel
theorem dX7_takesFirst_2 : dk cX7_takesFirst 2 3 (.iconst 0) 1 := by unfold dk; decide +kernel
theorem dX7_takesFirst_3 : dk cX7_takesFirst 3 6 (.invokevirtual 168) 3 := by unfold dk; decide +kernel
theorem dX7_takesFirst_6 : dk cX7_takesFirst 6 7 (.istore_n 2) 1 := by unfold dk; decide +kernel
theorem dX7_takesFirst_7 : dk cX7_takesFirst 7 8 (.aload_n 0) 1 := by unfold dk; decide +kernel
theorem dX7_takesFirst_8 : dk cX7_takesFirst 8 11 (.getfield 9) 3 := by unfold dk; decide +kernel
theorem dX7_takesFirst_11 : dk cX7_takesFirst 11 13 (.bipush 20) 2 := by unfold dk; decide +kernel
theorem dX7_takesFirst_13 : dk cX7_takesFirst 13 14 (.iload_n 1) 1 := by unfold dk; decide +kernel
theorem dX7_takesFirst_14 : dk cX7_takesFirst 14 15 (.iadd) 1 := by unfold dk; decide +kernel
theorem dX7_takesFirst_15 : dk cX7_takesFirst 15 16 (.dup2) 1 := by unfold dk; decide +kernel
theorem dX7_takesFirst_16 : dk cX7_takesFirst 16 17 (.iaload) 1 := by unfold dk; decide +kernel
theorem dX7_takesFirst_17 : dk cX7_takesFirst 17 18 (.iconst 1) 1 := by unfold dk; decide +kernel
theorem dX7_takesFirst_18 : dk cX7_takesFirst 18 19 (.isub) 1 := by unfold dk; decide +kernel
theorem dX7_takesFirst_19 : dk cX7_takesFirst 19 20 (.iastore) 1 := by unfold dk; decide +kernel
theorem dX7_takesFirst_20 : dk cX7_takesFirst 20 21 (.iconst 0) 1 := by unfold dk; decide +kernel
theorem dX7_takesFirst_21 : dk cX7_takesFirst 21 22 (.istore_n 3) 1 := by unfold dk; decide +kernel
theorem dX7_takesFirst_22 : dk cX7_takesFirst 22 23 (.iload_n 3) 1 := by unfold dk; decide +kernel
theorem dX7_takesFirst_23 : dk cX7_takesFirst 23 24 (.aload_n 0) 1 := by unfold dk; decide +kernel
theorem dX7_takesFirst_24 : dk cX7_takesFirst 24 27 (.getfield 9) 3 := by unfold dk; decide +kernel
theorem dX7_takesFirst_27 : dk cX7_takesFirst 27 29 (.bipush 20) 2 := by unfold dk; decide +kernel
theorem dX7_takesFirst_29 : dk cX7_takesFirst 29 30 (.iload_n 1) 1 := by unfold dk; decide +kernel
theorem dX7_takesFirst_30 : dk cX7_takesFirst 30 31 (.iadd) 1 := by unfold dk; decide +kernel
theorem dX7_takesFirst_31 : dk cX7_takesFirst 31 32 (.iaload) 1 := by unfold dk; decide +kernel
theorem dX7_takesFirst_35 : dk cX7_takesFirst 35 36 (.aload_n 0) 1 := by unfold dk; decide +kernel
theorem dX7_takesFirst_36 : dk cX7_takesFirst 36 39 (.getfield 9) 3 := by unfold dk; decide +kernel
theorem dX7_takesFirst_39 : dk cX7_takesFirst 39 42 (.sipush 3327) 3 := by unfold dk; decide +kernel
theorem dX7_takesFirst_42 : dk cX7_takesFirst 42 45 (.sipush 700) 3 := by unfold dk; decide +kernel
theorem dX7_takesFirst_45 : dk cX7_takesFirst 45 46 (.iload_n 1) 1 := by unfold dk; decide +kernel
theorem dX7_takesFirst_46 : dk cX7_takesFirst 46 47 (.imul) 1 := by unfold dk; decide +kernel
theorem dX7_takesFirst_47 : dk cX7_takesFirst 47 48 (.iadd) 1 := by unfold dk; decide +kernel
theorem dX7_takesFirst_48 : dk cX7_takesFirst 48 49 (.iload_n 3) 1 := by unfold dk; decide +kernel
theorem dX7_takesFirst_49 : dk cX7_takesFirst 49 50 (.iadd) 1 := by unfold dk; decide +kernel
theorem dX7_takesFirst_50 : dk cX7_takesFirst 50 51 (.aload_n 0) 1 := by unfold dk; decide +kernel
theorem dX7_takesFirst_51 : dk cX7_takesFirst 51 54 (.getfield 9) 3 := by unfold dk; decide +kernel
theorem dX7_takesFirst_54 : dk cX7_takesFirst 54 57 (.sipush 3327) 3 := by unfold dk; decide +kernel
theorem dX7_takesFirst_57 : dk cX7_takesFirst 57 60 (.sipush 700) 3 := by unfold dk; decide +kernel
theorem dX7_takesFirst_60 : dk cX7_takesFirst 60 61 (.iload_n 1) 1 := by unfold dk; decide +kernel
theorem dX7_takesFirst_61 : dk cX7_takesFirst 61 62 (.imul) 1 := by unfold dk; decide +kernel
theorem dX7_takesFirst_62 : dk cX7_takesFirst 62 63 (.iadd) 1 := by unfold dk; decide +kernel
theorem dX7_takesFirst_63 : dk cX7_takesFirst 63 64 (.iload_n 3) 1 := by unfold dk; decide +kernel
theorem dX7_takesFirst_64 : dk cX7_takesFirst 64 65 (.iadd) 1 := by unfold dk; decide +kernel
theorem dX7_takesFirst_65 : dk cX7_takesFirst 65 66 (.iconst 1) 1 := by unfold dk; decide +kernel
theorem dX7_takesFirst_66 : dk cX7_takesFirst 66 67 (.iadd) 1 := by unfold dk; decide +kernel
theorem dX7_takesFirst_67 : dk cX7_takesFirst 67 68 (.iaload) 1 := by unfold dk; decide +kernel
theorem dX7_takesFirst_68 : dk cX7_takesFirst 68 69 (.iastore) 1 := by unfold dk; decide +kernel
theorem dX7_takesFirst_69 : dk cX7_takesFirst 69 72 (.iinc 3 1) 3 := by unfold dk; decide +kernel
theorem dX7_takesFirst_72 : bk cX7_takesFirst 72 75 22 (.goto (-50)) (-50) := by unfold bk; decide +kernel
theorem dX7_takesFirst_32 : bk cX7_takesFirst 32 35 75 (.if_icmp .ge 43) (43) := by unfold bk; decide +kernel
theorem dX7_takesFirst_75 : dk cX7_takesFirst 75 76 (.iload_n 2) 1 := by unfold dk; decide +kernel
theorem dX7_takesFirst_76 : dk cX7_takesFirst 76 77 (.ireturn) 1 := by unfold dk; decide +kernel
set_option maxHeartbeats 4000000 in
set_option maxRecDepth 100000 in
theorem kX7_takesFirst {l : Launch} {G : Gl} {E : En} {a0 : Nat} {a1 : Int32} {σ σ' : Sg} {r : Int32} : fX7_takesFirst E a0 a1 σ = some (r, σ') → CT l yX7_takesFirst cX7_takesFirst 4 (some .int) ({ frames := 1, cells := 0, slots := 0, locals := 22 } : Room) [.ref (G.1 + a0), .int a1] G E σ (some (.int r)) σ' := by
  intro h
  refine CT_of (lv0 := [(0, .ref (G.1 + a0)), (1, .int a1)]) (by decide) (Nat.le_of_ble_eq_true rfl) rfl (fun κ hl hR hr C => ?_)
  have C : Cx κ G cX7_takesFirst RX7 4 := C
  revert h
  unfold fX7_takesFirst
  refine R_tk (fun ha0 => ?_)
  refine R_aload_n C 0 rfl dX7_takesFirst_0 ?_
  refine R_iload_n C 1 rfl dX7_takesFirst_1 ?_
  refine R_iconst C (0) dX7_takesFirst_2 (by decide) ?_
  refine R_bd (fun r3 s1 q2 => ?_)
  refine R_callVi [.int a1, .int (0 : Int32)] [] C ml7_168 (kX7_runAt q2) (by rw [hR]; exact ⟨rfl, rfl, Nat.le_of_ble_eq_true rfl, Nat.le_of_ble_eq_true rfl, Nat.zero_le _, Nat.zero_le _⟩) ha0 rfl rfl (Nat.le_of_ble_eq_true rfl) dX7_takesFirst_3 ?_
  refine R_istore_n (lv2 := [(2, .int r3), (0, .ref (G.1 + a0)), (1, .int a1)]) C dX7_takesFirst_6 rfl (by decide) rfl ?_
  refine R_aload_n C 1 rfl dX7_takesFirst_7 ?_
  refine R_dr (fun x4 rx4 cx4 => ?_)
  refine R_getr C fl7_9 rfl ha0 rx4 dX7_takesFirst_8 ?_
  refine R_bipush C (20) dX7_takesFirst_11 (by decide) ?_
  refine R_iload_n C 2 rfl dX7_takesFirst_13 ?_
  refine R_iadd C dX7_takesFirst_14 ?_
  refine R_dup2 C dX7_takesFirst_15 rfl rfl ?_
  refine R_ck (fun h5 => ?_)
  refine R_iald C cx4 h5 dX7_takesFirst_16 ?_
  refine R_iconst C (1) dX7_takesFirst_17 (by decide) ?_
  refine R_isub C dX7_takesFirst_18 ?_
  refine R_ck (fun h6 => ?_)
  refine S_iast C cx4 h6 dX7_takesFirst_19 (fun s7 => ?_)
  refine R_iconst C (0) dX7_takesFirst_20 (by decide) ?_
  refine R_istore_n (lv2 := [(3, .int (0 : Int32)), (2, .int r3), (0, .ref (G.1 + a0)), (1, .int a1)]) C dX7_takesFirst_21 rfl (by decide) rfl ?_
  refine R_loc (lv2 := [(2, .int r3), (0, .ref (G.1 + a0)), (1, .int a1), (3, .int (0 : Int32))]) [1, 2, 3, 0] rfl ?_
  refine R_loop (fun (a : (Int32) × Sg) => V κ G (QQ κ G E (some (.int r)) σ') E a.2 (false, 0, 0) 22 [(2, .int r3), (0, .ref (G.1 + a0)), (1, .int a1), (3, .int a.1)] []) (fun (o : (Int32)) (s : Sg) => V κ G (QQ κ G E (some (.int r)) σ') E s (false, 0, 0) 75 [(2, .int r3)] []) ((0 : Int32), s7) (fun o19 s20 => ?_) (fun rec I13 a b11 s12 K10 => ?_)
  · refine R_iload_n C 0 rfl dX7_takesFirst_75 ?_
    exact R_iret C hr dX7_takesFirst_76
  · obtain ⟨v8, s9⟩ := a
    show bX7_takesFirst_22 E a1 x4 (fun u0 t => rec (u0, t)) v8 s9 = some (b11, s12) → V κ G (QQ κ G E (some (.int r)) σ') E s9 (false, 0, 0) 22 [(2, .int r3), (0, .ref (G.1 + a0)), (1, .int a1), (3, .int v8)] []
    unfold bX7_takesFirst_22
    refine R_iload_n C 3 rfl dX7_takesFirst_22 ?_
    refine R_aload_n C 1 rfl dX7_takesFirst_23 ?_
    refine R_getr C fl7_9 rfl ha0 rx4 dX7_takesFirst_24 ?_
    refine R_bipush C (20) dX7_takesFirst_27 (by decide) ?_
    refine R_iload_n C 2 rfl dX7_takesFirst_29 ?_
    refine R_iadd C dX7_takesFirst_30 ?_
    refine R_ck (fun h14 => ?_)
    refine R_iald C cx4 h14 dX7_takesFirst_31 ?_
    refine B_icmp_ge C dX7_takesFirst_32 ?_ ?_
    · refine R_loc (lv2 := [(2, .int r3)]) [0] rfl ?_
      exact R_end (fun (o : (Int32)) (s : Sg) => V κ G (QQ κ G E (some (.int r)) σ') E s (false, 0, 0) 75 [(2, .int r3)] []) K10
    · refine R_aload_n C 1 rfl dX7_takesFirst_35 ?_
      refine R_getr C fl7_9 rfl ha0 rx4 dX7_takesFirst_36 ?_
      refine R_sipush C (3327) dX7_takesFirst_39 (by decide) ?_
      refine R_sipush C (700) dX7_takesFirst_42 (by decide) ?_
      refine R_iload_n C 2 rfl dX7_takesFirst_45 ?_
      refine R_imul C dX7_takesFirst_46 ?_
      refine R_iadd C dX7_takesFirst_47 ?_
      refine R_iload_n C 3 rfl dX7_takesFirst_48 ?_
      refine R_iadd C dX7_takesFirst_49 ?_
      refine R_aload_n C 1 rfl dX7_takesFirst_50 ?_
      refine R_getr C fl7_9 rfl ha0 rx4 dX7_takesFirst_51 ?_
      refine R_sipush C (3327) dX7_takesFirst_54 (by decide) ?_
      refine R_sipush C (700) dX7_takesFirst_57 (by decide) ?_
      refine R_iload_n C 2 rfl dX7_takesFirst_60 ?_
      refine R_imul C dX7_takesFirst_61 ?_
      refine R_iadd C dX7_takesFirst_62 ?_
      refine R_iload_n C 3 rfl dX7_takesFirst_63 ?_
      refine R_iadd C dX7_takesFirst_64 ?_
      refine R_iconst C (1) dX7_takesFirst_65 (by decide) ?_
      refine R_iadd C dX7_takesFirst_66 ?_
      refine R_ck (fun h15 => ?_)
      refine R_iald C cx4 h15 dX7_takesFirst_67 ?_
      refine R_ck (fun h16 => ?_)
      refine S_iast C cx4 h16 dX7_takesFirst_68 (fun s17 => ?_)
      refine S_iinc (fun v18 => [(3, .int v18), (2, .int r3), (0, .ref (G.1 + a0)), (1, .int a1)]) 3 C dX7_takesFirst_69 rfl (by decide) (by decide) (fun _ => rfl) (fun v18 => ?_)
      refine R_goto C dX7_takesFirst_72 ?_
      refine R_loc (lv2 := [(2, .int r3), (0, .ref (G.1 + a0)), (1, .int a1), (3, .int v18)]) [1, 2, 3, 0] rfl ?_
      exact I13 (v18, s17) b11 s12 K10
theorem dX7_makesRun_0 : dk cX7_makesRun 0 1 (.aload_n 0) 1 := by unfold dk; decide +kernel
theorem dX7_makesRun_1 : dk cX7_makesRun 1 4 (.getfield 9) 3 := by unfold dk; decide +kernel
theorem dX7_makesRun_4 : dk cX7_makesRun 4 7 (.sipush 1227) 3 := by unfold dk; decide +kernel
theorem dX7_makesRun_7 : dk cX7_makesRun 7 8 (.aload_n 0) 1 := by unfold dk; decide +kernel
theorem dX7_makesRun_8 : dk cX7_makesRun 8 11 (.getfield 172) 3 := by unfold dk; decide +kernel
theorem dX7_makesRun_11 : dk cX7_makesRun 11 12 (.iadd) 1 := by unfold dk; decide +kernel
theorem dX7_makesRun_12 : dk cX7_makesRun 12 13 (.iload_n 1) 1 := by unfold dk; decide +kernel
theorem dX7_makesRun_13 : dk cX7_makesRun 13 14 (.iastore) 1 := by unfold dk; decide +kernel
theorem dX7_makesRun_14 : dk cX7_makesRun 14 15 (.aload_n 0) 1 := by unfold dk; decide +kernel
theorem dX7_makesRun_15 : dk cX7_makesRun 15 18 (.getfield 9) 3 := by unfold dk; decide +kernel
theorem dX7_makesRun_18 : dk cX7_makesRun 18 21 (.sipush 1927) 3 := by unfold dk; decide +kernel
theorem dX7_makesRun_21 : dk cX7_makesRun 21 22 (.aload_n 0) 1 := by unfold dk; decide +kernel
theorem dX7_makesRun_22 : dk cX7_makesRun 22 25 (.getfield 172) 3 := by unfold dk; decide +kernel
theorem dX7_makesRun_25 : dk cX7_makesRun 25 26 (.iadd) 1 := by unfold dk; decide +kernel
theorem dX7_makesRun_26 : dk cX7_makesRun 26 27 (.iload_n 2) 1 := by unfold dk; decide +kernel
theorem dX7_makesRun_27 : dk cX7_makesRun 27 28 (.iastore) 1 := by unfold dk; decide +kernel
theorem dX7_makesRun_28 : dk cX7_makesRun 28 29 (.aload_n 0) 1 := by unfold dk; decide +kernel
theorem dX7_makesRun_29 : dk cX7_makesRun 29 32 (.getfield 9) 3 := by unfold dk; decide +kernel
theorem dX7_makesRun_32 : dk cX7_makesRun 32 35 (.sipush 2627) 3 := by unfold dk; decide +kernel
theorem dX7_makesRun_35 : dk cX7_makesRun 35 36 (.aload_n 0) 1 := by unfold dk; decide +kernel
theorem dX7_makesRun_36 : dk cX7_makesRun 36 39 (.getfield 172) 3 := by unfold dk; decide +kernel
theorem dX7_makesRun_39 : dk cX7_makesRun 39 40 (.iadd) 1 := by unfold dk; decide +kernel
theorem dX7_makesRun_40 : dk cX7_makesRun 40 41 (.iconst 0) 1 := by unfold dk; decide +kernel
theorem dX7_makesRun_41 : dk cX7_makesRun 41 42 (.iastore) 1 := by unfold dk; decide +kernel
theorem dX7_makesRun_42 : dk cX7_makesRun 42 43 (.aload_n 0) 1 := by unfold dk; decide +kernel
theorem dX7_makesRun_43 : dk cX7_makesRun 43 44 (.dup) 1 := by unfold dk; decide +kernel
theorem dX7_makesRun_44 : dk cX7_makesRun 44 47 (.getfield 172) 3 := by unfold dk; decide +kernel
theorem dX7_makesRun_47 : dk cX7_makesRun 47 48 (.iconst 1) 1 := by unfold dk; decide +kernel
theorem dX7_makesRun_48 : dk cX7_makesRun 48 49 (.iadd) 1 := by unfold dk; decide +kernel
theorem dX7_makesRun_49 : dk cX7_makesRun 49 52 (.putfield 172) 3 := by unfold dk; decide +kernel
theorem dX7_makesRun_52 : dk cX7_makesRun 52 53 (.aload_n 0) 1 := by unfold dk; decide +kernel
theorem dX7_makesRun_53 : dk cX7_makesRun 53 56 (.getfield 172) 3 := by unfold dk; decide +kernel
theorem dX7_makesRun_56 : dk cX7_makesRun 56 57 (.iconst 1) 1 := by unfold dk; decide +kernel
theorem dX7_makesRun_57 : dk cX7_makesRun 57 58 (.isub) 1 := by unfold dk; decide +kernel
theorem dX7_makesRun_58 : dk cX7_makesRun 58 59 (.ireturn) 1 := by unfold dk; decide +kernel
set_option maxHeartbeats 4000000 in
set_option maxRecDepth 100000 in
theorem kX7_makesRun {l : Launch} {G : Gl} {E : En} {a0 : Nat} {a1 : Int32} {a2 : Int32} {σ σ' : Sg} {r : Int32} : fX7_makesRun E a0 a1 a2 σ = some (r, σ') → CT l yX7_makesRun cX7_makesRun 3 (some .int) ({ frames := 0, cells := 0, slots := 0, locals := 0 } : Room) [.ref (G.1 + a0), .int a1, .int a2] G E σ (some (.int r)) σ' := by
  intro h
  refine CT_of (lv0 := [(0, .ref (G.1 + a0)), (1, .int a1), (2, .int a2)]) (by decide) (Nat.le_of_ble_eq_true rfl) rfl (fun κ hl hR hr C => ?_)
  have C : Cx κ G cX7_makesRun RX7 3 := C
  revert h
  unfold fX7_makesRun
  refine R_tk (fun ha0 => ?_)
  refine R_aload_n C 0 rfl dX7_makesRun_0 ?_
  refine R_dr (fun x1 rx1 cx1 => ?_)
  refine R_getr C fl7_9 rfl ha0 rx1 dX7_makesRun_1 ?_
  refine R_sipush C (1227) dX7_makesRun_4 (by decide) ?_
  refine R_aload_n C 0 rfl dX7_makesRun_7 ?_
  refine R_geti C fl7_172 rfl ha0 dX7_makesRun_8 ?_
  refine R_iadd C dX7_makesRun_11 ?_
  refine R_iload_n C 1 rfl dX7_makesRun_12 ?_
  refine R_ck (fun h2 => ?_)
  refine S_iast C cx1 h2 dX7_makesRun_13 (fun s3 => ?_)
  refine R_aload_n C 0 rfl dX7_makesRun_14 ?_
  refine R_getr C fl7_9 rfl ha0 rx1 dX7_makesRun_15 ?_
  refine R_sipush C (1927) dX7_makesRun_18 (by decide) ?_
  refine R_aload_n C 0 rfl dX7_makesRun_21 ?_
  refine R_geti C fl7_172 rfl ha0 dX7_makesRun_22 ?_
  refine R_iadd C dX7_makesRun_25 ?_
  refine R_iload_n C 2 rfl dX7_makesRun_26 ?_
  refine R_ck (fun h4 => ?_)
  refine S_iast C cx1 h4 dX7_makesRun_27 (fun s5 => ?_)
  refine R_aload_n C 0 rfl dX7_makesRun_28 ?_
  refine R_getr C fl7_9 rfl ha0 rx1 dX7_makesRun_29 ?_
  refine R_sipush C (2627) dX7_makesRun_32 (by decide) ?_
  refine R_aload_n C 0 rfl dX7_makesRun_35 ?_
  refine R_geti C fl7_172 rfl ha0 dX7_makesRun_36 ?_
  refine R_iadd C dX7_makesRun_39 ?_
  refine R_iconst C (0) dX7_makesRun_40 (by decide) ?_
  refine R_ck (fun h6 => ?_)
  refine S_iast C cx1 h6 dX7_makesRun_41 (fun s7 => ?_)
  refine R_aload_n C 0 rfl dX7_makesRun_42 ?_
  refine R_dup C dX7_makesRun_43 rfl ?_
  refine R_geti C fl7_172 rfl ha0 dX7_makesRun_44 ?_
  refine R_iconst C (1) dX7_makesRun_47 (by decide) ?_
  refine R_iadd C dX7_makesRun_48 ?_
  refine S_puti C fl7_172 rfl ha0 rfl rfl dX7_makesRun_49 (fun s8 => ?_)
  refine R_aload_n C 0 rfl dX7_makesRun_52 ?_
  refine R_geti C fl7_172 rfl ha0 dX7_makesRun_53 ?_
  refine R_iconst C (1) dX7_makesRun_56 (by decide) ?_
  refine R_isub C dX7_makesRun_57 ?_
  exact R_iret C hr dX7_makesRun_58
theorem dX7_dealsDummies_0 : dk cX7_dealsDummies 0 1 (.iconst 0) 1 := by unfold dk; decide +kernel
theorem dX7_dealsDummies_1 : dk cX7_dealsDummies 1 2 (.istore_n 3) 1 := by unfold dk; decide +kernel
theorem dX7_dealsDummies_2 : dk cX7_dealsDummies 2 3 (.iload_n 3) 1 := by unfold dk; decide +kernel
theorem dX7_dealsDummies_3 : dk cX7_dealsDummies 3 4 (.iload_n 1) 1 := by unfold dk; decide +kernel
theorem dX7_dealsDummies_7 : dk cX7_dealsDummies 7 8 (.aload_n 0) 1 := by unfold dk; decide +kernel
theorem dX7_dealsDummies_8 : dk cX7_dealsDummies 8 11 (.getfield 39) 3 := by unfold dk; decide +kernel
theorem dX7_dealsDummies_11 : dk cX7_dealsDummies 11 12 (.iload_n 3) 1 := by unfold dk; decide +kernel
theorem dX7_dealsDummies_12 : dk cX7_dealsDummies 12 13 (.iconst 0) 1 := by unfold dk; decide +kernel
theorem dX7_dealsDummies_13 : dk cX7_dealsDummies 13 14 (.iastore) 1 := by unfold dk; decide +kernel
theorem dX7_dealsDummies_14 : dk cX7_dealsDummies 14 17 (.iinc 3 1) 3 := by unfold dk; decide +kernel
theorem dX7_dealsDummies_17 : bk cX7_dealsDummies 17 20 2 (.goto (-15)) (-15) := by unfold bk; decide +kernel
theorem dX7_dealsDummies_4 : bk cX7_dealsDummies 4 7 20 (.if_icmp .ge 16) (16) := by unfold bk; decide +kernel
theorem dX7_dealsDummies_20 : dk cX7_dealsDummies 20 21 (.iconst 0) 1 := by unfold dk; decide +kernel
theorem dX7_dealsDummies_21 : dk cX7_dealsDummies 21 22 (.istore_n 3) 1 := by unfold dk; decide +kernel
theorem dX7_dealsDummies_22 : dk cX7_dealsDummies 22 23 (.iload_n 3) 1 := by unfold dk; decide +kernel
theorem dX7_dealsDummies_23 : dk cX7_dealsDummies 23 24 (.iload_n 2) 1 := by unfold dk; decide +kernel
theorem dX7_dealsDummies_27 : dk cX7_dealsDummies 27 28 (.iconst (-1)) 1 := by unfold dk; decide +kernel
theorem dX7_dealsDummies_28 : dk cX7_dealsDummies 28 30 (.istore 4) 2 := by unfold dk; decide +kernel
theorem dX7_dealsDummies_30 : dk cX7_dealsDummies 30 31 (.iconst 0) 1 := by unfold dk; decide +kernel
theorem dX7_dealsDummies_31 : dk cX7_dealsDummies 31 33 (.istore 5) 2 := by unfold dk; decide +kernel
theorem dX7_dealsDummies_33 : dk cX7_dealsDummies 33 35 (.iload 5) 2 := by unfold dk; decide +kernel
theorem dX7_dealsDummies_35 : dk cX7_dealsDummies 35 36 (.iload_n 1) 1 := by unfold dk; decide +kernel
theorem dX7_dealsDummies_39 : dk cX7_dealsDummies 39 40 (.aload_n 0) 1 := by unfold dk; decide +kernel
theorem dX7_dealsDummies_40 : dk cX7_dealsDummies 40 43 (.getfield 39) 3 := by unfold dk; decide +kernel
theorem dX7_dealsDummies_43 : dk cX7_dealsDummies 43 45 (.iload 5) 2 := by unfold dk; decide +kernel
theorem dX7_dealsDummies_45 : dk cX7_dealsDummies 45 46 (.iaload) 1 := by unfold dk; decide +kernel
theorem dX7_dealsDummies_46 : dk cX7_dealsDummies 46 47 (.aload_n 0) 1 := by unfold dk; decide +kernel
theorem dX7_dealsDummies_47 : dk cX7_dealsDummies 47 50 (.getfield 33) 3 := by unfold dk; decide +kernel
theorem dX7_dealsDummies_50 : dk cX7_dealsDummies 50 52 (.iload 5) 2 := by unfold dk; decide +kernel
theorem dX7_dealsDummies_52 : dk cX7_dealsDummies 52 53 (.iaload) 1 := by unfold dk; decide +kernel
theorem dX7_dealsDummies_53 : bk cX7_dealsDummies 53 56 60 (.if_icmp .ge 7) (7) := by unfold bk; decide +kernel
theorem dX7_dealsDummies_60 : dk cX7_dealsDummies 60 61 (.iconst 0) 1 := by unfold dk; decide +kernel
theorem dX7_dealsDummies_56 : dk cX7_dealsDummies 56 57 (.iconst 1) 1 := by unfold dk; decide +kernel
theorem dX7_dealsDummies_57 : bk cX7_dealsDummies 57 60 61 (.goto 4) (4) := by unfold bk; decide +kernel
theorem dX7_dealsDummies_61 : dk cX7_dealsDummies 61 63 (.istore 6) 2 := by unfold dk; decide +kernel
theorem dX7_dealsDummies_63 : dk cX7_dealsDummies 63 65 (.iload 6) 2 := by unfold dk; decide +kernel
theorem dX7_dealsDummies_65 : bk cX7_dealsDummies 65 68 102 (.ifCond .eq 37) (37) := by unfold bk; decide +kernel
theorem dX7_dealsDummies_68 : dk cX7_dealsDummies 68 70 (.iload 4) 2 := by unfold dk; decide +kernel
theorem dX7_dealsDummies_70 : dk cX7_dealsDummies 70 71 (.iconst (-1)) 1 := by unfold dk; decide +kernel
theorem dX7_dealsDummies_98 : dk cX7_dealsDummies 98 100 (.iload 5) 2 := by unfold dk; decide +kernel
theorem dX7_dealsDummies_100 : dk cX7_dealsDummies 100 102 (.istore 4) 2 := by unfold dk; decide +kernel
theorem dX7_dealsDummies_74 : dk cX7_dealsDummies 74 75 (.aload_n 0) 1 := by unfold dk; decide +kernel
theorem dX7_dealsDummies_75 : dk cX7_dealsDummies 75 78 (.invokevirtual 175) 3 := by unfold dk; decide +kernel
theorem dX7_dealsDummies_81 : dk cX7_dealsDummies 81 82 (.aload_n 0) 1 := by unfold dk; decide +kernel
theorem dX7_dealsDummies_82 : dk cX7_dealsDummies 82 85 (.getfield 39) 3 := by unfold dk; decide +kernel
theorem dX7_dealsDummies_85 : dk cX7_dealsDummies 85 87 (.iload 5) 2 := by unfold dk; decide +kernel
theorem dX7_dealsDummies_87 : dk cX7_dealsDummies 87 88 (.iaload) 1 := by unfold dk; decide +kernel
theorem dX7_dealsDummies_88 : dk cX7_dealsDummies 88 89 (.aload_n 0) 1 := by unfold dk; decide +kernel
theorem dX7_dealsDummies_89 : dk cX7_dealsDummies 89 92 (.getfield 39) 3 := by unfold dk; decide +kernel
theorem dX7_dealsDummies_92 : dk cX7_dealsDummies 92 94 (.iload 4) 2 := by unfold dk; decide +kernel
theorem dX7_dealsDummies_94 : dk cX7_dealsDummies 94 95 (.iaload) 1 := by unfold dk; decide +kernel
theorem dX7_dealsDummies_95 : bk cX7_dealsDummies 95 98 102 (.if_icmp .ge 7) (7) := by unfold bk; decide +kernel
theorem dX7_dealsDummies_78 : bk cX7_dealsDummies 78 81 102 (.ifCond .ne 24) (24) := by unfold bk; decide +kernel
theorem dX7_dealsDummies_71 : bk cX7_dealsDummies 71 74 98 (.if_icmp .eq 27) (27) := by unfold bk; decide +kernel
theorem dX7_dealsDummies_102 : dk cX7_dealsDummies 102 105 (.iinc 5 1) 3 := by unfold dk; decide +kernel
theorem dX7_dealsDummies_105 : bk cX7_dealsDummies 105 108 33 (.goto (-72)) (-72) := by unfold bk; decide +kernel
theorem dX7_dealsDummies_36 : bk cX7_dealsDummies 36 39 108 (.if_icmp .ge 72) (72) := by unfold bk; decide +kernel
theorem dX7_dealsDummies_108 : dk cX7_dealsDummies 108 109 (.aload_n 0) 1 := by unfold dk; decide +kernel
theorem dX7_dealsDummies_109 : dk cX7_dealsDummies 109 112 (.getfield 39) 3 := by unfold dk; decide +kernel
theorem dX7_dealsDummies_112 : dk cX7_dealsDummies 112 114 (.iload 4) 2 := by unfold dk; decide +kernel
theorem dX7_dealsDummies_114 : dk cX7_dealsDummies 114 115 (.dup2) 1 := by unfold dk; decide +kernel
theorem dX7_dealsDummies_115 : dk cX7_dealsDummies 115 116 (.iaload) 1 := by unfold dk; decide +kernel
theorem dX7_dealsDummies_116 : dk cX7_dealsDummies 116 117 (.iconst 1) 1 := by unfold dk; decide +kernel
theorem dX7_dealsDummies_117 : dk cX7_dealsDummies 117 118 (.iadd) 1 := by unfold dk; decide +kernel
theorem dX7_dealsDummies_118 : dk cX7_dealsDummies 118 119 (.iastore) 1 := by unfold dk; decide +kernel
theorem dX7_dealsDummies_119 : dk cX7_dealsDummies 119 122 (.iinc 3 1) 3 := by unfold dk; decide +kernel
theorem dX7_dealsDummies_122 : bk cX7_dealsDummies 122 125 22 (.goto (-100)) (-100) := by unfold bk; decide +kernel
theorem dX7_dealsDummies_24 : bk cX7_dealsDummies 24 27 125 (.if_icmp .ge 101) (101) := by unfold bk; decide +kernel
theorem dX7_dealsDummies_125 : dk cX7_dealsDummies 125 126 (.iconst 0) 1 := by unfold dk; decide +kernel
theorem dX7_dealsDummies_126 : dk cX7_dealsDummies 126 127 (.istore_n 3) 1 := by unfold dk; decide +kernel
theorem dX7_dealsDummies_127 : dk cX7_dealsDummies 127 128 (.iload_n 3) 1 := by unfold dk; decide +kernel
theorem dX7_dealsDummies_128 : dk cX7_dealsDummies 128 129 (.iload_n 1) 1 := by unfold dk; decide +kernel
theorem dX7_dealsDummies_132 : dk cX7_dealsDummies 132 133 (.iconst 0) 1 := by unfold dk; decide +kernel
theorem dX7_dealsDummies_133 : dk cX7_dealsDummies 133 135 (.istore 4) 2 := by unfold dk; decide +kernel
theorem dX7_dealsDummies_135 : dk cX7_dealsDummies 135 137 (.iload 4) 2 := by unfold dk; decide +kernel
theorem dX7_dealsDummies_137 : dk cX7_dealsDummies 137 138 (.aload_n 0) 1 := by unfold dk; decide +kernel
theorem dX7_dealsDummies_138 : dk cX7_dealsDummies 138 141 (.getfield 39) 3 := by unfold dk; decide +kernel
theorem dX7_dealsDummies_141 : dk cX7_dealsDummies 141 142 (.iload_n 3) 1 := by unfold dk; decide +kernel
theorem dX7_dealsDummies_142 : dk cX7_dealsDummies 142 143 (.iaload) 1 := by unfold dk; decide +kernel
theorem dX7_dealsDummies_146 : dk cX7_dealsDummies 146 147 (.aload_n 0) 1 := by unfold dk; decide +kernel
theorem dX7_dealsDummies_147 : dk cX7_dealsDummies 147 148 (.iload_n 3) 1 := by unfold dk; decide +kernel
theorem dX7_dealsDummies_148 : dk cX7_dealsDummies 148 149 (.aload_n 0) 1 := by unfold dk; decide +kernel
theorem dX7_dealsDummies_149 : dk cX7_dealsDummies 149 150 (.iconst 0) 1 := by unfold dk; decide +kernel
theorem dX7_dealsDummies_150 : dk cX7_dealsDummies 150 151 (.iconst 0) 1 := by unfold dk; decide +kernel
theorem dX7_dealsDummies_151 : dk cX7_dealsDummies 151 154 (.invokevirtual 179) 3 := by unfold dk; decide +kernel
theorem dX7_dealsDummies_154 : dk cX7_dealsDummies 154 157 (.invokevirtual 182) 3 := by unfold dk; decide +kernel
theorem dX7_dealsDummies_157 : dk cX7_dealsDummies 157 160 (.iinc 4 1) 3 := by unfold dk; decide +kernel
theorem dX7_dealsDummies_160 : bk cX7_dealsDummies 160 163 135 (.goto (-25)) (-25) := by unfold bk; decide +kernel
theorem dX7_dealsDummies_143 : bk cX7_dealsDummies 143 146 163 (.if_icmp .ge 20) (20) := by unfold bk; decide +kernel
theorem dX7_dealsDummies_163 : dk cX7_dealsDummies 163 166 (.iinc 3 1) 3 := by unfold dk; decide +kernel
theorem dX7_dealsDummies_166 : bk cX7_dealsDummies 166 169 127 (.goto (-39)) (-39) := by unfold bk; decide +kernel
theorem dX7_dealsDummies_129 : bk cX7_dealsDummies 129 132 169 (.if_icmp .ge 40) (40) := by unfold bk; decide +kernel
theorem dX7_dealsDummies_169 : dk cX7_dealsDummies 169 170 (.return_) 1 := by unfold dk; decide +kernel
set_option maxHeartbeats 4000000 in
set_option maxRecDepth 100000 in
theorem kX7_dealsDummies {l : Launch} {G : Gl} {E : En} {a0 : Nat} {a1 : Int32} {a2 : Int32} {σ σ' : Sg} : fX7_dealsDummies E a0 a1 a2 σ = some σ' → CT l yX7_dealsDummies cX7_dealsDummies 7 none ({ frames := 1, cells := 0, slots := 0, locals := 22 } : Room) [.ref (G.1 + a0), .int a1, .int a2] G E σ none σ' := by
  intro h
  refine CT_of (lv0 := [(0, .ref (G.1 + a0)), (1, .int a1), (2, .int a2)]) (by decide) (Nat.le_of_ble_eq_true rfl) rfl (fun κ hl hR hr C => ?_)
  have C : Cx κ G cX7_dealsDummies RX7 7 := C
  revert h
  unfold fX7_dealsDummies
  refine R_tk (fun ha0 => ?_)
  refine R_iconst C (0) dX7_dealsDummies_0 (by decide) ?_
  refine R_istore_n (lv2 := [(3, .int (0 : Int32)), (0, .ref (G.1 + a0)), (1, .int a1), (2, .int a2)]) C dX7_dealsDummies_1 rfl (by decide) rfl ?_
  refine R_loc (lv2 := [(0, .ref (G.1 + a0)), (1, .int a1), (2, .int a2), (3, .int (0 : Int32))]) [1, 2, 3, 0] rfl ?_
  refine R_loop (fun (a : (Int32) × Sg) => V κ G (QQ κ G E none σ') E a.2 (false, 0, 0) 2 [(0, .ref (G.1 + a0)), (1, .int a1), (2, .int a2), (3, .int a.1)] []) (fun (o : (Int32)) (s : Sg) => V κ G (QQ κ G E none σ') E s (false, 0, 0) 20 [(0, .ref (G.1 + a0)), (1, .int a1), (2, .int a2)] []) ((0 : Int32), σ) (fun o11 s12 => ?_) (fun rec I6 a b4 s5 K3 => ?_)
  · refine R_iconst C (0) dX7_dealsDummies_20 (by decide) ?_
    refine R_istore_n (lv2 := [(3, .int (0 : Int32)), (0, .ref (G.1 + a0)), (1, .int a1), (2, .int a2)]) C dX7_dealsDummies_21 rfl (by decide) rfl ?_
    refine R_loc (lv2 := [(0, .ref (G.1 + a0)), (1, .int a1), (2, .int a2), (3, .int (0 : Int32))]) [1, 2, 3, 0] rfl ?_
    refine R_loop (fun (a : (Int32) × Sg) => V κ G (QQ κ G E none σ') E a.2 (false, 0, 0) 22 [(0, .ref (G.1 + a0)), (1, .int a1), (2, .int a2), (3, .int a.1)] []) (fun (o : (Int32)) (s : Sg) => V κ G (QQ κ G E none σ') E s (false, 0, 0) 125 [(0, .ref (G.1 + a0)), (1, .int a1)] []) ((0 : Int32), s12) (fun o47 s48 => ?_) (fun rec I18 a b16 s17 K15 => ?_)
    · refine R_iconst C (0) dX7_dealsDummies_125 (by decide) ?_
      refine R_istore_n (lv2 := [(3, .int (0 : Int32)), (0, .ref (G.1 + a0)), (1, .int a1)]) C dX7_dealsDummies_126 rfl (by decide) rfl ?_
      refine R_loc (lv2 := [(0, .ref (G.1 + a0)), (1, .int a1), (3, .int (0 : Int32))]) [1, 2, 0] rfl ?_
      refine R_loop (fun (a : (Int32) × Sg) => V κ G (QQ κ G E none σ') E a.2 (false, 0, 0) 127 [(0, .ref (G.1 + a0)), (1, .int a1), (3, .int a.1)] []) (fun (o : (Int32)) (s : Sg) => V κ G (QQ κ G E none σ') E s (false, 0, 0) 169 [] []) ((0 : Int32), s48) (fun o72 s73 => ?_) (fun rec I54 a b52 s53 K51 => ?_)
      · exact R_vret C hr dX7_dealsDummies_169
      · obtain ⟨v49, s50⟩ := a
        show bX7_dealsDummies_127 E a1 a0 (fun u0 t => rec (u0, t)) v49 s50 = some (b52, s53) → V κ G (QQ κ G E none σ') E s50 (false, 0, 0) 127 [(0, .ref (G.1 + a0)), (1, .int a1), (3, .int v49)] []
        unfold bX7_dealsDummies_127
        refine R_iload_n C 2 rfl dX7_dealsDummies_127 ?_
        refine R_iload_n C 1 rfl dX7_dealsDummies_128 ?_
        refine B_icmp_ge C dX7_dealsDummies_129 ?_ ?_
        · refine R_loc (lv2 := []) [] rfl ?_
          exact R_end (fun (o : (Int32)) (s : Sg) => V κ G (QQ κ G E none σ') E s (false, 0, 0) 169 [] []) K51
        · refine R_iconst C (0) dX7_dealsDummies_132 (by decide) ?_
          refine R_istore (lv2 := [(4, .int (0 : Int32)), (0, .ref (G.1 + a0)), (1, .int a1), (3, .int v49)]) C dX7_dealsDummies_133 (by decide) rfl ?_
          refine R_loc (lv2 := [(0, .ref (G.1 + a0)), (1, .int a1), (3, .int v49), (4, .int (0 : Int32))]) [1, 2, 3, 0] rfl ?_
          refine R_loop (fun (a : (Int32) × Sg) => V κ G (QQ κ G E none σ') E a.2 (false, 0, 0) 135 [(0, .ref (G.1 + a0)), (1, .int a1), (3, .int v49), (4, .int a.1)] []) (fun (o : (Int32)) (s : Sg) => V κ G (QQ κ G E none σ') E s (false, 0, 0) 163 [(0, .ref (G.1 + a0)), (1, .int a1), (3, .int v49)] []) ((0 : Int32), s50) (fun o69 s70 => ?_) (fun rec I60 a b58 s59 K57 => ?_)
          · refine S_iinc (fun v71 => [(3, .int v71), (0, .ref (G.1 + a0)), (1, .int a1)]) 2 C dX7_dealsDummies_163 rfl (by decide) (by decide) (fun _ => rfl) (fun v71 => ?_)
            refine R_goto C dX7_dealsDummies_166 ?_
            refine R_loc (lv2 := [(0, .ref (G.1 + a0)), (1, .int a1), (3, .int v71)]) [1, 2, 0] rfl ?_
            exact I54 (v71, s70) b52 s53 K51
          · obtain ⟨v55, s56⟩ := a
            show bX7_dealsDummies_135 E a0 v49 (fun u0 t => rec (u0, t)) v55 s56 = some (b58, s59) → V κ G (QQ κ G E none σ') E s56 (false, 0, 0) 135 [(0, .ref (G.1 + a0)), (1, .int a1), (3, .int v49), (4, .int v55)] []
            unfold bX7_dealsDummies_135
            refine R_iload C 3 rfl dX7_dealsDummies_135 ?_
            refine R_aload_n C 0 rfl dX7_dealsDummies_137 ?_
            refine R_dr (fun x61 rx61 cx61 => ?_)
            refine R_getr C fl7_39 rfl ha0 rx61 dX7_dealsDummies_138 ?_
            refine R_iload_n C 2 rfl dX7_dealsDummies_141 ?_
            refine R_ck (fun h62 => ?_)
            refine R_iald C cx61 h62 dX7_dealsDummies_142 ?_
            refine B_icmp_ge C dX7_dealsDummies_143 ?_ ?_
            · refine R_loc (lv2 := [(0, .ref (G.1 + a0)), (1, .int a1), (3, .int v49)]) [0, 1, 2] rfl ?_
              exact R_end (fun (o : (Int32)) (s : Sg) => V κ G (QQ κ G E none σ') E s (false, 0, 0) 163 [(0, .ref (G.1 + a0)), (1, .int a1), (3, .int v49)] []) K57
            · refine R_aload_n C 0 rfl dX7_dealsDummies_146 ?_
              refine R_iload_n C 2 rfl dX7_dealsDummies_147 ?_
              refine R_aload_n C 0 rfl dX7_dealsDummies_148 ?_
              refine R_iconst C (0) dX7_dealsDummies_149 (by decide) ?_
              refine R_iconst C (0) dX7_dealsDummies_150 (by decide) ?_
              refine R_bd (fun r65 s63 q64 => ?_)
              refine R_callVi [.int (0 : Int32), .int (0 : Int32)] [.int v49, .ref (G.1 + a0)] C ml7_179 (kX7_makesRun q64) (by rw [hR]; exact ⟨rfl, rfl, Nat.le_of_ble_eq_true rfl, Nat.le_of_ble_eq_true rfl, Nat.zero_le _, Nat.zero_le _⟩) ha0 rfl rfl (Nat.le_of_ble_eq_true rfl) dX7_dealsDummies_151 ?_
              refine R_bv (fun s66 q67 => ?_)
              refine R_callVv [.int v49, .int r65] [] C ml7_182 (kX7_comesLast q67) (by rw [hR]; exact ⟨rfl, rfl, Nat.le_of_ble_eq_true rfl, Nat.le_of_ble_eq_true rfl, Nat.zero_le _, Nat.zero_le _⟩) ha0 rfl rfl (Nat.le_of_ble_eq_true rfl) dX7_dealsDummies_154 ?_
              refine S_iinc (fun v68 => [(4, .int v68), (0, .ref (G.1 + a0)), (1, .int a1), (3, .int v49)]) 3 C dX7_dealsDummies_157 rfl (by decide) (by decide) (fun _ => rfl) (fun v68 => ?_)
              refine R_goto C dX7_dealsDummies_160 ?_
              refine R_loc (lv2 := [(0, .ref (G.1 + a0)), (1, .int a1), (3, .int v49), (4, .int v68)]) [1, 2, 3, 0] rfl ?_
              exact I60 (v68, s66) b58 s59 K57
    · obtain ⟨v13, s14⟩ := a
      show bX7_dealsDummies_22 E a2 a1 a0 (fun u0 t => rec (u0, t)) v13 s14 = some (b16, s17) → V κ G (QQ κ G E none σ') E s14 (false, 0, 0) 22 [(0, .ref (G.1 + a0)), (1, .int a1), (2, .int a2), (3, .int v13)] []
      unfold bX7_dealsDummies_22
      refine R_iload_n C 3 rfl dX7_dealsDummies_22 ?_
      refine R_iload_n C 2 rfl dX7_dealsDummies_23 ?_
      refine B_icmp_ge C dX7_dealsDummies_24 ?_ ?_
      · refine R_loc (lv2 := [(0, .ref (G.1 + a0)), (1, .int a1)]) [0, 1] rfl ?_
        exact R_end (fun (o : (Int32)) (s : Sg) => V κ G (QQ κ G E none σ') E s (false, 0, 0) 125 [(0, .ref (G.1 + a0)), (1, .int a1)] []) K15
      · refine R_iconst C (-1) dX7_dealsDummies_27 (by decide) ?_
        refine R_istore (lv2 := [(4, .int (-1 : Int32)), (0, .ref (G.1 + a0)), (1, .int a1), (2, .int a2), (3, .int v13)]) C dX7_dealsDummies_28 (by decide) rfl ?_
        refine R_iconst C (0) dX7_dealsDummies_30 (by decide) ?_
        refine R_istore (lv2 := [(5, .int (0 : Int32)), (4, .int (-1 : Int32)), (0, .ref (G.1 + a0)), (1, .int a1), (2, .int a2), (3, .int v13)]) C dX7_dealsDummies_31 (by decide) rfl ?_
        refine R_loc (lv2 := [(0, .ref (G.1 + a0)), (1, .int a1), (2, .int a2), (3, .int v13), (4, .int (-1 : Int32)), (5, .int (0 : Int32))]) [2, 3, 4, 5, 1, 0] rfl ?_
        refine R_loop (fun (a : (Int32 × Int32) × Sg) => V κ G (QQ κ G E none σ') E a.2 (false, 0, 0) 33 [(0, .ref (G.1 + a0)), (1, .int a1), (2, .int a2), (3, .int v13), (4, .int a.1.1), (5, .int a.1.2)] []) (fun (o : (Int32 × Int32)) (s : Sg) => V κ G (QQ κ G E none σ') E s (false, 0, 0) 108 [(0, .ref (G.1 + a0)), (1, .int a1), (2, .int a2), (3, .int v13), (4, .int o.1)] []) (((-1 : Int32), (0 : Int32)), s14) (fun o40 s41 => ?_) (fun rec I25 a b23 s24 K22 => ?_)
        · refine R_aload_n C 0 rfl dX7_dealsDummies_108 ?_
          refine R_dr (fun x42 rx42 cx42 => ?_)
          refine R_getr C fl7_39 rfl ha0 rx42 dX7_dealsDummies_109 ?_
          refine R_iload C 4 rfl dX7_dealsDummies_112 ?_
          refine R_dup2 C dX7_dealsDummies_114 rfl rfl ?_
          refine R_ck (fun h43 => ?_)
          refine R_iald C cx42 h43 dX7_dealsDummies_115 ?_
          refine R_iconst C (1) dX7_dealsDummies_116 (by decide) ?_
          refine R_iadd C dX7_dealsDummies_117 ?_
          refine R_ck (fun h44 => ?_)
          refine S_iast C cx42 h44 dX7_dealsDummies_118 (fun s45 => ?_)
          refine S_iinc (fun v46 => [(3, .int v46), (0, .ref (G.1 + a0)), (1, .int a1), (2, .int a2), (4, .int o40.1)]) 3 C dX7_dealsDummies_119 rfl (by decide) (by decide) (fun _ => rfl) (fun v46 => ?_)
          refine R_goto C dX7_dealsDummies_122 ?_
          refine R_loc (lv2 := [(0, .ref (G.1 + a0)), (1, .int a1), (2, .int a2), (3, .int v46)]) [1, 2, 3, 0] rfl ?_
          exact I18 (v46, s45) b16 s17 K15
        · obtain ⟨⟨v19, v20⟩, s21⟩ := a
          show bX7_dealsDummies_33 E a1 a0 (fun u0 u1 t => rec ((u0, u1), t)) v19 v20 s21 = some (b23, s24) → V κ G (QQ κ G E none σ') E s21 (false, 0, 0) 33 [(0, .ref (G.1 + a0)), (1, .int a1), (2, .int a2), (3, .int v13), (4, .int v19), (5, .int v20)] []
          unfold bX7_dealsDummies_33
          refine R_iload C 5 rfl dX7_dealsDummies_33 ?_
          refine R_iload_n C 1 rfl dX7_dealsDummies_35 ?_
          refine B_icmp_ge C dX7_dealsDummies_36 ?_ ?_
          · refine R_loc (lv2 := [(0, .ref (G.1 + a0)), (1, .int a1), (2, .int a2), (3, .int v13), (4, .int v19)]) [0, 1, 2, 3, 4] rfl ?_
            exact R_end (fun (o : (Int32 × Int32)) (s : Sg) => V κ G (QQ κ G E none σ') E s (false, 0, 0) 108 [(0, .ref (G.1 + a0)), (1, .int a1), (2, .int a2), (3, .int v13), (4, .int o.1)] []) K22
          · refine R_aload_n C 0 rfl dX7_dealsDummies_39 ?_
            refine R_dr (fun x26 rx26 cx26 => ?_)
            refine R_getr C fl7_39 rfl ha0 rx26 dX7_dealsDummies_40 ?_
            refine R_iload C 5 rfl dX7_dealsDummies_43 ?_
            refine R_ck (fun h27 => ?_)
            refine R_iald C cx26 h27 dX7_dealsDummies_45 ?_
            refine R_aload_n C 0 rfl dX7_dealsDummies_46 ?_
            refine R_dr (fun x28 rx28 cx28 => ?_)
            refine R_getr C fl7_33 rfl ha0 rx28 dX7_dealsDummies_47 ?_
            refine R_iload C 5 rfl dX7_dealsDummies_50 ?_
            refine R_ck (fun h29 => ?_)
            refine R_iald C cx28 h29 dX7_dealsDummies_52 ?_
            refine R_bdK (fun (w : Int32) (s : Sg) => V κ G (QQ κ G E none σ') E s (false, 0, 0) 61 [(0, .ref (G.1 + a0)), (1, .int a1), (2, .int a2), (3, .int v13), (4, .int v19), (5, .int v20)] [.int w]) (fun w30 s31 => ?_) (fun w30 s31 Kw30 => ?_)
            · refine R_istore (lv2 := [(6, .int w30), (0, .ref (G.1 + a0)), (1, .int a1), (2, .int a2), (3, .int v13), (4, .int v19), (5, .int v20)]) C dX7_dealsDummies_61 (by decide) rfl ?_
              refine R_iload C 0 rfl dX7_dealsDummies_63 ?_
              refine R_bdK (fun (w : Int32) (s : Sg) => V κ G (QQ κ G E none σ') E s (false, 0, 0) 102 [(0, .ref (G.1 + a0)), (1, .int a1), (2, .int a2), (3, .int v13), (5, .int v20), (4, .int w)] []) (fun w32 s33 => ?_) (fun w32 s33 Kw32 => ?_)
              · refine S_iinc (fun v39 => [(5, .int v39), (0, .ref (G.1 + a0)), (1, .int a1), (2, .int a2), (3, .int v13), (4, .int w32)]) 4 C dX7_dealsDummies_102 rfl (by decide) (by decide) (fun _ => rfl) (fun v39 => ?_)
                refine R_goto C dX7_dealsDummies_105 ?_
                refine R_loc (lv2 := [(0, .ref (G.1 + a0)), (1, .int a1), (2, .int a2), (3, .int v13), (4, .int w32), (5, .int v39)]) [1, 2, 3, 4, 5, 0] rfl ?_
                exact I25 ((w32, v39), s33) b23 s24 K22
              · refine B_if_eq C dX7_dealsDummies_65 ?_ ?_
                · refine R_loc (lv2 := [(0, .ref (G.1 + a0)), (1, .int a1), (2, .int a2), (3, .int v13), (5, .int v20), (4, .int v19)]) [1, 2, 3, 4, 6, 5] rfl ?_
                  exact R_end (fun (w : Int32) (s : Sg) => V κ G (QQ κ G E none σ') E s (false, 0, 0) 102 [(0, .ref (G.1 + a0)), (1, .int a1), (2, .int a2), (3, .int v13), (5, .int v20), (4, .int w)] []) Kw32
                · refine R_iload C 5 rfl dX7_dealsDummies_68 ?_
                  refine R_iconst C (-1) dX7_dealsDummies_70 (by decide) ?_
                  refine B_icmp_eq C dX7_dealsDummies_71 ?_ ?_
                  · refine R_iload C 6 rfl dX7_dealsDummies_98 ?_
                    refine R_istore (lv2 := [(4, .int v20), (6, .int w30), (0, .ref (G.1 + a0)), (1, .int a1), (2, .int a2), (3, .int v13), (5, .int v20)]) C dX7_dealsDummies_100 (by decide) rfl ?_
                    refine R_loc (lv2 := [(0, .ref (G.1 + a0)), (1, .int a1), (2, .int a2), (3, .int v13), (5, .int v20), (4, .int v20)]) [2, 3, 4, 5, 6, 0] rfl ?_
                    exact R_end (fun (w : Int32) (s : Sg) => V κ G (QQ κ G E none σ') E s (false, 0, 0) 102 [(0, .ref (G.1 + a0)), (1, .int a1), (2, .int a2), (3, .int v13), (5, .int v20), (4, .int w)] []) Kw32
                  · refine R_aload_n C 1 rfl dX7_dealsDummies_74 ?_
                    refine R_bd (fun r36 s34 q35 => ?_)
                    refine R_callVi [] [] C ml7_175 (kX7_isFront q35) (by rw [hR]; exact ⟨rfl, rfl, Nat.le_of_ble_eq_true rfl, Nat.le_of_ble_eq_true rfl, Nat.zero_le _, Nat.zero_le _⟩) ha0 rfl rfl (Nat.le_of_ble_eq_true rfl) dX7_dealsDummies_75 ?_
                    refine B_if_ne C dX7_dealsDummies_78 ?_ ?_
                    · refine R_loc (lv2 := [(0, .ref (G.1 + a0)), (1, .int a1), (2, .int a2), (3, .int v13), (5, .int v20), (4, .int v19)]) [1, 2, 3, 4, 6, 5] rfl ?_
                      exact R_end (fun (w : Int32) (s : Sg) => V κ G (QQ κ G E none σ') E s (false, 0, 0) 102 [(0, .ref (G.1 + a0)), (1, .int a1), (2, .int a2), (3, .int v13), (5, .int v20), (4, .int w)] []) Kw32
                    · refine R_aload_n C 1 rfl dX7_dealsDummies_81 ?_
                      refine R_getr C fl7_39 rfl ha0 rx26 dX7_dealsDummies_82 ?_
                      refine R_iload C 6 rfl dX7_dealsDummies_85 ?_
                      refine R_ck (fun h37 => ?_)
                      refine R_iald C cx26 h37 dX7_dealsDummies_87 ?_
                      refine R_aload_n C 1 rfl dX7_dealsDummies_88 ?_
                      refine R_getr C fl7_39 rfl ha0 rx26 dX7_dealsDummies_89 ?_
                      refine R_iload C 5 rfl dX7_dealsDummies_92 ?_
                      refine R_ck (fun h38 => ?_)
                      refine R_iald C cx26 h38 dX7_dealsDummies_94 ?_
                      refine B_icmp_ge C dX7_dealsDummies_95 ?_ ?_
                      · refine R_loc (lv2 := [(0, .ref (G.1 + a0)), (1, .int a1), (2, .int a2), (3, .int v13), (5, .int v20), (4, .int v19)]) [1, 2, 3, 4, 6, 5] rfl ?_
                        exact R_end (fun (w : Int32) (s : Sg) => V κ G (QQ κ G E none σ') E s (false, 0, 0) 102 [(0, .ref (G.1 + a0)), (1, .int a1), (2, .int a2), (3, .int v13), (5, .int v20), (4, .int w)] []) Kw32
                      · refine R_iload C 6 rfl dX7_dealsDummies_98 ?_
                        refine R_istore (lv2 := [(4, .int v20), (6, .int w30), (0, .ref (G.1 + a0)), (1, .int a1), (2, .int a2), (3, .int v13), (5, .int v20)]) C dX7_dealsDummies_100 (by decide) rfl ?_
                        refine R_loc (lv2 := [(0, .ref (G.1 + a0)), (1, .int a1), (2, .int a2), (3, .int v13), (5, .int v20), (4, .int v20)]) [2, 3, 4, 5, 6, 0] rfl ?_
                        exact R_end (fun (w : Int32) (s : Sg) => V κ G (QQ κ G E none σ') E s (false, 0, 0) 102 [(0, .ref (G.1 + a0)), (1, .int a1), (2, .int a2), (3, .int v13), (5, .int v20), (4, .int w)] []) Kw32
            · refine B_icmp_ge C dX7_dealsDummies_53 ?_ ?_
              · refine R_iconst C (0) dX7_dealsDummies_60 (by decide) ?_
                exact R_end (fun (w : Int32) (s : Sg) => V κ G (QQ κ G E none σ') E s (false, 0, 0) 61 [(0, .ref (G.1 + a0)), (1, .int a1), (2, .int a2), (3, .int v13), (4, .int v19), (5, .int v20)] [.int w]) Kw30
              · refine R_iconst C (1) dX7_dealsDummies_56 (by decide) ?_
                refine R_goto C dX7_dealsDummies_57 ?_
                exact R_end (fun (w : Int32) (s : Sg) => V κ G (QQ κ G E none σ') E s (false, 0, 0) 61 [(0, .ref (G.1 + a0)), (1, .int a1), (2, .int a2), (3, .int v13), (4, .int v19), (5, .int v20)] [.int w]) Kw30
  · obtain ⟨v1, s2⟩ := a
    show bX7_dealsDummies_2 E a1 a0 (fun u0 t => rec (u0, t)) v1 s2 = some (b4, s5) → V κ G (QQ κ G E none σ') E s2 (false, 0, 0) 2 [(0, .ref (G.1 + a0)), (1, .int a1), (2, .int a2), (3, .int v1)] []
    unfold bX7_dealsDummies_2
    refine R_iload_n C 3 rfl dX7_dealsDummies_2 ?_
    refine R_iload_n C 1 rfl dX7_dealsDummies_3 ?_
    refine B_icmp_ge C dX7_dealsDummies_4 ?_ ?_
    · refine R_loc (lv2 := [(0, .ref (G.1 + a0)), (1, .int a1), (2, .int a2)]) [0, 1, 2] rfl ?_
      exact R_end (fun (o : (Int32)) (s : Sg) => V κ G (QQ κ G E none σ') E s (false, 0, 0) 20 [(0, .ref (G.1 + a0)), (1, .int a1), (2, .int a2)] []) K3
    · refine R_aload_n C 0 rfl dX7_dealsDummies_7 ?_
      refine R_dr (fun x7 rx7 cx7 => ?_)
      refine R_getr C fl7_39 rfl ha0 rx7 dX7_dealsDummies_8 ?_
      refine R_iload_n C 3 rfl dX7_dealsDummies_11 ?_
      refine R_iconst C (0) dX7_dealsDummies_12 (by decide) ?_
      refine R_ck (fun h8 => ?_)
      refine S_iast C cx7 h8 dX7_dealsDummies_13 (fun s9 => ?_)
      refine S_iinc (fun v10 => [(3, .int v10), (0, .ref (G.1 + a0)), (1, .int a1), (2, .int a2)]) 3 C dX7_dealsDummies_14 rfl (by decide) (by decide) (fun _ => rfl) (fun v10 => ?_)
      refine R_goto C dX7_dealsDummies_17 ?_
      refine R_loc (lv2 := [(0, .ref (G.1 + a0)), (1, .int a1), (2, .int a2), (3, .int v10)]) [1, 2, 3, 0] rfl ?_
      exact I6 (v10, s9) b4 s5 K3
theorem dX7_dealsRun_0 : dk cX7_dealsRun 0 1 (.aload_n 0) 1 := by unfold dk; decide +kernel
theorem dX7_dealsRun_1 : dk cX7_dealsRun 1 2 (.aload_n 0) 1 := by unfold dk; decide +kernel
theorem dX7_dealsRun_2 : dk cX7_dealsRun 2 5 (.getfield 9) 3 := by unfold dk; decide +kernel
theorem dX7_dealsRun_5 : dk cX7_dealsRun 5 8 (.sipush 926) 3 := by unfold dk; decide +kernel
theorem dX7_dealsRun_8 : dk cX7_dealsRun 8 9 (.iload_n 2) 1 := by unfold dk; decide +kernel
theorem dX7_dealsRun_9 : dk cX7_dealsRun 9 10 (.iadd) 1 := by unfold dk; decide +kernel
theorem dX7_dealsRun_10 : dk cX7_dealsRun 10 11 (.iaload) 1 := by unfold dk; decide +kernel
theorem dX7_dealsRun_11 : dk cX7_dealsRun 11 12 (.aload_n 0) 1 := by unfold dk; decide +kernel
theorem dX7_dealsRun_12 : dk cX7_dealsRun 12 13 (.iload_n 2) 1 := by unfold dk; decide +kernel
theorem dX7_dealsRun_13 : dk cX7_dealsRun 13 16 (.invokevirtual 185) 3 := by unfold dk; decide +kernel
theorem dX7_dealsRun_16 : dk cX7_dealsRun 16 19 (.invokevirtual 179) 3 := by unfold dk; decide +kernel
theorem dX7_dealsRun_19 : dk cX7_dealsRun 19 20 (.istore_n 3) 1 := by unfold dk; decide +kernel
theorem dX7_dealsRun_20 : dk cX7_dealsRun 20 21 (.aload_n 0) 1 := by unfold dk; decide +kernel
theorem dX7_dealsRun_21 : dk cX7_dealsRun 21 24 (.getfield 9) 3 := by unfold dk; decide +kernel
theorem dX7_dealsRun_24 : dk cX7_dealsRun 24 27 (.sipush 2627) 3 := by unfold dk; decide +kernel
theorem dX7_dealsRun_27 : dk cX7_dealsRun 27 28 (.iload_n 3) 1 := by unfold dk; decide +kernel
theorem dX7_dealsRun_28 : dk cX7_dealsRun 28 29 (.iadd) 1 := by unfold dk; decide +kernel
theorem dX7_dealsRun_29 : dk cX7_dealsRun 29 30 (.aload_n 0) 1 := by unfold dk; decide +kernel
theorem dX7_dealsRun_30 : dk cX7_dealsRun 30 31 (.iload_n 2) 1 := by unfold dk; decide +kernel
theorem dX7_dealsRun_31 : dk cX7_dealsRun 31 34 (.invokevirtual 134) 3 := by unfold dk; decide +kernel
theorem dX7_dealsRun_34 : dk cX7_dealsRun 34 37 (.invokestatic 151) 3 := by unfold dk; decide +kernel
theorem dX7_dealsRun_37 : dk cX7_dealsRun 37 38 (.iastore) 1 := by unfold dk; decide +kernel
theorem dX7_dealsRun_38 : dk cX7_dealsRun 38 39 (.aload_n 0) 1 := by unfold dk; decide +kernel
theorem dX7_dealsRun_39 : dk cX7_dealsRun 39 42 (.invokevirtual 188) 3 := by unfold dk; decide +kernel
theorem dX7_dealsRun_52 : dk cX7_dealsRun 52 53 (.aload_n 0) 1 := by unfold dk; decide +kernel
theorem dX7_dealsRun_53 : dk cX7_dealsRun 53 56 (.invokevirtual 158) 3 := by unfold dk; decide +kernel
theorem dX7_dealsRun_56 : dk cX7_dealsRun 56 57 (.iconst 1) 1 := by unfold dk; decide +kernel
theorem dX7_dealsRun_57 : bk cX7_dealsRun 57 60 64 (.if_icmp .ne 7) (7) := by unfold bk; decide +kernel
theorem dX7_dealsRun_64 : dk cX7_dealsRun 64 65 (.aload_n 0) 1 := by unfold dk; decide +kernel
theorem dX7_dealsRun_65 : dk cX7_dealsRun 65 68 (.getfield 39) 3 := by unfold dk; decide +kernel
theorem dX7_dealsRun_68 : dk cX7_dealsRun 68 69 (.iload_n 1) 1 := by unfold dk; decide +kernel
theorem dX7_dealsRun_69 : dk cX7_dealsRun 69 70 (.iaload) 1 := by unfold dk; decide +kernel
theorem dX7_dealsRun_60 : dk cX7_dealsRun 60 61 (.iconst 0) 1 := by unfold dk; decide +kernel
theorem dX7_dealsRun_61 : bk cX7_dealsRun 61 64 70 (.goto 9) (9) := by unfold bk; decide +kernel
theorem dX7_dealsRun_70 : dk cX7_dealsRun 70 72 (.istore 4) 2 := by unfold dk; decide +kernel
theorem dX7_dealsRun_72 : dk cX7_dealsRun 72 73 (.aload_n 0) 1 := by unfold dk; decide +kernel
theorem dX7_dealsRun_73 : dk cX7_dealsRun 73 76 (.getfield 9) 3 := by unfold dk; decide +kernel
theorem dX7_dealsRun_76 : dk cX7_dealsRun 76 78 (.bipush 20) 2 := by unfold dk; decide +kernel
theorem dX7_dealsRun_78 : dk cX7_dealsRun 78 79 (.iload_n 1) 1 := by unfold dk; decide +kernel
theorem dX7_dealsRun_79 : dk cX7_dealsRun 79 80 (.iadd) 1 := by unfold dk; decide +kernel
theorem dX7_dealsRun_80 : dk cX7_dealsRun 80 81 (.iaload) 1 := by unfold dk; decide +kernel
theorem dX7_dealsRun_81 : dk cX7_dealsRun 81 83 (.istore 5) 2 := by unfold dk; decide +kernel
theorem dX7_dealsRun_83 : dk cX7_dealsRun 83 85 (.iload 5) 2 := by unfold dk; decide +kernel
theorem dX7_dealsRun_85 : dk cX7_dealsRun 85 87 (.iload 4) 2 := by unfold dk; decide +kernel
theorem dX7_dealsRun_90 : dk cX7_dealsRun 90 91 (.aload_n 0) 1 := by unfold dk; decide +kernel
theorem dX7_dealsRun_91 : dk cX7_dealsRun 91 94 (.getfield 9) 3 := by unfold dk; decide +kernel
theorem dX7_dealsRun_94 : dk cX7_dealsRun 94 97 (.sipush 3327) 3 := by unfold dk; decide +kernel
theorem dX7_dealsRun_97 : dk cX7_dealsRun 97 100 (.sipush 700) 3 := by unfold dk; decide +kernel
theorem dX7_dealsRun_100 : dk cX7_dealsRun 100 101 (.iload_n 1) 1 := by unfold dk; decide +kernel
theorem dX7_dealsRun_101 : dk cX7_dealsRun 101 102 (.imul) 1 := by unfold dk; decide +kernel
theorem dX7_dealsRun_102 : dk cX7_dealsRun 102 103 (.iadd) 1 := by unfold dk; decide +kernel
theorem dX7_dealsRun_103 : dk cX7_dealsRun 103 105 (.iload 5) 2 := by unfold dk; decide +kernel
theorem dX7_dealsRun_105 : dk cX7_dealsRun 105 106 (.iadd) 1 := by unfold dk; decide +kernel
theorem dX7_dealsRun_106 : dk cX7_dealsRun 106 107 (.aload_n 0) 1 := by unfold dk; decide +kernel
theorem dX7_dealsRun_107 : dk cX7_dealsRun 107 110 (.getfield 9) 3 := by unfold dk; decide +kernel
theorem dX7_dealsRun_110 : dk cX7_dealsRun 110 113 (.sipush 3327) 3 := by unfold dk; decide +kernel
theorem dX7_dealsRun_113 : dk cX7_dealsRun 113 116 (.sipush 700) 3 := by unfold dk; decide +kernel
theorem dX7_dealsRun_116 : dk cX7_dealsRun 116 117 (.iload_n 1) 1 := by unfold dk; decide +kernel
theorem dX7_dealsRun_117 : dk cX7_dealsRun 117 118 (.imul) 1 := by unfold dk; decide +kernel
theorem dX7_dealsRun_118 : dk cX7_dealsRun 118 119 (.iadd) 1 := by unfold dk; decide +kernel
theorem dX7_dealsRun_119 : dk cX7_dealsRun 119 121 (.iload 5) 2 := by unfold dk; decide +kernel
theorem dX7_dealsRun_121 : dk cX7_dealsRun 121 122 (.iadd) 1 := by unfold dk; decide +kernel
theorem dX7_dealsRun_122 : dk cX7_dealsRun 122 123 (.iconst 1) 1 := by unfold dk; decide +kernel
theorem dX7_dealsRun_123 : dk cX7_dealsRun 123 124 (.isub) 1 := by unfold dk; decide +kernel
theorem dX7_dealsRun_124 : dk cX7_dealsRun 124 125 (.iaload) 1 := by unfold dk; decide +kernel
theorem dX7_dealsRun_125 : dk cX7_dealsRun 125 126 (.iastore) 1 := by unfold dk; decide +kernel
theorem dX7_dealsRun_126 : dk cX7_dealsRun 126 129 (.iinc 5 (-1)) 3 := by unfold dk; decide +kernel
theorem dX7_dealsRun_129 : bk cX7_dealsRun 129 132 83 (.goto (-46)) (-46) := by unfold bk; decide +kernel
theorem dX7_dealsRun_87 : bk cX7_dealsRun 87 90 132 (.if_icmp .le 45) (45) := by unfold bk; decide +kernel
theorem dX7_dealsRun_132 : dk cX7_dealsRun 132 133 (.aload_n 0) 1 := by unfold dk; decide +kernel
theorem dX7_dealsRun_133 : dk cX7_dealsRun 133 136 (.getfield 9) 3 := by unfold dk; decide +kernel
theorem dX7_dealsRun_136 : dk cX7_dealsRun 136 139 (.sipush 3327) 3 := by unfold dk; decide +kernel
theorem dX7_dealsRun_139 : dk cX7_dealsRun 139 142 (.sipush 700) 3 := by unfold dk; decide +kernel
theorem dX7_dealsRun_142 : dk cX7_dealsRun 142 143 (.iload_n 1) 1 := by unfold dk; decide +kernel
theorem dX7_dealsRun_143 : dk cX7_dealsRun 143 144 (.imul) 1 := by unfold dk; decide +kernel
theorem dX7_dealsRun_144 : dk cX7_dealsRun 144 145 (.iadd) 1 := by unfold dk; decide +kernel
theorem dX7_dealsRun_145 : dk cX7_dealsRun 145 147 (.iload 4) 2 := by unfold dk; decide +kernel
theorem dX7_dealsRun_147 : dk cX7_dealsRun 147 148 (.iadd) 1 := by unfold dk; decide +kernel
theorem dX7_dealsRun_148 : dk cX7_dealsRun 148 149 (.iload_n 3) 1 := by unfold dk; decide +kernel
theorem dX7_dealsRun_149 : dk cX7_dealsRun 149 150 (.iastore) 1 := by unfold dk; decide +kernel
theorem dX7_dealsRun_150 : dk cX7_dealsRun 150 151 (.aload_n 0) 1 := by unfold dk; decide +kernel
theorem dX7_dealsRun_151 : dk cX7_dealsRun 151 154 (.getfield 9) 3 := by unfold dk; decide +kernel
theorem dX7_dealsRun_154 : dk cX7_dealsRun 154 156 (.bipush 20) 2 := by unfold dk; decide +kernel
theorem dX7_dealsRun_156 : dk cX7_dealsRun 156 157 (.iload_n 1) 1 := by unfold dk; decide +kernel
theorem dX7_dealsRun_157 : dk cX7_dealsRun 157 158 (.iadd) 1 := by unfold dk; decide +kernel
theorem dX7_dealsRun_158 : dk cX7_dealsRun 158 159 (.dup2) 1 := by unfold dk; decide +kernel
theorem dX7_dealsRun_159 : dk cX7_dealsRun 159 160 (.iaload) 1 := by unfold dk; decide +kernel
theorem dX7_dealsRun_160 : dk cX7_dealsRun 160 161 (.iconst 1) 1 := by unfold dk; decide +kernel
theorem dX7_dealsRun_161 : dk cX7_dealsRun 161 162 (.iadd) 1 := by unfold dk; decide +kernel
theorem dX7_dealsRun_162 : dk cX7_dealsRun 162 163 (.iastore) 1 := by unfold dk; decide +kernel
theorem dX7_dealsRun_163 : dk cX7_dealsRun 163 164 (.return_) 1 := by unfold dk; decide +kernel
theorem dX7_dealsRun_45 : dk cX7_dealsRun 45 46 (.aload_n 0) 1 := by unfold dk; decide +kernel
theorem dX7_dealsRun_46 : dk cX7_dealsRun 46 47 (.iload_n 1) 1 := by unfold dk; decide +kernel
theorem dX7_dealsRun_47 : dk cX7_dealsRun 47 48 (.iload_n 3) 1 := by unfold dk; decide +kernel
theorem dX7_dealsRun_48 : dk cX7_dealsRun 48 51 (.invokevirtual 182) 3 := by unfold dk; decide +kernel
theorem dX7_dealsRun_51 : dk cX7_dealsRun 51 52 (.return_) 1 := by unfold dk; decide +kernel
theorem dX7_dealsRun_42 : bk cX7_dealsRun 42 45 52 (.ifCond .ne 10) (10) := by unfold bk; decide +kernel
set_option maxHeartbeats 4000000 in
set_option maxRecDepth 100000 in
theorem kX7_dealsRun {l : Launch} {G : Gl} {E : En} {a0 : Nat} {a1 : Int32} {a2 : Int32} {σ σ' : Sg} : fX7_dealsRun E a0 a1 a2 σ = some σ' → CT l yX7_dealsRun cX7_dealsRun 6 none ({ frames := 1, cells := 0, slots := 0, locals := 22 } : Room) [.ref (G.1 + a0), .int a1, .int a2] G E σ none σ' := by
  intro h
  refine CT_of (lv0 := [(0, .ref (G.1 + a0)), (1, .int a1), (2, .int a2)]) (by decide) (Nat.le_of_ble_eq_true rfl) rfl (fun κ hl hR hr C => ?_)
  have C : Cx κ G cX7_dealsRun RX7 6 := C
  revert h
  unfold fX7_dealsRun
  refine R_tk (fun ha0 => ?_)
  refine R_aload_n C 0 rfl dX7_dealsRun_0 ?_
  refine R_aload_n C 0 rfl dX7_dealsRun_1 ?_
  refine R_dr (fun x1 rx1 cx1 => ?_)
  refine R_getr C fl7_9 rfl ha0 rx1 dX7_dealsRun_2 ?_
  refine R_sipush C (926) dX7_dealsRun_5 (by decide) ?_
  refine R_iload_n C 2 rfl dX7_dealsRun_8 ?_
  refine R_iadd C dX7_dealsRun_9 ?_
  refine R_ck (fun h2 => ?_)
  refine R_iald C cx1 h2 dX7_dealsRun_10 ?_
  refine R_aload_n C 0 rfl dX7_dealsRun_11 ?_
  refine R_iload_n C 2 rfl dX7_dealsRun_12 ?_
  refine R_bd (fun r5 s3 q4 => ?_)
  refine R_callVi [.int a2] [.int (gi σ x1 ((926 : Int32) + a2).toNatClampNeg), .ref (G.1 + a0)] C ml7_185 (kX7_runSize q4) (by rw [hR]; exact ⟨rfl, rfl, Nat.le_of_ble_eq_true rfl, Nat.le_of_ble_eq_true rfl, Nat.zero_le _, Nat.zero_le _⟩) ha0 rfl rfl (Nat.le_of_ble_eq_true rfl) dX7_dealsRun_13 ?_
  refine R_bd (fun r8 s6 q7 => ?_)
  refine R_callVi [.int (gi σ x1 ((926 : Int32) + a2).toNatClampNeg), .int r5] [] C ml7_179 (kX7_makesRun q7) (by rw [hR]; exact ⟨rfl, rfl, Nat.le_of_ble_eq_true rfl, Nat.le_of_ble_eq_true rfl, Nat.zero_le _, Nat.zero_le _⟩) ha0 rfl rfl (Nat.le_of_ble_eq_true rfl) dX7_dealsRun_16 ?_
  refine R_istore_n (lv2 := [(3, .int r8), (0, .ref (G.1 + a0)), (1, .int a1), (2, .int a2)]) C dX7_dealsRun_19 rfl (by decide) rfl ?_
  refine R_aload_n C 1 rfl dX7_dealsRun_20 ?_
  refine R_getr C fl7_9 rfl ha0 rx1 dX7_dealsRun_21 ?_
  refine R_sipush C (2627) dX7_dealsRun_24 (by decide) ?_
  refine R_iload_n C 0 rfl dX7_dealsRun_27 ?_
  refine R_iadd C dX7_dealsRun_28 ?_
  refine R_aload_n C 1 rfl dX7_dealsRun_29 ?_
  refine R_iload_n C 3 rfl dX7_dealsRun_30 ?_
  refine R_bd (fun r11 s9 q10 => ?_)
  refine R_callVi [.int a2] [.int ((2627 : Int32) + r8), .ref (G.1 + x1)] C ml7_134 (kX7_doesFall q10) (by rw [hR]; exact ⟨rfl, rfl, Nat.le_of_ble_eq_true rfl, Nat.le_of_ble_eq_true rfl, Nat.zero_le _, Nat.zero_le _⟩) ha0 rfl rfl (Nat.le_of_ble_eq_true rfl) dX7_dealsRun_31 ?_
  refine R_bd (fun r14 s12 q13 => ?_)
  refine R_callSi [.int r11] [.int ((2627 : Int32) + r8), .ref (G.1 + x1)] C ml7_151 (kX7_truth q13) (by rw [hR]; exact ⟨rfl, rfl, Nat.le_of_ble_eq_true rfl, Nat.le_of_ble_eq_true rfl, Nat.zero_le _, Nat.zero_le _⟩) rfl rfl (Nat.le_of_ble_eq_true rfl) dX7_dealsRun_34 ?_
  refine R_ck (fun h15 => ?_)
  refine S_iast C cx1 h15 dX7_dealsRun_37 (fun s16 => ?_)
  refine R_aload_n C 1 rfl dX7_dealsRun_38 ?_
  refine R_bd (fun r19 s17 q18 => ?_)
  refine R_callVi [] [] C ml7_188 (kX7_isBack q18) (by rw [hR]; exact ⟨rfl, rfl, Nat.le_of_ble_eq_true rfl, Nat.le_of_ble_eq_true rfl, Nat.zero_le _, Nat.zero_le _⟩) ha0 rfl rfl (Nat.le_of_ble_eq_true rfl) dX7_dealsRun_39 ?_
  refine B_if_ne C dX7_dealsRun_42 ?_ ?_
  · refine R_aload_n C 1 rfl dX7_dealsRun_52 ?_
    refine R_bd (fun r22 s20 q21 => ?_)
    refine R_callVi [] [] C ml7_158 (kX7_way q21) (by rw [hR]; exact ⟨rfl, rfl, Nat.le_of_ble_eq_true rfl, Nat.le_of_ble_eq_true rfl, Nat.zero_le _, Nat.zero_le _⟩) ha0 rfl rfl (Nat.le_of_ble_eq_true rfl) dX7_dealsRun_53 ?_
    refine R_iconst C (1) dX7_dealsRun_56 (by decide) ?_
    refine R_bdK (fun (w : Int32) (s : Sg) => V κ G (QQ κ G E none σ') E s (false, 0, 0) 70 [(3, .int r8), (0, .ref (G.1 + a0)), (1, .int a1)] [.int w]) (fun w23 s24 => ?_) (fun w23 s24 Kw23 => ?_)
    · refine R_istore (lv2 := [(4, .int w23), (3, .int r8), (0, .ref (G.1 + a0)), (1, .int a1)]) C dX7_dealsRun_70 (by decide) rfl ?_
      refine R_aload_n C 2 rfl dX7_dealsRun_72 ?_
      refine R_getr C fl7_9 rfl ha0 rx1 dX7_dealsRun_73 ?_
      refine R_bipush C (20) dX7_dealsRun_76 (by decide) ?_
      refine R_iload_n C 3 rfl dX7_dealsRun_78 ?_
      refine R_iadd C dX7_dealsRun_79 ?_
      refine R_ck (fun h27 => ?_)
      refine R_iald C cx1 h27 dX7_dealsRun_80 ?_
      refine S_istore C dX7_dealsRun_81 (fun v28 => [(5, .int v28), (4, .int w23), (3, .int r8), (0, .ref (G.1 + a0)), (1, .int a1)]) (by decide) (fun _ => rfl) (fun v28 => ?_)
      refine R_loc (lv2 := [(4, .int w23), (3, .int r8), (0, .ref (G.1 + a0)), (1, .int a1), (5, .int v28)]) [1, 2, 3, 4, 0] rfl ?_
      refine R_loop (fun (a : (Int32) × Sg) => V κ G (QQ κ G E none σ') E a.2 (false, 0, 0) 83 [(4, .int w23), (3, .int r8), (0, .ref (G.1 + a0)), (1, .int a1), (5, .int a.1)] []) (fun (o : (Int32)) (s : Sg) => V κ G (QQ κ G E none σ') E s (false, 0, 0) 132 [(4, .int w23), (3, .int r8), (0, .ref (G.1 + a0)), (1, .int a1)] []) (v28, s24) (fun o39 s40 => ?_) (fun rec I34 a b32 s33 K31 => ?_)
      · refine R_aload_n C 2 rfl dX7_dealsRun_132 ?_
        refine R_getr C fl7_9 rfl ha0 rx1 dX7_dealsRun_133 ?_
        refine R_sipush C (3327) dX7_dealsRun_136 (by decide) ?_
        refine R_sipush C (700) dX7_dealsRun_139 (by decide) ?_
        refine R_iload_n C 3 rfl dX7_dealsRun_142 ?_
        refine R_imul C dX7_dealsRun_143 ?_
        refine R_iadd C dX7_dealsRun_144 ?_
        refine R_iload C 0 rfl dX7_dealsRun_145 ?_
        refine R_iadd C dX7_dealsRun_147 ?_
        refine R_iload_n C 1 rfl dX7_dealsRun_148 ?_
        refine R_ck (fun h41 => ?_)
        refine S_iast C cx1 h41 dX7_dealsRun_149 (fun s42 => ?_)
        refine R_aload_n C 2 rfl dX7_dealsRun_150 ?_
        refine R_getr C fl7_9 rfl ha0 rx1 dX7_dealsRun_151 ?_
        refine R_bipush C (20) dX7_dealsRun_154 (by decide) ?_
        refine R_iload_n C 3 rfl dX7_dealsRun_156 ?_
        refine R_iadd C dX7_dealsRun_157 ?_
        refine R_dup2 C dX7_dealsRun_158 rfl rfl ?_
        refine R_ck (fun h43 => ?_)
        refine R_iald C cx1 h43 dX7_dealsRun_159 ?_
        refine R_iconst C (1) dX7_dealsRun_160 (by decide) ?_
        refine R_iadd C dX7_dealsRun_161 ?_
        refine R_ck (fun h44 => ?_)
        refine S_iast C cx1 h44 dX7_dealsRun_162 (fun s45 => ?_)
        exact R_vret C hr dX7_dealsRun_163
      · obtain ⟨v29, s30⟩ := a
        show bX7_dealsRun_83 E w23 a1 x1 (fun u0 t => rec (u0, t)) v29 s30 = some (b32, s33) → V κ G (QQ κ G E none σ') E s30 (false, 0, 0) 83 [(4, .int w23), (3, .int r8), (0, .ref (G.1 + a0)), (1, .int a1), (5, .int v29)] []
        unfold bX7_dealsRun_83
        refine R_iload C 4 rfl dX7_dealsRun_83 ?_
        refine R_iload C 0 rfl dX7_dealsRun_85 ?_
        refine B_icmp_le C dX7_dealsRun_87 ?_ ?_
        · refine R_loc (lv2 := [(4, .int w23), (3, .int r8), (0, .ref (G.1 + a0)), (1, .int a1)]) [0, 1, 2, 3] rfl ?_
          exact R_end (fun (o : (Int32)) (s : Sg) => V κ G (QQ κ G E none σ') E s (false, 0, 0) 132 [(4, .int w23), (3, .int r8), (0, .ref (G.1 + a0)), (1, .int a1)] []) K31
        · refine R_aload_n C 2 rfl dX7_dealsRun_90 ?_
          refine R_getr C fl7_9 rfl ha0 rx1 dX7_dealsRun_91 ?_
          refine R_sipush C (3327) dX7_dealsRun_94 (by decide) ?_
          refine R_sipush C (700) dX7_dealsRun_97 (by decide) ?_
          refine R_iload_n C 3 rfl dX7_dealsRun_100 ?_
          refine R_imul C dX7_dealsRun_101 ?_
          refine R_iadd C dX7_dealsRun_102 ?_
          refine R_iload C 4 rfl dX7_dealsRun_103 ?_
          refine R_iadd C dX7_dealsRun_105 ?_
          refine R_aload_n C 2 rfl dX7_dealsRun_106 ?_
          refine R_getr C fl7_9 rfl ha0 rx1 dX7_dealsRun_107 ?_
          refine R_sipush C (3327) dX7_dealsRun_110 (by decide) ?_
          refine R_sipush C (700) dX7_dealsRun_113 (by decide) ?_
          refine R_iload_n C 3 rfl dX7_dealsRun_116 ?_
          refine R_imul C dX7_dealsRun_117 ?_
          refine R_iadd C dX7_dealsRun_118 ?_
          refine R_iload C 4 rfl dX7_dealsRun_119 ?_
          refine R_iadd C dX7_dealsRun_121 ?_
          refine R_iconst C (1) dX7_dealsRun_122 (by decide) ?_
          refine R_isub C dX7_dealsRun_123 ?_
          refine R_ck (fun h35 => ?_)
          refine R_iald C cx1 h35 dX7_dealsRun_124 ?_
          refine R_ck (fun h36 => ?_)
          refine S_iast C cx1 h36 dX7_dealsRun_125 (fun s37 => ?_)
          refine S_iinc (fun v38 => [(5, .int v38), (4, .int w23), (3, .int r8), (0, .ref (G.1 + a0)), (1, .int a1)]) 4 C dX7_dealsRun_126 rfl (by decide) (by decide) (fun _ => rfl) (fun v38 => ?_)
          refine R_goto C dX7_dealsRun_129 ?_
          refine R_loc (lv2 := [(4, .int w23), (3, .int r8), (0, .ref (G.1 + a0)), (1, .int a1), (5, .int v38)]) [1, 2, 3, 4, 0] rfl ?_
          exact I34 (v38, s37) b32 s33 K31
    · refine B_icmp_ne C dX7_dealsRun_57 ?_ ?_
      · refine R_aload_n C 1 rfl dX7_dealsRun_64 ?_
        refine R_dr (fun x25 rx25 cx25 => ?_)
        refine R_getr C fl7_39 rfl ha0 rx25 dX7_dealsRun_65 ?_
        refine R_iload_n C 2 rfl dX7_dealsRun_68 ?_
        refine R_ck (fun h26 => ?_)
        refine R_iald C cx25 h26 dX7_dealsRun_69 ?_
        refine R_loc (lv2 := [(3, .int r8), (0, .ref (G.1 + a0)), (1, .int a1)]) [0, 1, 2] rfl ?_
        exact R_end (fun (w : Int32) (s : Sg) => V κ G (QQ κ G E none σ') E s (false, 0, 0) 70 [(3, .int r8), (0, .ref (G.1 + a0)), (1, .int a1)] [.int w]) Kw23
      · refine R_iconst C (0) dX7_dealsRun_60 (by decide) ?_
        refine R_goto C dX7_dealsRun_61 ?_
        refine R_loc (lv2 := [(3, .int r8), (0, .ref (G.1 + a0)), (1, .int a1)]) [0, 1, 2] rfl ?_
        exact R_end (fun (w : Int32) (s : Sg) => V κ G (QQ κ G E none σ') E s (false, 0, 0) 70 [(3, .int r8), (0, .ref (G.1 + a0)), (1, .int a1)] [.int w]) Kw23
  · refine R_aload_n C 1 rfl dX7_dealsRun_45 ?_
    refine R_iload_n C 2 rfl dX7_dealsRun_46 ?_
    refine R_iload_n C 0 rfl dX7_dealsRun_47 ?_
    refine R_bv (fun s46 q47 => ?_)
    refine R_callVv [.int a1, .int r8] [] C ml7_182 (kX7_comesLast q47) (by rw [hR]; exact ⟨rfl, rfl, Nat.le_of_ble_eq_true rfl, Nat.le_of_ble_eq_true rfl, Nat.zero_le _, Nat.zero_le _⟩) ha0 rfl rfl (Nat.le_of_ble_eq_true rfl) dX7_dealsRun_48 ?_
    exact R_vret C hr dX7_dealsRun_51
theorem dX7_placesLeft_0 : dk cX7_placesLeft 0 1 (.aload_n 0) 1 := by unfold dk; decide +kernel
theorem dX7_placesLeft_1 : dk cX7_placesLeft 1 4 (.getfield 33) 3 := by unfold dk; decide +kernel
theorem dX7_placesLeft_4 : dk cX7_placesLeft 4 5 (.iload_n 1) 1 := by unfold dk; decide +kernel
theorem dX7_placesLeft_5 : dk cX7_placesLeft 5 6 (.iaload) 1 := by unfold dk; decide +kernel
theorem dX7_placesLeft_6 : dk cX7_placesLeft 6 7 (.aload_n 0) 1 := by unfold dk; decide +kernel
theorem dX7_placesLeft_7 : dk cX7_placesLeft 7 10 (.getfield 39) 3 := by unfold dk; decide +kernel
theorem dX7_placesLeft_10 : dk cX7_placesLeft 10 11 (.iload_n 1) 1 := by unfold dk; decide +kernel
theorem dX7_placesLeft_11 : dk cX7_placesLeft 11 12 (.iaload) 1 := by unfold dk; decide +kernel
theorem dX7_placesLeft_12 : dk cX7_placesLeft 12 13 (.isub) 1 := by unfold dk; decide +kernel
theorem dX7_placesLeft_13 : dk cX7_placesLeft 13 14 (.aload_n 0) 1 := by unfold dk; decide +kernel
theorem dX7_placesLeft_14 : dk cX7_placesLeft 14 17 (.getfield 42) 3 := by unfold dk; decide +kernel
theorem dX7_placesLeft_17 : dk cX7_placesLeft 17 18 (.iload_n 1) 1 := by unfold dk; decide +kernel
theorem dX7_placesLeft_18 : dk cX7_placesLeft 18 19 (.iaload) 1 := by unfold dk; decide +kernel
theorem dX7_placesLeft_19 : dk cX7_placesLeft 19 20 (.isub) 1 := by unfold dk; decide +kernel
theorem dX7_placesLeft_20 : dk cX7_placesLeft 20 21 (.ireturn) 1 := by unfold dk; decide +kernel
set_option maxHeartbeats 4000000 in
set_option maxRecDepth 100000 in
theorem kX7_placesLeft {l : Launch} {G : Gl} {E : En} {a0 : Nat} {a1 : Int32} {σ σ' : Sg} {r : Int32} : fX7_placesLeft E a0 a1 σ = some (r, σ') → CT l yX7_placesLeft cX7_placesLeft 2 (some .int) ({ frames := 0, cells := 0, slots := 0, locals := 0 } : Room) [.ref (G.1 + a0), .int a1] G E σ (some (.int r)) σ' := by
  intro h
  refine CT_of (lv0 := [(0, .ref (G.1 + a0)), (1, .int a1)]) (by decide) (Nat.le_of_ble_eq_true rfl) rfl (fun κ hl hR hr C => ?_)
  have C : Cx κ G cX7_placesLeft RX7 2 := C
  revert h
  unfold fX7_placesLeft
  refine R_tk (fun ha0 => ?_)
  refine R_aload_n C 0 rfl dX7_placesLeft_0 ?_
  refine R_dr (fun x1 rx1 cx1 => ?_)
  refine R_getr C fl7_33 rfl ha0 rx1 dX7_placesLeft_1 ?_
  refine R_iload_n C 1 rfl dX7_placesLeft_4 ?_
  refine R_ck (fun h2 => ?_)
  refine R_iald C cx1 h2 dX7_placesLeft_5 ?_
  refine R_aload_n C 0 rfl dX7_placesLeft_6 ?_
  refine R_dr (fun x3 rx3 cx3 => ?_)
  refine R_getr C fl7_39 rfl ha0 rx3 dX7_placesLeft_7 ?_
  refine R_iload_n C 1 rfl dX7_placesLeft_10 ?_
  refine R_ck (fun h4 => ?_)
  refine R_iald C cx3 h4 dX7_placesLeft_11 ?_
  refine R_isub C dX7_placesLeft_12 ?_
  refine R_aload_n C 0 rfl dX7_placesLeft_13 ?_
  refine R_dr (fun x5 rx5 cx5 => ?_)
  refine R_getr C fl7_42 rfl ha0 rx5 dX7_placesLeft_14 ?_
  refine R_iload_n C 1 rfl dX7_placesLeft_17 ?_
  refine R_ck (fun h6 => ?_)
  refine R_iald C cx5 h6 dX7_placesLeft_18 ?_
  refine R_isub C dX7_placesLeft_19 ?_
  exact R_iret C hr dX7_placesLeft_20
theorem dX7_spreadsPerfectly_0 : dk cX7_spreadsPerfectly 0 1 (.aload_n 0) 1 := by unfold dk; decide +kernel
theorem dX7_spreadsPerfectly_1 : dk cX7_spreadsPerfectly 1 4 (.invokevirtual 155) 3 := by unfold dk; decide +kernel
theorem dX7_spreadsPerfectly_4 : dk cX7_spreadsPerfectly 4 5 (.iconst 1) 1 := by unfold dk; decide +kernel
theorem dX7_spreadsPerfectly_5 : dk cX7_spreadsPerfectly 5 6 (.isub) 1 := by unfold dk; decide +kernel
theorem dX7_spreadsPerfectly_6 : dk cX7_spreadsPerfectly 6 7 (.istore_n 1) 1 := by unfold dk; decide +kernel
theorem dX7_spreadsPerfectly_7 : dk cX7_spreadsPerfectly 7 8 (.aload_n 0) 1 := by unfold dk; decide +kernel
theorem dX7_spreadsPerfectly_8 : dk cX7_spreadsPerfectly 8 11 (.getfield 9) 3 := by unfold dk; decide +kernel
theorem dX7_spreadsPerfectly_11 : dk cX7_spreadsPerfectly 11 13 (.bipush 14) 2 := by unfold dk; decide +kernel
theorem dX7_spreadsPerfectly_13 : dk cX7_spreadsPerfectly 13 14 (.iaload) 1 := by unfold dk; decide +kernel
theorem dX7_spreadsPerfectly_14 : dk cX7_spreadsPerfectly 14 15 (.istore_n 2) 1 := by unfold dk; decide +kernel
theorem dX7_spreadsPerfectly_15 : dk cX7_spreadsPerfectly 15 16 (.iconst 0) 1 := by unfold dk; decide +kernel
theorem dX7_spreadsPerfectly_16 : dk cX7_spreadsPerfectly 16 17 (.istore_n 3) 1 := by unfold dk; decide +kernel
theorem dX7_spreadsPerfectly_17 : dk cX7_spreadsPerfectly 17 18 (.aload_n 0) 1 := by unfold dk; decide +kernel
theorem dX7_spreadsPerfectly_18 : dk cX7_spreadsPerfectly 18 19 (.iconst 0) 1 := by unfold dk; decide +kernel
theorem dX7_spreadsPerfectly_19 : dk cX7_spreadsPerfectly 19 20 (.aload_n 0) 1 := by unfold dk; decide +kernel
theorem dX7_spreadsPerfectly_20 : dk cX7_spreadsPerfectly 20 23 (.invokevirtual 158) 3 := by unfold dk; decide +kernel
theorem dX7_spreadsPerfectly_23 : dk cX7_spreadsPerfectly 23 24 (.iload_n 1) 1 := by unfold dk; decide +kernel
theorem dX7_spreadsPerfectly_24 : dk cX7_spreadsPerfectly 24 27 (.invokevirtual 161) 3 := by unfold dk; decide +kernel
theorem dX7_spreadsPerfectly_27 : dk cX7_spreadsPerfectly 27 28 (.aload_n 0) 1 := by unfold dk; decide +kernel
theorem dX7_spreadsPerfectly_28 : dk cX7_spreadsPerfectly 28 29 (.iload_n 1) 1 := by unfold dk; decide +kernel
theorem dX7_spreadsPerfectly_29 : dk cX7_spreadsPerfectly 29 32 (.invokevirtual 165) 3 := by unfold dk; decide +kernel
theorem dX7_spreadsPerfectly_32 : dk cX7_spreadsPerfectly 32 33 (.iload_n 2) 1 := by unfold dk; decide +kernel
theorem dX7_spreadsPerfectly_36 : dk cX7_spreadsPerfectly 36 39 (.iinc 3 1) 3 := by unfold dk; decide +kernel
theorem dX7_spreadsPerfectly_39 : dk cX7_spreadsPerfectly 39 40 (.aload_n 0) 1 := by unfold dk; decide +kernel
theorem dX7_spreadsPerfectly_40 : dk cX7_spreadsPerfectly 40 41 (.iload_n 3) 1 := by unfold dk; decide +kernel
theorem dX7_spreadsPerfectly_41 : dk cX7_spreadsPerfectly 41 42 (.aload_n 0) 1 := by unfold dk; decide +kernel
theorem dX7_spreadsPerfectly_42 : dk cX7_spreadsPerfectly 42 45 (.invokevirtual 158) 3 := by unfold dk; decide +kernel
theorem dX7_spreadsPerfectly_45 : dk cX7_spreadsPerfectly 45 46 (.iload_n 1) 1 := by unfold dk; decide +kernel
theorem dX7_spreadsPerfectly_46 : dk cX7_spreadsPerfectly 46 49 (.invokevirtual 161) 3 := by unfold dk; decide +kernel
theorem dX7_spreadsPerfectly_49 : bk cX7_spreadsPerfectly 49 52 27 (.goto (-22)) (-22) := by unfold bk; decide +kernel
theorem dX7_spreadsPerfectly_33 : bk cX7_spreadsPerfectly 33 36 52 (.if_icmp .ge 19) (19) := by unfold bk; decide +kernel
theorem dX7_spreadsPerfectly_52 : dk cX7_spreadsPerfectly 52 53 (.aload_n 0) 1 := by unfold dk; decide +kernel
theorem dX7_spreadsPerfectly_53 : dk cX7_spreadsPerfectly 53 56 (.getfield 9) 3 := by unfold dk; decide +kernel
theorem dX7_spreadsPerfectly_56 : dk cX7_spreadsPerfectly 56 58 (.bipush 19) 2 := by unfold dk; decide +kernel
theorem dX7_spreadsPerfectly_58 : dk cX7_spreadsPerfectly 58 59 (.iload_n 3) 1 := by unfold dk; decide +kernel
theorem dX7_spreadsPerfectly_59 : dk cX7_spreadsPerfectly 59 60 (.iastore) 1 := by unfold dk; decide +kernel
theorem dX7_spreadsPerfectly_60 : dk cX7_spreadsPerfectly 60 61 (.aload_n 0) 1 := by unfold dk; decide +kernel
theorem dX7_spreadsPerfectly_61 : dk cX7_spreadsPerfectly 61 64 (.getfield 9) 3 := by unfold dk; decide +kernel
theorem dX7_spreadsPerfectly_64 : dk cX7_spreadsPerfectly 64 66 (.bipush 18) 2 := by unfold dk; decide +kernel
theorem dX7_spreadsPerfectly_66 : dk cX7_spreadsPerfectly 66 67 (.aload_n 0) 1 := by unfold dk; decide +kernel
theorem dX7_spreadsPerfectly_67 : dk cX7_spreadsPerfectly 67 68 (.iload_n 1) 1 := by unfold dk; decide +kernel
theorem dX7_spreadsPerfectly_68 : dk cX7_spreadsPerfectly 68 71 (.invokevirtual 165) 3 := by unfold dk; decide +kernel
theorem dX7_spreadsPerfectly_71 : dk cX7_spreadsPerfectly 71 72 (.iload_n 2) 1 := by unfold dk; decide +kernel
theorem dX7_spreadsPerfectly_72 : dk cX7_spreadsPerfectly 72 73 (.isub) 1 := by unfold dk; decide +kernel
theorem dX7_spreadsPerfectly_73 : dk cX7_spreadsPerfectly 73 74 (.iastore) 1 := by unfold dk; decide +kernel
theorem dX7_spreadsPerfectly_74 : dk cX7_spreadsPerfectly 74 75 (.aload_n 0) 1 := by unfold dk; decide +kernel
theorem dX7_spreadsPerfectly_75 : dk cX7_spreadsPerfectly 75 76 (.iload_n 1) 1 := by unfold dk; decide +kernel
theorem dX7_spreadsPerfectly_76 : dk cX7_spreadsPerfectly 76 77 (.aload_n 0) 1 := by unfold dk; decide +kernel
theorem dX7_spreadsPerfectly_77 : dk cX7_spreadsPerfectly 77 80 (.getfield 9) 3 := by unfold dk; decide +kernel
theorem dX7_spreadsPerfectly_80 : dk cX7_spreadsPerfectly 80 82 (.bipush 18) 2 := by unfold dk; decide +kernel
theorem dX7_spreadsPerfectly_82 : dk cX7_spreadsPerfectly 82 83 (.iaload) 1 := by unfold dk; decide +kernel
theorem dX7_spreadsPerfectly_83 : dk cX7_spreadsPerfectly 83 86 (.invokevirtual 191) 3 := by unfold dk; decide +kernel
theorem dX7_spreadsPerfectly_86 : dk cX7_spreadsPerfectly 86 87 (.iconst 0) 1 := by unfold dk; decide +kernel
theorem dX7_spreadsPerfectly_87 : dk cX7_spreadsPerfectly 87 89 (.istore 4) 2 := by unfold dk; decide +kernel
theorem dX7_spreadsPerfectly_89 : dk cX7_spreadsPerfectly 89 91 (.iload 4) 2 := by unfold dk; decide +kernel
theorem dX7_spreadsPerfectly_91 : dk cX7_spreadsPerfectly 91 92 (.iload_n 1) 1 := by unfold dk; decide +kernel
theorem dX7_spreadsPerfectly_95 : dk cX7_spreadsPerfectly 95 96 (.aload_n 0) 1 := by unfold dk; decide +kernel
theorem dX7_spreadsPerfectly_96 : dk cX7_spreadsPerfectly 96 99 (.getfield 42) 3 := by unfold dk; decide +kernel
theorem dX7_spreadsPerfectly_99 : dk cX7_spreadsPerfectly 99 101 (.iload 4) 2 := by unfold dk; decide +kernel
theorem dX7_spreadsPerfectly_101 : dk cX7_spreadsPerfectly 101 102 (.iconst 0) 1 := by unfold dk; decide +kernel
theorem dX7_spreadsPerfectly_102 : dk cX7_spreadsPerfectly 102 103 (.iastore) 1 := by unfold dk; decide +kernel
theorem dX7_spreadsPerfectly_103 : dk cX7_spreadsPerfectly 103 106 (.iinc 4 1) 3 := by unfold dk; decide +kernel
theorem dX7_spreadsPerfectly_106 : bk cX7_spreadsPerfectly 106 109 89 (.goto (-17)) (-17) := by unfold bk; decide +kernel
theorem dX7_spreadsPerfectly_92 : bk cX7_spreadsPerfectly 92 95 109 (.if_icmp .ge 17) (17) := by unfold bk; decide +kernel
theorem dX7_spreadsPerfectly_109 : dk cX7_spreadsPerfectly 109 110 (.iconst 0) 1 := by unfold dk; decide +kernel
theorem dX7_spreadsPerfectly_110 : dk cX7_spreadsPerfectly 110 112 (.istore 4) 2 := by unfold dk; decide +kernel
theorem dX7_spreadsPerfectly_112 : dk cX7_spreadsPerfectly 112 114 (.iload 4) 2 := by unfold dk; decide +kernel
theorem dX7_spreadsPerfectly_114 : dk cX7_spreadsPerfectly 114 115 (.iload_n 2) 1 := by unfold dk; decide +kernel
theorem dX7_spreadsPerfectly_118 : dk cX7_spreadsPerfectly 118 119 (.iconst 0) 1 := by unfold dk; decide +kernel
theorem dX7_spreadsPerfectly_119 : dk cX7_spreadsPerfectly 119 121 (.istore 5) 2 := by unfold dk; decide +kernel
theorem dX7_spreadsPerfectly_121 : dk cX7_spreadsPerfectly 121 122 (.iconst 1) 1 := by unfold dk; decide +kernel
theorem dX7_spreadsPerfectly_122 : dk cX7_spreadsPerfectly 122 124 (.istore 6) 2 := by unfold dk; decide +kernel
theorem dX7_spreadsPerfectly_124 : dk cX7_spreadsPerfectly 124 126 (.iload 6) 2 := by unfold dk; decide +kernel
theorem dX7_spreadsPerfectly_126 : dk cX7_spreadsPerfectly 126 127 (.iload_n 1) 1 := by unfold dk; decide +kernel
theorem dX7_spreadsPerfectly_130 : dk cX7_spreadsPerfectly 130 131 (.aload_n 0) 1 := by unfold dk; decide +kernel
theorem dX7_spreadsPerfectly_131 : dk cX7_spreadsPerfectly 131 133 (.iload 6) 2 := by unfold dk; decide +kernel
theorem dX7_spreadsPerfectly_133 : dk cX7_spreadsPerfectly 133 136 (.invokevirtual 194) 3 := by unfold dk; decide +kernel
theorem dX7_spreadsPerfectly_136 : dk cX7_spreadsPerfectly 136 137 (.aload_n 0) 1 := by unfold dk; decide +kernel
theorem dX7_spreadsPerfectly_137 : dk cX7_spreadsPerfectly 137 139 (.iload 5) 2 := by unfold dk; decide +kernel
theorem dX7_spreadsPerfectly_139 : dk cX7_spreadsPerfectly 139 142 (.invokevirtual 194) 3 := by unfold dk; decide +kernel
theorem dX7_spreadsPerfectly_142 : bk cX7_spreadsPerfectly 142 145 149 (.if_icmp .le 7) (7) := by unfold bk; decide +kernel
theorem dX7_spreadsPerfectly_145 : dk cX7_spreadsPerfectly 145 147 (.iload 6) 2 := by unfold dk; decide +kernel
theorem dX7_spreadsPerfectly_147 : dk cX7_spreadsPerfectly 147 149 (.istore 5) 2 := by unfold dk; decide +kernel
theorem dX7_spreadsPerfectly_149 : dk cX7_spreadsPerfectly 149 152 (.iinc 6 1) 3 := by unfold dk; decide +kernel
theorem dX7_spreadsPerfectly_152 : bk cX7_spreadsPerfectly 152 155 124 (.goto (-28)) (-28) := by unfold bk; decide +kernel
theorem dX7_spreadsPerfectly_127 : bk cX7_spreadsPerfectly 127 130 155 (.if_icmp .ge 28) (28) := by unfold bk; decide +kernel
theorem dX7_spreadsPerfectly_155 : dk cX7_spreadsPerfectly 155 156 (.aload_n 0) 1 := by unfold dk; decide +kernel
theorem dX7_spreadsPerfectly_156 : dk cX7_spreadsPerfectly 156 159 (.getfield 42) 3 := by unfold dk; decide +kernel
theorem dX7_spreadsPerfectly_159 : dk cX7_spreadsPerfectly 159 161 (.iload 5) 2 := by unfold dk; decide +kernel
theorem dX7_spreadsPerfectly_161 : dk cX7_spreadsPerfectly 161 162 (.dup2) 1 := by unfold dk; decide +kernel
theorem dX7_spreadsPerfectly_162 : dk cX7_spreadsPerfectly 162 163 (.iaload) 1 := by unfold dk; decide +kernel
theorem dX7_spreadsPerfectly_163 : dk cX7_spreadsPerfectly 163 164 (.iconst 1) 1 := by unfold dk; decide +kernel
theorem dX7_spreadsPerfectly_164 : dk cX7_spreadsPerfectly 164 165 (.iadd) 1 := by unfold dk; decide +kernel
theorem dX7_spreadsPerfectly_165 : dk cX7_spreadsPerfectly 165 166 (.iastore) 1 := by unfold dk; decide +kernel
theorem dX7_spreadsPerfectly_166 : dk cX7_spreadsPerfectly 166 167 (.aload_n 0) 1 := by unfold dk; decide +kernel
theorem dX7_spreadsPerfectly_167 : dk cX7_spreadsPerfectly 167 169 (.iload 5) 2 := by unfold dk; decide +kernel
theorem dX7_spreadsPerfectly_169 : dk cX7_spreadsPerfectly 169 171 (.iload 4) 2 := by unfold dk; decide +kernel
theorem dX7_spreadsPerfectly_171 : dk cX7_spreadsPerfectly 171 174 (.invokevirtual 197) 3 := by unfold dk; decide +kernel
theorem dX7_spreadsPerfectly_174 : dk cX7_spreadsPerfectly 174 177 (.iinc 4 1) 3 := by unfold dk; decide +kernel
theorem dX7_spreadsPerfectly_177 : bk cX7_spreadsPerfectly 177 180 112 (.goto (-65)) (-65) := by unfold bk; decide +kernel
theorem dX7_spreadsPerfectly_115 : bk cX7_spreadsPerfectly 115 118 180 (.if_icmp .ge 65) (65) := by unfold bk; decide +kernel
theorem dX7_spreadsPerfectly_180 : dk cX7_spreadsPerfectly 180 181 (.aload_n 0) 1 := by unfold dk; decide +kernel
theorem dX7_spreadsPerfectly_181 : dk cX7_spreadsPerfectly 181 184 (.getfield 9) 3 := by unfold dk; decide +kernel
theorem dX7_spreadsPerfectly_184 : dk cX7_spreadsPerfectly 184 186 (.bipush 13) 2 := by unfold dk; decide +kernel
theorem dX7_spreadsPerfectly_186 : dk cX7_spreadsPerfectly 186 187 (.iload_n 1) 1 := by unfold dk; decide +kernel
theorem dX7_spreadsPerfectly_187 : dk cX7_spreadsPerfectly 187 188 (.iastore) 1 := by unfold dk; decide +kernel
theorem dX7_spreadsPerfectly_188 : dk cX7_spreadsPerfectly 188 189 (.return_) 1 := by unfold dk; decide +kernel
set_option maxHeartbeats 4000000 in
set_option maxRecDepth 100000 in
theorem kX7_spreadsPerfectly {l : Launch} {G : Gl} {E : En} {a0 : Nat} {σ σ' : Sg} : fX7_spreadsPerfectly E a0 σ = some σ' → CT l yX7_spreadsPerfectly cX7_spreadsPerfectly 7 none ({ frames := 2, cells := 0, slots := 0, locals := 48 } : Room) [.ref (G.1 + a0)] G E σ none σ' := by
  intro h
  refine CT_of (lv0 := [(0, .ref (G.1 + a0))]) (by decide) (Nat.le_of_ble_eq_true rfl) rfl (fun κ hl hR hr C => ?_)
  have C : Cx κ G cX7_spreadsPerfectly RX7 7 := C
  revert h
  unfold fX7_spreadsPerfectly
  refine R_tk (fun ha0 => ?_)
  refine R_aload_n C 0 rfl dX7_spreadsPerfectly_0 ?_
  refine R_bd (fun r3 s1 q2 => ?_)
  refine R_callVi [] [] C ml7_155 (kX7_tapes q2) (by rw [hR]; exact ⟨rfl, rfl, Nat.le_of_ble_eq_true rfl, Nat.le_of_ble_eq_true rfl, Nat.zero_le _, Nat.zero_le _⟩) ha0 rfl rfl (Nat.le_of_ble_eq_true rfl) dX7_spreadsPerfectly_1 ?_
  refine R_iconst C (1) dX7_spreadsPerfectly_4 (by decide) ?_
  refine R_isub C dX7_spreadsPerfectly_5 ?_
  refine S_istore_n C dX7_spreadsPerfectly_6 rfl (fun v4 => [(1, .int v4), (0, .ref (G.1 + a0))]) (by decide) (fun _ => rfl) (fun v4 => ?_)
  refine R_aload_n C 1 rfl dX7_spreadsPerfectly_7 ?_
  refine R_dr (fun x5 rx5 cx5 => ?_)
  refine R_getr C fl7_9 rfl ha0 rx5 dX7_spreadsPerfectly_8 ?_
  refine R_bipush C (14) dX7_spreadsPerfectly_11 (by decide) ?_
  refine R_ck (fun h6 => ?_)
  refine R_iald C cx5 h6 dX7_spreadsPerfectly_13 ?_
  refine S_istore_n C dX7_spreadsPerfectly_14 rfl (fun v7 => [(2, .int v7), (1, .int v4), (0, .ref (G.1 + a0))]) (by decide) (fun _ => rfl) (fun v7 => ?_)
  refine R_iconst C (0) dX7_spreadsPerfectly_15 (by decide) ?_
  refine R_istore_n (lv2 := [(3, .int (0 : Int32)), (2, .int v7), (1, .int v4), (0, .ref (G.1 + a0))]) C dX7_spreadsPerfectly_16 rfl (by decide) rfl ?_
  refine R_aload_n C 3 rfl dX7_spreadsPerfectly_17 ?_
  refine R_iconst C (0) dX7_spreadsPerfectly_18 (by decide) ?_
  refine R_aload_n C 3 rfl dX7_spreadsPerfectly_19 ?_
  refine R_bd (fun r10 s8 q9 => ?_)
  refine R_callVi [] [.int (0 : Int32), .ref (G.1 + a0)] C ml7_158 (kX7_way q9) (by rw [hR]; exact ⟨rfl, rfl, Nat.le_of_ble_eq_true rfl, Nat.le_of_ble_eq_true rfl, Nat.zero_le _, Nat.zero_le _⟩) ha0 rfl rfl (Nat.le_of_ble_eq_true rfl) dX7_spreadsPerfectly_20 ?_
  refine R_iload_n C 2 rfl dX7_spreadsPerfectly_23 ?_
  refine R_bv (fun s11 q12 => ?_)
  refine R_callVv [.int (0 : Int32), .int r10, .int v4] [] C ml7_161 (kX7_laysPerfect q12) (by rw [hR]; exact ⟨rfl, rfl, Nat.le_of_ble_eq_true rfl, Nat.le_of_ble_eq_true rfl, Nat.zero_le _, Nat.zero_le _⟩) ha0 rfl rfl (Nat.le_of_ble_eq_true rfl) dX7_spreadsPerfectly_24 ?_
  refine R_loc (lv2 := [(2, .int v7), (1, .int v4), (0, .ref (G.1 + a0)), (3, .int (0 : Int32))]) [1, 2, 3, 0] rfl ?_
  refine R_loop (fun (a : (Int32) × Sg) => V κ G (QQ κ G E none σ') E a.2 (false, 0, 0) 27 [(2, .int v7), (1, .int v4), (0, .ref (G.1 + a0)), (3, .int a.1)] []) (fun (o : (Int32)) (s : Sg) => V κ G (QQ κ G E none σ') E s (false, 0, 0) 52 [(2, .int v7), (1, .int v4), (0, .ref (G.1 + a0)), (3, .int o)] []) ((0 : Int32), s11) (fun o28 s29 => ?_) (fun rec I18 a b16 s17 K15 => ?_)
  · refine R_aload_n C 2 rfl dX7_spreadsPerfectly_52 ?_
    refine R_getr C fl7_9 rfl ha0 rx5 dX7_spreadsPerfectly_53 ?_
    refine R_bipush C (19) dX7_spreadsPerfectly_56 (by decide) ?_
    refine R_iload_n C 3 rfl dX7_spreadsPerfectly_58 ?_
    refine R_ck (fun h30 => ?_)
    refine S_iast C cx5 h30 dX7_spreadsPerfectly_59 (fun s31 => ?_)
    refine R_aload_n C 2 rfl dX7_spreadsPerfectly_60 ?_
    refine R_getr C fl7_9 rfl ha0 rx5 dX7_spreadsPerfectly_61 ?_
    refine R_bipush C (18) dX7_spreadsPerfectly_64 (by decide) ?_
    refine R_aload_n C 2 rfl dX7_spreadsPerfectly_66 ?_
    refine R_iload_n C 1 rfl dX7_spreadsPerfectly_67 ?_
    refine R_bd (fun r34 s32 q33 => ?_)
    refine R_callVi [.int v4] [.int (18 : Int32), .ref (G.1 + x5)] C ml7_165 (kX7_allPerfect q33) (by rw [hR]; exact ⟨rfl, rfl, Nat.le_of_ble_eq_true rfl, Nat.le_of_ble_eq_true rfl, Nat.zero_le _, Nat.zero_le _⟩) ha0 rfl rfl (Nat.le_of_ble_eq_true rfl) dX7_spreadsPerfectly_68 ?_
    refine R_iload_n C 0 rfl dX7_spreadsPerfectly_71 ?_
    refine R_isub C dX7_spreadsPerfectly_72 ?_
    refine R_ck (fun h35 => ?_)
    refine S_iast C cx5 h35 dX7_spreadsPerfectly_73 (fun s36 => ?_)
    refine R_aload_n C 2 rfl dX7_spreadsPerfectly_74 ?_
    refine R_iload_n C 1 rfl dX7_spreadsPerfectly_75 ?_
    refine R_aload_n C 2 rfl dX7_spreadsPerfectly_76 ?_
    refine R_getr C fl7_9 rfl ha0 rx5 dX7_spreadsPerfectly_77 ?_
    refine R_bipush C (18) dX7_spreadsPerfectly_80 (by decide) ?_
    refine R_ck (fun h37 => ?_)
    refine R_iald C cx5 h37 dX7_spreadsPerfectly_82 ?_
    refine R_bv (fun s38 q39 => ?_)
    refine R_callVv [.int v4, .int (gi s36 x5 (18 : Int32).toNatClampNeg)] [] C ml7_191 (kX7_dealsDummies q39) (by rw [hR]; exact ⟨rfl, rfl, Nat.le_of_ble_eq_true rfl, Nat.le_of_ble_eq_true rfl, Nat.zero_le _, Nat.zero_le _⟩) ha0 rfl rfl (Nat.le_of_ble_eq_true rfl) dX7_spreadsPerfectly_83 ?_
    refine R_iconst C (0) dX7_spreadsPerfectly_86 (by decide) ?_
    refine R_istore (lv2 := [(4, .int (0 : Int32)), (2, .int v7), (1, .int v4), (0, .ref (G.1 + a0)), (3, .int o28)]) C dX7_spreadsPerfectly_87 (by decide) rfl ?_
    refine R_loc (lv2 := [(2, .int v7), (1, .int v4), (0, .ref (G.1 + a0)), (4, .int (0 : Int32))]) [1, 2, 3, 0] rfl ?_
    refine R_loop (fun (a : (Int32) × Sg) => V κ G (QQ κ G E none σ') E a.2 (false, 0, 0) 89 [(2, .int v7), (1, .int v4), (0, .ref (G.1 + a0)), (4, .int a.1)] []) (fun (o : (Int32)) (s : Sg) => V κ G (QQ κ G E none σ') E s (false, 0, 0) 109 [(2, .int v7), (1, .int v4), (0, .ref (G.1 + a0))] []) ((0 : Int32), s38) (fun o50 s51 => ?_) (fun rec I45 a b43 s44 K42 => ?_)
    · refine R_iconst C (0) dX7_spreadsPerfectly_109 (by decide) ?_
      refine R_istore (lv2 := [(4, .int (0 : Int32)), (2, .int v7), (1, .int v4), (0, .ref (G.1 + a0))]) C dX7_spreadsPerfectly_110 (by decide) rfl ?_
      refine R_loc (lv2 := [(2, .int v7), (1, .int v4), (0, .ref (G.1 + a0)), (4, .int (0 : Int32))]) [1, 2, 3, 0] rfl ?_
      refine R_loop (fun (a : (Int32) × Sg) => V κ G (QQ κ G E none σ') E a.2 (false, 0, 0) 112 [(2, .int v7), (1, .int v4), (0, .ref (G.1 + a0)), (4, .int a.1)] []) (fun (o : (Int32)) (s : Sg) => V κ G (QQ κ G E none σ') E s (false, 0, 0) 180 [(1, .int v4), (0, .ref (G.1 + a0))] []) ((0 : Int32), s51) (fun o83 s84 => ?_) (fun rec I57 a b55 s56 K54 => ?_)
      · refine R_aload_n C 1 rfl dX7_spreadsPerfectly_180 ?_
        refine R_getr C fl7_9 rfl ha0 rx5 dX7_spreadsPerfectly_181 ?_
        refine R_bipush C (13) dX7_spreadsPerfectly_184 (by decide) ?_
        refine R_iload_n C 0 rfl dX7_spreadsPerfectly_186 ?_
        refine R_ck (fun h85 => ?_)
        refine S_iast C cx5 h85 dX7_spreadsPerfectly_187 (fun s86 => ?_)
        exact R_vret C hr dX7_spreadsPerfectly_188
      · obtain ⟨v52, s53⟩ := a
        show bX7_spreadsPerfectly_112 E v7 v4 a0 (fun u0 t => rec (u0, t)) v52 s53 = some (b55, s56) → V κ G (QQ κ G E none σ') E s53 (false, 0, 0) 112 [(2, .int v7), (1, .int v4), (0, .ref (G.1 + a0)), (4, .int v52)] []
        unfold bX7_spreadsPerfectly_112
        refine R_iload C 3 rfl dX7_spreadsPerfectly_112 ?_
        refine R_iload_n C 0 rfl dX7_spreadsPerfectly_114 ?_
        refine B_icmp_ge C dX7_spreadsPerfectly_115 ?_ ?_
        · refine R_loc (lv2 := [(1, .int v4), (0, .ref (G.1 + a0))]) [1, 2] rfl ?_
          exact R_end (fun (o : (Int32)) (s : Sg) => V κ G (QQ κ G E none σ') E s (false, 0, 0) 180 [(1, .int v4), (0, .ref (G.1 + a0))] []) K54
        · refine R_iconst C (0) dX7_spreadsPerfectly_118 (by decide) ?_
          refine R_istore (lv2 := [(5, .int (0 : Int32)), (2, .int v7), (1, .int v4), (0, .ref (G.1 + a0)), (4, .int v52)]) C dX7_spreadsPerfectly_119 (by decide) rfl ?_
          refine R_iconst C (1) dX7_spreadsPerfectly_121 (by decide) ?_
          refine R_istore (lv2 := [(6, .int (1 : Int32)), (5, .int (0 : Int32)), (2, .int v7), (1, .int v4), (0, .ref (G.1 + a0)), (4, .int v52)]) C dX7_spreadsPerfectly_122 (by decide) rfl ?_
          refine R_loc (lv2 := [(2, .int v7), (1, .int v4), (0, .ref (G.1 + a0)), (4, .int v52), (5, .int (0 : Int32)), (6, .int (1 : Int32))]) [2, 3, 4, 5, 1, 0] rfl ?_
          refine R_loop (fun (a : (Int32 × Int32) × Sg) => V κ G (QQ κ G E none σ') E a.2 (false, 0, 0) 124 [(2, .int v7), (1, .int v4), (0, .ref (G.1 + a0)), (4, .int v52), (5, .int a.1.1), (6, .int a.1.2)] []) (fun (o : (Int32 × Int32)) (s : Sg) => V κ G (QQ κ G E none σ') E s (false, 0, 0) 155 [(2, .int v7), (1, .int v4), (0, .ref (G.1 + a0)), (4, .int v52), (5, .int o.1)] []) (((0 : Int32), (1 : Int32)), s53) (fun o74 s75 => ?_) (fun rec I64 a b62 s63 K61 => ?_)
          · refine R_aload_n C 2 rfl dX7_spreadsPerfectly_155 ?_
            refine R_dr (fun x76 rx76 cx76 => ?_)
            refine R_getr C fl7_42 rfl ha0 rx76 dX7_spreadsPerfectly_156 ?_
            refine R_iload C 4 rfl dX7_spreadsPerfectly_159 ?_
            refine R_dup2 C dX7_spreadsPerfectly_161 rfl rfl ?_
            refine R_ck (fun h77 => ?_)
            refine R_iald C cx76 h77 dX7_spreadsPerfectly_162 ?_
            refine R_iconst C (1) dX7_spreadsPerfectly_163 (by decide) ?_
            refine R_iadd C dX7_spreadsPerfectly_164 ?_
            refine R_ck (fun h78 => ?_)
            refine S_iast C cx76 h78 dX7_spreadsPerfectly_165 (fun s79 => ?_)
            refine R_aload_n C 2 rfl dX7_spreadsPerfectly_166 ?_
            refine R_iload C 4 rfl dX7_spreadsPerfectly_167 ?_
            refine R_iload C 3 rfl dX7_spreadsPerfectly_169 ?_
            refine R_bv (fun s80 q81 => ?_)
            refine R_callVv [.int o74.1, .int v52] [] C ml7_197 (kX7_dealsRun q81) (by rw [hR]; exact ⟨rfl, rfl, Nat.le_of_ble_eq_true rfl, Nat.le_of_ble_eq_true rfl, Nat.zero_le _, Nat.zero_le _⟩) ha0 rfl rfl (Nat.le_of_ble_eq_true rfl) dX7_spreadsPerfectly_171 ?_
            refine S_iinc (fun v82 => [(4, .int v82), (2, .int v7), (1, .int v4), (0, .ref (G.1 + a0)), (5, .int o74.1)]) 3 C dX7_spreadsPerfectly_174 rfl (by decide) (by decide) (fun _ => rfl) (fun v82 => ?_)
            refine R_goto C dX7_spreadsPerfectly_177 ?_
            refine R_loc (lv2 := [(2, .int v7), (1, .int v4), (0, .ref (G.1 + a0)), (4, .int v82)]) [1, 2, 3, 0] rfl ?_
            exact I57 (v82, s80) b55 s56 K54
          · obtain ⟨⟨v58, v59⟩, s60⟩ := a
            show bX7_spreadsPerfectly_124 E v4 a0 (fun u0 u1 t => rec ((u0, u1), t)) v58 v59 s60 = some (b62, s63) → V κ G (QQ κ G E none σ') E s60 (false, 0, 0) 124 [(2, .int v7), (1, .int v4), (0, .ref (G.1 + a0)), (4, .int v52), (5, .int v58), (6, .int v59)] []
            unfold bX7_spreadsPerfectly_124
            refine R_iload C 5 rfl dX7_spreadsPerfectly_124 ?_
            refine R_iload_n C 1 rfl dX7_spreadsPerfectly_126 ?_
            refine B_icmp_ge C dX7_spreadsPerfectly_127 ?_ ?_
            · refine R_loc (lv2 := [(2, .int v7), (1, .int v4), (0, .ref (G.1 + a0)), (4, .int v52), (5, .int v58)]) [0, 1, 2, 3, 4] rfl ?_
              exact R_end (fun (o : (Int32 × Int32)) (s : Sg) => V κ G (QQ κ G E none σ') E s (false, 0, 0) 155 [(2, .int v7), (1, .int v4), (0, .ref (G.1 + a0)), (4, .int v52), (5, .int o.1)] []) K61
            · refine R_aload_n C 2 rfl dX7_spreadsPerfectly_130 ?_
              refine R_iload C 5 rfl dX7_spreadsPerfectly_131 ?_
              refine R_bd (fun r67 s65 q66 => ?_)
              refine R_callVi [.int v59] [] C ml7_194 (kX7_placesLeft q66) (by rw [hR]; exact ⟨rfl, rfl, Nat.le_of_ble_eq_true rfl, Nat.le_of_ble_eq_true rfl, Nat.zero_le _, Nat.zero_le _⟩) ha0 rfl rfl (Nat.le_of_ble_eq_true rfl) dX7_spreadsPerfectly_133 ?_
              refine R_aload_n C 2 rfl dX7_spreadsPerfectly_136 ?_
              refine R_iload C 4 rfl dX7_spreadsPerfectly_137 ?_
              refine R_bd (fun r70 s68 q69 => ?_)
              refine R_callVi [.int v58] [.int r67] C ml7_194 (kX7_placesLeft q69) (by rw [hR]; exact ⟨rfl, rfl, Nat.le_of_ble_eq_true rfl, Nat.le_of_ble_eq_true rfl, Nat.zero_le _, Nat.zero_le _⟩) ha0 rfl rfl (Nat.le_of_ble_eq_true rfl) dX7_spreadsPerfectly_139 ?_
              refine R_bdK (fun (w : Int32) (s : Sg) => V κ G (QQ κ G E none σ') E s (false, 0, 0) 149 [(2, .int v7), (1, .int v4), (0, .ref (G.1 + a0)), (4, .int v52), (6, .int v59), (5, .int w)] []) (fun w71 s72 => ?_) (fun w71 s72 Kw71 => ?_)
              · refine S_iinc (fun v73 => [(6, .int v73), (2, .int v7), (1, .int v4), (0, .ref (G.1 + a0)), (4, .int v52), (5, .int w71)]) 4 C dX7_spreadsPerfectly_149 rfl (by decide) (by decide) (fun _ => rfl) (fun v73 => ?_)
                refine R_goto C dX7_spreadsPerfectly_152 ?_
                refine R_loc (lv2 := [(2, .int v7), (1, .int v4), (0, .ref (G.1 + a0)), (4, .int v52), (5, .int w71), (6, .int v73)]) [1, 2, 3, 4, 5, 0] rfl ?_
                exact I64 ((w71, v73), s72) b62 s63 K61
              · refine B_icmp_le C dX7_spreadsPerfectly_142 ?_ ?_
                · refine R_loc (lv2 := [(2, .int v7), (1, .int v4), (0, .ref (G.1 + a0)), (4, .int v52), (6, .int v59), (5, .int v58)]) [0, 1, 2, 3, 5, 4] rfl ?_
                  exact R_end (fun (w : Int32) (s : Sg) => V κ G (QQ κ G E none σ') E s (false, 0, 0) 149 [(2, .int v7), (1, .int v4), (0, .ref (G.1 + a0)), (4, .int v52), (6, .int v59), (5, .int w)] []) Kw71
                · refine R_iload C 5 rfl dX7_spreadsPerfectly_145 ?_
                  refine R_istore (lv2 := [(5, .int v59), (2, .int v7), (1, .int v4), (0, .ref (G.1 + a0)), (4, .int v52), (6, .int v59)]) C dX7_spreadsPerfectly_147 (by decide) rfl ?_
                  refine R_loc (lv2 := [(2, .int v7), (1, .int v4), (0, .ref (G.1 + a0)), (4, .int v52), (6, .int v59), (5, .int v59)]) [1, 2, 3, 4, 5, 0] rfl ?_
                  exact R_end (fun (w : Int32) (s : Sg) => V κ G (QQ κ G E none σ') E s (false, 0, 0) 149 [(2, .int v7), (1, .int v4), (0, .ref (G.1 + a0)), (4, .int v52), (6, .int v59), (5, .int w)] []) Kw71
    · obtain ⟨v40, s41⟩ := a
      show bX7_spreadsPerfectly_89 E v4 a0 (fun u0 t => rec (u0, t)) v40 s41 = some (b43, s44) → V κ G (QQ κ G E none σ') E s41 (false, 0, 0) 89 [(2, .int v7), (1, .int v4), (0, .ref (G.1 + a0)), (4, .int v40)] []
      unfold bX7_spreadsPerfectly_89
      refine R_iload C 3 rfl dX7_spreadsPerfectly_89 ?_
      refine R_iload_n C 1 rfl dX7_spreadsPerfectly_91 ?_
      refine B_icmp_ge C dX7_spreadsPerfectly_92 ?_ ?_
      · refine R_loc (lv2 := [(2, .int v7), (1, .int v4), (0, .ref (G.1 + a0))]) [0, 1, 2] rfl ?_
        exact R_end (fun (o : (Int32)) (s : Sg) => V κ G (QQ κ G E none σ') E s (false, 0, 0) 109 [(2, .int v7), (1, .int v4), (0, .ref (G.1 + a0))] []) K42
      · refine R_aload_n C 2 rfl dX7_spreadsPerfectly_95 ?_
        refine R_dr (fun x46 rx46 cx46 => ?_)
        refine R_getr C fl7_42 rfl ha0 rx46 dX7_spreadsPerfectly_96 ?_
        refine R_iload C 3 rfl dX7_spreadsPerfectly_99 ?_
        refine R_iconst C (0) dX7_spreadsPerfectly_101 (by decide) ?_
        refine R_ck (fun h47 => ?_)
        refine S_iast C cx46 h47 dX7_spreadsPerfectly_102 (fun s48 => ?_)
        refine S_iinc (fun v49 => [(4, .int v49), (2, .int v7), (1, .int v4), (0, .ref (G.1 + a0))]) 3 C dX7_spreadsPerfectly_103 rfl (by decide) (by decide) (fun _ => rfl) (fun v49 => ?_)
        refine R_goto C dX7_spreadsPerfectly_106 ?_
        refine R_loc (lv2 := [(2, .int v7), (1, .int v4), (0, .ref (G.1 + a0)), (4, .int v49)]) [1, 2, 3, 0] rfl ?_
        exact I45 (v49, s48) b43 s44 K42
  · obtain ⟨v13, s14⟩ := a
    show bX7_spreadsPerfectly_27 E a0 v4 v7 (fun u0 t => rec (u0, t)) v13 s14 = some (b16, s17) → V κ G (QQ κ G E none σ') E s14 (false, 0, 0) 27 [(2, .int v7), (1, .int v4), (0, .ref (G.1 + a0)), (3, .int v13)] []
    unfold bX7_spreadsPerfectly_27
    refine R_aload_n C 2 rfl dX7_spreadsPerfectly_27 ?_
    refine R_iload_n C 1 rfl dX7_spreadsPerfectly_28 ?_
    refine R_bd (fun r21 s19 q20 => ?_)
    refine R_callVi [.int v4] [] C ml7_165 (kX7_allPerfect q20) (by rw [hR]; exact ⟨rfl, rfl, Nat.le_of_ble_eq_true rfl, Nat.le_of_ble_eq_true rfl, Nat.zero_le _, Nat.zero_le _⟩) ha0 rfl rfl (Nat.le_of_ble_eq_true rfl) dX7_spreadsPerfectly_29 ?_
    refine R_iload_n C 0 rfl dX7_spreadsPerfectly_32 ?_
    refine B_icmp_ge C dX7_spreadsPerfectly_33 ?_ ?_
    · exact R_end (fun (o : (Int32)) (s : Sg) => V κ G (QQ κ G E none σ') E s (false, 0, 0) 52 [(2, .int v7), (1, .int v4), (0, .ref (G.1 + a0)), (3, .int o)] []) K15
    · refine S_iinc (fun v22 => [(3, .int v22), (2, .int v7), (1, .int v4), (0, .ref (G.1 + a0))]) 3 C dX7_spreadsPerfectly_36 rfl (by decide) (by decide) (fun _ => rfl) (fun v22 => ?_)
      refine R_aload_n C 3 rfl dX7_spreadsPerfectly_39 ?_
      refine R_iload_n C 0 rfl dX7_spreadsPerfectly_40 ?_
      refine R_aload_n C 3 rfl dX7_spreadsPerfectly_41 ?_
      refine R_bd (fun r25 s23 q24 => ?_)
      refine R_callVi [] [.int v22, .ref (G.1 + a0)] C ml7_158 (kX7_way q24) (by rw [hR]; exact ⟨rfl, rfl, Nat.le_of_ble_eq_true rfl, Nat.le_of_ble_eq_true rfl, Nat.zero_le _, Nat.zero_le _⟩) ha0 rfl rfl (Nat.le_of_ble_eq_true rfl) dX7_spreadsPerfectly_42 ?_
      refine R_iload_n C 2 rfl dX7_spreadsPerfectly_45 ?_
      refine R_bv (fun s26 q27 => ?_)
      refine R_callVv [.int v22, .int r25, .int v4] [] C ml7_161 (kX7_laysPerfect q27) (by rw [hR]; exact ⟨rfl, rfl, Nat.le_of_ble_eq_true rfl, Nat.le_of_ble_eq_true rfl, Nat.zero_le _, Nat.zero_le _⟩) ha0 rfl rfl (Nat.le_of_ble_eq_true rfl) dX7_spreadsPerfectly_46 ?_
      refine R_goto C dX7_spreadsPerfectly_49 ?_
      refine R_loc (lv2 := [(2, .int v7), (1, .int v4), (0, .ref (G.1 + a0)), (3, .int v22)]) [1, 2, 3, 0] rfl ?_
      exact I18 (v22, s26) b16 s17 K15
theorem dX7_beginsPass_0 : dk cX7_beginsPass 0 1 (.aload_n 0) 1 := by unfold dk; decide +kernel
theorem dX7_beginsPass_1 : dk cX7_beginsPass 1 4 (.getfield 9) 3 := by unfold dk; decide +kernel
theorem dX7_beginsPass_4 : dk cX7_beginsPass 4 6 (.bipush 15) 2 := by unfold dk; decide +kernel
theorem dX7_beginsPass_6 : dk cX7_beginsPass 6 7 (.iconst 0) 1 := by unfold dk; decide +kernel
theorem dX7_beginsPass_7 : dk cX7_beginsPass 7 8 (.iastore) 1 := by unfold dk; decide +kernel
theorem dX7_beginsPass_8 : dk cX7_beginsPass 8 9 (.iconst 0) 1 := by unfold dk; decide +kernel
theorem dX7_beginsPass_9 : dk cX7_beginsPass 9 10 (.istore_n 1) 1 := by unfold dk; decide +kernel
theorem dX7_beginsPass_10 : dk cX7_beginsPass 10 11 (.iload_n 1) 1 := by unfold dk; decide +kernel
theorem dX7_beginsPass_11 : dk cX7_beginsPass 11 12 (.aload_n 0) 1 := by unfold dk; decide +kernel
theorem dX7_beginsPass_12 : dk cX7_beginsPass 12 15 (.invokevirtual 155) 3 := by unfold dk; decide +kernel
theorem dX7_beginsPass_18 : dk cX7_beginsPass 18 19 (.aload_n 0) 1 := by unfold dk; decide +kernel
theorem dX7_beginsPass_19 : dk cX7_beginsPass 19 22 (.getfield 9) 3 := by unfold dk; decide +kernel
theorem dX7_beginsPass_22 : dk cX7_beginsPass 22 24 (.bipush 15) 2 := by unfold dk; decide +kernel
theorem dX7_beginsPass_24 : dk cX7_beginsPass 24 25 (.dup2) 1 := by unfold dk; decide +kernel
theorem dX7_beginsPass_25 : dk cX7_beginsPass 25 26 (.iaload) 1 := by unfold dk; decide +kernel
theorem dX7_beginsPass_26 : dk cX7_beginsPass 26 27 (.aload_n 0) 1 := by unfold dk; decide +kernel
theorem dX7_beginsPass_27 : dk cX7_beginsPass 27 30 (.getfield 9) 3 := by unfold dk; decide +kernel
theorem dX7_beginsPass_30 : dk cX7_beginsPass 30 32 (.bipush 20) 2 := by unfold dk; decide +kernel
theorem dX7_beginsPass_32 : dk cX7_beginsPass 32 33 (.iload_n 1) 1 := by unfold dk; decide +kernel
theorem dX7_beginsPass_33 : dk cX7_beginsPass 33 34 (.iadd) 1 := by unfold dk; decide +kernel
theorem dX7_beginsPass_34 : dk cX7_beginsPass 34 35 (.iaload) 1 := by unfold dk; decide +kernel
theorem dX7_beginsPass_35 : bk cX7_beginsPass 35 38 42 (.ifCond .le 7) (7) := by unfold bk; decide +kernel
theorem dX7_beginsPass_42 : dk cX7_beginsPass 42 43 (.iconst 0) 1 := by unfold dk; decide +kernel
theorem dX7_beginsPass_38 : dk cX7_beginsPass 38 39 (.iconst 1) 1 := by unfold dk; decide +kernel
theorem dX7_beginsPass_39 : bk cX7_beginsPass 39 42 43 (.goto 4) (4) := by unfold bk; decide +kernel
theorem dX7_beginsPass_43 : dk cX7_beginsPass 43 46 (.invokestatic 151) 3 := by unfold dk; decide +kernel
theorem dX7_beginsPass_46 : dk cX7_beginsPass 46 47 (.iload_n 1) 1 := by unfold dk; decide +kernel
theorem dX7_beginsPass_47 : dk cX7_beginsPass 47 48 (.ishl) 1 := by unfold dk; decide +kernel
theorem dX7_beginsPass_48 : dk cX7_beginsPass 48 49 (.ior) 1 := by unfold dk; decide +kernel
theorem dX7_beginsPass_49 : dk cX7_beginsPass 49 50 (.iastore) 1 := by unfold dk; decide +kernel
theorem dX7_beginsPass_50 : dk cX7_beginsPass 50 53 (.iinc 1 1) 3 := by unfold dk; decide +kernel
theorem dX7_beginsPass_53 : bk cX7_beginsPass 53 56 10 (.goto (-43)) (-43) := by unfold bk; decide +kernel
theorem dX7_beginsPass_15 : bk cX7_beginsPass 15 18 56 (.if_icmp .ge 41) (41) := by unfold bk; decide +kernel
theorem dX7_beginsPass_56 : dk cX7_beginsPass 56 57 (.aload_n 0) 1 := by unfold dk; decide +kernel
theorem dX7_beginsPass_57 : dk cX7_beginsPass 57 60 (.getfield 9) 3 := by unfold dk; decide +kernel
theorem dX7_beginsPass_60 : dk cX7_beginsPass 60 62 (.bipush 16) 2 := by unfold dk; decide +kernel
theorem dX7_beginsPass_62 : dk cX7_beginsPass 62 63 (.iconst 1) 1 := by unfold dk; decide +kernel
theorem dX7_beginsPass_63 : dk cX7_beginsPass 63 64 (.aload_n 0) 1 := by unfold dk; decide +kernel
theorem dX7_beginsPass_64 : dk cX7_beginsPass 64 67 (.getfield 9) 3 := by unfold dk; decide +kernel
theorem dX7_beginsPass_67 : dk cX7_beginsPass 67 69 (.bipush 13) 2 := by unfold dk; decide +kernel
theorem dX7_beginsPass_69 : dk cX7_beginsPass 69 70 (.iaload) 1 := by unfold dk; decide +kernel
theorem dX7_beginsPass_70 : dk cX7_beginsPass 70 71 (.ishl) 1 := by unfold dk; decide +kernel
theorem dX7_beginsPass_71 : dk cX7_beginsPass 71 72 (.iastore) 1 := by unfold dk; decide +kernel
theorem dX7_beginsPass_72 : dk cX7_beginsPass 72 73 (.return_) 1 := by unfold dk; decide +kernel
set_option maxHeartbeats 4000000 in
set_option maxRecDepth 100000 in
theorem kX7_beginsPass {l : Launch} {G : Gl} {E : En} {a0 : Nat} {σ σ' : Sg} : fX7_beginsPass E a0 σ = some σ' → CT l yX7_beginsPass cX7_beginsPass 2 none ({ frames := 1, cells := 0, slots := 0, locals := 20 } : Room) [.ref (G.1 + a0)] G E σ none σ' := by
  intro h
  refine CT_of (lv0 := [(0, .ref (G.1 + a0))]) (by decide) (Nat.le_of_ble_eq_true rfl) rfl (fun κ hl hR hr C => ?_)
  have C : Cx κ G cX7_beginsPass RX7 2 := C
  revert h
  unfold fX7_beginsPass
  refine R_tk (fun ha0 => ?_)
  refine R_aload_n C 0 rfl dX7_beginsPass_0 ?_
  refine R_dr (fun x1 rx1 cx1 => ?_)
  refine R_getr C fl7_9 rfl ha0 rx1 dX7_beginsPass_1 ?_
  refine R_bipush C (15) dX7_beginsPass_4 (by decide) ?_
  refine R_iconst C (0) dX7_beginsPass_6 (by decide) ?_
  refine R_ck (fun h2 => ?_)
  refine S_iast C cx1 h2 dX7_beginsPass_7 (fun s3 => ?_)
  refine R_iconst C (0) dX7_beginsPass_8 (by decide) ?_
  refine R_istore_n (lv2 := [(1, .int (0 : Int32)), (0, .ref (G.1 + a0))]) C dX7_beginsPass_9 rfl (by decide) rfl ?_
  refine R_loc (lv2 := [(0, .ref (G.1 + a0)), (1, .int (0 : Int32))]) [1, 0] rfl ?_
  refine R_loop (fun (a : (Int32) × Sg) => V κ G (QQ κ G E none σ') E a.2 (false, 0, 0) 10 [(0, .ref (G.1 + a0)), (1, .int a.1)] []) (fun (o : (Int32)) (s : Sg) => V κ G (QQ κ G E none σ') E s (false, 0, 0) 56 [(0, .ref (G.1 + a0))] []) ((0 : Int32), s3) (fun o23 s24 => ?_) (fun rec I9 a b7 s8 K6 => ?_)
  · refine R_aload_n C 0 rfl dX7_beginsPass_56 ?_
    refine R_getr C fl7_9 rfl ha0 rx1 dX7_beginsPass_57 ?_
    refine R_bipush C (16) dX7_beginsPass_60 (by decide) ?_
    refine R_iconst C (1) dX7_beginsPass_62 (by decide) ?_
    refine R_aload_n C 0 rfl dX7_beginsPass_63 ?_
    refine R_getr C fl7_9 rfl ha0 rx1 dX7_beginsPass_64 ?_
    refine R_bipush C (13) dX7_beginsPass_67 (by decide) ?_
    refine R_ck (fun h25 => ?_)
    refine R_iald C cx1 h25 dX7_beginsPass_69 ?_
    refine R_ishl C dX7_beginsPass_70 ?_
    refine R_ck (fun h26 => ?_)
    refine S_iast C cx1 h26 dX7_beginsPass_71 (fun s27 => ?_)
    exact R_vret C hr dX7_beginsPass_72
  · obtain ⟨v4, s5⟩ := a
    show bX7_beginsPass_10 E a0 x1 (fun u0 t => rec (u0, t)) v4 s5 = some (b7, s8) → V κ G (QQ κ G E none σ') E s5 (false, 0, 0) 10 [(0, .ref (G.1 + a0)), (1, .int v4)] []
    unfold bX7_beginsPass_10
    refine R_iload_n C 1 rfl dX7_beginsPass_10 ?_
    refine R_aload_n C 0 rfl dX7_beginsPass_11 ?_
    refine R_bd (fun r12 s10 q11 => ?_)
    refine R_callVi [] [.int v4] C ml7_155 (kX7_tapes q11) (by rw [hR]; exact ⟨rfl, rfl, Nat.le_of_ble_eq_true rfl, Nat.le_of_ble_eq_true rfl, Nat.zero_le _, Nat.zero_le _⟩) ha0 rfl rfl (Nat.le_of_ble_eq_true rfl) dX7_beginsPass_12 ?_
    refine B_icmp_ge C dX7_beginsPass_15 ?_ ?_
    · refine R_loc (lv2 := [(0, .ref (G.1 + a0))]) [0] rfl ?_
      exact R_end (fun (o : (Int32)) (s : Sg) => V κ G (QQ κ G E none σ') E s (false, 0, 0) 56 [(0, .ref (G.1 + a0))] []) K6
    · refine R_aload_n C 0 rfl dX7_beginsPass_18 ?_
      refine R_getr C fl7_9 rfl ha0 rx1 dX7_beginsPass_19 ?_
      refine R_bipush C (15) dX7_beginsPass_22 (by decide) ?_
      refine R_dup2 C dX7_beginsPass_24 rfl rfl ?_
      refine R_ck (fun h13 => ?_)
      refine R_iald C cx1 h13 dX7_beginsPass_25 ?_
      refine R_aload_n C 0 rfl dX7_beginsPass_26 ?_
      refine R_getr C fl7_9 rfl ha0 rx1 dX7_beginsPass_27 ?_
      refine R_bipush C (20) dX7_beginsPass_30 (by decide) ?_
      refine R_iload_n C 1 rfl dX7_beginsPass_32 ?_
      refine R_iadd C dX7_beginsPass_33 ?_
      refine R_ck (fun h14 => ?_)
      refine R_iald C cx1 h14 dX7_beginsPass_34 ?_
      refine R_bdK (fun (w : Int32) (s : Sg) => V κ G (QQ κ G E none σ') E s (false, 0, 0) 43 [(0, .ref (G.1 + a0)), (1, .int v4)] [.int w, .int (gi s10 x1 (15 : Int32).toNatClampNeg), .int (15 : Int32), .ref (G.1 + x1)]) (fun w15 s16 => ?_) (fun w15 s16 Kw15 => ?_)
      · refine R_bd (fun r19 s17 q18 => ?_)
        refine R_callSi [.int w15] [.int (gi s10 x1 (15 : Int32).toNatClampNeg), .int (15 : Int32), .ref (G.1 + x1)] C ml7_151 (kX7_truth q18) (by rw [hR]; exact ⟨rfl, rfl, Nat.le_of_ble_eq_true rfl, Nat.le_of_ble_eq_true rfl, Nat.zero_le _, Nat.zero_le _⟩) rfl rfl (Nat.le_of_ble_eq_true rfl) dX7_beginsPass_43 ?_
        refine R_iload_n C 1 rfl dX7_beginsPass_46 ?_
        refine R_ishl C dX7_beginsPass_47 ?_
        refine R_ior C dX7_beginsPass_48 ?_
        refine R_ck (fun h20 => ?_)
        refine S_iast C cx1 h20 dX7_beginsPass_49 (fun s21 => ?_)
        refine S_iinc (fun v22 => [(1, .int v22), (0, .ref (G.1 + a0))]) 1 C dX7_beginsPass_50 rfl (by decide) (by decide) (fun _ => rfl) (fun v22 => ?_)
        refine R_goto C dX7_beginsPass_53 ?_
        refine R_loc (lv2 := [(0, .ref (G.1 + a0)), (1, .int v22)]) [1, 0] rfl ?_
        exact I9 (v22, s21) b7 s8 K6
      · refine B_if_le C dX7_beginsPass_35 ?_ ?_
        · refine R_iconst C (0) dX7_beginsPass_42 (by decide) ?_
          exact R_end (fun (w : Int32) (s : Sg) => V κ G (QQ κ G E none σ') E s (false, 0, 0) 43 [(0, .ref (G.1 + a0)), (1, .int v4)] [.int w, .int (gi s10 x1 (15 : Int32).toNatClampNeg), .int (15 : Int32), .ref (G.1 + x1)]) Kw15
        · refine R_iconst C (1) dX7_beginsPass_38 (by decide) ?_
          refine R_goto C dX7_beginsPass_39 ?_
          exact R_end (fun (w : Int32) (s : Sg) => V κ G (QQ κ G E none σ') E s (false, 0, 0) 43 [(0, .ref (G.1 + a0)), (1, .int v4)] [.int w, .int (gi s10 x1 (15 : Int32).toNatClampNeg), .int (15 : Int32), .ref (G.1 + x1)]) Kw15
theorem dX7_onAll_0 : dk cX7_onAll 0 1 (.iconst 0) 1 := by unfold dk; decide +kernel
theorem dX7_onAll_1 : dk cX7_onAll 1 2 (.istore_n 1) 1 := by unfold dk; decide +kernel
theorem dX7_onAll_2 : dk cX7_onAll 2 3 (.iconst 0) 1 := by unfold dk; decide +kernel
theorem dX7_onAll_3 : dk cX7_onAll 3 4 (.istore_n 2) 1 := by unfold dk; decide +kernel
theorem dX7_onAll_4 : dk cX7_onAll 4 5 (.iload_n 2) 1 := by unfold dk; decide +kernel
theorem dX7_onAll_5 : dk cX7_onAll 5 6 (.aload_n 0) 1 := by unfold dk; decide +kernel
theorem dX7_onAll_6 : dk cX7_onAll 6 9 (.invokevirtual 155) 3 := by unfold dk; decide +kernel
theorem dX7_onAll_12 : dk cX7_onAll 12 13 (.iload_n 1) 1 := by unfold dk; decide +kernel
theorem dX7_onAll_13 : dk cX7_onAll 13 14 (.aload_n 0) 1 := by unfold dk; decide +kernel
theorem dX7_onAll_14 : dk cX7_onAll 14 17 (.getfield 9) 3 := by unfold dk; decide +kernel
theorem dX7_onAll_17 : dk cX7_onAll 17 19 (.bipush 20) 2 := by unfold dk; decide +kernel
theorem dX7_onAll_19 : dk cX7_onAll 19 20 (.iload_n 2) 1 := by unfold dk; decide +kernel
theorem dX7_onAll_20 : dk cX7_onAll 20 21 (.iadd) 1 := by unfold dk; decide +kernel
theorem dX7_onAll_21 : dk cX7_onAll 21 22 (.iaload) 1 := by unfold dk; decide +kernel
theorem dX7_onAll_22 : dk cX7_onAll 22 23 (.iadd) 1 := by unfold dk; decide +kernel
theorem dX7_onAll_23 : dk cX7_onAll 23 24 (.istore_n 1) 1 := by unfold dk; decide +kernel
theorem dX7_onAll_24 : dk cX7_onAll 24 27 (.iinc 2 1) 3 := by unfold dk; decide +kernel
theorem dX7_onAll_27 : bk cX7_onAll 27 30 4 (.goto (-23)) (-23) := by unfold bk; decide +kernel
theorem dX7_onAll_9 : bk cX7_onAll 9 12 30 (.if_icmp .ge 21) (21) := by unfold bk; decide +kernel
theorem dX7_onAll_30 : dk cX7_onAll 30 31 (.iload_n 1) 1 := by unfold dk; decide +kernel
theorem dX7_onAll_31 : dk cX7_onAll 31 32 (.ireturn) 1 := by unfold dk; decide +kernel
set_option maxHeartbeats 4000000 in
set_option maxRecDepth 100000 in
theorem kX7_onAll {l : Launch} {G : Gl} {E : En} {a0 : Nat} {σ σ' : Sg} {r : Int32} : fX7_onAll E a0 σ = some (r, σ') → CT l yX7_onAll cX7_onAll 3 (some .int) ({ frames := 1, cells := 0, slots := 0, locals := 20 } : Room) [.ref (G.1 + a0)] G E σ (some (.int r)) σ' := by
  intro h
  refine CT_of (lv0 := [(0, .ref (G.1 + a0))]) (by decide) (Nat.le_of_ble_eq_true rfl) rfl (fun κ hl hR hr C => ?_)
  have C : Cx κ G cX7_onAll RX7 3 := C
  revert h
  unfold fX7_onAll
  refine R_tk (fun ha0 => ?_)
  refine R_iconst C (0) dX7_onAll_0 (by decide) ?_
  refine R_istore_n (lv2 := [(1, .int (0 : Int32)), (0, .ref (G.1 + a0))]) C dX7_onAll_1 rfl (by decide) rfl ?_
  refine R_iconst C (0) dX7_onAll_2 (by decide) ?_
  refine R_istore_n (lv2 := [(2, .int (0 : Int32)), (1, .int (0 : Int32)), (0, .ref (G.1 + a0))]) C dX7_onAll_3 rfl (by decide) rfl ?_
  refine R_loc (lv2 := [(0, .ref (G.1 + a0)), (1, .int (0 : Int32)), (2, .int (0 : Int32))]) [2, 1, 0] rfl ?_
  refine R_loop (fun (a : (Int32 × Int32) × Sg) => V κ G (QQ κ G E (some (.int r)) σ') E a.2 (false, 0, 0) 4 [(0, .ref (G.1 + a0)), (1, .int a.1.1), (2, .int a.1.2)] []) (fun (o : (Int32 × Int32)) (s : Sg) => V κ G (QQ κ G E (some (.int r)) σ') E s (false, 0, 0) 30 [(1, .int o.1)] []) (((0 : Int32), (0 : Int32)), σ) (fun o15 s16 => ?_) (fun rec I7 a b5 s6 K4 => ?_)
  · refine R_iload_n C 0 rfl dX7_onAll_30 ?_
    exact R_iret C hr dX7_onAll_31
  · obtain ⟨⟨v1, v2⟩, s3⟩ := a
    show bX7_onAll_4 E a0 (fun u0 u1 t => rec ((u0, u1), t)) v1 v2 s3 = some (b5, s6) → V κ G (QQ κ G E (some (.int r)) σ') E s3 (false, 0, 0) 4 [(0, .ref (G.1 + a0)), (1, .int v1), (2, .int v2)] []
    unfold bX7_onAll_4
    refine R_iload_n C 2 rfl dX7_onAll_4 ?_
    refine R_aload_n C 0 rfl dX7_onAll_5 ?_
    refine R_bd (fun r10 s8 q9 => ?_)
    refine R_callVi [] [.int v2] C ml7_155 (kX7_tapes q9) (by rw [hR]; exact ⟨rfl, rfl, Nat.le_of_ble_eq_true rfl, Nat.le_of_ble_eq_true rfl, Nat.zero_le _, Nat.zero_le _⟩) ha0 rfl rfl (Nat.le_of_ble_eq_true rfl) dX7_onAll_6 ?_
    refine B_icmp_ge C dX7_onAll_9 ?_ ?_
    · refine R_loc (lv2 := [(1, .int v1)]) [1] rfl ?_
      exact R_end (fun (o : (Int32 × Int32)) (s : Sg) => V κ G (QQ κ G E (some (.int r)) σ') E s (false, 0, 0) 30 [(1, .int o.1)] []) K4
    · refine R_iload_n C 1 rfl dX7_onAll_12 ?_
      refine R_aload_n C 0 rfl dX7_onAll_13 ?_
      refine R_dr (fun x11 rx11 cx11 => ?_)
      refine R_getr C fl7_9 rfl ha0 rx11 dX7_onAll_14 ?_
      refine R_bipush C (20) dX7_onAll_17 (by decide) ?_
      refine R_iload_n C 2 rfl dX7_onAll_19 ?_
      refine R_iadd C dX7_onAll_20 ?_
      refine R_ck (fun h12 => ?_)
      refine R_iald C cx11 h12 dX7_onAll_21 ?_
      refine R_iadd C dX7_onAll_22 ?_
      refine S_istore_n C dX7_onAll_23 rfl (fun v13 => [(1, .int v13), (0, .ref (G.1 + a0)), (2, .int v2)]) (by decide) (fun _ => rfl) (fun v13 => ?_)
      refine S_iinc (fun v14 => [(2, .int v14), (1, .int v13), (0, .ref (G.1 + a0))]) 2 C dX7_onAll_24 rfl (by decide) (by decide) (fun _ => rfl) (fun v14 => ?_)
      refine R_goto C dX7_onAll_27 ?_
      refine R_loc (lv2 := [(0, .ref (G.1 + a0)), (1, .int v13), (2, .int v14)]) [2, 1, 0] rfl ?_
      exact I7 ((v13, v14), s8) b5 s6 K4
