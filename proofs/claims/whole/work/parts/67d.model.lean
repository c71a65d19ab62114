theorem dX7_goesOnBalanced_0 : dk cX7_goesOnBalanced 0 1 (.aload_n 0) 1 := by unfold dk; decide +kernel
theorem dX7_goesOnBalanced_1 : dk cX7_goesOnBalanced 1 4 (.invokevirtual 155) 3 := by unfold dk; decide +kernel
theorem dX7_goesOnBalanced_4 : dk cX7_goesOnBalanced 4 5 (.iconst 2) 1 := by unfold dk; decide +kernel
theorem dX7_goesOnBalanced_5 : dk cX7_goesOnBalanced 5 6 (.idiv) 1 := by unfold dk; decide +kernel
theorem dX7_goesOnBalanced_6 : dk cX7_goesOnBalanced 6 7 (.istore_n 1) 1 := by unfold dk; decide +kernel
theorem dX7_goesOnBalanced_7 : dk cX7_goesOnBalanced 7 8 (.iconst 1) 1 := by unfold dk; decide +kernel
theorem dX7_goesOnBalanced_8 : dk cX7_goesOnBalanced 8 9 (.istore_n 2) 1 := by unfold dk; decide +kernel
theorem dX7_goesOnBalanced_9 : dk cX7_goesOnBalanced 9 10 (.iconst 0) 1 := by unfold dk; decide +kernel
theorem dX7_goesOnBalanced_10 : dk cX7_goesOnBalanced 10 11 (.istore_n 3) 1 := by unfold dk; decide +kernel
theorem dX7_goesOnBalanced_11 : dk cX7_goesOnBalanced 11 12 (.iload_n 3) 1 := by unfold dk; decide +kernel
theorem dX7_goesOnBalanced_12 : dk cX7_goesOnBalanced 12 13 (.aload_n 0) 1 := by unfold dk; decide +kernel
theorem dX7_goesOnBalanced_13 : dk cX7_goesOnBalanced 13 16 (.invokevirtual 155) 3 := by unfold dk; decide +kernel
theorem dX7_goesOnBalanced_19 : dk cX7_goesOnBalanced 19 20 (.iload_n 2) 1 := by unfold dk; decide +kernel
theorem dX7_goesOnBalanced_20 : bk cX7_goesOnBalanced 20 23 54 (.ifCond .eq 34) (34) := by unfold bk; decide +kernel
theorem dX7_goesOnBalanced_54 : dk cX7_goesOnBalanced 54 55 (.iconst 0) 1 := by unfold dk; decide +kernel
theorem dX7_goesOnBalanced_23 : dk cX7_goesOnBalanced 23 24 (.aload_n 0) 1 := by unfold dk; decide +kernel
theorem dX7_goesOnBalanced_24 : dk cX7_goesOnBalanced 24 25 (.iload_n 3) 1 := by unfold dk; decide +kernel
theorem dX7_goesOnBalanced_25 : dk cX7_goesOnBalanced 25 26 (.aload_n 0) 1 := by unfold dk; decide +kernel
theorem dX7_goesOnBalanced_26 : dk cX7_goesOnBalanced 26 29 (.getfield 9) 3 := by unfold dk; decide +kernel
theorem dX7_goesOnBalanced_29 : dk cX7_goesOnBalanced 29 31 (.bipush 17) 2 := by unfold dk; decide +kernel
theorem dX7_goesOnBalanced_31 : dk cX7_goesOnBalanced 31 32 (.iaload) 1 := by unfold dk; decide +kernel
theorem dX7_goesOnBalanced_32 : dk cX7_goesOnBalanced 32 35 (.invokevirtual 222) 3 := by unfold dk; decide +kernel
theorem dX7_goesOnBalanced_50 : dk cX7_goesOnBalanced 50 51 (.iconst 1) 1 := by unfold dk; decide +kernel
theorem dX7_goesOnBalanced_51 : bk cX7_goesOnBalanced 51 54 55 (.goto 4) (4) := by unfold bk; decide +kernel
theorem dX7_goesOnBalanced_38 : dk cX7_goesOnBalanced 38 39 (.aload_n 0) 1 := by unfold dk; decide +kernel
theorem dX7_goesOnBalanced_39 : dk cX7_goesOnBalanced 39 42 (.getfield 9) 3 := by unfold dk; decide +kernel
theorem dX7_goesOnBalanced_42 : dk cX7_goesOnBalanced 42 44 (.bipush 20) 2 := by unfold dk; decide +kernel
theorem dX7_goesOnBalanced_44 : dk cX7_goesOnBalanced 44 45 (.iload_n 3) 1 := by unfold dk; decide +kernel
theorem dX7_goesOnBalanced_45 : dk cX7_goesOnBalanced 45 46 (.iadd) 1 := by unfold dk; decide +kernel
theorem dX7_goesOnBalanced_46 : dk cX7_goesOnBalanced 46 47 (.iaload) 1 := by unfold dk; decide +kernel
theorem dX7_goesOnBalanced_47 : bk cX7_goesOnBalanced 47 50 54 (.ifCond .ne 7) (7) := by unfold bk; decide +kernel
theorem dX7_goesOnBalanced_35 : bk cX7_goesOnBalanced 35 38 50 (.ifCond .eq 15) (15) := by unfold bk; decide +kernel
theorem dX7_goesOnBalanced_55 : dk cX7_goesOnBalanced 55 56 (.istore_n 2) 1 := by unfold dk; decide +kernel
theorem dX7_goesOnBalanced_56 : dk cX7_goesOnBalanced 56 59 (.iinc 3 1) 3 := by unfold dk; decide +kernel
theorem dX7_goesOnBalanced_59 : bk cX7_goesOnBalanced 59 62 11 (.goto (-48)) (-48) := by unfold bk; decide +kernel
theorem dX7_goesOnBalanced_16 : bk cX7_goesOnBalanced 16 19 62 (.if_icmp .ge 46) (46) := by unfold bk; decide +kernel
theorem dX7_goesOnBalanced_62 : dk cX7_goesOnBalanced 62 63 (.iload_n 2) 1 := by unfold dk; decide +kernel
theorem dX7_goesOnBalanced_116 : dk cX7_goesOnBalanced 116 117 (.aload_n 0) 1 := by unfold dk; decide +kernel
theorem dX7_goesOnBalanced_117 : dk cX7_goesOnBalanced 117 120 (.getfield 9) 3 := by unfold dk; decide +kernel
theorem dX7_goesOnBalanced_120 : dk cX7_goesOnBalanced 120 122 (.bipush 17) 2 := by unfold dk; decide +kernel
theorem dX7_goesOnBalanced_122 : dk cX7_goesOnBalanced 122 123 (.iaload) 1 := by unfold dk; decide +kernel
theorem dX7_goesOnBalanced_123 : bk cX7_goesOnBalanced 123 126 135 (.ifCond .ne 12) (12) := by unfold bk; decide +kernel
theorem dX7_goesOnBalanced_135 : dk cX7_goesOnBalanced 135 136 (.iload_n 1) 1 := by unfold dk; decide +kernel
theorem dX7_goesOnBalanced_136 : dk cX7_goesOnBalanced 136 137 (.iconst 1) 1 := by unfold dk; decide +kernel
theorem dX7_goesOnBalanced_137 : dk cX7_goesOnBalanced 137 138 (.isub) 1 := by unfold dk; decide +kernel
theorem dX7_goesOnBalanced_126 : dk cX7_goesOnBalanced 126 127 (.aload_n 0) 1 := by unfold dk; decide +kernel
theorem dX7_goesOnBalanced_127 : dk cX7_goesOnBalanced 127 130 (.invokevirtual 155) 3 := by unfold dk; decide +kernel
theorem dX7_goesOnBalanced_130 : dk cX7_goesOnBalanced 130 131 (.iconst 1) 1 := by unfold dk; decide +kernel
theorem dX7_goesOnBalanced_131 : dk cX7_goesOnBalanced 131 132 (.isub) 1 := by unfold dk; decide +kernel
theorem dX7_goesOnBalanced_132 : bk cX7_goesOnBalanced 132 135 138 (.goto 6) (6) := by unfold bk; decide +kernel
theorem dX7_goesOnBalanced_138 : dk cX7_goesOnBalanced 138 139 (.istore_n 3) 1 := by unfold dk; decide +kernel
theorem dX7_goesOnBalanced_139 : dk cX7_goesOnBalanced 139 140 (.aload_n 0) 1 := by unfold dk; decide +kernel
theorem dX7_goesOnBalanced_140 : dk cX7_goesOnBalanced 140 143 (.getfield 9) 3 := by unfold dk; decide +kernel
theorem dX7_goesOnBalanced_143 : dk cX7_goesOnBalanced 143 145 (.bipush 13) 2 := by unfold dk; decide +kernel
theorem dX7_goesOnBalanced_145 : dk cX7_goesOnBalanced 145 146 (.aload_n 0) 1 := by unfold dk; decide +kernel
theorem dX7_goesOnBalanced_146 : dk cX7_goesOnBalanced 146 149 (.getfield 9) 3 := by unfold dk; decide +kernel
theorem dX7_goesOnBalanced_149 : dk cX7_goesOnBalanced 149 151 (.bipush 13) 2 := by unfold dk; decide +kernel
theorem dX7_goesOnBalanced_151 : dk cX7_goesOnBalanced 151 152 (.iaload) 1 := by unfold dk; decide +kernel
theorem dX7_goesOnBalanced_152 : dk cX7_goesOnBalanced 152 153 (.iload_n 3) 1 := by unfold dk; decide +kernel
theorem dX7_goesOnBalanced_153 : bk cX7_goesOnBalanced 153 156 174 (.if_icmp .ne 21) (21) := by unfold bk; decide +kernel
theorem dX7_goesOnBalanced_174 : dk cX7_goesOnBalanced 174 175 (.aload_n 0) 1 := by unfold dk; decide +kernel
theorem dX7_goesOnBalanced_175 : dk cX7_goesOnBalanced 175 178 (.getfield 9) 3 := by unfold dk; decide +kernel
theorem dX7_goesOnBalanced_178 : dk cX7_goesOnBalanced 178 180 (.bipush 13) 2 := by unfold dk; decide +kernel
theorem dX7_goesOnBalanced_180 : dk cX7_goesOnBalanced 180 181 (.iaload) 1 := by unfold dk; decide +kernel
theorem dX7_goesOnBalanced_181 : dk cX7_goesOnBalanced 181 182 (.iconst 1) 1 := by unfold dk; decide +kernel
theorem dX7_goesOnBalanced_182 : dk cX7_goesOnBalanced 182 183 (.iadd) 1 := by unfold dk; decide +kernel
theorem dX7_goesOnBalanced_156 : dk cX7_goesOnBalanced 156 157 (.aload_n 0) 1 := by unfold dk; decide +kernel
theorem dX7_goesOnBalanced_157 : dk cX7_goesOnBalanced 157 160 (.getfield 9) 3 := by unfold dk; decide +kernel
theorem dX7_goesOnBalanced_160 : dk cX7_goesOnBalanced 160 162 (.bipush 17) 2 := by unfold dk; decide +kernel
theorem dX7_goesOnBalanced_162 : dk cX7_goesOnBalanced 162 163 (.iaload) 1 := by unfold dk; decide +kernel
theorem dX7_goesOnBalanced_170 : dk cX7_goesOnBalanced 170 171 (.iconst 0) 1 := by unfold dk; decide +kernel
theorem dX7_goesOnBalanced_171 : bk cX7_goesOnBalanced 171 174 183 (.goto 12) (12) := by unfold bk; decide +kernel
theorem dX7_goesOnBalanced_166 : dk cX7_goesOnBalanced 166 167 (.iload_n 1) 1 := by unfold dk; decide +kernel
theorem dX7_goesOnBalanced_167 : bk cX7_goesOnBalanced 167 170 183 (.goto 16) (16) := by unfold bk; decide +kernel
theorem dX7_goesOnBalanced_163 : bk cX7_goesOnBalanced 163 166 170 (.ifCond .ne 7) (7) := by unfold bk; decide +kernel
theorem dX7_goesOnBalanced_183 : dk cX7_goesOnBalanced 183 184 (.iastore) 1 := by unfold dk; decide +kernel
theorem dX7_goesOnBalanced_184 : dk cX7_goesOnBalanced 184 185 (.return_) 1 := by unfold dk; decide +kernel
theorem dX7_goesOnBalanced_66 : dk cX7_goesOnBalanced 66 67 (.aload_n 0) 1 := by unfold dk; decide +kernel
theorem dX7_goesOnBalanced_67 : dk cX7_goesOnBalanced 67 70 (.getfield 9) 3 := by unfold dk; decide +kernel
theorem dX7_goesOnBalanced_70 : dk cX7_goesOnBalanced 70 72 (.bipush 11) 2 := by unfold dk; decide +kernel
theorem dX7_goesOnBalanced_72 : dk cX7_goesOnBalanced 72 73 (.dup2) 1 := by unfold dk; decide +kernel
theorem dX7_goesOnBalanced_73 : dk cX7_goesOnBalanced 73 74 (.iaload) 1 := by unfold dk; decide +kernel
theorem dX7_goesOnBalanced_74 : dk cX7_goesOnBalanced 74 75 (.iconst 1) 1 := by unfold dk; decide +kernel
theorem dX7_goesOnBalanced_75 : dk cX7_goesOnBalanced 75 76 (.iadd) 1 := by unfold dk; decide +kernel
theorem dX7_goesOnBalanced_76 : dk cX7_goesOnBalanced 76 77 (.iastore) 1 := by unfold dk; decide +kernel
theorem dX7_goesOnBalanced_77 : dk cX7_goesOnBalanced 77 78 (.aload_n 0) 1 := by unfold dk; decide +kernel
theorem dX7_goesOnBalanced_78 : dk cX7_goesOnBalanced 78 81 (.getfield 9) 3 := by unfold dk; decide +kernel
theorem dX7_goesOnBalanced_81 : dk cX7_goesOnBalanced 81 83 (.bipush 17) 2 := by unfold dk; decide +kernel
theorem dX7_goesOnBalanced_83 : dk cX7_goesOnBalanced 83 84 (.iconst 1) 1 := by unfold dk; decide +kernel
theorem dX7_goesOnBalanced_84 : dk cX7_goesOnBalanced 84 85 (.aload_n 0) 1 := by unfold dk; decide +kernel
theorem dX7_goesOnBalanced_85 : dk cX7_goesOnBalanced 85 88 (.getfield 9) 3 := by unfold dk; decide +kernel
theorem dX7_goesOnBalanced_88 : dk cX7_goesOnBalanced 88 90 (.bipush 17) 2 := by unfold dk; decide +kernel
theorem dX7_goesOnBalanced_90 : dk cX7_goesOnBalanced 90 91 (.iaload) 1 := by unfold dk; decide +kernel
theorem dX7_goesOnBalanced_91 : dk cX7_goesOnBalanced 91 92 (.isub) 1 := by unfold dk; decide +kernel
theorem dX7_goesOnBalanced_92 : dk cX7_goesOnBalanced 92 93 (.iastore) 1 := by unfold dk; decide +kernel
theorem dX7_goesOnBalanced_93 : dk cX7_goesOnBalanced 93 94 (.aload_n 0) 1 := by unfold dk; decide +kernel
theorem dX7_goesOnBalanced_94 : dk cX7_goesOnBalanced 94 97 (.getfield 9) 3 := by unfold dk; decide +kernel
theorem dX7_goesOnBalanced_97 : dk cX7_goesOnBalanced 97 99 (.bipush 13) 2 := by unfold dk; decide +kernel
theorem dX7_goesOnBalanced_99 : dk cX7_goesOnBalanced 99 100 (.aload_n 0) 1 := by unfold dk; decide +kernel
theorem dX7_goesOnBalanced_100 : dk cX7_goesOnBalanced 100 103 (.getfield 9) 3 := by unfold dk; decide +kernel
theorem dX7_goesOnBalanced_103 : dk cX7_goesOnBalanced 103 105 (.bipush 17) 2 := by unfold dk; decide +kernel
theorem dX7_goesOnBalanced_105 : dk cX7_goesOnBalanced 105 106 (.iaload) 1 := by unfold dk; decide +kernel
theorem dX7_goesOnBalanced_106 : bk cX7_goesOnBalanced 106 109 113 (.ifCond .ne 7) (7) := by unfold bk; decide +kernel
theorem dX7_goesOnBalanced_113 : dk cX7_goesOnBalanced 113 114 (.iconst 0) 1 := by unfold dk; decide +kernel
theorem dX7_goesOnBalanced_109 : dk cX7_goesOnBalanced 109 110 (.iload_n 1) 1 := by unfold dk; decide +kernel
theorem dX7_goesOnBalanced_110 : bk cX7_goesOnBalanced 110 113 114 (.goto 4) (4) := by unfold bk; decide +kernel
theorem dX7_goesOnBalanced_114 : dk cX7_goesOnBalanced 114 115 (.iastore) 1 := by unfold dk; decide +kernel
theorem dX7_goesOnBalanced_115 : dk cX7_goesOnBalanced 115 116 (.return_) 1 := by unfold dk; decide +kernel
theorem dX7_goesOnBalanced_63 : bk cX7_goesOnBalanced 63 66 116 (.ifCond .eq 53) (53) := by unfold bk; decide +kernel
set_option maxHeartbeats 4000000 in
set_option maxRecDepth 100000 in
theorem kX7_goesOnBalanced {l : Launch} {G : Gl} {E : En} {a0 : Nat} {σ σ' : Sg} : fX7_goesOnBalanced E a0 σ = some σ' → CT l yX7_goesOnBalanced cX7_goesOnBalanced 4 none ({ frames := 2, cells := 0, slots := 0, locals := 42 } : Room) [.ref (G.1 + a0)] G E σ none σ' := by
  intro h
  refine CT_of (lv0 := [(0, .ref (G.1 + a0))]) (by decide) (Nat.le_of_ble_eq_true rfl) rfl (fun κ hl hR hr C => ?_)
  have C : Cx κ G cX7_goesOnBalanced RX7 4 := C
  revert h
  unfold fX7_goesOnBalanced
  refine R_tk (fun ha0 => ?_)
  refine R_aload_n C 0 rfl dX7_goesOnBalanced_0 ?_
  refine R_bd (fun r3 s1 q2 => ?_)
  refine R_callVi [] [] C ml7_155 (kX7_tapes q2) (by rw [hR]; exact ⟨rfl, rfl, Nat.le_of_ble_eq_true rfl, Nat.le_of_ble_eq_true rfl, Nat.zero_le _, Nat.zero_le _⟩) ha0 rfl rfl (Nat.le_of_ble_eq_true rfl) dX7_goesOnBalanced_1 ?_
  refine R_iconst C (2) dX7_goesOnBalanced_4 (by decide) ?_
  refine R_idiv C dX7_goesOnBalanced_5 (by decide) ?_
  refine S_istore_n C dX7_goesOnBalanced_6 rfl (fun v4 => [(1, .int v4), (0, .ref (G.1 + a0))]) (by decide) (fun _ => rfl) (fun v4 => ?_)
  refine R_iconst C (1) dX7_goesOnBalanced_7 (by decide) ?_
  refine R_istore_n (lv2 := [(2, .int (1 : Int32)), (1, .int v4), (0, .ref (G.1 + a0))]) C dX7_goesOnBalanced_8 rfl (by decide) rfl ?_
  refine R_iconst C (0) dX7_goesOnBalanced_9 (by decide) ?_
  refine R_istore_n (lv2 := [(3, .int (0 : Int32)), (2, .int (1 : Int32)), (1, .int v4), (0, .ref (G.1 + a0))]) C dX7_goesOnBalanced_10 rfl (by decide) rfl ?_
  refine R_loc (lv2 := [(1, .int v4), (0, .ref (G.1 + a0)), (2, .int (1 : Int32)), (3, .int (0 : Int32))]) [2, 3, 1, 0] rfl ?_
  refine R_loop (fun (a : (Int32 × Int32) × Sg) => V κ G (QQ κ G E none σ') E a.2 (false, 0, 0) 11 [(1, .int v4), (0, .ref (G.1 + a0)), (2, .int a.1.1), (3, .int a.1.2)] []) (fun (o : (Int32 × Int32)) (s : Sg) => V κ G (QQ κ G E none σ') E s (false, 0, 0) 62 [(1, .int v4), (0, .ref (G.1 + a0)), (2, .int o.1)] []) (((1 : Int32), (0 : Int32)), s1) (fun o24 s25 => ?_) (fun rec I11 a b9 s10 K8 => ?_)
  · refine R_iload_n C 2 rfl dX7_goesOnBalanced_62 ?_
    refine B_if_eq C dX7_goesOnBalanced_63 ?_ ?_
    · refine R_aload_n C 1 rfl dX7_goesOnBalanced_116 ?_
      refine R_dr (fun x26 rx26 cx26 => ?_)
      refine R_getr C fl7_9 rfl ha0 rx26 dX7_goesOnBalanced_117 ?_
      refine R_bipush C (17) dX7_goesOnBalanced_120 (by decide) ?_
      refine R_ck (fun h27 => ?_)
      refine R_iald C cx26 h27 dX7_goesOnBalanced_122 ?_
      refine R_bdK (fun (w : Int32) (s : Sg) => V κ G (QQ κ G E none σ') E s (false, 0, 0) 138 [(1, .int v4), (0, .ref (G.1 + a0))] [.int w]) (fun w28 s29 => ?_) (fun w28 s29 Kw28 => ?_)
      · refine R_istore_n (lv2 := [(3, .int w28), (1, .int v4), (0, .ref (G.1 + a0))]) C dX7_goesOnBalanced_138 rfl (by decide) rfl ?_
        refine R_aload_n C 2 rfl dX7_goesOnBalanced_139 ?_
        refine R_getr C fl7_9 rfl ha0 rx26 dX7_goesOnBalanced_140 ?_
        refine R_bipush C (13) dX7_goesOnBalanced_143 (by decide) ?_
        refine R_aload_n C 2 rfl dX7_goesOnBalanced_145 ?_
        refine R_getr C fl7_9 rfl ha0 rx26 dX7_goesOnBalanced_146 ?_
        refine R_bipush C (13) dX7_goesOnBalanced_149 (by decide) ?_
        refine R_ck (fun h33 => ?_)
        refine R_iald C cx26 h33 dX7_goesOnBalanced_151 ?_
        refine R_iload_n C 0 rfl dX7_goesOnBalanced_152 ?_
        refine R_bdK (fun (w : Int32) (s : Sg) => V κ G (QQ κ G E none σ') E s (false, 0, 0) 183 [] [.int w, .int (13 : Int32), .ref (G.1 + x26)]) (fun w34 s35 => ?_) (fun w34 s35 Kw34 => ?_)
        · refine R_ck (fun h38 => ?_)
          refine S_iast C cx26 h38 dX7_goesOnBalanced_183 (fun s39 => ?_)
          exact R_vret C hr dX7_goesOnBalanced_184
        · refine B_icmp_ne C dX7_goesOnBalanced_153 ?_ ?_
          · refine R_aload_n C 2 rfl dX7_goesOnBalanced_174 ?_
            refine R_getr C fl7_9 rfl ha0 rx26 dX7_goesOnBalanced_175 ?_
            refine R_bipush C (13) dX7_goesOnBalanced_178 (by decide) ?_
            refine R_ck (fun h36 => ?_)
            refine R_iald C cx26 h36 dX7_goesOnBalanced_180 ?_
            refine R_iconst C (1) dX7_goesOnBalanced_181 (by decide) ?_
            refine R_iadd C dX7_goesOnBalanced_182 ?_
            refine R_loc (lv2 := []) [] rfl ?_
            exact R_end (fun (w : Int32) (s : Sg) => V κ G (QQ κ G E none σ') E s (false, 0, 0) 183 [] [.int w, .int (13 : Int32), .ref (G.1 + x26)]) Kw34
          · refine R_aload_n C 2 rfl dX7_goesOnBalanced_156 ?_
            refine R_getr C fl7_9 rfl ha0 rx26 dX7_goesOnBalanced_157 ?_
            refine R_bipush C (17) dX7_goesOnBalanced_160 (by decide) ?_
            refine R_ck (fun h37 => ?_)
            refine R_iald C cx26 h37 dX7_goesOnBalanced_162 ?_
            refine B_if_ne C dX7_goesOnBalanced_163 ?_ ?_
            · refine R_iconst C (0) dX7_goesOnBalanced_170 (by decide) ?_
              refine R_goto C dX7_goesOnBalanced_171 ?_
              refine R_loc (lv2 := []) [] rfl ?_
              exact R_end (fun (w : Int32) (s : Sg) => V κ G (QQ κ G E none σ') E s (false, 0, 0) 183 [] [.int w, .int (13 : Int32), .ref (G.1 + x26)]) Kw34
            · refine R_iload_n C 1 rfl dX7_goesOnBalanced_166 ?_
              refine R_goto C dX7_goesOnBalanced_167 ?_
              refine R_loc (lv2 := []) [] rfl ?_
              exact R_end (fun (w : Int32) (s : Sg) => V κ G (QQ κ G E none σ') E s (false, 0, 0) 183 [] [.int w, .int (13 : Int32), .ref (G.1 + x26)]) Kw34
      · refine B_if_ne C dX7_goesOnBalanced_123 ?_ ?_
        · refine R_iload_n C 0 rfl dX7_goesOnBalanced_135 ?_
          refine R_iconst C (1) dX7_goesOnBalanced_136 (by decide) ?_
          refine R_isub C dX7_goesOnBalanced_137 ?_
          refine R_loc (lv2 := [(1, .int v4), (0, .ref (G.1 + a0))]) [0, 1] rfl ?_
          exact R_end (fun (w : Int32) (s : Sg) => V κ G (QQ κ G E none σ') E s (false, 0, 0) 138 [(1, .int v4), (0, .ref (G.1 + a0))] [.int w]) Kw28
        · refine R_aload_n C 1 rfl dX7_goesOnBalanced_126 ?_
          refine R_bd (fun r32 s30 q31 => ?_)
          refine R_callVi [] [] C ml7_155 (kX7_tapes q31) (by rw [hR]; exact ⟨rfl, rfl, Nat.le_of_ble_eq_true rfl, Nat.le_of_ble_eq_true rfl, Nat.zero_le _, Nat.zero_le _⟩) ha0 rfl rfl (Nat.le_of_ble_eq_true rfl) dX7_goesOnBalanced_127 ?_
          refine R_iconst C (1) dX7_goesOnBalanced_130 (by decide) ?_
          refine R_isub C dX7_goesOnBalanced_131 ?_
          refine R_goto C dX7_goesOnBalanced_132 ?_
          refine R_loc (lv2 := [(1, .int v4), (0, .ref (G.1 + a0))]) [0, 1] rfl ?_
          exact R_end (fun (w : Int32) (s : Sg) => V κ G (QQ κ G E none σ') E s (false, 0, 0) 138 [(1, .int v4), (0, .ref (G.1 + a0))] [.int w]) Kw28
    · refine R_aload_n C 1 rfl dX7_goesOnBalanced_66 ?_
      refine R_dr (fun x40 rx40 cx40 => ?_)
      refine R_getr C fl7_9 rfl ha0 rx40 dX7_goesOnBalanced_67 ?_
      refine R_bipush C (11) dX7_goesOnBalanced_70 (by decide) ?_
      refine R_dup2 C dX7_goesOnBalanced_72 rfl rfl ?_
      refine R_ck (fun h41 => ?_)
      refine R_iald C cx40 h41 dX7_goesOnBalanced_73 ?_
      refine R_iconst C (1) dX7_goesOnBalanced_74 (by decide) ?_
      refine R_iadd C dX7_goesOnBalanced_75 ?_
      refine R_ck (fun h42 => ?_)
      refine S_iast C cx40 h42 dX7_goesOnBalanced_76 (fun s43 => ?_)
      refine R_aload_n C 1 rfl dX7_goesOnBalanced_77 ?_
      refine R_getr C fl7_9 rfl ha0 rx40 dX7_goesOnBalanced_78 ?_
      refine R_bipush C (17) dX7_goesOnBalanced_81 (by decide) ?_
      refine R_iconst C (1) dX7_goesOnBalanced_83 (by decide) ?_
      refine R_aload_n C 1 rfl dX7_goesOnBalanced_84 ?_
      refine R_getr C fl7_9 rfl ha0 rx40 dX7_goesOnBalanced_85 ?_
      refine R_bipush C (17) dX7_goesOnBalanced_88 (by decide) ?_
      refine R_ck (fun h44 => ?_)
      refine R_iald C cx40 h44 dX7_goesOnBalanced_90 ?_
      refine R_isub C dX7_goesOnBalanced_91 ?_
      refine R_ck (fun h45 => ?_)
      refine S_iast C cx40 h45 dX7_goesOnBalanced_92 (fun s46 => ?_)
      refine R_aload_n C 1 rfl dX7_goesOnBalanced_93 ?_
      refine R_getr C fl7_9 rfl ha0 rx40 dX7_goesOnBalanced_94 ?_
      refine R_bipush C (13) dX7_goesOnBalanced_97 (by decide) ?_
      refine R_aload_n C 1 rfl dX7_goesOnBalanced_99 ?_
      refine R_getr C fl7_9 rfl ha0 rx40 dX7_goesOnBalanced_100 ?_
      refine R_bipush C (17) dX7_goesOnBalanced_103 (by decide) ?_
      refine R_ck (fun h47 => ?_)
      refine R_iald C cx40 h47 dX7_goesOnBalanced_105 ?_
      refine R_bdK (fun (w : Int32) (s : Sg) => V κ G (QQ κ G E none σ') E s (false, 0, 0) 114 [] [.int w, .int (13 : Int32), .ref (G.1 + x40)]) (fun w48 s49 => ?_) (fun w48 s49 Kw48 => ?_)
      · refine R_ck (fun h50 => ?_)
        refine S_iast C cx40 h50 dX7_goesOnBalanced_114 (fun s51 => ?_)
        exact R_vret C hr dX7_goesOnBalanced_115
      · refine B_if_ne C dX7_goesOnBalanced_106 ?_ ?_
        · refine R_iconst C (0) dX7_goesOnBalanced_113 (by decide) ?_
          refine R_loc (lv2 := []) [] rfl ?_
          exact R_end (fun (w : Int32) (s : Sg) => V κ G (QQ κ G E none σ') E s (false, 0, 0) 114 [] [.int w, .int (13 : Int32), .ref (G.1 + x40)]) Kw48
        · refine R_iload_n C 0 rfl dX7_goesOnBalanced_109 ?_
          refine R_goto C dX7_goesOnBalanced_110 ?_
          refine R_loc (lv2 := []) [] rfl ?_
          exact R_end (fun (w : Int32) (s : Sg) => V κ G (QQ κ G E none σ') E s (false, 0, 0) 114 [] [.int w, .int (13 : Int32), .ref (G.1 + x40)]) Kw48
  · obtain ⟨⟨v5, v6⟩, s7⟩ := a
    show bX7_goesOnBalanced_11 E a0 (fun u0 u1 t => rec ((u0, u1), t)) v5 v6 s7 = some (b9, s10) → V κ G (QQ κ G E none σ') E s7 (false, 0, 0) 11 [(1, .int v4), (0, .ref (G.1 + a0)), (2, .int v5), (3, .int v6)] []
    unfold bX7_goesOnBalanced_11
    refine R_iload_n C 3 rfl dX7_goesOnBalanced_11 ?_
    refine R_aload_n C 1 rfl dX7_goesOnBalanced_12 ?_
    refine R_bd (fun r14 s12 q13 => ?_)
    refine R_callVi [] [.int v6] C ml7_155 (kX7_tapes q13) (by rw [hR]; exact ⟨rfl, rfl, Nat.le_of_ble_eq_true rfl, Nat.le_of_ble_eq_true rfl, Nat.zero_le _, Nat.zero_le _⟩) ha0 rfl rfl (Nat.le_of_ble_eq_true rfl) dX7_goesOnBalanced_13 ?_
    refine B_icmp_ge C dX7_goesOnBalanced_16 ?_ ?_
    · refine R_loc (lv2 := [(1, .int v4), (0, .ref (G.1 + a0)), (2, .int v5)]) [0, 1, 2] rfl ?_
      exact R_end (fun (o : (Int32 × Int32)) (s : Sg) => V κ G (QQ κ G E none σ') E s (false, 0, 0) 62 [(1, .int v4), (0, .ref (G.1 + a0)), (2, .int o.1)] []) K8
    · refine R_iload_n C 2 rfl dX7_goesOnBalanced_19 ?_
      refine R_bdK (fun (w : Int32) (s : Sg) => V κ G (QQ κ G E none σ') E s (false, 0, 0) 55 [(1, .int v4), (0, .ref (G.1 + a0)), (3, .int v6)] [.int w]) (fun w15 s16 => ?_) (fun w15 s16 Kw15 => ?_)
      · refine R_istore_n (lv2 := [(2, .int w15), (1, .int v4), (0, .ref (G.1 + a0)), (3, .int v6)]) C dX7_goesOnBalanced_55 rfl (by decide) rfl ?_
        refine S_iinc (fun v23 => [(3, .int v23), (2, .int w15), (1, .int v4), (0, .ref (G.1 + a0))]) 3 C dX7_goesOnBalanced_56 rfl (by decide) (by decide) (fun _ => rfl) (fun v23 => ?_)
        refine R_goto C dX7_goesOnBalanced_59 ?_
        refine R_loc (lv2 := [(1, .int v4), (0, .ref (G.1 + a0)), (2, .int w15), (3, .int v23)]) [2, 3, 1, 0] rfl ?_
        exact I11 ((w15, v23), s16) b9 s10 K8
      · refine B_if_eq C dX7_goesOnBalanced_20 ?_ ?_
        · refine R_iconst C (0) dX7_goesOnBalanced_54 (by decide) ?_
          refine R_loc (lv2 := [(1, .int v4), (0, .ref (G.1 + a0)), (3, .int v6)]) [0, 1, 3] rfl ?_
          exact R_end (fun (w : Int32) (s : Sg) => V κ G (QQ κ G E none σ') E s (false, 0, 0) 55 [(1, .int v4), (0, .ref (G.1 + a0)), (3, .int v6)] [.int w]) Kw15
        · refine R_aload_n C 1 rfl dX7_goesOnBalanced_23 ?_
          refine R_iload_n C 3 rfl dX7_goesOnBalanced_24 ?_
          refine R_aload_n C 1 rfl dX7_goesOnBalanced_25 ?_
          refine R_dr (fun x17 rx17 cx17 => ?_)
          refine R_getr C fl7_9 rfl ha0 rx17 dX7_goesOnBalanced_26 ?_
          refine R_bipush C (17) dX7_goesOnBalanced_29 (by decide) ?_
          refine R_ck (fun h18 => ?_)
          refine R_iald C cx17 h18 dX7_goesOnBalanced_31 ?_
          refine R_bd (fun r21 s19 q20 => ?_)
          refine R_callVi [.int v6, .int (gi s12 x17 (17 : Int32).toNatClampNeg)] [] C ml7_222 (kX7_isInHalf q20) (by rw [hR]; exact ⟨rfl, rfl, Nat.le_of_ble_eq_true rfl, Nat.le_of_ble_eq_true rfl, Nat.zero_le _, Nat.zero_le _⟩) ha0 rfl rfl (Nat.le_of_ble_eq_true rfl) dX7_goesOnBalanced_32 ?_
          refine B_if_eq C dX7_goesOnBalanced_35 ?_ ?_
          · refine R_iconst C (1) dX7_goesOnBalanced_50 (by decide) ?_
            refine R_goto C dX7_goesOnBalanced_51 ?_
            refine R_loc (lv2 := [(1, .int v4), (0, .ref (G.1 + a0)), (3, .int v6)]) [0, 1, 3] rfl ?_
            exact R_end (fun (w : Int32) (s : Sg) => V κ G (QQ κ G E none σ') E s (false, 0, 0) 55 [(1, .int v4), (0, .ref (G.1 + a0)), (3, .int v6)] [.int w]) Kw15
          · refine R_aload_n C 1 rfl dX7_goesOnBalanced_38 ?_
            refine R_getr C fl7_9 rfl ha0 rx17 dX7_goesOnBalanced_39 ?_
            refine R_bipush C (20) dX7_goesOnBalanced_42 (by decide) ?_
            refine R_iload_n C 3 rfl dX7_goesOnBalanced_44 ?_
            refine R_iadd C dX7_goesOnBalanced_45 ?_
            refine R_ck (fun h22 => ?_)
            refine R_iald C cx17 h22 dX7_goesOnBalanced_46 ?_
            refine B_if_ne C dX7_goesOnBalanced_47 ?_ ?_
            · refine R_iconst C (0) dX7_goesOnBalanced_54 (by decide) ?_
              refine R_loc (lv2 := [(1, .int v4), (0, .ref (G.1 + a0)), (3, .int v6)]) [0, 1, 3] rfl ?_
              exact R_end (fun (w : Int32) (s : Sg) => V κ G (QQ κ G E none σ') E s (false, 0, 0) 55 [(1, .int v4), (0, .ref (G.1 + a0)), (3, .int v6)] [.int w]) Kw15
            · refine R_iconst C (1) dX7_goesOnBalanced_50 (by decide) ?_
              refine R_goto C dX7_goesOnBalanced_51 ?_
              refine R_loc (lv2 := [(1, .int v4), (0, .ref (G.1 + a0)), (3, .int v6)]) [0, 1, 3] rfl ?_
              exact R_end (fun (w : Int32) (s : Sg) => V κ G (QQ κ G E none σ') E s (false, 0, 0) 55 [(1, .int v4), (0, .ref (G.1 + a0)), (3, .int v6)] [.int w]) Kw15
theorem dX7_emptied_0 : dk cX7_emptied 0 1 (.iconst 0) 1 := by unfold dk; decide +kernel
theorem dX7_emptied_1 : dk cX7_emptied 1 2 (.istore_n 1) 1 := by unfold dk; decide +kernel
theorem dX7_emptied_2 : dk cX7_emptied 2 3 (.iload_n 1) 1 := by unfold dk; decide +kernel
theorem dX7_emptied_3 : dk cX7_emptied 3 5 (.bipush 6) 2 := by unfold dk; decide +kernel
theorem dX7_emptied_8 : dk cX7_emptied 8 9 (.aload_n 0) 1 := by unfold dk; decide +kernel
theorem dX7_emptied_9 : dk cX7_emptied 9 12 (.getfield 45) 3 := by unfold dk; decide +kernel
theorem dX7_emptied_12 : dk cX7_emptied 12 13 (.iload_n 1) 1 := by unfold dk; decide +kernel
theorem dX7_emptied_13 : dk cX7_emptied 13 14 (.iaload) 1 := by unfold dk; decide +kernel
theorem dX7_emptied_14 : dk cX7_emptied 14 15 (.iconst (-1)) 1 := by unfold dk; decide +kernel
theorem dX7_emptied_32 : dk cX7_emptied 32 35 (.iinc 1 1) 3 := by unfold dk; decide +kernel
theorem dX7_emptied_35 : bk cX7_emptied 35 38 2 (.goto (-33)) (-33) := by unfold bk; decide +kernel
theorem dX7_emptied_18 : dk cX7_emptied 18 19 (.aload_n 0) 1 := by unfold dk; decide +kernel
theorem dX7_emptied_19 : dk cX7_emptied 19 22 (.getfield 9) 3 := by unfold dk; decide +kernel
theorem dX7_emptied_22 : dk cX7_emptied 22 24 (.bipush 20) 2 := by unfold dk; decide +kernel
theorem dX7_emptied_24 : dk cX7_emptied 24 25 (.iload_n 1) 1 := by unfold dk; decide +kernel
theorem dX7_emptied_25 : dk cX7_emptied 25 26 (.iadd) 1 := by unfold dk; decide +kernel
theorem dX7_emptied_26 : dk cX7_emptied 26 27 (.iaload) 1 := by unfold dk; decide +kernel
theorem dX7_emptied_30 : dk cX7_emptied 30 31 (.iload_n 1) 1 := by unfold dk; decide +kernel
theorem dX7_emptied_31 : dk cX7_emptied 31 32 (.ireturn) 1 := by unfold dk; decide +kernel
theorem dX7_emptied_27 : bk cX7_emptied 27 30 32 (.ifCond .ne 5) (5) := by unfold bk; decide +kernel
theorem dX7_emptied_15 : bk cX7_emptied 15 18 32 (.if_icmp .eq 17) (17) := by unfold bk; decide +kernel
theorem dX7_emptied_5 : bk cX7_emptied 5 8 38 (.if_icmp .ge 33) (33) := by unfold bk; decide +kernel
theorem dX7_emptied_38 : dk cX7_emptied 38 39 (.iconst (-1)) 1 := by unfold dk; decide +kernel
theorem dX7_emptied_39 : dk cX7_emptied 39 40 (.ireturn) 1 := by unfold dk; decide +kernel
set_option maxHeartbeats 4000000 in
set_option maxRecDepth 100000 in
theorem kX7_emptied {l : Launch} {G : Gl} {E : En} {a0 : Nat} {σ σ' : Sg} {r : Int32} : fX7_emptied E a0 σ = some (r, σ') → CT l yX7_emptied cX7_emptied 2 (some .int) ({ frames := 0, cells := 0, slots := 0, locals := 0 } : Room) [.ref (G.1 + a0)] G E σ (some (.int r)) σ' := by
  intro h
  refine CT_of (lv0 := [(0, .ref (G.1 + a0))]) (by decide) (Nat.le_of_ble_eq_true rfl) rfl (fun κ hl hR hr C => ?_)
  have C : Cx κ G cX7_emptied RX7 2 := C
  revert h
  unfold fX7_emptied
  refine R_tk (fun ha0 => ?_)
  refine R_iconst C (0) dX7_emptied_0 (by decide) ?_
  refine R_istore_n (lv2 := [(1, .int (0 : Int32)), (0, .ref (G.1 + a0))]) C dX7_emptied_1 rfl (by decide) rfl ?_
  refine R_loc (lv2 := [(0, .ref (G.1 + a0)), (1, .int (0 : Int32))]) [1, 0] rfl ?_
  refine R_loop (fun (a : (Int32) × Sg) => V κ G (QQ κ G E (some (.int r)) σ') E a.2 (false, 0, 0) 2 [(0, .ref (G.1 + a0)), (1, .int a.1)] []) (fun (o : ((Int32) ⊕ Int32)) (s : Sg) => sm o (fun o => V κ G (QQ κ G E (some (.int r)) σ') E s (false, 0, 0) 38 [] []) (fun rr => some (rr, s) = some (r, σ'))) ((0 : Int32), σ) (fun o13 s14 => ?_) (fun rec I6 a b4 s5 K3 => ?_)
  · rcases o13 with vo13 | ro13
    · refine R_sml ?_
      refine R_iconst C (-1) dX7_emptied_38 (by decide) ?_
      exact R_iret C hr dX7_emptied_39
    · exact fun h => h
  · obtain ⟨v1, s2⟩ := a
    show bX7_emptied_2 E a0 (fun u0 t => rec (u0, t)) v1 s2 = some (b4, s5) → V κ G (QQ κ G E (some (.int r)) σ') E s2 (false, 0, 0) 2 [(0, .ref (G.1 + a0)), (1, .int v1)] []
    unfold bX7_emptied_2
    refine R_iload_n C 1 rfl dX7_emptied_2 ?_
    refine R_bipush C (6) dX7_emptied_3 (by decide) ?_
    refine B_icmp_ge C dX7_emptied_5 ?_ ?_
    · refine R_loc (lv2 := []) [] rfl ?_
      exact R_inr (VX := (fun (o : ((Int32) ⊕ Int32)) (s : Sg) => sm o (fun o => V κ G (QQ κ G E (some (.int r)) σ') E s (false, 0, 0) 38 [] []) (fun rr => some (rr, s) = some (r, σ')))) (i := .inl) K3 (fun h => h)
    · refine R_aload_n C 0 rfl dX7_emptied_8 ?_
      refine R_dr (fun x7 rx7 cx7 => ?_)
      refine R_getr C fl7_45 rfl ha0 rx7 dX7_emptied_9 ?_
      refine R_iload_n C 1 rfl dX7_emptied_12 ?_
      refine R_ck (fun h8 => ?_)
      refine R_iald C cx7 h8 dX7_emptied_13 ?_
      refine R_iconst C (-1) dX7_emptied_14 (by decide) ?_
      refine B_icmp_eq C dX7_emptied_15 ?_ ?_
      · refine S_iinc (fun v9 => [(1, .int v9), (0, .ref (G.1 + a0))]) 1 C dX7_emptied_32 rfl (by decide) (by decide) (fun _ => rfl) (fun v9 => ?_)
        refine R_goto C dX7_emptied_35 ?_
        refine R_loc (lv2 := [(0, .ref (G.1 + a0)), (1, .int v9)]) [1, 0] rfl ?_
        exact I6 (v9, s2) b4 s5 K3
      · refine R_aload_n C 0 rfl dX7_emptied_18 ?_
        refine R_dr (fun x10 rx10 cx10 => ?_)
        refine R_getr C fl7_9 rfl ha0 rx10 dX7_emptied_19 ?_
        refine R_bipush C (20) dX7_emptied_22 (by decide) ?_
        refine R_iload_n C 1 rfl dX7_emptied_24 ?_
        refine R_iadd C dX7_emptied_25 ?_
        refine R_ck (fun h11 => ?_)
        refine R_iald C cx10 h11 dX7_emptied_26 ?_
        refine B_if_ne C dX7_emptied_27 ?_ ?_
        · refine S_iinc (fun v12 => [(1, .int v12), (0, .ref (G.1 + a0))]) 1 C dX7_emptied_32 rfl (by decide) (by decide) (fun _ => rfl) (fun v12 => ?_)
          refine R_goto C dX7_emptied_35 ?_
          refine R_loc (lv2 := [(0, .ref (G.1 + a0)), (1, .int v12)]) [1, 0] rfl ?_
          exact I6 (v12, s2) b4 s5 K3
        · refine R_iload_n C 1 rfl dX7_emptied_30 ?_
          exact R_inr (VX := (fun (o : ((Int32) ⊕ Int32)) (s : Sg) => sm o (fun o => V κ G (QQ κ G E (some (.int r)) σ') E s (false, 0, 0) 38 [] []) (fun rr => some (rr, s) = some (r, σ')))) (i := .inr) K3 (R_iret C hr dX7_emptied_31)
theorem dX7_goesOn_0 : dk cX7_goesOn 0 1 (.aload_n 0) 1 := by unfold dk; decide +kernel
theorem dX7_goesOn_1 : dk cX7_goesOn 1 4 (.invokevirtual 158) 3 := by unfold dk; decide +kernel
theorem dX7_goesOn_4 : dk cX7_goesOn 4 5 (.iconst 1) 1 := by unfold dk; decide +kernel
theorem dX7_goesOn_13 : dk cX7_goesOn 13 14 (.aload_n 0) 1 := by unfold dk; decide +kernel
theorem dX7_goesOn_14 : dk cX7_goesOn 14 17 (.invokevirtual 252) 3 := by unfold dk; decide +kernel
theorem dX7_goesOn_17 : dk cX7_goesOn 17 18 (.istore_n 1) 1 := by unfold dk; decide +kernel
theorem dX7_goesOn_18 : dk cX7_goesOn 18 19 (.iload_n 1) 1 := by unfold dk; decide +kernel
theorem dX7_goesOn_19 : dk cX7_goesOn 19 20 (.iconst (-1)) 1 := by unfold dk; decide +kernel
theorem dX7_goesOn_24 : dk cX7_goesOn 24 25 (.aload_n 0) 1 := by unfold dk; decide +kernel
theorem dX7_goesOn_25 : dk cX7_goesOn 25 28 (.getfield 9) 3 := by unfold dk; decide +kernel
theorem dX7_goesOn_28 : dk cX7_goesOn 28 30 (.bipush 11) 2 := by unfold dk; decide +kernel
theorem dX7_goesOn_30 : dk cX7_goesOn 30 31 (.dup2) 1 := by unfold dk; decide +kernel
theorem dX7_goesOn_31 : dk cX7_goesOn 31 32 (.iaload) 1 := by unfold dk; decide +kernel
theorem dX7_goesOn_32 : dk cX7_goesOn 32 33 (.iconst 1) 1 := by unfold dk; decide +kernel
theorem dX7_goesOn_33 : dk cX7_goesOn 33 34 (.iadd) 1 := by unfold dk; decide +kernel
theorem dX7_goesOn_34 : dk cX7_goesOn 34 35 (.iastore) 1 := by unfold dk; decide +kernel
theorem dX7_goesOn_35 : dk cX7_goesOn 35 36 (.aload_n 0) 1 := by unfold dk; decide +kernel
theorem dX7_goesOn_36 : dk cX7_goesOn 36 39 (.getfield 9) 3 := by unfold dk; decide +kernel
theorem dX7_goesOn_39 : dk cX7_goesOn 39 41 (.bipush 13) 2 := by unfold dk; decide +kernel
theorem dX7_goesOn_41 : dk cX7_goesOn 41 42 (.iload_n 1) 1 := by unfold dk; decide +kernel
theorem dX7_goesOn_42 : dk cX7_goesOn 42 43 (.iastore) 1 := by unfold dk; decide +kernel
theorem dX7_goesOn_43 : dk cX7_goesOn 43 44 (.aload_n 0) 1 := by unfold dk; decide +kernel
theorem dX7_goesOn_44 : dk cX7_goesOn 44 47 (.invokevirtual 158) 3 := by unfold dk; decide +kernel
theorem dX7_goesOn_51 : dk cX7_goesOn 51 52 (.aload_n 0) 1 := by unfold dk; decide +kernel
theorem dX7_goesOn_52 : dk cX7_goesOn 52 55 (.getfield 9) 3 := by unfold dk; decide +kernel
theorem dX7_goesOn_55 : dk cX7_goesOn 55 57 (.bipush 16) 2 := by unfold dk; decide +kernel
theorem dX7_goesOn_57 : dk cX7_goesOn 57 58 (.dup2) 1 := by unfold dk; decide +kernel
theorem dX7_goesOn_58 : dk cX7_goesOn 58 59 (.iaload) 1 := by unfold dk; decide +kernel
theorem dX7_goesOn_59 : dk cX7_goesOn 59 60 (.iconst 1) 1 := by unfold dk; decide +kernel
theorem dX7_goesOn_60 : dk cX7_goesOn 60 61 (.iload_n 1) 1 := by unfold dk; decide +kernel
theorem dX7_goesOn_61 : dk cX7_goesOn 61 62 (.ishl) 1 := by unfold dk; decide +kernel
theorem dX7_goesOn_62 : dk cX7_goesOn 62 63 (.ior) 1 := by unfold dk; decide +kernel
theorem dX7_goesOn_63 : dk cX7_goesOn 63 64 (.iastore) 1 := by unfold dk; decide +kernel
theorem dX7_goesOn_64 : dk cX7_goesOn 64 65 (.iconst 0) 1 := by unfold dk; decide +kernel
theorem dX7_goesOn_65 : dk cX7_goesOn 65 66 (.istore_n 2) 1 := by unfold dk; decide +kernel
theorem dX7_goesOn_66 : dk cX7_goesOn 66 67 (.iconst 0) 1 := by unfold dk; decide +kernel
theorem dX7_goesOn_67 : dk cX7_goesOn 67 68 (.istore_n 3) 1 := by unfold dk; decide +kernel
theorem dX7_goesOn_68 : dk cX7_goesOn 68 69 (.iload_n 3) 1 := by unfold dk; decide +kernel
theorem dX7_goesOn_69 : dk cX7_goesOn 69 70 (.aload_n 0) 1 := by unfold dk; decide +kernel
theorem dX7_goesOn_70 : dk cX7_goesOn 70 73 (.invokevirtual 155) 3 := by unfold dk; decide +kernel
theorem dX7_goesOn_76 : dk cX7_goesOn 76 77 (.iload_n 2) 1 := by unfold dk; decide +kernel
theorem dX7_goesOn_77 : dk cX7_goesOn 77 78 (.aload_n 0) 1 := by unfold dk; decide +kernel
theorem dX7_goesOn_78 : dk cX7_goesOn 78 79 (.iload_n 3) 1 := by unfold dk; decide +kernel
theorem dX7_goesOn_79 : dk cX7_goesOn 79 82 (.invokevirtual 225) 3 := by unfold dk; decide +kernel
theorem dX7_goesOn_82 : dk cX7_goesOn 82 85 (.invokestatic 151) 3 := by unfold dk; decide +kernel
theorem dX7_goesOn_85 : dk cX7_goesOn 85 86 (.iadd) 1 := by unfold dk; decide +kernel
theorem dX7_goesOn_86 : dk cX7_goesOn 86 87 (.istore_n 2) 1 := by unfold dk; decide +kernel
theorem dX7_goesOn_87 : dk cX7_goesOn 87 90 (.iinc 3 1) 3 := by unfold dk; decide +kernel
theorem dX7_goesOn_90 : bk cX7_goesOn 90 93 68 (.goto (-22)) (-22) := by unfold bk; decide +kernel
theorem dX7_goesOn_73 : bk cX7_goesOn 73 76 93 (.if_icmp .ge 20) (20) := by unfold bk; decide +kernel
theorem dX7_goesOn_93 : dk cX7_goesOn 93 94 (.iload_n 2) 1 := by unfold dk; decide +kernel
theorem dX7_goesOn_94 : dk cX7_goesOn 94 95 (.iconst 2) 1 := by unfold dk; decide +kernel
theorem dX7_goesOn_95 : bk cX7_goesOn 95 98 102 (.if_icmp .ge 7) (7) := by unfold bk; decide +kernel
theorem dX7_goesOn_98 : dk cX7_goesOn 98 99 (.aload_n 0) 1 := by unfold dk; decide +kernel
theorem dX7_goesOn_99 : dk cX7_goesOn 99 102 (.invokevirtual 203) 3 := by unfold dk; decide +kernel
theorem dX7_goesOn_102 : dk cX7_goesOn 102 103 (.return_) 1 := by unfold dk; decide +kernel
theorem dX7_goesOn_50 : dk cX7_goesOn 50 51 (.return_) 1 := by unfold dk; decide +kernel
theorem dX7_goesOn_47 : bk cX7_goesOn 47 50 51 (.ifCond .ne 4) (4) := by unfold bk; decide +kernel
theorem dX7_goesOn_23 : dk cX7_goesOn 23 24 (.return_) 1 := by unfold dk; decide +kernel
theorem dX7_goesOn_20 : bk cX7_goesOn 20 23 24 (.if_icmp .ne 4) (4) := by unfold bk; decide +kernel
theorem dX7_goesOn_8 : dk cX7_goesOn 8 9 (.aload_n 0) 1 := by unfold dk; decide +kernel
theorem dX7_goesOn_9 : dk cX7_goesOn 9 12 (.invokevirtual 249) 3 := by unfold dk; decide +kernel
theorem dX7_goesOn_12 : dk cX7_goesOn 12 13 (.return_) 1 := by unfold dk; decide +kernel
theorem dX7_goesOn_5 : bk cX7_goesOn 5 8 13 (.if_icmp .ne 8) (8) := by unfold bk; decide +kernel
set_option maxHeartbeats 4000000 in
set_option maxRecDepth 100000 in
theorem kX7_goesOn {l : Launch} {G : Gl} {E : En} {a0 : Nat} {σ σ' : Sg} : fX7_goesOn E a0 σ = some σ' → CT l yX7_goesOn cX7_goesOn 4 none ({ frames := 3, cells := 0, slots := 0, locals := 65 } : Room) [.ref (G.1 + a0)] G E σ none σ' := by
  intro h
  refine CT_of (lv0 := [(0, .ref (G.1 + a0))]) (by decide) (Nat.le_of_ble_eq_true rfl) rfl (fun κ hl hR hr C => ?_)
  have C : Cx κ G cX7_goesOn RX7 4 := C
  revert h
  unfold fX7_goesOn
  refine R_tk (fun ha0 => ?_)
  refine R_aload_n C 0 rfl dX7_goesOn_0 ?_
  refine R_bd (fun r3 s1 q2 => ?_)
  refine R_callVi [] [] C ml7_158 (kX7_way q2) (by rw [hR]; exact ⟨rfl, rfl, Nat.le_of_ble_eq_true rfl, Nat.le_of_ble_eq_true rfl, Nat.zero_le _, Nat.zero_le _⟩) ha0 rfl rfl (Nat.le_of_ble_eq_true rfl) dX7_goesOn_1 ?_
  refine R_iconst C (1) dX7_goesOn_4 (by decide) ?_
  refine B_icmp_ne C dX7_goesOn_5 ?_ ?_
  · refine R_aload_n C 0 rfl dX7_goesOn_13 ?_
    refine R_bd (fun r6 s4 q5 => ?_)
    refine R_callVi [] [] C ml7_252 (kX7_emptied q5) (by rw [hR]; exact ⟨rfl, rfl, Nat.le_of_ble_eq_true rfl, Nat.le_of_ble_eq_true rfl, Nat.zero_le _, Nat.zero_le _⟩) ha0 rfl rfl (Nat.le_of_ble_eq_true rfl) dX7_goesOn_14 ?_
    refine R_istore_n (lv2 := [(1, .int r6), (0, .ref (G.1 + a0))]) C dX7_goesOn_17 rfl (by decide) rfl ?_
    refine R_iload_n C 0 rfl dX7_goesOn_18 ?_
    refine R_iconst C (-1) dX7_goesOn_19 (by decide) ?_
    refine B_icmp_ne C dX7_goesOn_20 ?_ ?_
    · refine R_aload_n C 1 rfl dX7_goesOn_24 ?_
      refine R_dr (fun x7 rx7 cx7 => ?_)
      refine R_getr C fl7_9 rfl ha0 rx7 dX7_goesOn_25 ?_
      refine R_bipush C (11) dX7_goesOn_28 (by decide) ?_
      refine R_dup2 C dX7_goesOn_30 rfl rfl ?_
      refine R_ck (fun h8 => ?_)
      refine R_iald C cx7 h8 dX7_goesOn_31 ?_
      refine R_iconst C (1) dX7_goesOn_32 (by decide) ?_
      refine R_iadd C dX7_goesOn_33 ?_
      refine R_ck (fun h9 => ?_)
      refine S_iast C cx7 h9 dX7_goesOn_34 (fun s10 => ?_)
      refine R_aload_n C 1 rfl dX7_goesOn_35 ?_
      refine R_getr C fl7_9 rfl ha0 rx7 dX7_goesOn_36 ?_
      refine R_bipush C (13) dX7_goesOn_39 (by decide) ?_
      refine R_iload_n C 0 rfl dX7_goesOn_41 ?_
      refine R_ck (fun h11 => ?_)
      refine S_iast C cx7 h11 dX7_goesOn_42 (fun s12 => ?_)
      refine R_aload_n C 1 rfl dX7_goesOn_43 ?_
      refine R_bd (fun r15 s13 q14 => ?_)
      refine R_callVi [] [] C ml7_158 (kX7_way q14) (by rw [hR]; exact ⟨rfl, rfl, Nat.le_of_ble_eq_true rfl, Nat.le_of_ble_eq_true rfl, Nat.zero_le _, Nat.zero_le _⟩) ha0 rfl rfl (Nat.le_of_ble_eq_true rfl) dX7_goesOn_44 ?_
      refine B_if_ne C dX7_goesOn_47 ?_ ?_
      · refine R_aload_n C 1 rfl dX7_goesOn_51 ?_
        refine R_getr C fl7_9 rfl ha0 rx7 dX7_goesOn_52 ?_
        refine R_bipush C (16) dX7_goesOn_55 (by decide) ?_
        refine R_dup2 C dX7_goesOn_57 rfl rfl ?_
        refine R_ck (fun h16 => ?_)
        refine R_iald C cx7 h16 dX7_goesOn_58 ?_
        refine R_iconst C (1) dX7_goesOn_59 (by decide) ?_
        refine R_iload_n C 0 rfl dX7_goesOn_60 ?_
        refine R_ishl C dX7_goesOn_61 ?_
        refine R_ior C dX7_goesOn_62 ?_
        refine R_ck (fun h17 => ?_)
        refine S_iast C cx7 h17 dX7_goesOn_63 (fun s18 => ?_)
        refine R_iconst C (0) dX7_goesOn_64 (by decide) ?_
        refine R_istore_n (lv2 := [(2, .int (0 : Int32)), (1, .int r6), (0, .ref (G.1 + a0))]) C dX7_goesOn_65 rfl (by decide) rfl ?_
        refine R_iconst C (0) dX7_goesOn_66 (by decide) ?_
        refine R_istore_n (lv2 := [(3, .int (0 : Int32)), (2, .int (0 : Int32)), (1, .int r6), (0, .ref (G.1 + a0))]) C dX7_goesOn_67 rfl (by decide) rfl ?_
        refine R_loc (lv2 := [(0, .ref (G.1 + a0)), (2, .int (0 : Int32)), (3, .int (0 : Int32))]) [3, 1, 0] rfl ?_
        refine R_loop (fun (a : (Int32 × Int32) × Sg) => V κ G (QQ κ G E none σ') E a.2 (false, 0, 0) 68 [(0, .ref (G.1 + a0)), (2, .int a.1.1), (3, .int a.1.2)] []) (fun (o : (Int32 × Int32)) (s : Sg) => V κ G (QQ κ G E none σ') E s (false, 0, 0) 93 [(0, .ref (G.1 + a0)), (2, .int o.1)] []) (((0 : Int32), (0 : Int32)), s18) (fun o37 s38 => ?_) (fun rec I25 a b23 s24 K22 => ?_)
        · refine R_iload_n C 1 rfl dX7_goesOn_93 ?_
          refine R_iconst C (2) dX7_goesOn_94 (by decide) ?_
          refine R_bdK (fun (w : Unit) (s : Sg) => V κ G (QQ κ G E none σ') E s (false, 0, 0) 102 [] []) (fun w39 s40 => ?_) (fun w39 s40 Kw39 => ?_)
          · exact R_vret C hr dX7_goesOn_102
          · refine B_icmp_ge C dX7_goesOn_95 ?_ ?_
            · refine R_loc (lv2 := []) [] rfl ?_
              exact R_end (fun (w : Unit) (s : Sg) => V κ G (QQ κ G E none σ') E s (false, 0, 0) 102 [] []) Kw39
            · refine R_aload_n C 0 rfl dX7_goesOn_98 ?_
              refine R_bv (fun s41 q42 => ?_)
              refine R_callVv [] [] C ml7_203 (kX7_beginsPass q42) (by rw [hR]; exact ⟨rfl, rfl, Nat.le_of_ble_eq_true rfl, Nat.le_of_ble_eq_true rfl, Nat.zero_le _, Nat.zero_le _⟩) ha0 rfl rfl (Nat.le_of_ble_eq_true rfl) dX7_goesOn_99 ?_
              refine R_loc (lv2 := []) [] rfl ?_
              exact R_end (fun (w : Unit) (s : Sg) => V κ G (QQ κ G E none σ') E s (false, 0, 0) 102 [] []) Kw39
        · obtain ⟨⟨v19, v20⟩, s21⟩ := a
          show bX7_goesOn_68 E a0 (fun u0 u1 t => rec ((u0, u1), t)) v19 v20 s21 = some (b23, s24) → V κ G (QQ κ G E none σ') E s21 (false, 0, 0) 68 [(0, .ref (G.1 + a0)), (2, .int v19), (3, .int v20)] []
          unfold bX7_goesOn_68
          refine R_iload_n C 2 rfl dX7_goesOn_68 ?_
          refine R_aload_n C 0 rfl dX7_goesOn_69 ?_
          refine R_bd (fun r28 s26 q27 => ?_)
          refine R_callVi [] [.int v20] C ml7_155 (kX7_tapes q27) (by rw [hR]; exact ⟨rfl, rfl, Nat.le_of_ble_eq_true rfl, Nat.le_of_ble_eq_true rfl, Nat.zero_le _, Nat.zero_le _⟩) ha0 rfl rfl (Nat.le_of_ble_eq_true rfl) dX7_goesOn_70 ?_
          refine B_icmp_ge C dX7_goesOn_73 ?_ ?_
          · refine R_loc (lv2 := [(0, .ref (G.1 + a0)), (2, .int v19)]) [0, 1] rfl ?_
            exact R_end (fun (o : (Int32 × Int32)) (s : Sg) => V κ G (QQ κ G E none σ') E s (false, 0, 0) 93 [(0, .ref (G.1 + a0)), (2, .int o.1)] []) K22
          · refine R_iload_n C 1 rfl dX7_goesOn_76 ?_
            refine R_aload_n C 0 rfl dX7_goesOn_77 ?_
            refine R_iload_n C 2 rfl dX7_goesOn_78 ?_
            refine R_bd (fun r31 s29 q30 => ?_)
            refine R_callVi [.int v20] [.int v19] C ml7_225 (kX7_doesGive q30) (by rw [hR]; exact ⟨rfl, rfl, Nat.le_of_ble_eq_true rfl, Nat.le_of_ble_eq_true rfl, Nat.zero_le _, Nat.zero_le _⟩) ha0 rfl rfl (Nat.le_of_ble_eq_true rfl) dX7_goesOn_79 ?_
            refine R_bd (fun r34 s32 q33 => ?_)
            refine R_callSi [.int r31] [.int v19] C ml7_151 (kX7_truth q33) (by rw [hR]; exact ⟨rfl, rfl, Nat.le_of_ble_eq_true rfl, Nat.le_of_ble_eq_true rfl, Nat.zero_le _, Nat.zero_le _⟩) rfl rfl (Nat.le_of_ble_eq_true rfl) dX7_goesOn_82 ?_
            refine R_iadd C dX7_goesOn_85 ?_
            refine S_istore_n C dX7_goesOn_86 rfl (fun v35 => [(2, .int v35), (0, .ref (G.1 + a0)), (3, .int v20)]) (by decide) (fun _ => rfl) (fun v35 => ?_)
            refine S_iinc (fun v36 => [(3, .int v36), (2, .int v35), (0, .ref (G.1 + a0))]) 2 C dX7_goesOn_87 rfl (by decide) (by decide) (fun _ => rfl) (fun v36 => ?_)
            refine R_goto C dX7_goesOn_90 ?_
            refine R_loc (lv2 := [(0, .ref (G.1 + a0)), (2, .int v35), (3, .int v36)]) [2, 1, 0] rfl ?_
            exact I25 ((v35, v36), s32) b23 s24 K22
      · exact R_vret C hr dX7_goesOn_50
    · exact R_vret C hr dX7_goesOn_23
  · refine R_aload_n C 0 rfl dX7_goesOn_8 ?_
    refine R_bv (fun s43 q44 => ?_)
    refine R_callVv [] [] C ml7_249 (kX7_goesOnBalanced q44) (by rw [hR]; exact ⟨rfl, rfl, Nat.le_of_ble_eq_true rfl, Nat.le_of_ble_eq_true rfl, Nat.zero_le _, Nat.zero_le _⟩) ha0 rfl rfl (Nat.le_of_ble_eq_true rfl) dX7_goesOn_9 ?_
    exact R_vret C hr dX7_goesOn_12
theorem dX7_steps_0 : dk cX7_steps 0 1 (.aload_n 0) 1 := by unfold dk; decide +kernel
theorem dX7_steps_1 : dk cX7_steps 1 4 (.invokevirtual 234) 3 := by unfold dk; decide +kernel
theorem dX7_steps_4 : dk cX7_steps 4 5 (.istore_n 1) 1 := by unfold dk; decide +kernel
theorem dX7_steps_5 : dk cX7_steps 5 6 (.iconst 0) 1 := by unfold dk; decide +kernel
theorem dX7_steps_6 : dk cX7_steps 6 7 (.istore_n 2) 1 := by unfold dk; decide +kernel
theorem dX7_steps_7 : dk cX7_steps 7 8 (.iconst (-1)) 1 := by unfold dk; decide +kernel
theorem dX7_steps_8 : dk cX7_steps 8 9 (.istore_n 3) 1 := by unfold dk; decide +kernel
theorem dX7_steps_9 : dk cX7_steps 9 10 (.iconst 0) 1 := by unfold dk; decide +kernel
theorem dX7_steps_10 : dk cX7_steps 10 12 (.istore 4) 2 := by unfold dk; decide +kernel
theorem dX7_steps_12 : dk cX7_steps 12 14 (.iload 4) 2 := by unfold dk; decide +kernel
theorem dX7_steps_14 : dk cX7_steps 14 16 (.bipush 6) 2 := by unfold dk; decide +kernel
theorem dX7_steps_19 : dk cX7_steps 19 20 (.aload_n 0) 1 := by unfold dk; decide +kernel
theorem dX7_steps_20 : dk cX7_steps 20 23 (.getfield 45) 3 := by unfold dk; decide +kernel
theorem dX7_steps_23 : dk cX7_steps 23 25 (.iload 4) 2 := by unfold dk; decide +kernel
theorem dX7_steps_25 : dk cX7_steps 25 26 (.iaload) 1 := by unfold dk; decide +kernel
theorem dX7_steps_26 : dk cX7_steps 26 27 (.iconst (-1)) 1 := by unfold dk; decide +kernel
theorem dX7_steps_27 : bk cX7_steps 27 30 176 (.if_icmp .eq 149) (149) := by unfold bk; decide +kernel
theorem dX7_steps_30 : dk cX7_steps 30 31 (.aload_n 0) 1 := by unfold dk; decide +kernel
theorem dX7_steps_31 : dk cX7_steps 31 33 (.iload 4) 2 := by unfold dk; decide +kernel
theorem dX7_steps_33 : dk cX7_steps 33 36 (.invokevirtual 237) 3 := by unfold dk; decide +kernel
theorem dX7_steps_36 : dk cX7_steps 36 37 (.pop) 1 := by unfold dk; decide +kernel
theorem dX7_steps_37 : dk cX7_steps 37 38 (.iload_n 2) 1 := by unfold dk; decide +kernel
theorem dX7_steps_38 : dk cX7_steps 38 39 (.aload_n 0) 1 := by unfold dk; decide +kernel
theorem dX7_steps_39 : dk cX7_steps 39 42 (.getfield 9) 3 := by unfold dk; decide +kernel
theorem dX7_steps_42 : dk cX7_steps 42 45 (.sipush 1927) 3 := by unfold dk; decide +kernel
theorem dX7_steps_45 : dk cX7_steps 45 46 (.aload_n 0) 1 := by unfold dk; decide +kernel
theorem dX7_steps_46 : dk cX7_steps 46 49 (.getfield 45) 3 := by unfold dk; decide +kernel
theorem dX7_steps_49 : dk cX7_steps 49 51 (.iload 4) 2 := by unfold dk; decide +kernel
theorem dX7_steps_51 : dk cX7_steps 51 52 (.iaload) 1 := by unfold dk; decide +kernel
theorem dX7_steps_52 : dk cX7_steps 52 53 (.iadd) 1 := by unfold dk; decide +kernel
theorem dX7_steps_53 : dk cX7_steps 53 54 (.iaload) 1 := by unfold dk; decide +kernel
theorem dX7_steps_54 : dk cX7_steps 54 55 (.iadd) 1 := by unfold dk; decide +kernel
theorem dX7_steps_55 : dk cX7_steps 55 56 (.istore_n 2) 1 := by unfold dk; decide +kernel
theorem dX7_steps_56 : dk cX7_steps 56 57 (.iload_n 3) 1 := by unfold dk; decide +kernel
theorem dX7_steps_57 : dk cX7_steps 57 58 (.iconst (-1)) 1 := by unfold dk; decide +kernel
theorem dX7_steps_58 : bk cX7_steps 58 61 71 (.if_icmp .ne 13) (13) := by unfold bk; decide +kernel
theorem dX7_steps_71 : dk cX7_steps 71 72 (.iload_n 3) 1 := by unfold dk; decide +kernel
theorem dX7_steps_61 : dk cX7_steps 61 62 (.aload_n 0) 1 := by unfold dk; decide +kernel
theorem dX7_steps_62 : dk cX7_steps 62 65 (.getfield 45) 3 := by unfold dk; decide +kernel
theorem dX7_steps_65 : dk cX7_steps 65 67 (.iload 4) 2 := by unfold dk; decide +kernel
theorem dX7_steps_67 : dk cX7_steps 67 68 (.iaload) 1 := by unfold dk; decide +kernel
theorem dX7_steps_68 : bk cX7_steps 68 71 72 (.goto 4) (4) := by unfold bk; decide +kernel
theorem dX7_steps_72 : dk cX7_steps 72 73 (.istore_n 3) 1 := by unfold dk; decide +kernel
theorem dX7_steps_73 : dk cX7_steps 73 74 (.aload_n 0) 1 := by unfold dk; decide +kernel
theorem dX7_steps_74 : dk cX7_steps 74 77 (.getfield 9) 3 := by unfold dk; decide +kernel
theorem dX7_steps_77 : dk cX7_steps 77 80 (.sipush 1927) 3 := by unfold dk; decide +kernel
theorem dX7_steps_80 : dk cX7_steps 80 81 (.aload_n 0) 1 := by unfold dk; decide +kernel
theorem dX7_steps_81 : dk cX7_steps 81 84 (.getfield 45) 3 := by unfold dk; decide +kernel
theorem dX7_steps_84 : dk cX7_steps 84 86 (.iload 4) 2 := by unfold dk; decide +kernel
theorem dX7_steps_86 : dk cX7_steps 86 87 (.iaload) 1 := by unfold dk; decide +kernel
theorem dX7_steps_87 : dk cX7_steps 87 88 (.iadd) 1 := by unfold dk; decide +kernel
theorem dX7_steps_88 : dk cX7_steps 88 89 (.iaload) 1 := by unfold dk; decide +kernel
theorem dX7_steps_89 : bk cX7_steps 89 92 138 (.ifCond .le 49) (49) := by unfold bk; decide +kernel
theorem dX7_steps_138 : dk cX7_steps 138 139 (.iconst 0) 1 := by unfold dk; decide +kernel
theorem dX7_steps_92 : dk cX7_steps 92 93 (.aload_n 0) 1 := by unfold dk; decide +kernel
theorem dX7_steps_93 : dk cX7_steps 93 96 (.getfield 9) 3 := by unfold dk; decide +kernel
theorem dX7_steps_96 : dk cX7_steps 96 99 (.sipush 2627) 3 := by unfold dk; decide +kernel
theorem dX7_steps_99 : dk cX7_steps 99 100 (.aload_n 0) 1 := by unfold dk; decide +kernel
theorem dX7_steps_100 : dk cX7_steps 100 103 (.getfield 45) 3 := by unfold dk; decide +kernel
theorem dX7_steps_103 : dk cX7_steps 103 105 (.iload 4) 2 := by unfold dk; decide +kernel
theorem dX7_steps_105 : dk cX7_steps 105 106 (.iaload) 1 := by unfold dk; decide +kernel
theorem dX7_steps_106 : dk cX7_steps 106 107 (.iadd) 1 := by unfold dk; decide +kernel
theorem dX7_steps_107 : dk cX7_steps 107 108 (.iaload) 1 := by unfold dk; decide +kernel
theorem dX7_steps_108 : dk cX7_steps 108 109 (.aload_n 0) 1 := by unfold dk; decide +kernel
theorem dX7_steps_109 : dk cX7_steps 109 112 (.invokevirtual 188) 3 := by unfold dk; decide +kernel
theorem dX7_steps_112 : bk cX7_steps 112 115 130 (.ifCond .eq 18) (18) := by unfold bk; decide +kernel
theorem dX7_steps_130 : dk cX7_steps 130 131 (.iconst 1) 1 := by unfold dk; decide +kernel
theorem dX7_steps_115 : dk cX7_steps 115 116 (.iload_n 1) 1 := by unfold dk; decide +kernel
theorem dX7_steps_116 : bk cX7_steps 116 119 123 (.ifCond .ne 7) (7) := by unfold bk; decide +kernel
theorem dX7_steps_123 : dk cX7_steps 123 124 (.iconst 0) 1 := by unfold dk; decide +kernel
theorem dX7_steps_119 : dk cX7_steps 119 120 (.iconst 1) 1 := by unfold dk; decide +kernel
theorem dX7_steps_120 : bk cX7_steps 120 123 124 (.goto 4) (4) := by unfold bk; decide +kernel
theorem dX7_steps_124 : dk cX7_steps 124 127 (.invokestatic 151) 3 := by unfold dk; decide +kernel
theorem dX7_steps_127 : bk cX7_steps 127 130 131 (.goto 4) (4) := by unfold bk; decide +kernel
theorem dX7_steps_134 : dk cX7_steps 134 135 (.iconst 1) 1 := by unfold dk; decide +kernel
theorem dX7_steps_135 : bk cX7_steps 135 138 139 (.goto 4) (4) := by unfold bk; decide +kernel
theorem dX7_steps_131 : bk cX7_steps 131 134 138 (.if_icmp .ne 7) (7) := by unfold bk; decide +kernel
theorem dX7_steps_139 : dk cX7_steps 139 141 (.istore 5) 2 := by unfold dk; decide +kernel
theorem dX7_steps_141 : dk cX7_steps 141 142 (.aload_n 0) 1 := by unfold dk; decide +kernel
theorem dX7_steps_142 : dk cX7_steps 142 145 (.getfield 9) 3 := by unfold dk; decide +kernel
theorem dX7_steps_145 : dk cX7_steps 145 147 (.bipush 12) 2 := by unfold dk; decide +kernel
theorem dX7_steps_147 : dk cX7_steps 147 148 (.dup2) 1 := by unfold dk; decide +kernel
theorem dX7_steps_148 : dk cX7_steps 148 149 (.iaload) 1 := by unfold dk; decide +kernel
theorem dX7_steps_149 : dk cX7_steps 149 151 (.iload 5) 2 := by unfold dk; decide +kernel
theorem dX7_steps_151 : bk cX7_steps 151 154 173 (.ifCond .eq 22) (22) := by unfold bk; decide +kernel
theorem dX7_steps_173 : dk cX7_steps 173 174 (.iconst 0) 1 := by unfold dk; decide +kernel
theorem dX7_steps_154 : dk cX7_steps 154 155 (.aload_n 0) 1 := by unfold dk; decide +kernel
theorem dX7_steps_155 : dk cX7_steps 155 158 (.getfield 9) 3 := by unfold dk; decide +kernel
theorem dX7_steps_158 : dk cX7_steps 158 161 (.sipush 1927) 3 := by unfold dk; decide +kernel
theorem dX7_steps_161 : dk cX7_steps 161 162 (.aload_n 0) 1 := by unfold dk; decide +kernel
theorem dX7_steps_162 : dk cX7_steps 162 165 (.getfield 45) 3 := by unfold dk; decide +kernel
theorem dX7_steps_165 : dk cX7_steps 165 167 (.iload 4) 2 := by unfold dk; decide +kernel
theorem dX7_steps_167 : dk cX7_steps 167 168 (.iaload) 1 := by unfold dk; decide +kernel
theorem dX7_steps_168 : dk cX7_steps 168 169 (.iadd) 1 := by unfold dk; decide +kernel
theorem dX7_steps_169 : dk cX7_steps 169 170 (.iaload) 1 := by unfold dk; decide +kernel
theorem dX7_steps_170 : bk cX7_steps 170 173 174 (.goto 4) (4) := by unfold bk; decide +kernel
theorem dX7_steps_174 : dk cX7_steps 174 175 (.iadd) 1 := by unfold dk; decide +kernel
theorem dX7_steps_175 : dk cX7_steps 175 176 (.iastore) 1 := by unfold dk; decide +kernel
theorem dX7_steps_176 : dk cX7_steps 176 179 (.iinc 4 1) 3 := by unfold dk; decide +kernel
theorem dX7_steps_179 : bk cX7_steps 179 182 12 (.goto (-167)) (-167) := by unfold bk; decide +kernel
theorem dX7_steps_16 : bk cX7_steps 16 19 182 (.if_icmp .ge 166) (166) := by unfold bk; decide +kernel
theorem dX7_steps_182 : dk cX7_steps 182 183 (.aload_n 0) 1 := by unfold dk; decide +kernel
theorem dX7_steps_183 : dk cX7_steps 183 186 (.invokevirtual 240) 3 := by unfold dk; decide +kernel
theorem dX7_steps_186 : dk cX7_steps 186 188 (.istore 4) 2 := by unfold dk; decide +kernel
theorem dX7_steps_188 : dk cX7_steps 188 189 (.aload_n 0) 1 := by unfold dk; decide +kernel
theorem dX7_steps_189 : dk cX7_steps 189 192 (.getfield 9) 3 := by unfold dk; decide +kernel
theorem dX7_steps_192 : dk cX7_steps 192 195 (.sipush 1227) 3 := by unfold dk; decide +kernel
theorem dX7_steps_195 : dk cX7_steps 195 196 (.iload_n 3) 1 := by unfold dk; decide +kernel
theorem dX7_steps_196 : dk cX7_steps 196 197 (.iadd) 1 := by unfold dk; decide +kernel
theorem dX7_steps_197 : dk cX7_steps 197 199 (.iload 4) 2 := by unfold dk; decide +kernel
theorem dX7_steps_199 : dk cX7_steps 199 200 (.iastore) 1 := by unfold dk; decide +kernel
theorem dX7_steps_200 : dk cX7_steps 200 201 (.aload_n 0) 1 := by unfold dk; decide +kernel
theorem dX7_steps_201 : dk cX7_steps 201 204 (.getfield 9) 3 := by unfold dk; decide +kernel
theorem dX7_steps_204 : dk cX7_steps 204 207 (.sipush 1927) 3 := by unfold dk; decide +kernel
theorem dX7_steps_207 : dk cX7_steps 207 208 (.iload_n 3) 1 := by unfold dk; decide +kernel
theorem dX7_steps_208 : dk cX7_steps 208 209 (.iadd) 1 := by unfold dk; decide +kernel
theorem dX7_steps_209 : dk cX7_steps 209 210 (.iload_n 2) 1 := by unfold dk; decide +kernel
theorem dX7_steps_210 : dk cX7_steps 210 211 (.iastore) 1 := by unfold dk; decide +kernel
theorem dX7_steps_211 : dk cX7_steps 211 212 (.aload_n 0) 1 := by unfold dk; decide +kernel
theorem dX7_steps_212 : dk cX7_steps 212 215 (.getfield 9) 3 := by unfold dk; decide +kernel
theorem dX7_steps_215 : dk cX7_steps 215 218 (.sipush 2627) 3 := by unfold dk; decide +kernel
theorem dX7_steps_218 : dk cX7_steps 218 219 (.iload_n 3) 1 := by unfold dk; decide +kernel
theorem dX7_steps_219 : dk cX7_steps 219 220 (.iadd) 1 := by unfold dk; decide +kernel
theorem dX7_steps_220 : dk cX7_steps 220 221 (.iload_n 1) 1 := by unfold dk; decide +kernel
theorem dX7_steps_221 : bk cX7_steps 221 224 232 (.ifCond .ne 11) (11) := by unfold bk; decide +kernel
theorem dX7_steps_232 : dk cX7_steps 232 233 (.iconst 0) 1 := by unfold dk; decide +kernel
theorem dX7_steps_224 : dk cX7_steps 224 225 (.iload_n 2) 1 := by unfold dk; decide +kernel
theorem dX7_steps_228 : dk cX7_steps 228 229 (.iconst 1) 1 := by unfold dk; decide +kernel
theorem dX7_steps_229 : bk cX7_steps 229 232 233 (.goto 4) (4) := by unfold bk; decide +kernel
theorem dX7_steps_225 : bk cX7_steps 225 228 232 (.ifCond .le 7) (7) := by unfold bk; decide +kernel
theorem dX7_steps_233 : dk cX7_steps 233 236 (.invokestatic 151) 3 := by unfold dk; decide +kernel
theorem dX7_steps_236 : dk cX7_steps 236 237 (.iastore) 1 := by unfold dk; decide +kernel
theorem dX7_steps_237 : dk cX7_steps 237 238 (.aload_n 0) 1 := by unfold dk; decide +kernel
theorem dX7_steps_238 : dk cX7_steps 238 240 (.iload 4) 2 := by unfold dk; decide +kernel
theorem dX7_steps_240 : dk cX7_steps 240 241 (.iload_n 2) 1 := by unfold dk; decide +kernel
theorem dX7_steps_241 : dk cX7_steps 241 242 (.iload_n 1) 1 := by unfold dk; decide +kernel
theorem dX7_steps_242 : dk cX7_steps 242 245 (.invokevirtual 212) 3 := by unfold dk; decide +kernel
theorem dX7_steps_245 : dk cX7_steps 245 246 (.aload_n 0) 1 := by unfold dk; decide +kernel
theorem dX7_steps_246 : dk cX7_steps 246 249 (.invokevirtual 188) 3 := by unfold dk; decide +kernel
theorem dX7_steps_249 : bk cX7_steps 249 252 267 (.ifCond .eq 18) (18) := by unfold bk; decide +kernel
theorem dX7_steps_267 : dk cX7_steps 267 268 (.aload_n 0) 1 := by unfold dk; decide +kernel
theorem dX7_steps_268 : dk cX7_steps 268 269 (.aload_n 0) 1 := by unfold dk; decide +kernel
theorem dX7_steps_269 : dk cX7_steps 269 272 (.getfield 9) 3 := by unfold dk; decide +kernel
theorem dX7_steps_272 : dk cX7_steps 272 274 (.bipush 13) 2 := by unfold dk; decide +kernel
theorem dX7_steps_274 : dk cX7_steps 274 275 (.iaload) 1 := by unfold dk; decide +kernel
theorem dX7_steps_275 : dk cX7_steps 275 276 (.iload_n 3) 1 := by unfold dk; decide +kernel
theorem dX7_steps_276 : dk cX7_steps 276 279 (.invokevirtual 182) 3 := by unfold dk; decide +kernel
theorem dX7_steps_252 : dk cX7_steps 252 253 (.aload_n 0) 1 := by unfold dk; decide +kernel
theorem dX7_steps_253 : dk cX7_steps 253 254 (.aload_n 0) 1 := by unfold dk; decide +kernel
theorem dX7_steps_254 : dk cX7_steps 254 257 (.getfield 9) 3 := by unfold dk; decide +kernel
theorem dX7_steps_257 : dk cX7_steps 257 259 (.bipush 13) 2 := by unfold dk; decide +kernel
theorem dX7_steps_259 : dk cX7_steps 259 260 (.iaload) 1 := by unfold dk; decide +kernel
theorem dX7_steps_260 : dk cX7_steps 260 261 (.iload_n 3) 1 := by unfold dk; decide +kernel
theorem dX7_steps_261 : dk cX7_steps 261 264 (.invokevirtual 243) 3 := by unfold dk; decide +kernel
theorem dX7_steps_264 : bk cX7_steps 264 267 279 (.goto 15) (15) := by unfold bk; decide +kernel
theorem dX7_steps_279 : dk cX7_steps 279 280 (.aload_n 0) 1 := by unfold dk; decide +kernel
theorem dX7_steps_280 : dk cX7_steps 280 283 (.getfield 9) 3 := by unfold dk; decide +kernel
theorem dX7_steps_283 : dk cX7_steps 283 285 (.bipush 9) 2 := by unfold dk; decide +kernel
theorem dX7_steps_285 : dk cX7_steps 285 286 (.dup2) 1 := by unfold dk; decide +kernel
theorem dX7_steps_286 : dk cX7_steps 286 287 (.iaload) 1 := by unfold dk; decide +kernel
theorem dX7_steps_287 : dk cX7_steps 287 288 (.iload_n 2) 1 := by unfold dk; decide +kernel
theorem dX7_steps_288 : dk cX7_steps 288 289 (.iadd) 1 := by unfold dk; decide +kernel
theorem dX7_steps_289 : dk cX7_steps 289 290 (.iastore) 1 := by unfold dk; decide +kernel
theorem dX7_steps_290 : dk cX7_steps 290 291 (.aload_n 0) 1 := by unfold dk; decide +kernel
theorem dX7_steps_291 : dk cX7_steps 291 294 (.getfield 9) 3 := by unfold dk; decide +kernel
theorem dX7_steps_294 : dk cX7_steps 294 296 (.bipush 10) 2 := by unfold dk; decide +kernel
theorem dX7_steps_296 : dk cX7_steps 296 297 (.dup2) 1 := by unfold dk; decide +kernel
theorem dX7_steps_297 : dk cX7_steps 297 298 (.iaload) 1 := by unfold dk; decide +kernel
theorem dX7_steps_298 : dk cX7_steps 298 299 (.iconst 1) 1 := by unfold dk; decide +kernel
theorem dX7_steps_299 : dk cX7_steps 299 300 (.iadd) 1 := by unfold dk; decide +kernel
theorem dX7_steps_300 : dk cX7_steps 300 301 (.iastore) 1 := by unfold dk; decide +kernel
theorem dX7_steps_301 : dk cX7_steps 301 302 (.aload_n 0) 1 := by unfold dk; decide +kernel
theorem dX7_steps_302 : dk cX7_steps 302 305 (.invokevirtual 246) 3 := by unfold dk; decide +kernel
theorem dX7_steps_305 : dk cX7_steps 305 306 (.aload_n 0) 1 := by unfold dk; decide +kernel
theorem dX7_steps_306 : dk cX7_steps 306 309 (.invokevirtual 206) 3 := by unfold dk; decide +kernel
theorem dX7_steps_309 : dk cX7_steps 309 310 (.iload_n 2) 1 := by unfold dk; decide +kernel
theorem dX7_steps_310 : dk cX7_steps 310 311 (.ireturn) 1 := by unfold dk; decide +kernel
set_option maxHeartbeats 4000000 in
set_option maxRecDepth 100000 in
theorem kX7_steps {l : Launch} {G : Gl} {E : En} {a0 : Nat} {σ σ' : Sg} {r : Int32} : fX7_steps E a0 σ = some (r, σ') → CT l yX7_steps cX7_steps 6 (some .int) ({ frames := 4, cells := 0, slots := 0, locals := 88 } : Room) [.ref (G.1 + a0)] G E σ (some (.int r)) σ' := by
  intro h
  refine CT_of (lv0 := [(0, .ref (G.1 + a0))]) (by decide) (Nat.le_of_ble_eq_true rfl) rfl (fun κ hl hR hr C => ?_)
  have C : Cx κ G cX7_steps RX7 6 := C
  revert h
  unfold fX7_steps
  refine R_tk (fun ha0 => ?_)
  refine R_aload_n C 0 rfl dX7_steps_0 ?_
  refine R_bd (fun r3 s1 q2 => ?_)
  refine R_callVi [] [] C ml7_234 (kX7_laysTaken q2) (by rw [hR]; exact ⟨rfl, rfl, Nat.le_of_ble_eq_true rfl, Nat.le_of_ble_eq_true rfl, Nat.zero_le _, Nat.zero_le _⟩) ha0 rfl rfl (Nat.le_of_ble_eq_true rfl) dX7_steps_1 ?_
  refine R_istore_n (lv2 := [(1, .int r3), (0, .ref (G.1 + a0))]) C dX7_steps_4 rfl (by decide) rfl ?_
  refine R_iconst C (0) dX7_steps_5 (by decide) ?_
  refine R_istore_n (lv2 := [(2, .int (0 : Int32)), (1, .int r3), (0, .ref (G.1 + a0))]) C dX7_steps_6 rfl (by decide) rfl ?_
  refine R_iconst C (-1) dX7_steps_7 (by decide) ?_
  refine R_istore_n (lv2 := [(3, .int (-1 : Int32)), (2, .int (0 : Int32)), (1, .int r3), (0, .ref (G.1 + a0))]) C dX7_steps_8 rfl (by decide) rfl ?_
  refine R_iconst C (0) dX7_steps_9 (by decide) ?_
  refine R_istore (lv2 := [(4, .int (0 : Int32)), (3, .int (-1 : Int32)), (2, .int (0 : Int32)), (1, .int r3), (0, .ref (G.1 + a0))]) C dX7_steps_10 (by decide) rfl ?_
  refine R_loc (lv2 := [(1, .int r3), (0, .ref (G.1 + a0)), (2, .int (0 : Int32)), (3, .int (-1 : Int32)), (4, .int (0 : Int32))]) [3, 4, 2, 1, 0] rfl ?_
  refine R_loop (fun (a : (Int32 × Int32 × Int32) × Sg) => V κ G (QQ κ G E (some (.int r)) σ') E a.2 (false, 0, 0) 12 [(1, .int r3), (0, .ref (G.1 + a0)), (2, .int a.1.1), (3, .int a.1.2.1), (4, .int a.1.2.2)] []) (fun (o : (Int32 × Int32 × Int32)) (s : Sg) => V κ G (QQ κ G E (some (.int r)) σ') E s (false, 0, 0) 182 [(1, .int r3), (0, .ref (G.1 + a0)), (2, .int o.1), (3, .int o.2.1)] []) (((0 : Int32), (-1 : Int32), (0 : Int32)), s1) (fun o50 s51 => ?_) (fun rec I11 a b9 s10 K8 => ?_)
  · refine R_aload_n C 1 rfl dX7_steps_182 ?_
    refine R_bd (fun r54 s52 q53 => ?_)
    refine R_callVi [] [] C ml7_240 (kX7_gathers q53) (by rw [hR]; exact ⟨rfl, rfl, Nat.le_of_ble_eq_true rfl, Nat.le_of_ble_eq_true rfl, Nat.zero_le _, Nat.zero_le _⟩) ha0 rfl rfl (Nat.le_of_ble_eq_true rfl) dX7_steps_183 ?_
    refine R_istore (lv2 := [(4, .int r54), (1, .int r3), (0, .ref (G.1 + a0)), (2, .int o50.1), (3, .int o50.2.1)]) C dX7_steps_186 (by decide) rfl ?_
    refine R_aload_n C 2 rfl dX7_steps_188 ?_
    refine R_dr (fun x55 rx55 cx55 => ?_)
    refine R_getr C fl7_9 rfl ha0 rx55 dX7_steps_189 ?_
    refine R_sipush C (1227) dX7_steps_192 (by decide) ?_
    refine R_iload_n C 4 rfl dX7_steps_195 ?_
    refine R_iadd C dX7_steps_196 ?_
    refine R_iload C 0 rfl dX7_steps_197 ?_
    refine R_ck (fun h56 => ?_)
    refine S_iast C cx55 h56 dX7_steps_199 (fun s57 => ?_)
    refine R_aload_n C 2 rfl dX7_steps_200 ?_
    refine R_getr C fl7_9 rfl ha0 rx55 dX7_steps_201 ?_
    refine R_sipush C (1927) dX7_steps_204 (by decide) ?_
    refine R_iload_n C 4 rfl dX7_steps_207 ?_
    refine R_iadd C dX7_steps_208 ?_
    refine R_iload_n C 3 rfl dX7_steps_209 ?_
    refine R_ck (fun h58 => ?_)
    refine S_iast C cx55 h58 dX7_steps_210 (fun s59 => ?_)
    refine R_aload_n C 2 rfl dX7_steps_211 ?_
    refine R_getr C fl7_9 rfl ha0 rx55 dX7_steps_212 ?_
    refine R_sipush C (2627) dX7_steps_215 (by decide) ?_
    refine R_iload_n C 4 rfl dX7_steps_218 ?_
    refine R_iadd C dX7_steps_219 ?_
    refine R_iload_n C 1 rfl dX7_steps_220 ?_
    refine R_bdK (fun (w : Int32) (s : Sg) => V κ G (QQ κ G E (some (.int r)) σ') E s (false, 0, 0) 233 [(4, .int r54), (1, .int r3), (0, .ref (G.1 + a0)), (2, .int o50.1), (3, .int o50.2.1)] [.int w, .int ((2627 : Int32) + o50.2.1), .ref (G.1 + x55)]) (fun w60 s61 => ?_) (fun w60 s61 Kw60 => ?_)
    · refine R_bd (fun r64 s62 q63 => ?_)
      refine R_callSi [.int w60] [.int ((2627 : Int32) + o50.2.1), .ref (G.1 + x55)] C ml7_151 (kX7_truth q63) (by rw [hR]; exact ⟨rfl, rfl, Nat.le_of_ble_eq_true rfl, Nat.le_of_ble_eq_true rfl, Nat.zero_le _, Nat.zero_le _⟩) rfl rfl (Nat.le_of_ble_eq_true rfl) dX7_steps_233 ?_
      refine R_ck (fun h65 => ?_)
      refine S_iast C cx55 h65 dX7_steps_236 (fun s66 => ?_)
      refine R_aload_n C 2 rfl dX7_steps_237 ?_
      refine R_iload C 0 rfl dX7_steps_238 ?_
      refine R_iload_n C 3 rfl dX7_steps_240 ?_
      refine R_iload_n C 1 rfl dX7_steps_241 ?_
      refine R_bv (fun s67 q68 => ?_)
      refine R_callVv [.int r54, .int o50.1, .int r3] [] C ml7_212 (kX7_sorts q68) (by rw [hR]; exact ⟨rfl, rfl, Nat.le_of_ble_eq_true rfl, Nat.le_of_ble_eq_true rfl, Nat.zero_le _, Nat.zero_le _⟩) ha0 rfl rfl (Nat.le_of_ble_eq_true rfl) dX7_steps_242 ?_
      refine R_aload_n C 2 rfl dX7_steps_245 ?_
      refine R_bd (fun r71 s69 q70 => ?_)
      refine R_callVi [] [] C ml7_188 (kX7_isBack q70) (by rw [hR]; exact ⟨rfl, rfl, Nat.le_of_ble_eq_true rfl, Nat.le_of_ble_eq_true rfl, Nat.zero_le _, Nat.zero_le _⟩) ha0 rfl rfl (Nat.le_of_ble_eq_true rfl) dX7_steps_246 ?_
      refine R_bdK (fun (w : Unit) (s : Sg) => V κ G (QQ κ G E (some (.int r)) σ') E s (false, 0, 0) 279 [(0, .ref (G.1 + a0)), (2, .int o50.1)] []) (fun w72 s73 => ?_) (fun w72 s73 Kw72 => ?_)
      · refine R_aload_n C 0 rfl dX7_steps_279 ?_
        refine R_getr C fl7_9 rfl ha0 rx55 dX7_steps_280 ?_
        refine R_bipush C (9) dX7_steps_283 (by decide) ?_
        refine R_dup2 C dX7_steps_285 rfl rfl ?_
        refine R_ck (fun h80 => ?_)
        refine R_iald C cx55 h80 dX7_steps_286 ?_
        refine R_iload_n C 1 rfl dX7_steps_287 ?_
        refine R_iadd C dX7_steps_288 ?_
        refine R_ck (fun h81 => ?_)
        refine S_iast C cx55 h81 dX7_steps_289 (fun s82 => ?_)
        refine R_aload_n C 0 rfl dX7_steps_290 ?_
        refine R_getr C fl7_9 rfl ha0 rx55 dX7_steps_291 ?_
        refine R_bipush C (10) dX7_steps_294 (by decide) ?_
        refine R_dup2 C dX7_steps_296 rfl rfl ?_
        refine R_ck (fun h83 => ?_)
        refine R_iald C cx55 h83 dX7_steps_297 ?_
        refine R_iconst C (1) dX7_steps_298 (by decide) ?_
        refine R_iadd C dX7_steps_299 ?_
        refine R_ck (fun h84 => ?_)
        refine S_iast C cx55 h84 dX7_steps_300 (fun s85 => ?_)
        refine R_aload_n C 0 rfl dX7_steps_301 ?_
        refine R_bv (fun s86 q87 => ?_)
        refine R_callVv [] [] C ml7_246 (kX7_goesOn q87) (by rw [hR]; exact ⟨rfl, rfl, Nat.le_of_ble_eq_true rfl, Nat.le_of_ble_eq_true rfl, Nat.zero_le _, Nat.zero_le _⟩) ha0 rfl rfl (Nat.le_of_ble_eq_true rfl) dX7_steps_302 ?_
        refine R_aload_n C 0 rfl dX7_steps_305 ?_
        refine R_bv (fun s88 q89 => ?_)
        refine R_callVv [] [] C ml7_206 (kX7_looksWhetherMerged q89) (by rw [hR]; exact ⟨rfl, rfl, Nat.le_of_ble_eq_true rfl, Nat.le_of_ble_eq_true rfl, Nat.zero_le _, Nat.zero_le _⟩) ha0 rfl rfl (Nat.le_of_ble_eq_true rfl) dX7_steps_306 ?_
        refine R_iload_n C 1 rfl dX7_steps_309 ?_
        exact R_iret C hr dX7_steps_310
      · refine B_if_eq C dX7_steps_249 ?_ ?_
        · refine R_aload_n C 2 rfl dX7_steps_267 ?_
          refine R_aload_n C 2 rfl dX7_steps_268 ?_
          refine R_getr C fl7_9 rfl ha0 rx55 dX7_steps_269 ?_
          refine R_bipush C (13) dX7_steps_272 (by decide) ?_
          refine R_ck (fun h74 => ?_)
          refine R_iald C cx55 h74 dX7_steps_274 ?_
          refine R_iload_n C 4 rfl dX7_steps_275 ?_
          refine R_bv (fun s75 q76 => ?_)
          refine R_callVv [.int (gi s69 x55 (13 : Int32).toNatClampNeg), .int o50.2.1] [] C ml7_182 (kX7_comesLast q76) (by rw [hR]; exact ⟨rfl, rfl, Nat.le_of_ble_eq_true rfl, Nat.le_of_ble_eq_true rfl, Nat.zero_le _, Nat.zero_le _⟩) ha0 rfl rfl (Nat.le_of_ble_eq_true rfl) dX7_steps_276 ?_
          refine R_loc (lv2 := [(0, .ref (G.1 + a0)), (2, .int o50.1)]) [2, 3] rfl ?_
          exact R_end (fun (w : Unit) (s : Sg) => V κ G (QQ κ G E (some (.int r)) σ') E s (false, 0, 0) 279 [(0, .ref (G.1 + a0)), (2, .int o50.1)] []) Kw72
        · refine R_aload_n C 2 rfl dX7_steps_252 ?_
          refine R_aload_n C 2 rfl dX7_steps_253 ?_
          refine R_getr C fl7_9 rfl ha0 rx55 dX7_steps_254 ?_
          refine R_bipush C (13) dX7_steps_257 (by decide) ?_
          refine R_ck (fun h77 => ?_)
          refine R_iald C cx55 h77 dX7_steps_259 ?_
          refine R_iload_n C 4 rfl dX7_steps_260 ?_
          refine R_bv (fun s78 q79 => ?_)
          refine R_callVv [.int (gi s69 x55 (13 : Int32).toNatClampNeg), .int o50.2.1] [] C ml7_243 (kX7_comesFirst q79) (by rw [hR]; exact ⟨rfl, rfl, Nat.le_of_ble_eq_true rfl, Nat.le_of_ble_eq_true rfl, Nat.zero_le _, Nat.zero_le _⟩) ha0 rfl rfl (Nat.le_of_ble_eq_true rfl) dX7_steps_261 ?_
          refine R_goto C dX7_steps_264 ?_
          refine R_loc (lv2 := [(0, .ref (G.1 + a0)), (2, .int o50.1)]) [2, 3] rfl ?_
          exact R_end (fun (w : Unit) (s : Sg) => V κ G (QQ κ G E (some (.int r)) σ') E s (false, 0, 0) 279 [(0, .ref (G.1 + a0)), (2, .int o50.1)] []) Kw72
    · refine B_if_ne C dX7_steps_221 ?_ ?_
      · refine R_iconst C (0) dX7_steps_232 (by decide) ?_
        exact R_end (fun (w : Int32) (s : Sg) => V κ G (QQ κ G E (some (.int r)) σ') E s (false, 0, 0) 233 [(4, .int r54), (1, .int r3), (0, .ref (G.1 + a0)), (2, .int o50.1), (3, .int o50.2.1)] [.int w, .int ((2627 : Int32) + o50.2.1), .ref (G.1 + x55)]) Kw60
      · refine R_iload_n C 3 rfl dX7_steps_224 ?_
        refine B_if_le C dX7_steps_225 ?_ ?_
        · refine R_iconst C (0) dX7_steps_232 (by decide) ?_
          exact R_end (fun (w : Int32) (s : Sg) => V κ G (QQ κ G E (some (.int r)) σ') E s (false, 0, 0) 233 [(4, .int r54), (1, .int r3), (0, .ref (G.1 + a0)), (2, .int o50.1), (3, .int o50.2.1)] [.int w, .int ((2627 : Int32) + o50.2.1), .ref (G.1 + x55)]) Kw60
        · refine R_iconst C (1) dX7_steps_228 (by decide) ?_
          refine R_goto C dX7_steps_229 ?_
          exact R_end (fun (w : Int32) (s : Sg) => V κ G (QQ κ G E (some (.int r)) σ') E s (false, 0, 0) 233 [(4, .int r54), (1, .int r3), (0, .ref (G.1 + a0)), (2, .int o50.1), (3, .int o50.2.1)] [.int w, .int ((2627 : Int32) + o50.2.1), .ref (G.1 + x55)]) Kw60
  · obtain ⟨⟨v4, v5, v6⟩, s7⟩ := a
    show bX7_steps_12 E a0 r3 (fun u0 u1 u2 t => rec ((u0, u1, u2), t)) v4 v5 v6 s7 = some (b9, s10) → V κ G (QQ κ G E (some (.int r)) σ') E s7 (false, 0, 0) 12 [(1, .int r3), (0, .ref (G.1 + a0)), (2, .int v4), (3, .int v5), (4, .int v6)] []
    unfold bX7_steps_12
    refine R_iload C 4 rfl dX7_steps_12 ?_
    refine R_bipush C (6) dX7_steps_14 (by decide) ?_
    refine B_icmp_ge C dX7_steps_16 ?_ ?_
    · refine R_loc (lv2 := [(1, .int r3), (0, .ref (G.1 + a0)), (2, .int v4), (3, .int v5)]) [0, 1, 2, 3] rfl ?_
      exact R_end (fun (o : (Int32 × Int32 × Int32)) (s : Sg) => V κ G (QQ κ G E (some (.int r)) σ') E s (false, 0, 0) 182 [(1, .int r3), (0, .ref (G.1 + a0)), (2, .int o.1), (3, .int o.2.1)] []) K8
    · refine R_aload_n C 1 rfl dX7_steps_19 ?_
      refine R_dr (fun x12 rx12 cx12 => ?_)
      refine R_getr C fl7_45 rfl ha0 rx12 dX7_steps_20 ?_
      refine R_iload C 4 rfl dX7_steps_23 ?_
      refine R_ck (fun h13 => ?_)
      refine R_iald C cx12 h13 dX7_steps_25 ?_
      refine R_iconst C (-1) dX7_steps_26 (by decide) ?_
      refine R_bdK (fun (w : Int32 × Int32) (s : Sg) => V κ G (QQ κ G E (some (.int r)) σ') E s (false, 0, 0) 176 [(1, .int r3), (0, .ref (G.1 + a0)), (4, .int v6), (2, .int w.1), (3, .int w.2)] []) (fun w14 s15 => ?_) (fun w14 s15 Kw14 => ?_)
      · refine S_iinc (fun v49 => [(4, .int v49), (1, .int r3), (0, .ref (G.1 + a0)), (2, .int w14.1), (3, .int w14.2)]) 2 C dX7_steps_176 rfl (by decide) (by decide) (fun _ => rfl) (fun v49 => ?_)
        refine R_goto C dX7_steps_179 ?_
        refine R_loc (lv2 := [(1, .int r3), (0, .ref (G.1 + a0)), (2, .int w14.1), (3, .int w14.2), (4, .int v49)]) [1, 2, 3, 4, 0] rfl ?_
        exact I11 ((w14.1, w14.2, v49), s15) b9 s10 K8
      · refine B_icmp_eq C dX7_steps_27 ?_ ?_
        · refine R_loc (lv2 := [(1, .int r3), (0, .ref (G.1 + a0)), (4, .int v6), (2, .int v4), (3, .int v5)]) [0, 1, 4, 2, 3] rfl ?_
          exact R_end (fun (w : Int32 × Int32) (s : Sg) => V κ G (QQ κ G E (some (.int r)) σ') E s (false, 0, 0) 176 [(1, .int r3), (0, .ref (G.1 + a0)), (4, .int v6), (2, .int w.1), (3, .int w.2)] []) Kw14
        · refine R_aload_n C 1 rfl dX7_steps_30 ?_
          refine R_iload C 4 rfl dX7_steps_31 ?_
          refine R_bd (fun r18 s16 q17 => ?_)
          refine R_callVi [.int v6] [] C ml7_237 (kX7_takesFirst q17) (by rw [hR]; exact ⟨rfl, rfl, Nat.le_of_ble_eq_true rfl, Nat.le_of_ble_eq_true rfl, Nat.zero_le _, Nat.zero_le _⟩) ha0 rfl rfl (Nat.le_of_ble_eq_true rfl) dX7_steps_33 ?_
          refine R_pop C dX7_steps_36 rfl ?_
          refine R_iload_n C 2 rfl dX7_steps_37 ?_
          refine R_aload_n C 1 rfl dX7_steps_38 ?_
          refine R_dr (fun x19 rx19 cx19 => ?_)
          refine R_getr C fl7_9 rfl ha0 rx19 dX7_steps_39 ?_
          refine R_sipush C (1927) dX7_steps_42 (by decide) ?_
          refine R_aload_n C 1 rfl dX7_steps_45 ?_
          refine R_getr C fl7_45 rfl ha0 rx12 dX7_steps_46 ?_
          refine R_iload C 4 rfl dX7_steps_49 ?_
          refine R_ck (fun h20 => ?_)
          refine R_iald C cx12 h20 dX7_steps_51 ?_
          refine R_iadd C dX7_steps_52 ?_
          refine R_ck (fun h21 => ?_)
          refine R_iald C cx19 h21 dX7_steps_53 ?_
          refine R_iadd C dX7_steps_54 ?_
          refine S_istore_n C dX7_steps_55 rfl (fun v22 => [(2, .int v22), (1, .int r3), (0, .ref (G.1 + a0)), (3, .int v5), (4, .int v6)]) (by decide) (fun _ => rfl) (fun v22 => ?_)
          refine R_iload_n C 3 rfl dX7_steps_56 ?_
          refine R_iconst C (-1) dX7_steps_57 (by decide) ?_
          refine R_bdK (fun (w : Int32) (s : Sg) => V κ G (QQ κ G E (some (.int r)) σ') E s (false, 0, 0) 72 [(2, .int v22), (1, .int r3), (0, .ref (G.1 + a0)), (4, .int v6)] [.int w]) (fun w23 s24 => ?_) (fun w23 s24 Kw23 => ?_)
          · refine R_istore_n (lv2 := [(3, .int w23), (2, .int v22), (1, .int r3), (0, .ref (G.1 + a0)), (4, .int v6)]) C dX7_steps_72 rfl (by decide) rfl ?_
            refine R_aload_n C 3 rfl dX7_steps_73 ?_
            refine R_getr C fl7_9 rfl ha0 rx19 dX7_steps_74 ?_
            refine R_sipush C (1927) dX7_steps_77 (by decide) ?_
            refine R_aload_n C 3 rfl dX7_steps_80 ?_
            refine R_getr C fl7_45 rfl ha0 rx12 dX7_steps_81 ?_
            refine R_iload C 4 rfl dX7_steps_84 ?_
            refine R_ck (fun h26 => ?_)
            refine R_iald C cx12 h26 dX7_steps_86 ?_
            refine R_iadd C dX7_steps_87 ?_
            refine R_ck (fun h27 => ?_)
            refine R_iald C cx19 h27 dX7_steps_88 ?_
            refine R_bdK (fun (w : Int32) (s : Sg) => V κ G (QQ κ G E (some (.int r)) σ') E s (false, 0, 0) 139 [(3, .int w23), (2, .int v22), (1, .int r3), (0, .ref (G.1 + a0)), (4, .int v6)] [.int w]) (fun w28 s29 => ?_) (fun w28 s29 Kw28 => ?_)
            · refine R_istore (lv2 := [(5, .int w28), (3, .int w23), (2, .int v22), (1, .int r3), (0, .ref (G.1 + a0)), (4, .int v6)]) C dX7_steps_139 (by decide) rfl ?_
              refine R_aload_n C 4 rfl dX7_steps_141 ?_
              refine R_getr C fl7_9 rfl ha0 rx19 dX7_steps_142 ?_
              refine R_bipush C (12) dX7_steps_145 (by decide) ?_
              refine R_dup2 C dX7_steps_147 rfl rfl ?_
              refine R_ck (fun h42 => ?_)
              refine R_iald C cx19 h42 dX7_steps_148 ?_
              refine R_iload C 0 rfl dX7_steps_149 ?_
              refine R_bdK (fun (w : Int32) (s : Sg) => V κ G (QQ κ G E (some (.int r)) σ') E s (false, 0, 0) 174 [(3, .int w23), (2, .int v22), (1, .int r3), (0, .ref (G.1 + a0)), (4, .int v6)] [.int w, .int (gi s29 x19 (12 : Int32).toNatClampNeg), .int (12 : Int32), .ref (G.1 + x19)]) (fun w43 s44 => ?_) (fun w43 s44 Kw43 => ?_)
              · refine R_iadd C dX7_steps_174 ?_
                refine R_ck (fun h47 => ?_)
                refine S_iast C cx19 h47 dX7_steps_175 (fun s48 => ?_)
                refine R_loc (lv2 := [(1, .int r3), (0, .ref (G.1 + a0)), (4, .int v6), (2, .int v22), (3, .int w23)]) [2, 3, 4, 1, 0] rfl ?_
                exact R_end (fun (w : Int32 × Int32) (s : Sg) => V κ G (QQ κ G E (some (.int r)) σ') E s (false, 0, 0) 176 [(1, .int r3), (0, .ref (G.1 + a0)), (4, .int v6), (2, .int w.1), (3, .int w.2)] []) Kw14
              · refine B_if_eq C dX7_steps_151 ?_ ?_
                · refine R_iconst C (0) dX7_steps_173 (by decide) ?_
                  refine R_loc (lv2 := [(3, .int w23), (2, .int v22), (1, .int r3), (0, .ref (G.1 + a0)), (4, .int v6)]) [1, 2, 3, 4, 5] rfl ?_
                  exact R_end (fun (w : Int32) (s : Sg) => V κ G (QQ κ G E (some (.int r)) σ') E s (false, 0, 0) 174 [(3, .int w23), (2, .int v22), (1, .int r3), (0, .ref (G.1 + a0)), (4, .int v6)] [.int w, .int (gi s29 x19 (12 : Int32).toNatClampNeg), .int (12 : Int32), .ref (G.1 + x19)]) Kw43
                · refine R_aload_n C 4 rfl dX7_steps_154 ?_
                  refine R_getr C fl7_9 rfl ha0 rx19 dX7_steps_155 ?_
                  refine R_sipush C (1927) dX7_steps_158 (by decide) ?_
                  refine R_aload_n C 4 rfl dX7_steps_161 ?_
                  refine R_getr C fl7_45 rfl ha0 rx12 dX7_steps_162 ?_
                  refine R_iload C 5 rfl dX7_steps_165 ?_
                  refine R_ck (fun h45 => ?_)
                  refine R_iald C cx12 h45 dX7_steps_167 ?_
                  refine R_iadd C dX7_steps_168 ?_
                  refine R_ck (fun h46 => ?_)
                  refine R_iald C cx19 h46 dX7_steps_169 ?_
                  refine R_goto C dX7_steps_170 ?_
                  refine R_loc (lv2 := [(3, .int w23), (2, .int v22), (1, .int r3), (0, .ref (G.1 + a0)), (4, .int v6)]) [1, 2, 3, 4, 5] rfl ?_
                  exact R_end (fun (w : Int32) (s : Sg) => V κ G (QQ κ G E (some (.int r)) σ') E s (false, 0, 0) 174 [(3, .int w23), (2, .int v22), (1, .int r3), (0, .ref (G.1 + a0)), (4, .int v6)] [.int w, .int (gi s29 x19 (12 : Int32).toNatClampNeg), .int (12 : Int32), .ref (G.1 + x19)]) Kw43
            · refine B_if_le C dX7_steps_89 ?_ ?_
              · refine R_iconst C (0) dX7_steps_138 (by decide) ?_
                exact R_end (fun (w : Int32) (s : Sg) => V κ G (QQ κ G E (some (.int r)) σ') E s (false, 0, 0) 139 [(3, .int w23), (2, .int v22), (1, .int r3), (0, .ref (G.1 + a0)), (4, .int v6)] [.int w]) Kw28
              · refine R_aload_n C 3 rfl dX7_steps_92 ?_
                refine R_getr C fl7_9 rfl ha0 rx19 dX7_steps_93 ?_
                refine R_sipush C (2627) dX7_steps_96 (by decide) ?_
                refine R_aload_n C 3 rfl dX7_steps_99 ?_
                refine R_getr C fl7_45 rfl ha0 rx12 dX7_steps_100 ?_
                refine R_iload C 4 rfl dX7_steps_103 ?_
                refine R_ck (fun h30 => ?_)
                refine R_iald C cx12 h30 dX7_steps_105 ?_
                refine R_iadd C dX7_steps_106 ?_
                refine R_ck (fun h31 => ?_)
                refine R_iald C cx19 h31 dX7_steps_107 ?_
                refine R_aload_n C 3 rfl dX7_steps_108 ?_
                refine R_bd (fun r34 s32 q33 => ?_)
                refine R_callVi [] [.int (gi s24 x19 ((2627 : Int32) + (gi s24 x12 v6.toNatClampNeg)).toNatClampNeg)] C ml7_188 (kX7_isBack q33) (by rw [hR]; exact ⟨rfl, rfl, Nat.le_of_ble_eq_true rfl, Nat.le_of_ble_eq_true rfl, Nat.zero_le _, Nat.zero_le _⟩) ha0 rfl rfl (Nat.le_of_ble_eq_true rfl) dX7_steps_109 ?_
                refine R_bdK (fun (w : Int32) (s : Sg) => V κ G (QQ κ G E (some (.int r)) σ') E s (false, 0, 0) 131 [(3, .int w23), (2, .int v22), (1, .int r3), (0, .ref (G.1 + a0)), (4, .int v6)] [.int w, .int (gi s24 x19 ((2627 : Int32) + (gi s24 x12 v6.toNatClampNeg)).toNatClampNeg)]) (fun w35 s36 => ?_) (fun w35 s36 Kw35 => ?_)
                · refine B_icmp_ne C dX7_steps_131 ?_ ?_
                  · refine R_iconst C (0) dX7_steps_138 (by decide) ?_
                    exact R_end (fun (w : Int32) (s : Sg) => V κ G (QQ κ G E (some (.int r)) σ') E s (false, 0, 0) 139 [(3, .int w23), (2, .int v22), (1, .int r3), (0, .ref (G.1 + a0)), (4, .int v6)] [.int w]) Kw28
                  · refine R_iconst C (1) dX7_steps_134 (by decide) ?_
                    refine R_goto C dX7_steps_135 ?_
                    exact R_end (fun (w : Int32) (s : Sg) => V κ G (QQ κ G E (some (.int r)) σ') E s (false, 0, 0) 139 [(3, .int w23), (2, .int v22), (1, .int r3), (0, .ref (G.1 + a0)), (4, .int v6)] [.int w]) Kw28
                · refine B_if_eq C dX7_steps_112 ?_ ?_
                  · refine R_iconst C (1) dX7_steps_130 (by decide) ?_
                    exact R_end (fun (w : Int32) (s : Sg) => V κ G (QQ κ G E (some (.int r)) σ') E s (false, 0, 0) 131 [(3, .int w23), (2, .int v22), (1, .int r3), (0, .ref (G.1 + a0)), (4, .int v6)] [.int w, .int (gi s24 x19 ((2627 : Int32) + (gi s24 x12 v6.toNatClampNeg)).toNatClampNeg)]) Kw35
                  · refine R_iload_n C 2 rfl dX7_steps_115 ?_
                    refine R_bdK (fun (w : Int32) (s : Sg) => V κ G (QQ κ G E (some (.int r)) σ') E s (false, 0, 0) 124 [(3, .int w23), (2, .int v22), (1, .int r3), (0, .ref (G.1 + a0)), (4, .int v6)] [.int w, .int (gi s24 x19 ((2627 : Int32) + (gi s24 x12 v6.toNatClampNeg)).toNatClampNeg)]) (fun w37 s38 => ?_) (fun w37 s38 Kw37 => ?_)
                    · refine R_bd (fun r41 s39 q40 => ?_)
                      refine R_callSi [.int w37] [.int (gi s24 x19 ((2627 : Int32) + (gi s24 x12 v6.toNatClampNeg)).toNatClampNeg)] C ml7_151 (kX7_truth q40) (by rw [hR]; exact ⟨rfl, rfl, Nat.le_of_ble_eq_true rfl, Nat.le_of_ble_eq_true rfl, Nat.zero_le _, Nat.zero_le _⟩) rfl rfl (Nat.le_of_ble_eq_true rfl) dX7_steps_124 ?_
                      refine R_goto C dX7_steps_127 ?_
                      exact R_end (fun (w : Int32) (s : Sg) => V κ G (QQ κ G E (some (.int r)) σ') E s (false, 0, 0) 131 [(3, .int w23), (2, .int v22), (1, .int r3), (0, .ref (G.1 + a0)), (4, .int v6)] [.int w, .int (gi s24 x19 ((2627 : Int32) + (gi s24 x12 v6.toNatClampNeg)).toNatClampNeg)]) Kw35
                    · refine B_if_ne C dX7_steps_116 ?_ ?_
                      · refine R_iconst C (0) dX7_steps_123 (by decide) ?_
                        exact R_end (fun (w : Int32) (s : Sg) => V κ G (QQ κ G E (some (.int r)) σ') E s (false, 0, 0) 124 [(3, .int w23), (2, .int v22), (1, .int r3), (0, .ref (G.1 + a0)), (4, .int v6)] [.int w, .int (gi s24 x19 ((2627 : Int32) + (gi s24 x12 v6.toNatClampNeg)).toNatClampNeg)]) Kw37
                      · refine R_iconst C (1) dX7_steps_119 (by decide) ?_
                        refine R_goto C dX7_steps_120 ?_
                        exact R_end (fun (w : Int32) (s : Sg) => V κ G (QQ κ G E (some (.int r)) σ') E s (false, 0, 0) 124 [(3, .int w23), (2, .int v22), (1, .int r3), (0, .ref (G.1 + a0)), (4, .int v6)] [.int w, .int (gi s24 x19 ((2627 : Int32) + (gi s24 x12 v6.toNatClampNeg)).toNatClampNeg)]) Kw37
          · refine B_icmp_ne C dX7_steps_58 ?_ ?_
            · refine R_iload_n C 3 rfl dX7_steps_71 ?_
              refine R_loc (lv2 := [(2, .int v22), (1, .int r3), (0, .ref (G.1 + a0)), (4, .int v6)]) [0, 1, 2, 4] rfl ?_
              exact R_end (fun (w : Int32) (s : Sg) => V κ G (QQ κ G E (some (.int r)) σ') E s (false, 0, 0) 72 [(2, .int v22), (1, .int r3), (0, .ref (G.1 + a0)), (4, .int v6)] [.int w]) Kw23
            · refine R_aload_n C 2 rfl dX7_steps_61 ?_
              refine R_getr C fl7_45 rfl ha0 rx12 dX7_steps_62 ?_
              refine R_iload C 4 rfl dX7_steps_65 ?_
              refine R_ck (fun h25 => ?_)
              refine R_iald C cx12 h25 dX7_steps_67 ?_
              refine R_goto C dX7_steps_68 ?_
              refine R_loc (lv2 := [(2, .int v22), (1, .int r3), (0, .ref (G.1 + a0)), (4, .int v6)]) [0, 1, 2, 4] rfl ?_
              exact R_end (fun (w : Int32) (s : Sg) => V κ G (QQ κ G E (some (.int r)) σ') E s (false, 0, 0) 72 [(2, .int v22), (1, .int r3), (0, .ref (G.1 + a0)), (4, .int v6)] [.int w]) Kw23
theorem dX7_isSpread_0 : dk cX7_isSpread 0 1 (.aload_n 0) 1 := by unfold dk; decide +kernel
theorem dX7_isSpread_1 : dk cX7_isSpread 1 4 (.getfield 9) 3 := by unfold dk; decide +kernel
theorem dX7_isSpread_4 : dk cX7_isSpread 4 6 (.bipush 7) 2 := by unfold dk; decide +kernel
theorem dX7_isSpread_6 : dk cX7_isSpread 6 7 (.iaload) 1 := by unfold dk; decide +kernel
theorem dX7_isSpread_7 : dk cX7_isSpread 7 8 (.iconst 1) 1 := by unfold dk; decide +kernel
theorem dX7_isSpread_8 : bk cX7_isSpread 8 11 15 (.if_icmp .le 7) (7) := by unfold bk; decide +kernel
theorem dX7_isSpread_15 : dk cX7_isSpread 15 16 (.iconst 0) 1 := by unfold dk; decide +kernel
theorem dX7_isSpread_11 : dk cX7_isSpread 11 12 (.iconst 1) 1 := by unfold dk; decide +kernel
theorem dX7_isSpread_12 : bk cX7_isSpread 12 15 16 (.goto 4) (4) := by unfold bk; decide +kernel
theorem dX7_isSpread_16 : dk cX7_isSpread 16 17 (.ireturn) 1 := by unfold dk; decide +kernel
set_option maxHeartbeats 4000000 in
set_option maxRecDepth 100000 in
theorem kX7_isSpread {l : Launch} {G : Gl} {E : En} {a0 : Nat} {σ σ' : Sg} {r : Int32} : fX7_isSpread E a0 σ = some (r, σ') → CT l yX7_isSpread cX7_isSpread 1 (some .boolean) ({ frames := 0, cells := 0, slots := 0, locals := 0 } : Room) [.ref (G.1 + a0)] G E σ (some (.int r)) σ' := by
  intro h
  refine CT_of (lv0 := [(0, .ref (G.1 + a0))]) (by decide) (Nat.le_of_ble_eq_true rfl) rfl (fun κ hl hR hr C => ?_)
  have C : Cx κ G cX7_isSpread RX7 1 := C
  revert h
  unfold fX7_isSpread
  refine R_tk (fun ha0 => ?_)
  refine R_aload_n C 0 rfl dX7_isSpread_0 ?_
  refine R_dr (fun x1 rx1 cx1 => ?_)
  refine R_getr C fl7_9 rfl ha0 rx1 dX7_isSpread_1 ?_
  refine R_bipush C (7) dX7_isSpread_4 (by decide) ?_
  refine R_ck (fun h2 => ?_)
  refine R_iald C cx1 h2 dX7_isSpread_6 ?_
  refine R_iconst C (1) dX7_isSpread_7 (by decide) ?_
  refine R_bdK (fun (w : Int32) (s : Sg) => V κ G (QQ κ G E (some (.int r)) σ') E s (false, 0, 0) 16 [] [.int w]) (fun w3 s4 => ?_) (fun w3 s4 Kw3 => ?_)
  · refine R_kb (fun h5 => ?_)
    exact R_zret C hr h5 dX7_isSpread_16
  · refine B_icmp_le C dX7_isSpread_8 ?_ ?_
    · refine R_iconst C (0) dX7_isSpread_15 (by decide) ?_
      refine R_loc (lv2 := []) [] rfl ?_
      exact R_end (fun (w : Int32) (s : Sg) => V κ G (QQ κ G E (some (.int r)) σ') E s (false, 0, 0) 16 [] [.int w]) Kw3
    · refine R_iconst C (1) dX7_isSpread_11 (by decide) ?_
      refine R_goto C dX7_isSpread_12 ?_
      refine R_loc (lv2 := []) [] rfl ?_
      exact R_end (fun (w : Int32) (s : Sg) => V κ G (QQ κ G E (some (.int r)) σ') E s (false, 0, 0) 16 [] [.int w]) Kw3
theorem dX7_refused_0 : dk cX7_refused 0 1 (.aload_n 0) 1 := by unfold dk; decide +kernel
theorem dX7_refused_1 : dk cX7_refused 1 4 (.invokevirtual 255) 3 := by unfold dk; decide +kernel
theorem dX7_refused_4 : bk cX7_refused 4 7 11 (.ifCond .ne 7) (7) := by unfold bk; decide +kernel
theorem dX7_refused_11 : dk cX7_refused 11 12 (.aload_n 0) 1 := by unfold dk; decide +kernel
theorem dX7_refused_12 : dk cX7_refused 12 15 (.getfield 9) 3 := by unfold dk; decide +kernel
theorem dX7_refused_15 : dk cX7_refused 15 17 (.bipush 7) 2 := by unfold dk; decide +kernel
theorem dX7_refused_17 : dk cX7_refused 17 18 (.iaload) 1 := by unfold dk; decide +kernel
theorem dX7_refused_18 : dk cX7_refused 18 19 (.iconst 3) 1 := by unfold dk; decide +kernel
theorem dX7_refused_27 : dk cX7_refused 27 28 (.iconst 0) 1 := by unfold dk; decide +kernel
theorem dX7_refused_22 : dk cX7_refused 22 24 (.bipush (-2)) 2 := by unfold dk; decide +kernel
theorem dX7_refused_24 : bk cX7_refused 24 27 28 (.goto 4) (4) := by unfold bk; decide +kernel
theorem dX7_refused_19 : bk cX7_refused 19 22 27 (.if_icmp .ne 8) (8) := by unfold bk; decide +kernel
theorem dX7_refused_7 : dk cX7_refused 7 8 (.iconst (-1)) 1 := by unfold dk; decide +kernel
theorem dX7_refused_8 : bk cX7_refused 8 11 28 (.goto 20) (20) := by unfold bk; decide +kernel
theorem dX7_refused_28 : dk cX7_refused 28 29 (.ireturn) 1 := by unfold dk; decide +kernel
set_option maxHeartbeats 4000000 in
set_option maxRecDepth 100000 in
theorem kX7_refused {l : Launch} {G : Gl} {E : En} {a0 : Nat} {σ σ' : Sg} {r : Int32} : fX7_refused E a0 σ = some (r, σ') → CT l yX7_refused cX7_refused 1 (some .int) ({ frames := 1, cells := 0, slots := 0, locals := 20 } : Room) [.ref (G.1 + a0)] G E σ (some (.int r)) σ' := by
  intro h
  refine CT_of (lv0 := [(0, .ref (G.1 + a0))]) (by decide) (Nat.le_of_ble_eq_true rfl) rfl (fun κ hl hR hr C => ?_)
  have C : Cx κ G cX7_refused RX7 1 := C
  revert h
  unfold fX7_refused
  refine R_tk (fun ha0 => ?_)
  refine R_aload_n C 0 rfl dX7_refused_0 ?_
  refine R_bd (fun r3 s1 q2 => ?_)
  refine R_callVi [] [] C ml7_255 (kX7_isSpread q2) (by rw [hR]; exact ⟨rfl, rfl, Nat.le_of_ble_eq_true rfl, Nat.le_of_ble_eq_true rfl, Nat.zero_le _, Nat.zero_le _⟩) ha0 rfl rfl (Nat.le_of_ble_eq_true rfl) dX7_refused_1 ?_
  refine R_bdK (fun (w : Int32) (s : Sg) => V κ G (QQ κ G E (some (.int r)) σ') E s (false, 0, 0) 28 [] [.int w]) (fun w4 s5 => ?_) (fun w4 s5 Kw4 => ?_)
  · exact R_iret C hr dX7_refused_28
  · refine B_if_ne C dX7_refused_4 ?_ ?_
    · refine R_aload_n C 0 rfl dX7_refused_11 ?_
      refine R_dr (fun x6 rx6 cx6 => ?_)
      refine R_getr C fl7_9 rfl ha0 rx6 dX7_refused_12 ?_
      refine R_bipush C (7) dX7_refused_15 (by decide) ?_
      refine R_ck (fun h7 => ?_)
      refine R_iald C cx6 h7 dX7_refused_17 ?_
      refine R_iconst C (3) dX7_refused_18 (by decide) ?_
      refine B_icmp_ne C dX7_refused_19 ?_ ?_
      · refine R_iconst C (0) dX7_refused_27 (by decide) ?_
        refine R_loc (lv2 := []) [] rfl ?_
        exact R_end (fun (w : Int32) (s : Sg) => V κ G (QQ κ G E (some (.int r)) σ') E s (false, 0, 0) 28 [] [.int w]) Kw4
      · refine R_bipush C (-2) dX7_refused_22 (by decide) ?_
        refine R_goto C dX7_refused_24 ?_
        refine R_loc (lv2 := []) [] rfl ?_
        exact R_end (fun (w : Int32) (s : Sg) => V κ G (QQ κ G E (some (.int r)) σ') E s (false, 0, 0) 28 [] [.int w]) Kw4
    · refine R_iconst C (-1) dX7_refused_7 (by decide) ?_
      refine R_goto C dX7_refused_8 ?_
      refine R_loc (lv2 := []) [] rfl ?_
      exact R_end (fun (w : Int32) (s : Sg) => V κ G (QQ κ G E (some (.int r)) σ') E s (false, 0, 0) 28 [] [.int w]) Kw4
theorem dX7_step_0 : dk cX7_step 0 1 (.aload_n 0) 1 := by unfold dk; decide +kernel
theorem dX7_step_1 : dk cX7_step 1 4 (.invokevirtual 258) 3 := by unfold dk; decide +kernel
theorem dX7_step_12 : dk cX7_step 12 13 (.aload_n 0) 1 := by unfold dk; decide +kernel
theorem dX7_step_13 : dk cX7_step 13 16 (.invokevirtual 100) 3 := by unfold dk; decide +kernel
theorem dX7_step_16 : dk cX7_step 16 17 (.aload_n 0) 1 := by unfold dk; decide +kernel
theorem dX7_step_17 : dk cX7_step 17 20 (.invokevirtual 261) 3 := by unfold dk; decide +kernel
theorem dX7_step_20 : dk cX7_step 20 21 (.ireturn) 1 := by unfold dk; decide +kernel
theorem dX7_step_7 : dk cX7_step 7 8 (.aload_n 0) 1 := by unfold dk; decide +kernel
theorem dX7_step_8 : dk cX7_step 8 11 (.invokevirtual 258) 3 := by unfold dk; decide +kernel
theorem dX7_step_11 : dk cX7_step 11 12 (.ireturn) 1 := by unfold dk; decide +kernel
theorem dX7_step_4 : bk cX7_step 4 7 12 (.ifCond .eq 8) (8) := by unfold bk; decide +kernel
set_option maxHeartbeats 4000000 in
set_option maxRecDepth 100000 in
theorem kX7_step {l : Launch} {G : Gl} {E : En} {a0 : Nat} {σ σ' : Sg} {r : Int32} : fX7_step E a0 σ = some (r, σ') → CT l yX7_step cX7_step 1 (some .int) ({ frames := 5, cells := 0, slots := 0, locals := 113 } : Room) [.ref (G.1 + a0)] G E σ (some (.int r)) σ' := by
  intro h
  refine CT_of (lv0 := [(0, .ref (G.1 + a0))]) (by decide) (Nat.le_of_ble_eq_true rfl) rfl (fun κ hl hR hr C => ?_)
  have C : Cx κ G cX7_step RX7 1 := C
  revert h
  unfold fX7_step
  refine R_tk (fun ha0 => ?_)
  refine R_aload_n C 0 rfl dX7_step_0 ?_
  refine R_bd (fun r3 s1 q2 => ?_)
  refine R_callVi [] [] C ml7_258 (kX7_refused q2) (by rw [hR]; exact ⟨rfl, rfl, Nat.le_of_ble_eq_true rfl, Nat.le_of_ble_eq_true rfl, Nat.zero_le _, Nat.zero_le _⟩) ha0 rfl rfl (Nat.le_of_ble_eq_true rfl) dX7_step_1 ?_
  refine B_if_eq C dX7_step_4 ?_ ?_
  · refine R_aload_n C 0 rfl dX7_step_12 ?_
    refine R_bv (fun s4 q5 => ?_)
    refine R_callVv [] [] C ml7_100 (kX7_remembers q5) (by rw [hR]; exact ⟨rfl, rfl, Nat.le_of_ble_eq_true rfl, Nat.le_of_ble_eq_true rfl, Nat.zero_le _, Nat.zero_le _⟩) ha0 rfl rfl (Nat.le_of_ble_eq_true rfl) dX7_step_13 ?_
    refine R_aload_n C 0 rfl dX7_step_16 ?_
    refine R_bd (fun r8 s6 q7 => ?_)
    refine R_callVi [] [] C ml7_261 (kX7_steps q7) (by rw [hR]; exact ⟨rfl, rfl, Nat.le_of_ble_eq_true rfl, Nat.le_of_ble_eq_true rfl, Nat.zero_le _, Nat.zero_le _⟩) ha0 rfl rfl (Nat.le_of_ble_eq_true rfl) dX7_step_17 ?_
    exact R_iret C hr dX7_step_20
  · refine R_aload_n C 0 rfl dX7_step_7 ?_
    refine R_bd (fun r11 s9 q10 => ?_)
    refine R_callVi [] [] C ml7_258 (kX7_refused q10) (by rw [hR]; exact ⟨rfl, rfl, Nat.le_of_ble_eq_true rfl, Nat.le_of_ble_eq_true rfl, Nat.zero_le _, Nat.zero_le _⟩) ha0 rfl rfl (Nat.le_of_ble_eq_true rfl) dX7_step_8 ?_
    exact R_iret C hr dX7_step_11
theorem dX7_phase_0 : dk cX7_phase 0 1 (.aload_n 0) 1 := by unfold dk; decide +kernel
theorem dX7_phase_1 : dk cX7_phase 1 4 (.invokevirtual 258) 3 := by unfold dk; decide +kernel
theorem dX7_phase_12 : dk cX7_phase 12 13 (.aload_n 0) 1 := by unfold dk; decide +kernel
theorem dX7_phase_13 : dk cX7_phase 13 16 (.invokevirtual 100) 3 := by unfold dk; decide +kernel
theorem dX7_phase_16 : dk cX7_phase 16 17 (.aload_n 0) 1 := by unfold dk; decide +kernel
theorem dX7_phase_17 : dk cX7_phase 17 20 (.getfield 9) 3 := by unfold dk; decide +kernel
theorem dX7_phase_20 : dk cX7_phase 20 22 (.bipush 11) 2 := by unfold dk; decide +kernel
theorem dX7_phase_22 : dk cX7_phase 22 23 (.iaload) 1 := by unfold dk; decide +kernel
theorem dX7_phase_23 : dk cX7_phase 23 24 (.istore_n 1) 1 := by unfold dk; decide +kernel
theorem dX7_phase_24 : dk cX7_phase 24 25 (.iconst 0) 1 := by unfold dk; decide +kernel
theorem dX7_phase_25 : dk cX7_phase 25 26 (.istore_n 2) 1 := by unfold dk; decide +kernel
theorem dX7_phase_26 : dk cX7_phase 26 27 (.aload_n 0) 1 := by unfold dk; decide +kernel
theorem dX7_phase_27 : dk cX7_phase 27 30 (.getfield 9) 3 := by unfold dk; decide +kernel
theorem dX7_phase_30 : dk cX7_phase 30 32 (.bipush 11) 2 := by unfold dk; decide +kernel
theorem dX7_phase_32 : dk cX7_phase 32 33 (.iaload) 1 := by unfold dk; decide +kernel
theorem dX7_phase_33 : dk cX7_phase 33 34 (.iload_n 1) 1 := by unfold dk; decide +kernel
theorem dX7_phase_37 : dk cX7_phase 37 38 (.aload_n 0) 1 := by unfold dk; decide +kernel
theorem dX7_phase_38 : dk cX7_phase 38 41 (.getfield 9) 3 := by unfold dk; decide +kernel
theorem dX7_phase_41 : dk cX7_phase 41 43 (.bipush 7) 2 := by unfold dk; decide +kernel
theorem dX7_phase_43 : dk cX7_phase 43 44 (.iaload) 1 := by unfold dk; decide +kernel
theorem dX7_phase_44 : dk cX7_phase 44 45 (.iconst 2) 1 := by unfold dk; decide +kernel
theorem dX7_phase_48 : dk cX7_phase 48 49 (.aload_n 0) 1 := by unfold dk; decide +kernel
theorem dX7_phase_49 : dk cX7_phase 49 52 (.invokevirtual 261) 3 := by unfold dk; decide +kernel
theorem dX7_phase_52 : dk cX7_phase 52 53 (.pop) 1 := by unfold dk; decide +kernel
theorem dX7_phase_53 : dk cX7_phase 53 56 (.iinc 2 1) 3 := by unfold dk; decide +kernel
theorem dX7_phase_56 : bk cX7_phase 56 59 26 (.goto (-30)) (-30) := by unfold bk; decide +kernel
theorem dX7_phase_45 : bk cX7_phase 45 48 59 (.if_icmp .ne 14) (14) := by unfold bk; decide +kernel
theorem dX7_phase_34 : bk cX7_phase 34 37 59 (.if_icmp .ne 25) (25) := by unfold bk; decide +kernel
theorem dX7_phase_59 : dk cX7_phase 59 60 (.iload_n 2) 1 := by unfold dk; decide +kernel
theorem dX7_phase_60 : dk cX7_phase 60 61 (.ireturn) 1 := by unfold dk; decide +kernel
theorem dX7_phase_7 : dk cX7_phase 7 8 (.aload_n 0) 1 := by unfold dk; decide +kernel
theorem dX7_phase_8 : dk cX7_phase 8 11 (.invokevirtual 258) 3 := by unfold dk; decide +kernel
theorem dX7_phase_11 : dk cX7_phase 11 12 (.ireturn) 1 := by unfold dk; decide +kernel
theorem dX7_phase_4 : bk cX7_phase 4 7 12 (.ifCond .eq 8) (8) := by unfold bk; decide +kernel
set_option maxHeartbeats 4000000 in
set_option maxRecDepth 100000 in
theorem kX7_phase {l : Launch} {G : Gl} {E : En} {a0 : Nat} {σ σ' : Sg} {r : Int32} : fX7_phase E a0 σ = some (r, σ') → CT l yX7_phase cX7_phase 3 (some .int) ({ frames := 5, cells := 0, slots := 0, locals := 113 } : Room) [.ref (G.1 + a0)] G E σ (some (.int r)) σ' := by
  intro h
  refine CT_of (lv0 := [(0, .ref (G.1 + a0))]) (by decide) (Nat.le_of_ble_eq_true rfl) rfl (fun κ hl hR hr C => ?_)
  have C : Cx κ G cX7_phase RX7 3 := C
  revert h
  unfold fX7_phase
  refine R_tk (fun ha0 => ?_)
  refine R_aload_n C 0 rfl dX7_phase_0 ?_
  refine R_bd (fun r3 s1 q2 => ?_)
  refine R_callVi [] [] C ml7_258 (kX7_refused q2) (by rw [hR]; exact ⟨rfl, rfl, Nat.le_of_ble_eq_true rfl, Nat.le_of_ble_eq_true rfl, Nat.zero_le _, Nat.zero_le _⟩) ha0 rfl rfl (Nat.le_of_ble_eq_true rfl) dX7_phase_1 ?_
  refine B_if_eq C dX7_phase_4 ?_ ?_
  · refine R_aload_n C 0 rfl dX7_phase_12 ?_
    refine R_bv (fun s4 q5 => ?_)
    refine R_callVv [] [] C ml7_100 (kX7_remembers q5) (by rw [hR]; exact ⟨rfl, rfl, Nat.le_of_ble_eq_true rfl, Nat.le_of_ble_eq_true rfl, Nat.zero_le _, Nat.zero_le _⟩) ha0 rfl rfl (Nat.le_of_ble_eq_true rfl) dX7_phase_13 ?_
    refine R_aload_n C 0 rfl dX7_phase_16 ?_
    refine R_dr (fun x6 rx6 cx6 => ?_)
    refine R_getr C fl7_9 rfl ha0 rx6 dX7_phase_17 ?_
    refine R_bipush C (11) dX7_phase_20 (by decide) ?_
    refine R_ck (fun h7 => ?_)
    refine R_iald C cx6 h7 dX7_phase_22 ?_
    refine S_istore_n C dX7_phase_23 rfl (fun v8 => [(1, .int v8), (0, .ref (G.1 + a0))]) (by decide) (fun _ => rfl) (fun v8 => ?_)
    refine R_iconst C (0) dX7_phase_24 (by decide) ?_
    refine R_istore_n (lv2 := [(2, .int (0 : Int32)), (1, .int v8), (0, .ref (G.1 + a0))]) C dX7_phase_25 rfl (by decide) rfl ?_
    refine R_loc (lv2 := [(1, .int v8), (0, .ref (G.1 + a0)), (2, .int (0 : Int32))]) [1, 2, 0] rfl ?_
    refine R_loop (fun (a : (Int32) × Sg) => V κ G (QQ κ G E (some (.int r)) σ') E a.2 (false, 0, 0) 26 [(1, .int v8), (0, .ref (G.1 + a0)), (2, .int a.1)] []) (fun (o : (Int32)) (s : Sg) => V κ G (QQ κ G E (some (.int r)) σ') E s (false, 0, 0) 59 [(2, .int o)] []) ((0 : Int32), s4) (fun o21 s22 => ?_) (fun rec I14 a b12 s13 K11 => ?_)
    · refine R_iload_n C 0 rfl dX7_phase_59 ?_
      exact R_iret C hr dX7_phase_60
    · obtain ⟨v9, s10⟩ := a
      show bX7_phase_26 E x6 v8 a0 (fun u0 t => rec (u0, t)) v9 s10 = some (b12, s13) → V κ G (QQ κ G E (some (.int r)) σ') E s10 (false, 0, 0) 26 [(1, .int v8), (0, .ref (G.1 + a0)), (2, .int v9)] []
      unfold bX7_phase_26
      refine R_aload_n C 1 rfl dX7_phase_26 ?_
      refine R_getr C fl7_9 rfl ha0 rx6 dX7_phase_27 ?_
      refine R_bipush C (11) dX7_phase_30 (by decide) ?_
      refine R_ck (fun h15 => ?_)
      refine R_iald C cx6 h15 dX7_phase_32 ?_
      refine R_iload_n C 0 rfl dX7_phase_33 ?_
      refine B_icmp_ne C dX7_phase_34 ?_ ?_
      · refine R_loc (lv2 := [(2, .int v9)]) [2] rfl ?_
        exact R_end (fun (o : (Int32)) (s : Sg) => V κ G (QQ κ G E (some (.int r)) σ') E s (false, 0, 0) 59 [(2, .int o)] []) K11
      · refine R_aload_n C 1 rfl dX7_phase_37 ?_
        refine R_getr C fl7_9 rfl ha0 rx6 dX7_phase_38 ?_
        refine R_bipush C (7) dX7_phase_41 (by decide) ?_
        refine R_ck (fun h16 => ?_)
        refine R_iald C cx6 h16 dX7_phase_43 ?_
        refine R_iconst C (2) dX7_phase_44 (by decide) ?_
        refine B_icmp_ne C dX7_phase_45 ?_ ?_
        · refine R_loc (lv2 := [(2, .int v9)]) [2] rfl ?_
          exact R_end (fun (o : (Int32)) (s : Sg) => V κ G (QQ κ G E (some (.int r)) σ') E s (false, 0, 0) 59 [(2, .int o)] []) K11
        · refine R_aload_n C 1 rfl dX7_phase_48 ?_
          refine R_bd (fun r19 s17 q18 => ?_)
          refine R_callVi [] [] C ml7_261 (kX7_steps q18) (by rw [hR]; exact ⟨rfl, rfl, Nat.le_of_ble_eq_true rfl, Nat.le_of_ble_eq_true rfl, Nat.zero_le _, Nat.zero_le _⟩) ha0 rfl rfl (Nat.le_of_ble_eq_true rfl) dX7_phase_49 ?_
          refine R_pop C dX7_phase_52 rfl ?_
          refine S_iinc (fun v20 => [(2, .int v20), (1, .int v8), (0, .ref (G.1 + a0))]) 2 C dX7_phase_53 rfl (by decide) (by decide) (fun _ => rfl) (fun v20 => ?_)
          refine R_goto C dX7_phase_56 ?_
          refine R_loc (lv2 := [(1, .int v8), (0, .ref (G.1 + a0)), (2, .int v20)]) [1, 2, 0] rfl ?_
          exact I14 (v20, s17) b12 s13 K11
  · refine R_aload_n C 0 rfl dX7_phase_7 ?_
    refine R_bd (fun r25 s23 q24 => ?_)
    refine R_callVi [] [] C ml7_258 (kX7_refused q24) (by rw [hR]; exact ⟨rfl, rfl, Nat.le_of_ble_eq_true rfl, Nat.le_of_ble_eq_true rfl, Nat.zero_le _, Nat.zero_le _⟩) ha0 rfl rfl (Nat.le_of_ble_eq_true rfl) dX7_phase_8 ?_
    exact R_iret C hr dX7_phase_11
theorem dX7_all_0 : dk cX7_all 0 1 (.aload_n 0) 1 := by unfold dk; decide +kernel
theorem dX7_all_1 : dk cX7_all 1 4 (.invokevirtual 258) 3 := by unfold dk; decide +kernel
theorem dX7_all_12 : dk cX7_all 12 13 (.aload_n 0) 1 := by unfold dk; decide +kernel
theorem dX7_all_13 : dk cX7_all 13 16 (.invokevirtual 100) 3 := by unfold dk; decide +kernel
theorem dX7_all_16 : dk cX7_all 16 17 (.iconst 0) 1 := by unfold dk; decide +kernel
theorem dX7_all_17 : dk cX7_all 17 18 (.istore_n 1) 1 := by unfold dk; decide +kernel
theorem dX7_all_18 : dk cX7_all 18 19 (.aload_n 0) 1 := by unfold dk; decide +kernel
theorem dX7_all_19 : dk cX7_all 19 22 (.getfield 9) 3 := by unfold dk; decide +kernel
theorem dX7_all_22 : dk cX7_all 22 24 (.bipush 7) 2 := by unfold dk; decide +kernel
theorem dX7_all_24 : dk cX7_all 24 25 (.iaload) 1 := by unfold dk; decide +kernel
theorem dX7_all_25 : dk cX7_all 25 26 (.iconst 2) 1 := by unfold dk; decide +kernel
theorem dX7_all_29 : dk cX7_all 29 30 (.aload_n 0) 1 := by unfold dk; decide +kernel
theorem dX7_all_30 : dk cX7_all 30 33 (.invokevirtual 261) 3 := by unfold dk; decide +kernel
theorem dX7_all_33 : dk cX7_all 33 34 (.pop) 1 := by unfold dk; decide +kernel
theorem dX7_all_34 : dk cX7_all 34 37 (.iinc 1 1) 3 := by unfold dk; decide +kernel
theorem dX7_all_37 : bk cX7_all 37 40 18 (.goto (-19)) (-19) := by unfold bk; decide +kernel
theorem dX7_all_26 : bk cX7_all 26 29 40 (.if_icmp .ne 14) (14) := by unfold bk; decide +kernel
theorem dX7_all_40 : dk cX7_all 40 41 (.iload_n 1) 1 := by unfold dk; decide +kernel
theorem dX7_all_41 : dk cX7_all 41 42 (.ireturn) 1 := by unfold dk; decide +kernel
theorem dX7_all_7 : dk cX7_all 7 8 (.aload_n 0) 1 := by unfold dk; decide +kernel
theorem dX7_all_8 : dk cX7_all 8 11 (.invokevirtual 258) 3 := by unfold dk; decide +kernel
theorem dX7_all_11 : dk cX7_all 11 12 (.ireturn) 1 := by unfold dk; decide +kernel
theorem dX7_all_4 : bk cX7_all 4 7 12 (.ifCond .eq 8) (8) := by unfold bk; decide +kernel
set_option maxHeartbeats 4000000 in
set_option maxRecDepth 100000 in
theorem kX7_all {l : Launch} {G : Gl} {E : En} {a0 : Nat} {σ σ' : Sg} {r : Int32} : fX7_all E a0 σ = some (r, σ') → CT l yX7_all cX7_all 2 (some .int) ({ frames := 5, cells := 0, slots := 0, locals := 113 } : Room) [.ref (G.1 + a0)] G E σ (some (.int r)) σ' := by
  intro h
  refine CT_of (lv0 := [(0, .ref (G.1 + a0))]) (by decide) (Nat.le_of_ble_eq_true rfl) rfl (fun κ hl hR hr C => ?_)
  have C : Cx κ G cX7_all RX7 2 := C
  revert h
  unfold fX7_all
  refine R_tk (fun ha0 => ?_)
  refine R_aload_n C 0 rfl dX7_all_0 ?_
  refine R_bd (fun r3 s1 q2 => ?_)
  refine R_callVi [] [] C ml7_258 (kX7_refused q2) (by rw [hR]; exact ⟨rfl, rfl, Nat.le_of_ble_eq_true rfl, Nat.le_of_ble_eq_true rfl, Nat.zero_le _, Nat.zero_le _⟩) ha0 rfl rfl (Nat.le_of_ble_eq_true rfl) dX7_all_1 ?_
  refine B_if_eq C dX7_all_4 ?_ ?_
  · refine R_aload_n C 0 rfl dX7_all_12 ?_
    refine R_bv (fun s4 q5 => ?_)
    refine R_callVv [] [] C ml7_100 (kX7_remembers q5) (by rw [hR]; exact ⟨rfl, rfl, Nat.le_of_ble_eq_true rfl, Nat.le_of_ble_eq_true rfl, Nat.zero_le _, Nat.zero_le _⟩) ha0 rfl rfl (Nat.le_of_ble_eq_true rfl) dX7_all_13 ?_
    refine R_iconst C (0) dX7_all_16 (by decide) ?_
    refine R_istore_n (lv2 := [(1, .int (0 : Int32)), (0, .ref (G.1 + a0))]) C dX7_all_17 rfl (by decide) rfl ?_
    refine R_loc (lv2 := [(0, .ref (G.1 + a0)), (1, .int (0 : Int32))]) [1, 0] rfl ?_
    refine R_loop (fun (a : (Int32) × Sg) => V κ G (QQ κ G E (some (.int r)) σ') E a.2 (false, 0, 0) 18 [(0, .ref (G.1 + a0)), (1, .int a.1)] []) (fun (o : (Int32)) (s : Sg) => V κ G (QQ κ G E (some (.int r)) σ') E s (false, 0, 0) 40 [(1, .int o)] []) ((0 : Int32), s4) (fun o18 s19 => ?_) (fun rec I11 a b9 s10 K8 => ?_)
    · refine R_iload_n C 0 rfl dX7_all_40 ?_
      exact R_iret C hr dX7_all_41
    · obtain ⟨v6, s7⟩ := a
      show bX7_all_18 E a0 (fun u0 t => rec (u0, t)) v6 s7 = some (b9, s10) → V κ G (QQ κ G E (some (.int r)) σ') E s7 (false, 0, 0) 18 [(0, .ref (G.1 + a0)), (1, .int v6)] []
      unfold bX7_all_18
      refine R_aload_n C 0 rfl dX7_all_18 ?_
      refine R_dr (fun x12 rx12 cx12 => ?_)
      refine R_getr C fl7_9 rfl ha0 rx12 dX7_all_19 ?_
      refine R_bipush C (7) dX7_all_22 (by decide) ?_
      refine R_ck (fun h13 => ?_)
      refine R_iald C cx12 h13 dX7_all_24 ?_
      refine R_iconst C (2) dX7_all_25 (by decide) ?_
      refine B_icmp_ne C dX7_all_26 ?_ ?_
      · refine R_loc (lv2 := [(1, .int v6)]) [1] rfl ?_
        exact R_end (fun (o : (Int32)) (s : Sg) => V κ G (QQ κ G E (some (.int r)) σ') E s (false, 0, 0) 40 [(1, .int o)] []) K8
      · refine R_aload_n C 0 rfl dX7_all_29 ?_
        refine R_bd (fun r16 s14 q15 => ?_)
        refine R_callVi [] [] C ml7_261 (kX7_steps q15) (by rw [hR]; exact ⟨rfl, rfl, Nat.le_of_ble_eq_true rfl, Nat.le_of_ble_eq_true rfl, Nat.zero_le _, Nat.zero_le _⟩) ha0 rfl rfl (Nat.le_of_ble_eq_true rfl) dX7_all_30 ?_
        refine R_pop C dX7_all_33 rfl ?_
        refine S_iinc (fun v17 => [(1, .int v17), (0, .ref (G.1 + a0))]) 1 C dX7_all_34 rfl (by decide) (by decide) (fun _ => rfl) (fun v17 => ?_)
        refine R_goto C dX7_all_37 ?_
        refine R_loc (lv2 := [(0, .ref (G.1 + a0)), (1, .int v17)]) [1, 0] rfl ?_
        exact I11 (v17, s14) b9 s10 K8
  · refine R_aload_n C 0 rfl dX7_all_7 ?_
    refine R_bd (fun r22 s20 q21 => ?_)
    refine R_callVi [] [] C ml7_258 (kX7_refused q21) (by rw [hR]; exact ⟨rfl, rfl, Nat.le_of_ble_eq_true rfl, Nat.le_of_ble_eq_true rfl, Nat.zero_le _, Nat.zero_le _⟩) ha0 rfl rfl (Nat.le_of_ble_eq_true rfl) dX7_all_8 ?_
    exact R_iret C hr dX7_all_11
theorem dX7_record_0 : dk cX7_record 0 1 (.iload_n 1) 1 := by unfold dk; decide +kernel
theorem dX7_record_1 : dk cX7_record 1 2 (.iconst 0) 1 := by unfold dk; decide +kernel
theorem dX7_record_2 : dk cX7_record 2 3 (.aload_n 0) 1 := by unfold dk; decide +kernel
theorem dX7_record_3 : dk cX7_record 3 6 (.invokevirtual 93) 3 := by unfold dk; decide +kernel
theorem dX7_record_6 : dk cX7_record 6 7 (.iconst 1) 1 := by unfold dk; decide +kernel
theorem dX7_record_7 : dk cX7_record 7 8 (.isub) 1 := by unfold dk; decide +kernel
theorem dX7_record_8 : dk cX7_record 8 11 (.invokestatic 116) 3 := by unfold dk; decide +kernel
theorem dX7_record_23 : dk cX7_record 23 24 (.iconst (-1)) 1 := by unfold dk; decide +kernel
theorem dX7_record_24 : dk cX7_record 24 25 (.ireturn) 1 := by unfold dk; decide +kernel
theorem dX7_record_14 : dk cX7_record 14 15 (.iload_n 2) 1 := by unfold dk; decide +kernel
theorem dX7_record_15 : dk cX7_record 15 16 (.iconst 0) 1 := by unfold dk; decide +kernel
theorem dX7_record_16 : dk cX7_record 16 17 (.iconst 1) 1 := by unfold dk; decide +kernel
theorem dX7_record_17 : dk cX7_record 17 20 (.invokestatic 116) 3 := by unfold dk; decide +kernel
theorem dX7_record_25 : dk cX7_record 25 26 (.iload_n 2) 1 := by unfold dk; decide +kernel
theorem dX7_record_26 : bk cX7_record 26 29 41 (.ifCond .ne 15) (15) := by unfold bk; decide +kernel
theorem dX7_record_41 : dk cX7_record 41 42 (.aload_n 0) 1 := by unfold dk; decide +kernel
theorem dX7_record_42 : dk cX7_record 42 45 (.getfield 9) 3 := by unfold dk; decide +kernel
theorem dX7_record_45 : dk cX7_record 45 47 (.bipush 7) 2 := by unfold dk; decide +kernel
theorem dX7_record_47 : dk cX7_record 47 48 (.iaload) 1 := by unfold dk; decide +kernel
theorem dX7_record_64 : dk cX7_record 64 65 (.iconst (-1)) 1 := by unfold dk; decide +kernel
theorem dX7_record_51 : dk cX7_record 51 52 (.aload_n 0) 1 := by unfold dk; decide +kernel
theorem dX7_record_52 : dk cX7_record 52 55 (.getfield 9) 3 := by unfold dk; decide +kernel
theorem dX7_record_55 : dk cX7_record 55 58 (.sipush 326) 3 := by unfold dk; decide +kernel
theorem dX7_record_58 : dk cX7_record 58 59 (.iload_n 1) 1 := by unfold dk; decide +kernel
theorem dX7_record_59 : dk cX7_record 59 60 (.iadd) 1 := by unfold dk; decide +kernel
theorem dX7_record_60 : dk cX7_record 60 61 (.iaload) 1 := by unfold dk; decide +kernel
theorem dX7_record_61 : bk cX7_record 61 64 65 (.goto 4) (4) := by unfold bk; decide +kernel
theorem dX7_record_48 : bk cX7_record 48 51 64 (.ifCond .le 16) (16) := by unfold bk; decide +kernel
theorem dX7_record_29 : dk cX7_record 29 30 (.aload_n 0) 1 := by unfold dk; decide +kernel
theorem dX7_record_30 : dk cX7_record 30 33 (.getfield 9) 3 := by unfold dk; decide +kernel
theorem dX7_record_33 : dk cX7_record 33 35 (.bipush 26) 2 := by unfold dk; decide +kernel
theorem dX7_record_35 : dk cX7_record 35 36 (.iload_n 1) 1 := by unfold dk; decide +kernel
theorem dX7_record_36 : dk cX7_record 36 37 (.iadd) 1 := by unfold dk; decide +kernel
theorem dX7_record_37 : dk cX7_record 37 38 (.iaload) 1 := by unfold dk; decide +kernel
theorem dX7_record_38 : bk cX7_record 38 41 65 (.goto 27) (27) := by unfold bk; decide +kernel
theorem dX7_record_65 : dk cX7_record 65 66 (.ireturn) 1 := by unfold dk; decide +kernel
theorem dX7_record_20 : bk cX7_record 20 23 25 (.ifCond .ne 5) (5) := by unfold bk; decide +kernel
theorem dX7_record_11 : bk cX7_record 11 14 23 (.ifCond .eq 12) (12) := by unfold bk; decide +kernel
set_option maxHeartbeats 4000000 in
set_option maxRecDepth 100000 in
theorem kX7_record {l : Launch} {G : Gl} {E : En} {a0 : Nat} {a1 : Int32} {a2 : Int32} {σ σ' : Sg} {r : Int32} : fX7_record E a0 a1 a2 σ = some (r, σ') → CT l yX7_record cX7_record 3 (some .int) ({ frames := 1, cells := 0, slots := 0, locals := 22 } : Room) [.ref (G.1 + a0), .int a1, .int a2] G E σ (some (.int r)) σ' := by
  intro h
  refine CT_of (lv0 := [(0, .ref (G.1 + a0)), (1, .int a1), (2, .int a2)]) (by decide) (Nat.le_of_ble_eq_true rfl) rfl (fun κ hl hR hr C => ?_)
  have C : Cx κ G cX7_record RX7 3 := C
  revert h
  unfold fX7_record
  refine R_tk (fun ha0 => ?_)
  refine R_iload_n C 1 rfl dX7_record_0 ?_
  refine R_iconst C (0) dX7_record_1 (by decide) ?_
  refine R_aload_n C 0 rfl dX7_record_2 ?_
  refine R_bd (fun r3 s1 q2 => ?_)
  refine R_callVi [] [.int (0 : Int32), .int a1] C ml7_93 (kX7_many q2) (by rw [hR]; exact ⟨rfl, rfl, Nat.le_of_ble_eq_true rfl, Nat.le_of_ble_eq_true rfl, Nat.zero_le _, Nat.zero_le _⟩) ha0 rfl rfl (Nat.le_of_ble_eq_true rfl) dX7_record_3 ?_
  refine R_iconst C (1) dX7_record_6 (by decide) ?_
  refine R_isub C dX7_record_7 ?_
  refine R_bd (fun r6 s4 q5 => ?_)
  refine R_callSi [.int a1, .int (0 : Int32), .int (r3 - (1 : Int32))] [] C ml7_116 (kX7_in q5) (by rw [hR]; exact ⟨rfl, rfl, Nat.le_of_ble_eq_true rfl, Nat.le_of_ble_eq_true rfl, Nat.zero_le _, Nat.zero_le _⟩) rfl rfl (Nat.le_of_ble_eq_true rfl) dX7_record_8 ?_
  refine B_if_eq C dX7_record_11 ?_ ?_
  · refine R_iconst C (-1) dX7_record_23 (by decide) ?_
    exact R_iret C hr dX7_record_24
  · refine R_iload_n C 2 rfl dX7_record_14 ?_
    refine R_iconst C (0) dX7_record_15 (by decide) ?_
    refine R_iconst C (1) dX7_record_16 (by decide) ?_
    refine R_bd (fun r9 s7 q8 => ?_)
    refine R_callSi [.int a2, .int (0 : Int32), .int (1 : Int32)] [] C ml7_116 (kX7_in q8) (by rw [hR]; exact ⟨rfl, rfl, Nat.le_of_ble_eq_true rfl, Nat.le_of_ble_eq_true rfl, Nat.zero_le _, Nat.zero_le _⟩) rfl rfl (Nat.le_of_ble_eq_true rfl) dX7_record_17 ?_
    refine B_if_ne C dX7_record_20 ?_ ?_
    · refine R_iload_n C 2 rfl dX7_record_25 ?_
      refine R_bdK (fun (w : Int32) (s : Sg) => V κ G (QQ κ G E (some (.int r)) σ') E s (false, 0, 0) 65 [] [.int w]) (fun w10 s11 => ?_) (fun w10 s11 Kw10 => ?_)
      · exact R_iret C hr dX7_record_65
      · refine B_if_ne C dX7_record_26 ?_ ?_
        · refine R_aload_n C 0 rfl dX7_record_41 ?_
          refine R_dr (fun x12 rx12 cx12 => ?_)
          refine R_getr C fl7_9 rfl ha0 rx12 dX7_record_42 ?_
          refine R_bipush C (7) dX7_record_45 (by decide) ?_
          refine R_ck (fun h13 => ?_)
          refine R_iald C cx12 h13 dX7_record_47 ?_
          refine B_if_le C dX7_record_48 ?_ ?_
          · refine R_iconst C (-1) dX7_record_64 (by decide) ?_
            refine R_loc (lv2 := []) [] rfl ?_
            exact R_end (fun (w : Int32) (s : Sg) => V κ G (QQ κ G E (some (.int r)) σ') E s (false, 0, 0) 65 [] [.int w]) Kw10
          · refine R_aload_n C 0 rfl dX7_record_51 ?_
            refine R_getr C fl7_9 rfl ha0 rx12 dX7_record_52 ?_
            refine R_sipush C (326) dX7_record_55 (by decide) ?_
            refine R_iload_n C 1 rfl dX7_record_58 ?_
            refine R_iadd C dX7_record_59 ?_
            refine R_ck (fun h14 => ?_)
            refine R_iald C cx12 h14 dX7_record_60 ?_
            refine R_goto C dX7_record_61 ?_
            refine R_loc (lv2 := []) [] rfl ?_
            exact R_end (fun (w : Int32) (s : Sg) => V κ G (QQ κ G E (some (.int r)) σ') E s (false, 0, 0) 65 [] [.int w]) Kw10
        · refine R_aload_n C 0 rfl dX7_record_29 ?_
          refine R_dr (fun x15 rx15 cx15 => ?_)
          refine R_getr C fl7_9 rfl ha0 rx15 dX7_record_30 ?_
          refine R_bipush C (26) dX7_record_33 (by decide) ?_
          refine R_iload_n C 1 rfl dX7_record_35 ?_
          refine R_iadd C dX7_record_36 ?_
          refine R_ck (fun h16 => ?_)
          refine R_iald C cx15 h16 dX7_record_37 ?_
          refine R_goto C dX7_record_38 ?_
          refine R_loc (lv2 := []) [] rfl ?_
          exact R_end (fun (w : Int32) (s : Sg) => V κ G (QQ κ G E (some (.int r)) σ') E s (false, 0, 0) 65 [] [.int w]) Kw10
    · refine R_iconst C (-1) dX7_record_23 (by decide) ?_
      exact R_iret C hr dX7_record_24
theorem dX7_run_0 : dk cX7_run 0 1 (.aload_n 0) 1 := by unfold dk; decide +kernel
theorem dX7_run_1 : dk cX7_run 1 4 (.getfield 9) 3 := by unfold dk; decide +kernel
theorem dX7_run_4 : dk cX7_run 4 6 (.bipush 7) 2 := by unfold dk; decide +kernel
theorem dX7_run_6 : dk cX7_run 6 7 (.iaload) 1 := by unfold dk; decide +kernel
theorem dX7_run_33 : dk cX7_run 33 34 (.iconst (-1)) 1 := by unfold dk; decide +kernel
theorem dX7_run_34 : dk cX7_run 34 35 (.ireturn) 1 := by unfold dk; decide +kernel
theorem dX7_run_10 : dk cX7_run 10 11 (.iload_n 1) 1 := by unfold dk; decide +kernel
theorem dX7_run_11 : dk cX7_run 11 12 (.iconst 0) 1 := by unfold dk; decide +kernel
theorem dX7_run_12 : dk cX7_run 12 13 (.aload_n 0) 1 := by unfold dk; decide +kernel
theorem dX7_run_13 : dk cX7_run 13 16 (.getfield 9) 3 := by unfold dk; decide +kernel
theorem dX7_run_16 : dk cX7_run 16 18 (.bipush 14) 2 := by unfold dk; decide +kernel
theorem dX7_run_18 : dk cX7_run 18 19 (.iaload) 1 := by unfold dk; decide +kernel
theorem dX7_run_19 : dk cX7_run 19 20 (.iconst 1) 1 := by unfold dk; decide +kernel
theorem dX7_run_20 : dk cX7_run 20 21 (.isub) 1 := by unfold dk; decide +kernel
theorem dX7_run_21 : dk cX7_run 21 24 (.invokestatic 116) 3 := by unfold dk; decide +kernel
theorem dX7_run_27 : dk cX7_run 27 28 (.iload_n 2) 1 := by unfold dk; decide +kernel
theorem dX7_run_28 : dk cX7_run 28 30 (.bipush (-2)) 2 := by unfold dk; decide +kernel
theorem dX7_run_35 : dk cX7_run 35 36 (.iload_n 2) 1 := by unfold dk; decide +kernel
theorem dX7_run_61 : dk cX7_run 61 62 (.iload_n 2) 1 := by unfold dk; decide +kernel
theorem dX7_run_62 : dk cX7_run 62 63 (.aload_n 0) 1 := by unfold dk; decide +kernel
theorem dX7_run_63 : dk cX7_run 63 64 (.iload_n 1) 1 := by unfold dk; decide +kernel
theorem dX7_run_64 : dk cX7_run 64 67 (.invokevirtual 185) 3 := by unfold dk; decide +kernel
theorem dX7_run_67 : bk cX7_run 67 70 94 (.if_icmp .ge 27) (27) := by unfold bk; decide +kernel
theorem dX7_run_94 : dk cX7_run 94 96 (.bipush (-3)) 2 := by unfold dk; decide +kernel
theorem dX7_run_70 : dk cX7_run 70 71 (.aload_n 0) 1 := by unfold dk; decide +kernel
theorem dX7_run_71 : dk cX7_run 71 74 (.getfield 9) 3 := by unfold dk; decide +kernel
theorem dX7_run_74 : dk cX7_run 74 77 (.sipush 626) 3 := by unfold dk; decide +kernel
theorem dX7_run_77 : dk cX7_run 77 78 (.aload_n 0) 1 := by unfold dk; decide +kernel
theorem dX7_run_78 : dk cX7_run 78 81 (.getfield 9) 3 := by unfold dk; decide +kernel
theorem dX7_run_81 : dk cX7_run 81 84 (.sipush 926) 3 := by unfold dk; decide +kernel
theorem dX7_run_84 : dk cX7_run 84 85 (.iload_n 1) 1 := by unfold dk; decide +kernel
theorem dX7_run_85 : dk cX7_run 85 86 (.iadd) 1 := by unfold dk; decide +kernel
theorem dX7_run_86 : dk cX7_run 86 87 (.iaload) 1 := by unfold dk; decide +kernel
theorem dX7_run_87 : dk cX7_run 87 88 (.iadd) 1 := by unfold dk; decide +kernel
theorem dX7_run_88 : dk cX7_run 88 89 (.iload_n 2) 1 := by unfold dk; decide +kernel
theorem dX7_run_89 : dk cX7_run 89 90 (.iadd) 1 := by unfold dk; decide +kernel
theorem dX7_run_90 : dk cX7_run 90 91 (.iaload) 1 := by unfold dk; decide +kernel
theorem dX7_run_91 : bk cX7_run 91 94 96 (.goto 5) (5) := by unfold bk; decide +kernel
theorem dX7_run_96 : dk cX7_run 96 97 (.ireturn) 1 := by unfold dk; decide +kernel
theorem dX7_run_39 : dk cX7_run 39 40 (.iload_n 2) 1 := by unfold dk; decide +kernel
theorem dX7_run_40 : dk cX7_run 40 41 (.iconst (-1)) 1 := by unfold dk; decide +kernel
theorem dX7_run_41 : bk cX7_run 41 44 52 (.if_icmp .ne 11) (11) := by unfold bk; decide +kernel
theorem dX7_run_52 : dk cX7_run 52 53 (.aload_n 0) 1 := by unfold dk; decide +kernel
theorem dX7_run_53 : dk cX7_run 53 54 (.iload_n 1) 1 := by unfold dk; decide +kernel
theorem dX7_run_54 : dk cX7_run 54 57 (.invokevirtual 134) 3 := by unfold dk; decide +kernel
theorem dX7_run_57 : dk cX7_run 57 60 (.invokestatic 151) 3 := by unfold dk; decide +kernel
theorem dX7_run_44 : dk cX7_run 44 45 (.aload_n 0) 1 := by unfold dk; decide +kernel
theorem dX7_run_45 : dk cX7_run 45 46 (.iload_n 1) 1 := by unfold dk; decide +kernel
theorem dX7_run_46 : dk cX7_run 46 49 (.invokevirtual 185) 3 := by unfold dk; decide +kernel
theorem dX7_run_49 : bk cX7_run 49 52 60 (.goto 11) (11) := by unfold bk; decide +kernel
theorem dX7_run_60 : dk cX7_run 60 61 (.ireturn) 1 := by unfold dk; decide +kernel
theorem dX7_run_36 : bk cX7_run 36 39 61 (.ifCond .ge 25) (25) := by unfold bk; decide +kernel
theorem dX7_run_30 : bk cX7_run 30 33 35 (.if_icmp .ge 5) (5) := by unfold bk; decide +kernel
theorem dX7_run_24 : bk cX7_run 24 27 33 (.ifCond .eq 9) (9) := by unfold bk; decide +kernel
theorem dX7_run_7 : bk cX7_run 7 10 33 (.ifCond .eq 26) (26) := by unfold bk; decide +kernel
set_option maxHeartbeats 4000000 in
set_option maxRecDepth 100000 in
theorem kX7_run {l : Launch} {G : Gl} {E : En} {a0 : Nat} {a1 : Int32} {a2 : Int32} {σ σ' : Sg} {r : Int32} : fX7_run E a0 a1 a2 σ = some (r, σ') → CT l yX7_run cX7_run 3 (some .int) ({ frames := 1, cells := 0, slots := 0, locals := 22 } : Room) [.ref (G.1 + a0), .int a1, .int a2] G E σ (some (.int r)) σ' := by
  intro h
  refine CT_of (lv0 := [(0, .ref (G.1 + a0)), (1, .int a1), (2, .int a2)]) (by decide) (Nat.le_of_ble_eq_true rfl) rfl (fun κ hl hR hr C => ?_)
  have C : Cx κ G cX7_run RX7 3 := C
  revert h
  unfold fX7_run
  refine R_tk (fun ha0 => ?_)
  refine R_aload_n C 0 rfl dX7_run_0 ?_
  refine R_dr (fun x1 rx1 cx1 => ?_)
  refine R_getr C fl7_9 rfl ha0 rx1 dX7_run_1 ?_
  refine R_bipush C (7) dX7_run_4 (by decide) ?_
  refine R_ck (fun h2 => ?_)
  refine R_iald C cx1 h2 dX7_run_6 ?_
  refine B_if_eq C dX7_run_7 ?_ ?_
  · refine R_iconst C (-1) dX7_run_33 (by decide) ?_
    exact R_iret C hr dX7_run_34
  · refine R_iload_n C 1 rfl dX7_run_10 ?_
    refine R_iconst C (0) dX7_run_11 (by decide) ?_
    refine R_aload_n C 0 rfl dX7_run_12 ?_
    refine R_getr C fl7_9 rfl ha0 rx1 dX7_run_13 ?_
    refine R_bipush C (14) dX7_run_16 (by decide) ?_
    refine R_ck (fun h3 => ?_)
    refine R_iald C cx1 h3 dX7_run_18 ?_
    refine R_iconst C (1) dX7_run_19 (by decide) ?_
    refine R_isub C dX7_run_20 ?_
    refine R_bd (fun r6 s4 q5 => ?_)
    refine R_callSi [.int a1, .int (0 : Int32), .int ((gi σ x1 (14 : Int32).toNatClampNeg) - (1 : Int32))] [] C ml7_116 (kX7_in q5) (by rw [hR]; exact ⟨rfl, rfl, Nat.le_of_ble_eq_true rfl, Nat.le_of_ble_eq_true rfl, Nat.zero_le _, Nat.zero_le _⟩) rfl rfl (Nat.le_of_ble_eq_true rfl) dX7_run_21 ?_
    refine B_if_eq C dX7_run_24 ?_ ?_
    · refine R_iconst C (-1) dX7_run_33 (by decide) ?_
      exact R_iret C hr dX7_run_34
    · refine R_iload_n C 2 rfl dX7_run_27 ?_
      refine R_bipush C (-2) dX7_run_28 (by decide) ?_
      refine B_icmp_ge C dX7_run_30 ?_ ?_
      · refine R_iload_n C 2 rfl dX7_run_35 ?_
        refine B_if_ge C dX7_run_36 ?_ ?_
        · refine R_iload_n C 2 rfl dX7_run_61 ?_
          refine R_aload_n C 0 rfl dX7_run_62 ?_
          refine R_iload_n C 1 rfl dX7_run_63 ?_
          refine R_bd (fun r9 s7 q8 => ?_)
          refine R_callVi [.int a1] [.int a2] C ml7_185 (kX7_runSize q8) (by rw [hR]; exact ⟨rfl, rfl, Nat.le_of_ble_eq_true rfl, Nat.le_of_ble_eq_true rfl, Nat.zero_le _, Nat.zero_le _⟩) ha0 rfl rfl (Nat.le_of_ble_eq_true rfl) dX7_run_64 ?_
          refine R_bdK (fun (w : Int32) (s : Sg) => V κ G (QQ κ G E (some (.int r)) σ') E s (false, 0, 0) 96 [] [.int w]) (fun w10 s11 => ?_) (fun w10 s11 Kw10 => ?_)
          · exact R_iret C hr dX7_run_96
          · refine B_icmp_ge C dX7_run_67 ?_ ?_
            · refine R_bipush C (-3) dX7_run_94 (by decide) ?_
              refine R_loc (lv2 := []) [] rfl ?_
              exact R_end (fun (w : Int32) (s : Sg) => V κ G (QQ κ G E (some (.int r)) σ') E s (false, 0, 0) 96 [] [.int w]) Kw10
            · refine R_aload_n C 0 rfl dX7_run_70 ?_
              refine R_getr C fl7_9 rfl ha0 rx1 dX7_run_71 ?_
              refine R_sipush C (626) dX7_run_74 (by decide) ?_
              refine R_aload_n C 0 rfl dX7_run_77 ?_
              refine R_getr C fl7_9 rfl ha0 rx1 dX7_run_78 ?_
              refine R_sipush C (926) dX7_run_81 (by decide) ?_
              refine R_iload_n C 1 rfl dX7_run_84 ?_
              refine R_iadd C dX7_run_85 ?_
              refine R_ck (fun h12 => ?_)
              refine R_iald C cx1 h12 dX7_run_86 ?_
              refine R_iadd C dX7_run_87 ?_
              refine R_iload_n C 2 rfl dX7_run_88 ?_
              refine R_iadd C dX7_run_89 ?_
              refine R_ck (fun h13 => ?_)
              refine R_iald C cx1 h13 dX7_run_90 ?_
              refine R_goto C dX7_run_91 ?_
              refine R_loc (lv2 := []) [] rfl ?_
              exact R_end (fun (w : Int32) (s : Sg) => V κ G (QQ κ G E (some (.int r)) σ') E s (false, 0, 0) 96 [] [.int w]) Kw10
        · refine R_iload_n C 2 rfl dX7_run_39 ?_
          refine R_iconst C (-1) dX7_run_40 (by decide) ?_
          refine R_bdK (fun (w : Int32) (s : Sg) => V κ G (QQ κ G E (some (.int r)) σ') E s (false, 0, 0) 60 [] [.int w]) (fun w14 s15 => ?_) (fun w14 s15 Kw14 => ?_)
          · exact R_iret C hr dX7_run_60
          · refine B_icmp_ne C dX7_run_41 ?_ ?_
            · refine R_aload_n C 0 rfl dX7_run_52 ?_
              refine R_iload_n C 1 rfl dX7_run_53 ?_
              refine R_bd (fun r18 s16 q17 => ?_)
              refine R_callVi [.int a1] [] C ml7_134 (kX7_doesFall q17) (by rw [hR]; exact ⟨rfl, rfl, Nat.le_of_ble_eq_true rfl, Nat.le_of_ble_eq_true rfl, Nat.zero_le _, Nat.zero_le _⟩) ha0 rfl rfl (Nat.le_of_ble_eq_true rfl) dX7_run_54 ?_
              refine R_bd (fun r21 s19 q20 => ?_)
              refine R_callSi [.int r18] [] C ml7_151 (kX7_truth q20) (by rw [hR]; exact ⟨rfl, rfl, Nat.le_of_ble_eq_true rfl, Nat.le_of_ble_eq_true rfl, Nat.zero_le _, Nat.zero_le _⟩) rfl rfl (Nat.le_of_ble_eq_true rfl) dX7_run_57 ?_
              refine R_loc (lv2 := []) [] rfl ?_
              exact R_end (fun (w : Int32) (s : Sg) => V κ G (QQ κ G E (some (.int r)) σ') E s (false, 0, 0) 60 [] [.int w]) Kw14
            · refine R_aload_n C 0 rfl dX7_run_44 ?_
              refine R_iload_n C 1 rfl dX7_run_45 ?_
              refine R_bd (fun r24 s22 q23 => ?_)
              refine R_callVi [.int a1] [] C ml7_185 (kX7_runSize q23) (by rw [hR]; exact ⟨rfl, rfl, Nat.le_of_ble_eq_true rfl, Nat.le_of_ble_eq_true rfl, Nat.zero_le _, Nat.zero_le _⟩) ha0 rfl rfl (Nat.le_of_ble_eq_true rfl) dX7_run_46 ?_
              refine R_goto C dX7_run_49 ?_
              refine R_loc (lv2 := []) [] rfl ?_
              exact R_end (fun (w : Int32) (s : Sg) => V κ G (QQ κ G E (some (.int r)) σ') E s (false, 0, 0) 60 [] [.int w]) Kw14
      · refine R_iconst C (-1) dX7_run_33 (by decide) ?_
        exact R_iret C hr dX7_run_34
theorem dX7_tape_0 : dk cX7_tape 0 1 (.aload_n 0) 1 := by unfold dk; decide +kernel
theorem dX7_tape_1 : dk cX7_tape 1 4 (.invokevirtual 255) 3 := by unfold dk; decide +kernel
theorem dX7_tape_30 : dk cX7_tape 30 31 (.iconst (-1)) 1 := by unfold dk; decide +kernel
theorem dX7_tape_31 : dk cX7_tape 31 32 (.ireturn) 1 := by unfold dk; decide +kernel
theorem dX7_tape_7 : dk cX7_tape 7 8 (.iload_n 1) 1 := by unfold dk; decide +kernel
theorem dX7_tape_8 : dk cX7_tape 8 9 (.iconst 0) 1 := by unfold dk; decide +kernel
theorem dX7_tape_9 : dk cX7_tape 9 10 (.aload_n 0) 1 := by unfold dk; decide +kernel
theorem dX7_tape_10 : dk cX7_tape 10 13 (.invokevirtual 155) 3 := by unfold dk; decide +kernel
theorem dX7_tape_13 : dk cX7_tape 13 14 (.iconst 1) 1 := by unfold dk; decide +kernel
theorem dX7_tape_14 : dk cX7_tape 14 15 (.isub) 1 := by unfold dk; decide +kernel
theorem dX7_tape_15 : dk cX7_tape 15 18 (.invokestatic 116) 3 := by unfold dk; decide +kernel
theorem dX7_tape_21 : dk cX7_tape 21 22 (.iload_n 2) 1 := by unfold dk; decide +kernel
theorem dX7_tape_22 : dk cX7_tape 22 23 (.iconst 0) 1 := by unfold dk; decide +kernel
theorem dX7_tape_23 : dk cX7_tape 23 24 (.iconst 3) 1 := by unfold dk; decide +kernel
theorem dX7_tape_24 : dk cX7_tape 24 27 (.invokestatic 116) 3 := by unfold dk; decide +kernel
theorem dX7_tape_32 : dk cX7_tape 32 33 (.iconst 0) 1 := by unfold dk; decide +kernel
theorem dX7_tape_33 : dk cX7_tape 33 34 (.istore_n 3) 1 := by unfold dk; decide +kernel
theorem dX7_tape_34 : dk cX7_tape 34 35 (.iconst 0) 1 := by unfold dk; decide +kernel
theorem dX7_tape_35 : dk cX7_tape 35 37 (.istore 4) 2 := by unfold dk; decide +kernel
theorem dX7_tape_37 : dk cX7_tape 37 38 (.iconst 0) 1 := by unfold dk; decide +kernel
theorem dX7_tape_38 : dk cX7_tape 38 40 (.istore 5) 2 := by unfold dk; decide +kernel
theorem dX7_tape_40 : dk cX7_tape 40 42 (.iload 5) 2 := by unfold dk; decide +kernel
theorem dX7_tape_42 : dk cX7_tape 42 43 (.aload_n 0) 1 := by unfold dk; decide +kernel
theorem dX7_tape_43 : dk cX7_tape 43 46 (.getfield 9) 3 := by unfold dk; decide +kernel
theorem dX7_tape_46 : dk cX7_tape 46 48 (.bipush 20) 2 := by unfold dk; decide +kernel
theorem dX7_tape_48 : dk cX7_tape 48 49 (.iload_n 1) 1 := by unfold dk; decide +kernel
theorem dX7_tape_49 : dk cX7_tape 49 50 (.iadd) 1 := by unfold dk; decide +kernel
theorem dX7_tape_50 : dk cX7_tape 50 51 (.iaload) 1 := by unfold dk; decide +kernel
theorem dX7_tape_54 : dk cX7_tape 54 55 (.iload_n 3) 1 := by unfold dk; decide +kernel
theorem dX7_tape_55 : dk cX7_tape 55 56 (.aload_n 0) 1 := by unfold dk; decide +kernel
theorem dX7_tape_56 : dk cX7_tape 56 59 (.getfield 9) 3 := by unfold dk; decide +kernel
theorem dX7_tape_59 : dk cX7_tape 59 62 (.sipush 1927) 3 := by unfold dk; decide +kernel
theorem dX7_tape_62 : dk cX7_tape 62 63 (.aload_n 0) 1 := by unfold dk; decide +kernel
theorem dX7_tape_63 : dk cX7_tape 63 64 (.iload_n 1) 1 := by unfold dk; decide +kernel
theorem dX7_tape_64 : dk cX7_tape 64 66 (.iload 5) 2 := by unfold dk; decide +kernel
theorem dX7_tape_66 : dk cX7_tape 66 69 (.invokevirtual 168) 3 := by unfold dk; decide +kernel
theorem dX7_tape_69 : dk cX7_tape 69 70 (.iadd) 1 := by unfold dk; decide +kernel
theorem dX7_tape_70 : dk cX7_tape 70 71 (.iaload) 1 := by unfold dk; decide +kernel
theorem dX7_tape_71 : bk cX7_tape 71 74 78 (.ifCond .ne 7) (7) := by unfold bk; decide +kernel
theorem dX7_tape_78 : dk cX7_tape 78 79 (.iconst 0) 1 := by unfold dk; decide +kernel
theorem dX7_tape_74 : dk cX7_tape 74 75 (.iconst 1) 1 := by unfold dk; decide +kernel
theorem dX7_tape_75 : bk cX7_tape 75 78 79 (.goto 4) (4) := by unfold bk; decide +kernel
theorem dX7_tape_79 : dk cX7_tape 79 82 (.invokestatic 151) 3 := by unfold dk; decide +kernel
theorem dX7_tape_82 : dk cX7_tape 82 83 (.iadd) 1 := by unfold dk; decide +kernel
theorem dX7_tape_83 : dk cX7_tape 83 84 (.istore_n 3) 1 := by unfold dk; decide +kernel
theorem dX7_tape_84 : dk cX7_tape 84 86 (.iload 4) 2 := by unfold dk; decide +kernel
theorem dX7_tape_86 : dk cX7_tape 86 87 (.aload_n 0) 1 := by unfold dk; decide +kernel
theorem dX7_tape_87 : dk cX7_tape 87 90 (.getfield 9) 3 := by unfold dk; decide +kernel
theorem dX7_tape_90 : dk cX7_tape 90 93 (.sipush 1927) 3 := by unfold dk; decide +kernel
theorem dX7_tape_93 : dk cX7_tape 93 94 (.aload_n 0) 1 := by unfold dk; decide +kernel
theorem dX7_tape_94 : dk cX7_tape 94 95 (.iload_n 1) 1 := by unfold dk; decide +kernel
theorem dX7_tape_95 : dk cX7_tape 95 97 (.iload 5) 2 := by unfold dk; decide +kernel
theorem dX7_tape_97 : dk cX7_tape 97 100 (.invokevirtual 168) 3 := by unfold dk; decide +kernel
theorem dX7_tape_100 : dk cX7_tape 100 101 (.iadd) 1 := by unfold dk; decide +kernel
theorem dX7_tape_101 : dk cX7_tape 101 102 (.iaload) 1 := by unfold dk; decide +kernel
theorem dX7_tape_102 : dk cX7_tape 102 103 (.iadd) 1 := by unfold dk; decide +kernel
theorem dX7_tape_103 : dk cX7_tape 103 105 (.istore 4) 2 := by unfold dk; decide +kernel
theorem dX7_tape_105 : dk cX7_tape 105 108 (.iinc 5 1) 3 := by unfold dk; decide +kernel
theorem dX7_tape_108 : bk cX7_tape 108 111 40 (.goto (-68)) (-68) := by unfold bk; decide +kernel
theorem dX7_tape_51 : bk cX7_tape 51 54 111 (.if_icmp .ge 60) (60) := by unfold bk; decide +kernel
theorem dX7_tape_111 : dk cX7_tape 111 112 (.iload_n 2) 1 := by unfold dk; decide +kernel
theorem dX7_tape_112 : bk cX7_tape 112 115 127 (.ifCond .ne 15) (15) := by unfold bk; decide +kernel
theorem dX7_tape_127 : dk cX7_tape 127 128 (.iload_n 2) 1 := by unfold dk; decide +kernel
theorem dX7_tape_128 : dk cX7_tape 128 129 (.iconst 1) 1 := by unfold dk; decide +kernel
theorem dX7_tape_136 : dk cX7_tape 136 137 (.iload_n 2) 1 := by unfold dk; decide +kernel
theorem dX7_tape_137 : dk cX7_tape 137 138 (.iconst 2) 1 := by unfold dk; decide +kernel
theorem dX7_tape_146 : dk cX7_tape 146 147 (.aload_n 0) 1 := by unfold dk; decide +kernel
theorem dX7_tape_147 : dk cX7_tape 147 150 (.getfield 9) 3 := by unfold dk; decide +kernel
theorem dX7_tape_150 : dk cX7_tape 150 152 (.bipush 13) 2 := by unfold dk; decide +kernel
theorem dX7_tape_152 : dk cX7_tape 152 153 (.iaload) 1 := by unfold dk; decide +kernel
theorem dX7_tape_153 : dk cX7_tape 153 154 (.iload_n 1) 1 := by unfold dk; decide +kernel
theorem dX7_tape_154 : bk cX7_tape 154 157 161 (.if_icmp .ne 7) (7) := by unfold bk; decide +kernel
theorem dX7_tape_161 : dk cX7_tape 161 162 (.iconst 0) 1 := by unfold dk; decide +kernel
theorem dX7_tape_157 : dk cX7_tape 157 158 (.iconst 1) 1 := by unfold dk; decide +kernel
theorem dX7_tape_158 : bk cX7_tape 158 161 162 (.goto 4) (4) := by unfold bk; decide +kernel
theorem dX7_tape_162 : dk cX7_tape 162 165 (.invokestatic 151) 3 := by unfold dk; decide +kernel
theorem dX7_tape_141 : dk cX7_tape 141 143 (.iload 4) 2 := by unfold dk; decide +kernel
theorem dX7_tape_143 : bk cX7_tape 143 146 165 (.goto 22) (22) := by unfold bk; decide +kernel
theorem dX7_tape_138 : bk cX7_tape 138 141 146 (.if_icmp .ne 8) (8) := by unfold bk; decide +kernel
theorem dX7_tape_132 : dk cX7_tape 132 133 (.iload_n 3) 1 := by unfold dk; decide +kernel
theorem dX7_tape_133 : bk cX7_tape 133 136 165 (.goto 32) (32) := by unfold bk; decide +kernel
theorem dX7_tape_129 : bk cX7_tape 129 132 136 (.if_icmp .ne 7) (7) := by unfold bk; decide +kernel
theorem dX7_tape_115 : dk cX7_tape 115 116 (.aload_n 0) 1 := by unfold dk; decide +kernel
theorem dX7_tape_116 : dk cX7_tape 116 119 (.getfield 9) 3 := by unfold dk; decide +kernel
theorem dX7_tape_119 : dk cX7_tape 119 121 (.bipush 20) 2 := by unfold dk; decide +kernel
theorem dX7_tape_121 : dk cX7_tape 121 122 (.iload_n 1) 1 := by unfold dk; decide +kernel
theorem dX7_tape_122 : dk cX7_tape 122 123 (.iadd) 1 := by unfold dk; decide +kernel
theorem dX7_tape_123 : dk cX7_tape 123 124 (.iaload) 1 := by unfold dk; decide +kernel
theorem dX7_tape_124 : bk cX7_tape 124 127 165 (.goto 41) (41) := by unfold bk; decide +kernel
theorem dX7_tape_165 : dk cX7_tape 165 166 (.ireturn) 1 := by unfold dk; decide +kernel
theorem dX7_tape_27 : bk cX7_tape 27 30 32 (.ifCond .ne 5) (5) := by unfold bk; decide +kernel
theorem dX7_tape_18 : bk cX7_tape 18 21 30 (.ifCond .eq 12) (12) := by unfold bk; decide +kernel
theorem dX7_tape_4 : bk cX7_tape 4 7 30 (.ifCond .eq 26) (26) := by unfold bk; decide +kernel
set_option maxHeartbeats 4000000 in
set_option maxRecDepth 100000 in
theorem kX7_tape {l : Launch} {G : Gl} {E : En} {a0 : Nat} {a1 : Int32} {a2 : Int32} {σ σ' : Sg} {r : Int32} : fX7_tape E a0 a1 a2 σ = some (r, σ') → CT l yX7_tape cX7_tape 6 (some .int) ({ frames := 1, cells := 0, slots := 0, locals := 22 } : Room) [.ref (G.1 + a0), .int a1, .int a2] G E σ (some (.int r)) σ' := by
  intro h
  refine CT_of (lv0 := [(0, .ref (G.1 + a0)), (1, .int a1), (2, .int a2)]) (by decide) (Nat.le_of_ble_eq_true rfl) rfl (fun κ hl hR hr C => ?_)
  have C : Cx κ G cX7_tape RX7 6 := C
  revert h
  unfold fX7_tape
  refine R_tk (fun ha0 => ?_)
  refine R_aload_n C 0 rfl dX7_tape_0 ?_
  refine R_bd (fun r3 s1 q2 => ?_)
  refine R_callVi [] [] C ml7_255 (kX7_isSpread q2) (by rw [hR]; exact ⟨rfl, rfl, Nat.le_of_ble_eq_true rfl, Nat.le_of_ble_eq_true rfl, Nat.zero_le _, Nat.zero_le _⟩) ha0 rfl rfl (Nat.le_of_ble_eq_true rfl) dX7_tape_1 ?_
  refine B_if_eq C dX7_tape_4 ?_ ?_
  · refine R_iconst C (-1) dX7_tape_30 (by decide) ?_
    exact R_iret C hr dX7_tape_31
  · refine R_iload_n C 1 rfl dX7_tape_7 ?_
    refine R_iconst C (0) dX7_tape_8 (by decide) ?_
    refine R_aload_n C 0 rfl dX7_tape_9 ?_
    refine R_bd (fun r6 s4 q5 => ?_)
    refine R_callVi [] [.int (0 : Int32), .int a1] C ml7_155 (kX7_tapes q5) (by rw [hR]; exact ⟨rfl, rfl, Nat.le_of_ble_eq_true rfl, Nat.le_of_ble_eq_true rfl, Nat.zero_le _, Nat.zero_le _⟩) ha0 rfl rfl (Nat.le_of_ble_eq_true rfl) dX7_tape_10 ?_
    refine R_iconst C (1) dX7_tape_13 (by decide) ?_
    refine R_isub C dX7_tape_14 ?_
    refine R_bd (fun r9 s7 q8 => ?_)
    refine R_callSi [.int a1, .int (0 : Int32), .int (r6 - (1 : Int32))] [] C ml7_116 (kX7_in q8) (by rw [hR]; exact ⟨rfl, rfl, Nat.le_of_ble_eq_true rfl, Nat.le_of_ble_eq_true rfl, Nat.zero_le _, Nat.zero_le _⟩) rfl rfl (Nat.le_of_ble_eq_true rfl) dX7_tape_15 ?_
    refine B_if_eq C dX7_tape_18 ?_ ?_
    · refine R_iconst C (-1) dX7_tape_30 (by decide) ?_
      exact R_iret C hr dX7_tape_31
    · refine R_iload_n C 2 rfl dX7_tape_21 ?_
      refine R_iconst C (0) dX7_tape_22 (by decide) ?_
      refine R_iconst C (3) dX7_tape_23 (by decide) ?_
      refine R_bd (fun r12 s10 q11 => ?_)
      refine R_callSi [.int a2, .int (0 : Int32), .int (3 : Int32)] [] C ml7_116 (kX7_in q11) (by rw [hR]; exact ⟨rfl, rfl, Nat.le_of_ble_eq_true rfl, Nat.le_of_ble_eq_true rfl, Nat.zero_le _, Nat.zero_le _⟩) rfl rfl (Nat.le_of_ble_eq_true rfl) dX7_tape_24 ?_
      refine B_if_ne C dX7_tape_27 ?_ ?_
      · refine R_iconst C (0) dX7_tape_32 (by decide) ?_
        refine R_istore_n (lv2 := [(3, .int (0 : Int32)), (0, .ref (G.1 + a0)), (1, .int a1), (2, .int a2)]) C dX7_tape_33 rfl (by decide) rfl ?_
        refine R_iconst C (0) dX7_tape_34 (by decide) ?_
        refine R_istore (lv2 := [(4, .int (0 : Int32)), (3, .int (0 : Int32)), (0, .ref (G.1 + a0)), (1, .int a1), (2, .int a2)]) C dX7_tape_35 (by decide) rfl ?_
        refine R_iconst C (0) dX7_tape_37 (by decide) ?_
        refine R_istore (lv2 := [(5, .int (0 : Int32)), (4, .int (0 : Int32)), (3, .int (0 : Int32)), (0, .ref (G.1 + a0)), (1, .int a1), (2, .int a2)]) C dX7_tape_38 (by decide) rfl ?_
        refine R_loc (lv2 := [(0, .ref (G.1 + a0)), (1, .int a1), (2, .int a2), (3, .int (0 : Int32)), (4, .int (0 : Int32)), (5, .int (0 : Int32))]) [3, 4, 5, 2, 1, 0] rfl ?_
        refine R_loop (fun (a : (Int32 × Int32 × Int32) × Sg) => V κ G (QQ κ G E (some (.int r)) σ') E a.2 (false, 0, 0) 40 [(0, .ref (G.1 + a0)), (1, .int a1), (2, .int a2), (3, .int a.1.1), (4, .int a.1.2.1), (5, .int a.1.2.2)] []) (fun (o : (Int32 × Int32 × Int32)) (s : Sg) => V κ G (QQ κ G E (some (.int r)) σ') E s (false, 0, 0) 111 [(0, .ref (G.1 + a0)), (1, .int a1), (2, .int a2), (3, .int o.1), (4, .int o.2.1)] []) (((0 : Int32), (0 : Int32), (0 : Int32)), s10) (fun o39 s40 => ?_) (fun rec I20 a b18 s19 K17 => ?_)
        · refine R_iload_n C 2 rfl dX7_tape_111 ?_
          refine R_bdK (fun (w : Int32) (s : Sg) => V κ G (QQ κ G E (some (.int r)) σ') E s (false, 0, 0) 165 [] [.int w]) (fun w41 s42 => ?_) (fun w41 s42 Kw41 => ?_)
          · exact R_iret C hr dX7_tape_165
          · refine B_if_ne C dX7_tape_112 ?_ ?_
            · refine R_iload_n C 2 rfl dX7_tape_127 ?_
              refine R_iconst C (1) dX7_tape_128 (by decide) ?_
              refine B_icmp_ne C dX7_tape_129 ?_ ?_
              · refine R_iload_n C 2 rfl dX7_tape_136 ?_
                refine R_iconst C (2) dX7_tape_137 (by decide) ?_
                refine B_icmp_ne C dX7_tape_138 ?_ ?_
                · refine R_aload_n C 0 rfl dX7_tape_146 ?_
                  refine R_dr (fun x43 rx43 cx43 => ?_)
                  refine R_getr C fl7_9 rfl ha0 rx43 dX7_tape_147 ?_
                  refine R_bipush C (13) dX7_tape_150 (by decide) ?_
                  refine R_ck (fun h44 => ?_)
                  refine R_iald C cx43 h44 dX7_tape_152 ?_
                  refine R_iload_n C 1 rfl dX7_tape_153 ?_
                  refine R_bdK (fun (w : Int32) (s : Sg) => V κ G (QQ κ G E (some (.int r)) σ') E s (false, 0, 0) 162 [] [.int w]) (fun w45 s46 => ?_) (fun w45 s46 Kw45 => ?_)
                  · refine R_bd (fun r49 s47 q48 => ?_)
                    refine R_callSi [.int w45] [] C ml7_151 (kX7_truth q48) (by rw [hR]; exact ⟨rfl, rfl, Nat.le_of_ble_eq_true rfl, Nat.le_of_ble_eq_true rfl, Nat.zero_le _, Nat.zero_le _⟩) rfl rfl (Nat.le_of_ble_eq_true rfl) dX7_tape_162 ?_
                    exact R_end (fun (w : Int32) (s : Sg) => V κ G (QQ κ G E (some (.int r)) σ') E s (false, 0, 0) 165 [] [.int w]) Kw41
                  · refine B_icmp_ne C dX7_tape_154 ?_ ?_
                    · refine R_iconst C (0) dX7_tape_161 (by decide) ?_
                      refine R_loc (lv2 := []) [] rfl ?_
                      exact R_end (fun (w : Int32) (s : Sg) => V κ G (QQ κ G E (some (.int r)) σ') E s (false, 0, 0) 162 [] [.int w]) Kw45
                    · refine R_iconst C (1) dX7_tape_157 (by decide) ?_
                      refine R_goto C dX7_tape_158 ?_
                      refine R_loc (lv2 := []) [] rfl ?_
                      exact R_end (fun (w : Int32) (s : Sg) => V κ G (QQ κ G E (some (.int r)) σ') E s (false, 0, 0) 162 [] [.int w]) Kw45
                · refine R_iload C 4 rfl dX7_tape_141 ?_
                  refine R_goto C dX7_tape_143 ?_
                  refine R_loc (lv2 := []) [] rfl ?_
                  exact R_end (fun (w : Int32) (s : Sg) => V κ G (QQ κ G E (some (.int r)) σ') E s (false, 0, 0) 165 [] [.int w]) Kw41
              · refine R_iload_n C 3 rfl dX7_tape_132 ?_
                refine R_goto C dX7_tape_133 ?_
                refine R_loc (lv2 := []) [] rfl ?_
                exact R_end (fun (w : Int32) (s : Sg) => V κ G (QQ κ G E (some (.int r)) σ') E s (false, 0, 0) 165 [] [.int w]) Kw41
            · refine R_aload_n C 0 rfl dX7_tape_115 ?_
              refine R_dr (fun x50 rx50 cx50 => ?_)
              refine R_getr C fl7_9 rfl ha0 rx50 dX7_tape_116 ?_
              refine R_bipush C (20) dX7_tape_119 (by decide) ?_
              refine R_iload_n C 1 rfl dX7_tape_121 ?_
              refine R_iadd C dX7_tape_122 ?_
              refine R_ck (fun h51 => ?_)
              refine R_iald C cx50 h51 dX7_tape_123 ?_
              refine R_goto C dX7_tape_124 ?_
              refine R_loc (lv2 := []) [] rfl ?_
              exact R_end (fun (w : Int32) (s : Sg) => V κ G (QQ κ G E (some (.int r)) σ') E s (false, 0, 0) 165 [] [.int w]) Kw41
        · obtain ⟨⟨v13, v14, v15⟩, s16⟩ := a
          show bX7_tape_40 E a0 a1 (fun u0 u1 u2 t => rec ((u0, u1, u2), t)) v13 v14 v15 s16 = some (b18, s19) → V κ G (QQ κ G E (some (.int r)) σ') E s16 (false, 0, 0) 40 [(0, .ref (G.1 + a0)), (1, .int a1), (2, .int a2), (3, .int v13), (4, .int v14), (5, .int v15)] []
          unfold bX7_tape_40
          refine R_iload C 5 rfl dX7_tape_40 ?_
          refine R_aload_n C 0 rfl dX7_tape_42 ?_
          refine R_dr (fun x21 rx21 cx21 => ?_)
          refine R_getr C fl7_9 rfl ha0 rx21 dX7_tape_43 ?_
          refine R_bipush C (20) dX7_tape_46 (by decide) ?_
          refine R_iload_n C 1 rfl dX7_tape_48 ?_
          refine R_iadd C dX7_tape_49 ?_
          refine R_ck (fun h22 => ?_)
          refine R_iald C cx21 h22 dX7_tape_50 ?_
          refine B_icmp_ge C dX7_tape_51 ?_ ?_
          · refine R_loc (lv2 := [(0, .ref (G.1 + a0)), (1, .int a1), (2, .int a2), (3, .int v13), (4, .int v14)]) [0, 1, 2, 3, 4] rfl ?_
            exact R_end (fun (o : (Int32 × Int32 × Int32)) (s : Sg) => V κ G (QQ κ G E (some (.int r)) σ') E s (false, 0, 0) 111 [(0, .ref (G.1 + a0)), (1, .int a1), (2, .int a2), (3, .int o.1), (4, .int o.2.1)] []) K17
          · refine R_iload_n C 3 rfl dX7_tape_54 ?_
            refine R_aload_n C 0 rfl dX7_tape_55 ?_
            refine R_getr C fl7_9 rfl ha0 rx21 dX7_tape_56 ?_
            refine R_sipush C (1927) dX7_tape_59 (by decide) ?_
            refine R_aload_n C 0 rfl dX7_tape_62 ?_
            refine R_iload_n C 1 rfl dX7_tape_63 ?_
            refine R_iload C 5 rfl dX7_tape_64 ?_
            refine R_bd (fun r25 s23 q24 => ?_)
            refine R_callVi [.int a1, .int v15] [.int (1927 : Int32), .ref (G.1 + x21), .int v13] C ml7_168 (kX7_runAt q24) (by rw [hR]; exact ⟨rfl, rfl, Nat.le_of_ble_eq_true rfl, Nat.le_of_ble_eq_true rfl, Nat.zero_le _, Nat.zero_le _⟩) ha0 rfl rfl (Nat.le_of_ble_eq_true rfl) dX7_tape_66 ?_
            refine R_iadd C dX7_tape_69 ?_
            refine R_ck (fun h26 => ?_)
            refine R_iald C cx21 h26 dX7_tape_70 ?_
            refine R_bdK (fun (w : Int32) (s : Sg) => V κ G (QQ κ G E (some (.int r)) σ') E s (false, 0, 0) 79 [(0, .ref (G.1 + a0)), (1, .int a1), (2, .int a2), (4, .int v14), (5, .int v15)] [.int w, .int v13]) (fun w27 s28 => ?_) (fun w27 s28 Kw27 => ?_)
            · refine R_bd (fun r31 s29 q30 => ?_)
              refine R_callSi [.int w27] [.int v13] C ml7_151 (kX7_truth q30) (by rw [hR]; exact ⟨rfl, rfl, Nat.le_of_ble_eq_true rfl, Nat.le_of_ble_eq_true rfl, Nat.zero_le _, Nat.zero_le _⟩) rfl rfl (Nat.le_of_ble_eq_true rfl) dX7_tape_79 ?_
              refine R_iadd C dX7_tape_82 ?_
              refine S_istore_n C dX7_tape_83 rfl (fun v32 => [(3, .int v32), (0, .ref (G.1 + a0)), (1, .int a1), (2, .int a2), (4, .int v14), (5, .int v15)]) (by decide) (fun _ => rfl) (fun v32 => ?_)
              refine R_iload C 4 rfl dX7_tape_84 ?_
              refine R_aload_n C 1 rfl dX7_tape_86 ?_
              refine R_getr C fl7_9 rfl ha0 rx21 dX7_tape_87 ?_
              refine R_sipush C (1927) dX7_tape_90 (by decide) ?_
              refine R_aload_n C 1 rfl dX7_tape_93 ?_
              refine R_iload_n C 2 rfl dX7_tape_94 ?_
              refine R_iload C 5 rfl dX7_tape_95 ?_
              refine R_bd (fun r35 s33 q34 => ?_)
              refine R_callVi [.int a1, .int v15] [.int (1927 : Int32), .ref (G.1 + x21), .int v14] C ml7_168 (kX7_runAt q34) (by rw [hR]; exact ⟨rfl, rfl, Nat.le_of_ble_eq_true rfl, Nat.le_of_ble_eq_true rfl, Nat.zero_le _, Nat.zero_le _⟩) ha0 rfl rfl (Nat.le_of_ble_eq_true rfl) dX7_tape_97 ?_
              refine R_iadd C dX7_tape_100 ?_
              refine R_ck (fun h36 => ?_)
              refine R_iald C cx21 h36 dX7_tape_101 ?_
              refine R_iadd C dX7_tape_102 ?_
              refine S_istore C dX7_tape_103 (fun v37 => [(4, .int v37), (3, .int v32), (0, .ref (G.1 + a0)), (1, .int a1), (2, .int a2), (5, .int v15)]) (by decide) (fun _ => rfl) (fun v37 => ?_)
              refine S_iinc (fun v38 => [(5, .int v38), (4, .int v37), (3, .int v32), (0, .ref (G.1 + a0)), (1, .int a1), (2, .int a2)]) 5 C dX7_tape_105 rfl (by decide) (by decide) (fun _ => rfl) (fun v38 => ?_)
              refine R_goto C dX7_tape_108 ?_
              refine R_loc (lv2 := [(0, .ref (G.1 + a0)), (1, .int a1), (2, .int a2), (3, .int v32), (4, .int v37), (5, .int v38)]) [3, 4, 5, 2, 1, 0] rfl ?_
              exact I20 ((v32, v37, v38), s33) b18 s19 K17
            · refine B_if_ne C dX7_tape_71 ?_ ?_
              · refine R_iconst C (0) dX7_tape_78 (by decide) ?_
                refine R_loc (lv2 := [(0, .ref (G.1 + a0)), (1, .int a1), (2, .int a2), (4, .int v14), (5, .int v15)]) [0, 1, 2, 4, 5] rfl ?_
                exact R_end (fun (w : Int32) (s : Sg) => V κ G (QQ κ G E (some (.int r)) σ') E s (false, 0, 0) 79 [(0, .ref (G.1 + a0)), (1, .int a1), (2, .int a2), (4, .int v14), (5, .int v15)] [.int w, .int v13]) Kw27
              · refine R_iconst C (1) dX7_tape_74 (by decide) ?_
                refine R_goto C dX7_tape_75 ?_
                refine R_loc (lv2 := [(0, .ref (G.1 + a0)), (1, .int a1), (2, .int a2), (4, .int v14), (5, .int v15)]) [0, 1, 2, 4, 5] rfl ?_
                exact R_end (fun (w : Int32) (s : Sg) => V κ G (QQ κ G E (some (.int r)) σ') E s (false, 0, 0) 79 [(0, .ref (G.1 + a0)), (1, .int a1), (2, .int a2), (4, .int v14), (5, .int v15)] [.int w, .int v13]) Kw27
      · refine R_iconst C (-1) dX7_tape_30 (by decide) ?_
        exact R_iret C hr dX7_tape_31
theorem dX7_on_0 : dk cX7_on 0 1 (.aload_n 0) 1 := by unfold dk; decide +kernel
theorem dX7_on_1 : dk cX7_on 1 4 (.invokevirtual 255) 3 := by unfold dk; decide +kernel
theorem dX7_on_46 : dk cX7_on 46 47 (.iconst (-1)) 1 := by unfold dk; decide +kernel
theorem dX7_on_47 : dk cX7_on 47 48 (.ireturn) 1 := by unfold dk; decide +kernel
theorem dX7_on_7 : dk cX7_on 7 8 (.iload_n 1) 1 := by unfold dk; decide +kernel
theorem dX7_on_8 : dk cX7_on 8 9 (.iconst 0) 1 := by unfold dk; decide +kernel
theorem dX7_on_9 : dk cX7_on 9 10 (.aload_n 0) 1 := by unfold dk; decide +kernel
theorem dX7_on_10 : dk cX7_on 10 13 (.invokevirtual 155) 3 := by unfold dk; decide +kernel
theorem dX7_on_13 : dk cX7_on 13 14 (.iconst 1) 1 := by unfold dk; decide +kernel
theorem dX7_on_14 : dk cX7_on 14 15 (.isub) 1 := by unfold dk; decide +kernel
theorem dX7_on_15 : dk cX7_on 15 18 (.invokestatic 116) 3 := by unfold dk; decide +kernel
theorem dX7_on_21 : dk cX7_on 21 22 (.iload_n 2) 1 := by unfold dk; decide +kernel
theorem dX7_on_22 : dk cX7_on 22 23 (.iconst 0) 1 := by unfold dk; decide +kernel
theorem dX7_on_23 : dk cX7_on 23 24 (.aload_n 0) 1 := by unfold dk; decide +kernel
theorem dX7_on_24 : dk cX7_on 24 27 (.getfield 9) 3 := by unfold dk; decide +kernel
theorem dX7_on_27 : dk cX7_on 27 29 (.bipush 20) 2 := by unfold dk; decide +kernel
theorem dX7_on_29 : dk cX7_on 29 30 (.iload_n 1) 1 := by unfold dk; decide +kernel
theorem dX7_on_30 : dk cX7_on 30 31 (.iadd) 1 := by unfold dk; decide +kernel
theorem dX7_on_31 : dk cX7_on 31 32 (.iaload) 1 := by unfold dk; decide +kernel
theorem dX7_on_32 : dk cX7_on 32 33 (.iconst 1) 1 := by unfold dk; decide +kernel
theorem dX7_on_33 : dk cX7_on 33 34 (.isub) 1 := by unfold dk; decide +kernel
theorem dX7_on_34 : dk cX7_on 34 37 (.invokestatic 116) 3 := by unfold dk; decide +kernel
theorem dX7_on_40 : dk cX7_on 40 41 (.iload_n 3) 1 := by unfold dk; decide +kernel
theorem dX7_on_41 : dk cX7_on 41 43 (.bipush (-2)) 2 := by unfold dk; decide +kernel
theorem dX7_on_48 : dk cX7_on 48 49 (.aload_n 0) 1 := by unfold dk; decide +kernel
theorem dX7_on_49 : dk cX7_on 49 50 (.iload_n 1) 1 := by unfold dk; decide +kernel
theorem dX7_on_50 : dk cX7_on 50 51 (.iload_n 2) 1 := by unfold dk; decide +kernel
theorem dX7_on_51 : dk cX7_on 51 54 (.invokevirtual 168) 3 := by unfold dk; decide +kernel
theorem dX7_on_54 : dk cX7_on 54 56 (.istore 4) 2 := by unfold dk; decide +kernel
theorem dX7_on_56 : dk cX7_on 56 57 (.iload_n 3) 1 := by unfold dk; decide +kernel
theorem dX7_on_57 : dk cX7_on 57 59 (.bipush (-2)) 2 := by unfold dk; decide +kernel
theorem dX7_on_74 : dk cX7_on 74 75 (.iload_n 3) 1 := by unfold dk; decide +kernel
theorem dX7_on_75 : dk cX7_on 75 76 (.iconst (-1)) 1 := by unfold dk; decide +kernel
theorem dX7_on_76 : bk cX7_on 76 79 93 (.if_icmp .ne 17) (17) := by unfold bk; decide +kernel
theorem dX7_on_93 : dk cX7_on 93 94 (.iload_n 3) 1 := by unfold dk; decide +kernel
theorem dX7_on_94 : dk cX7_on 94 95 (.aload_n 0) 1 := by unfold dk; decide +kernel
theorem dX7_on_95 : dk cX7_on 95 98 (.getfield 9) 3 := by unfold dk; decide +kernel
theorem dX7_on_98 : dk cX7_on 98 101 (.sipush 1927) 3 := by unfold dk; decide +kernel
theorem dX7_on_101 : dk cX7_on 101 103 (.iload 4) 2 := by unfold dk; decide +kernel
theorem dX7_on_103 : dk cX7_on 103 104 (.iadd) 1 := by unfold dk; decide +kernel
theorem dX7_on_104 : dk cX7_on 104 105 (.iaload) 1 := by unfold dk; decide +kernel
theorem dX7_on_133 : dk cX7_on 133 135 (.bipush (-3)) 2 := by unfold dk; decide +kernel
theorem dX7_on_108 : dk cX7_on 108 109 (.aload_n 0) 1 := by unfold dk; decide +kernel
theorem dX7_on_109 : dk cX7_on 109 112 (.getfield 9) 3 := by unfold dk; decide +kernel
theorem dX7_on_112 : dk cX7_on 112 115 (.sipush 7527) 3 := by unfold dk; decide +kernel
theorem dX7_on_115 : dk cX7_on 115 116 (.aload_n 0) 1 := by unfold dk; decide +kernel
theorem dX7_on_116 : dk cX7_on 116 119 (.getfield 9) 3 := by unfold dk; decide +kernel
theorem dX7_on_119 : dk cX7_on 119 122 (.sipush 1227) 3 := by unfold dk; decide +kernel
theorem dX7_on_122 : dk cX7_on 122 124 (.iload 4) 2 := by unfold dk; decide +kernel
theorem dX7_on_124 : dk cX7_on 124 125 (.iadd) 1 := by unfold dk; decide +kernel
theorem dX7_on_125 : dk cX7_on 125 126 (.iaload) 1 := by unfold dk; decide +kernel
theorem dX7_on_126 : dk cX7_on 126 127 (.iadd) 1 := by unfold dk; decide +kernel
theorem dX7_on_127 : dk cX7_on 127 128 (.iload_n 3) 1 := by unfold dk; decide +kernel
theorem dX7_on_128 : dk cX7_on 128 129 (.iadd) 1 := by unfold dk; decide +kernel
theorem dX7_on_129 : dk cX7_on 129 130 (.iaload) 1 := by unfold dk; decide +kernel
theorem dX7_on_130 : bk cX7_on 130 133 135 (.goto 5) (5) := by unfold bk; decide +kernel
theorem dX7_on_105 : bk cX7_on 105 108 133 (.if_icmp .ge 28) (28) := by unfold bk; decide +kernel
theorem dX7_on_79 : dk cX7_on 79 80 (.aload_n 0) 1 := by unfold dk; decide +kernel
theorem dX7_on_80 : dk cX7_on 80 83 (.getfield 9) 3 := by unfold dk; decide +kernel
theorem dX7_on_83 : dk cX7_on 83 86 (.sipush 1927) 3 := by unfold dk; decide +kernel
theorem dX7_on_86 : dk cX7_on 86 88 (.iload 4) 2 := by unfold dk; decide +kernel
theorem dX7_on_88 : dk cX7_on 88 89 (.iadd) 1 := by unfold dk; decide +kernel
theorem dX7_on_89 : dk cX7_on 89 90 (.iaload) 1 := by unfold dk; decide +kernel
theorem dX7_on_90 : bk cX7_on 90 93 135 (.goto 45) (45) := by unfold bk; decide +kernel
theorem dX7_on_135 : dk cX7_on 135 136 (.ireturn) 1 := by unfold dk; decide +kernel
theorem dX7_on_62 : dk cX7_on 62 63 (.aload_n 0) 1 := by unfold dk; decide +kernel
theorem dX7_on_63 : dk cX7_on 63 66 (.getfield 9) 3 := by unfold dk; decide +kernel
theorem dX7_on_66 : dk cX7_on 66 69 (.sipush 2627) 3 := by unfold dk; decide +kernel
theorem dX7_on_69 : dk cX7_on 69 71 (.iload 4) 2 := by unfold dk; decide +kernel
theorem dX7_on_71 : dk cX7_on 71 72 (.iadd) 1 := by unfold dk; decide +kernel
theorem dX7_on_72 : dk cX7_on 72 73 (.iaload) 1 := by unfold dk; decide +kernel
theorem dX7_on_73 : dk cX7_on 73 74 (.ireturn) 1 := by unfold dk; decide +kernel
theorem dX7_on_59 : bk cX7_on 59 62 74 (.if_icmp .ne 15) (15) := by unfold bk; decide +kernel
theorem dX7_on_43 : bk cX7_on 43 46 48 (.if_icmp .ge 5) (5) := by unfold bk; decide +kernel
theorem dX7_on_37 : bk cX7_on 37 40 46 (.ifCond .eq 9) (9) := by unfold bk; decide +kernel
theorem dX7_on_18 : bk cX7_on 18 21 46 (.ifCond .eq 28) (28) := by unfold bk; decide +kernel
theorem dX7_on_4 : bk cX7_on 4 7 46 (.ifCond .eq 42) (42) := by unfold bk; decide +kernel
set_option maxHeartbeats 4000000 in
set_option maxRecDepth 100000 in
theorem kX7_on {l : Launch} {G : Gl} {E : En} {a0 : Nat} {a1 : Int32} {a2 : Int32} {a3 : Int32} {σ σ' : Sg} {r : Int32} : fX7_on E a0 a1 a2 a3 σ = some (r, σ') → CT l yX7_on cX7_on 5 (some .int) ({ frames := 1, cells := 0, slots := 0, locals := 22 } : Room) [.ref (G.1 + a0), .int a1, .int a2, .int a3] G E σ (some (.int r)) σ' := by
  intro h
  refine CT_of (lv0 := [(0, .ref (G.1 + a0)), (1, .int a1), (2, .int a2), (3, .int a3)]) (by decide) (Nat.le_of_ble_eq_true rfl) rfl (fun κ hl hR hr C => ?_)
  have C : Cx κ G cX7_on RX7 5 := C
  revert h
  unfold fX7_on
  refine R_tk (fun ha0 => ?_)
  refine R_aload_n C 0 rfl dX7_on_0 ?_
  refine R_bd (fun r3 s1 q2 => ?_)
  refine R_callVi [] [] C ml7_255 (kX7_isSpread q2) (by rw [hR]; exact ⟨rfl, rfl, Nat.le_of_ble_eq_true rfl, Nat.le_of_ble_eq_true rfl, Nat.zero_le _, Nat.zero_le _⟩) ha0 rfl rfl (Nat.le_of_ble_eq_true rfl) dX7_on_1 ?_
  refine B_if_eq C dX7_on_4 ?_ ?_
  · refine R_iconst C (-1) dX7_on_46 (by decide) ?_
    exact R_iret C hr dX7_on_47
  · refine R_iload_n C 1 rfl dX7_on_7 ?_
    refine R_iconst C (0) dX7_on_8 (by decide) ?_
    refine R_aload_n C 0 rfl dX7_on_9 ?_
    refine R_bd (fun r6 s4 q5 => ?_)
    refine R_callVi [] [.int (0 : Int32), .int a1] C ml7_155 (kX7_tapes q5) (by rw [hR]; exact ⟨rfl, rfl, Nat.le_of_ble_eq_true rfl, Nat.le_of_ble_eq_true rfl, Nat.zero_le _, Nat.zero_le _⟩) ha0 rfl rfl (Nat.le_of_ble_eq_true rfl) dX7_on_10 ?_
    refine R_iconst C (1) dX7_on_13 (by decide) ?_
    refine R_isub C dX7_on_14 ?_
    refine R_bd (fun r9 s7 q8 => ?_)
    refine R_callSi [.int a1, .int (0 : Int32), .int (r6 - (1 : Int32))] [] C ml7_116 (kX7_in q8) (by rw [hR]; exact ⟨rfl, rfl, Nat.le_of_ble_eq_true rfl, Nat.le_of_ble_eq_true rfl, Nat.zero_le _, Nat.zero_le _⟩) rfl rfl (Nat.le_of_ble_eq_true rfl) dX7_on_15 ?_
    refine B_if_eq C dX7_on_18 ?_ ?_
    · refine R_iconst C (-1) dX7_on_46 (by decide) ?_
      exact R_iret C hr dX7_on_47
    · refine R_iload_n C 2 rfl dX7_on_21 ?_
      refine R_iconst C (0) dX7_on_22 (by decide) ?_
      refine R_aload_n C 0 rfl dX7_on_23 ?_
      refine R_dr (fun x10 rx10 cx10 => ?_)
      refine R_getr C fl7_9 rfl ha0 rx10 dX7_on_24 ?_
      refine R_bipush C (20) dX7_on_27 (by decide) ?_
      refine R_iload_n C 1 rfl dX7_on_29 ?_
      refine R_iadd C dX7_on_30 ?_
      refine R_ck (fun h11 => ?_)
      refine R_iald C cx10 h11 dX7_on_31 ?_
      refine R_iconst C (1) dX7_on_32 (by decide) ?_
      refine R_isub C dX7_on_33 ?_
      refine R_bd (fun r14 s12 q13 => ?_)
      refine R_callSi [.int a2, .int (0 : Int32), .int ((gi s7 x10 ((20 : Int32) + a1).toNatClampNeg) - (1 : Int32))] [] C ml7_116 (kX7_in q13) (by rw [hR]; exact ⟨rfl, rfl, Nat.le_of_ble_eq_true rfl, Nat.le_of_ble_eq_true rfl, Nat.zero_le _, Nat.zero_le _⟩) rfl rfl (Nat.le_of_ble_eq_true rfl) dX7_on_34 ?_
      refine B_if_eq C dX7_on_37 ?_ ?_
      · refine R_iconst C (-1) dX7_on_46 (by decide) ?_
        exact R_iret C hr dX7_on_47
      · refine R_iload_n C 3 rfl dX7_on_40 ?_
        refine R_bipush C (-2) dX7_on_41 (by decide) ?_
        refine B_icmp_ge C dX7_on_43 ?_ ?_
        · refine R_aload_n C 0 rfl dX7_on_48 ?_
          refine R_iload_n C 1 rfl dX7_on_49 ?_
          refine R_iload_n C 2 rfl dX7_on_50 ?_
          refine R_bd (fun r17 s15 q16 => ?_)
          refine R_callVi [.int a1, .int a2] [] C ml7_168 (kX7_runAt q16) (by rw [hR]; exact ⟨rfl, rfl, Nat.le_of_ble_eq_true rfl, Nat.le_of_ble_eq_true rfl, Nat.zero_le _, Nat.zero_le _⟩) ha0 rfl rfl (Nat.le_of_ble_eq_true rfl) dX7_on_51 ?_
          refine R_istore (lv2 := [(4, .int r17), (0, .ref (G.1 + a0)), (1, .int a1), (2, .int a2), (3, .int a3)]) C dX7_on_54 (by decide) rfl ?_
          refine R_iload_n C 4 rfl dX7_on_56 ?_
          refine R_bipush C (-2) dX7_on_57 (by decide) ?_
          refine B_icmp_ne C dX7_on_59 ?_ ?_
          · refine R_iload_n C 4 rfl dX7_on_74 ?_
            refine R_iconst C (-1) dX7_on_75 (by decide) ?_
            refine R_bdK (fun (w : Int32) (s : Sg) => V κ G (QQ κ G E (some (.int r)) σ') E s (false, 0, 0) 135 [] [.int w]) (fun w18 s19 => ?_) (fun w18 s19 Kw18 => ?_)
            · exact R_iret C hr dX7_on_135
            · refine B_icmp_ne C dX7_on_76 ?_ ?_
              · refine R_iload_n C 4 rfl dX7_on_93 ?_
                refine R_aload_n C 1 rfl dX7_on_94 ?_
                refine R_getr C fl7_9 rfl ha0 rx10 dX7_on_95 ?_
                refine R_sipush C (1927) dX7_on_98 (by decide) ?_
                refine R_iload C 0 rfl dX7_on_101 ?_
                refine R_iadd C dX7_on_103 ?_
                refine R_ck (fun h20 => ?_)
                refine R_iald C cx10 h20 dX7_on_104 ?_
                refine B_icmp_ge C dX7_on_105 ?_ ?_
                · refine R_bipush C (-3) dX7_on_133 (by decide) ?_
                  refine R_loc (lv2 := []) [] rfl ?_
                  exact R_end (fun (w : Int32) (s : Sg) => V κ G (QQ κ G E (some (.int r)) σ') E s (false, 0, 0) 135 [] [.int w]) Kw18
                · refine R_aload_n C 1 rfl dX7_on_108 ?_
                  refine R_getr C fl7_9 rfl ha0 rx10 dX7_on_109 ?_
                  refine R_sipush C (7527) dX7_on_112 (by decide) ?_
                  refine R_aload_n C 1 rfl dX7_on_115 ?_
                  refine R_getr C fl7_9 rfl ha0 rx10 dX7_on_116 ?_
                  refine R_sipush C (1227) dX7_on_119 (by decide) ?_
                  refine R_iload C 0 rfl dX7_on_122 ?_
                  refine R_iadd C dX7_on_124 ?_
                  refine R_ck (fun h21 => ?_)
                  refine R_iald C cx10 h21 dX7_on_125 ?_
                  refine R_iadd C dX7_on_126 ?_
                  refine R_iload_n C 4 rfl dX7_on_127 ?_
                  refine R_iadd C dX7_on_128 ?_
                  refine R_ck (fun h22 => ?_)
                  refine R_iald C cx10 h22 dX7_on_129 ?_
                  refine R_goto C dX7_on_130 ?_
                  refine R_loc (lv2 := []) [] rfl ?_
                  exact R_end (fun (w : Int32) (s : Sg) => V κ G (QQ κ G E (some (.int r)) σ') E s (false, 0, 0) 135 [] [.int w]) Kw18
              · refine R_aload_n C 1 rfl dX7_on_79 ?_
                refine R_getr C fl7_9 rfl ha0 rx10 dX7_on_80 ?_
                refine R_sipush C (1927) dX7_on_83 (by decide) ?_
                refine R_iload C 0 rfl dX7_on_86 ?_
                refine R_iadd C dX7_on_88 ?_
                refine R_ck (fun h23 => ?_)
                refine R_iald C cx10 h23 dX7_on_89 ?_
                refine R_goto C dX7_on_90 ?_
                refine R_loc (lv2 := []) [] rfl ?_
                exact R_end (fun (w : Int32) (s : Sg) => V κ G (QQ κ G E (some (.int r)) σ') E s (false, 0, 0) 135 [] [.int w]) Kw18
          · refine R_aload_n C 1 rfl dX7_on_62 ?_
            refine R_getr C fl7_9 rfl ha0 rx10 dX7_on_63 ?_
            refine R_sipush C (2627) dX7_on_66 (by decide) ?_
            refine R_iload C 0 rfl dX7_on_69 ?_
            refine R_iadd C dX7_on_71 ?_
            refine R_ck (fun h24 => ?_)
            refine R_iald C cx10 h24 dX7_on_72 ?_
            exact R_iret C hr dX7_on_73
        · refine R_iconst C (-1) dX7_on_46 (by decide) ?_
          exact R_iret C hr dX7_on_47
theorem dX7_sorted_0 : dk cX7_sorted 0 1 (.iload_n 1) 1 := by unfold dk; decide +kernel
theorem dX7_sorted_1 : dk cX7_sorted 1 2 (.iconst 0) 1 := by unfold dk; decide +kernel
theorem dX7_sorted_2 : dk cX7_sorted 2 3 (.aload_n 0) 1 := by unfold dk; decide +kernel
theorem dX7_sorted_3 : dk cX7_sorted 3 6 (.invokevirtual 93) 3 := by unfold dk; decide +kernel
theorem dX7_sorted_6 : dk cX7_sorted 6 7 (.iconst 1) 1 := by unfold dk; decide +kernel
theorem dX7_sorted_7 : dk cX7_sorted 7 8 (.isub) 1 := by unfold dk; decide +kernel
theorem dX7_sorted_8 : dk cX7_sorted 8 11 (.invokestatic 116) 3 := by unfold dk; decide +kernel
theorem dX7_sorted_16 : dk cX7_sorted 16 17 (.aload_n 0) 1 := by unfold dk; decide +kernel
theorem dX7_sorted_17 : dk cX7_sorted 17 20 (.getfield 9) 3 := by unfold dk; decide +kernel
theorem dX7_sorted_20 : dk cX7_sorted 20 22 (.bipush 7) 2 := by unfold dk; decide +kernel
theorem dX7_sorted_22 : dk cX7_sorted 22 23 (.iaload) 1 := by unfold dk; decide +kernel
theorem dX7_sorted_23 : dk cX7_sorted 23 24 (.iconst 3) 1 := by unfold dk; decide +kernel
theorem dX7_sorted_24 : bk cX7_sorted 24 27 40 (.if_icmp .ne 16) (16) := by unfold bk; decide +kernel
theorem dX7_sorted_40 : dk cX7_sorted 40 42 (.bipush (-2)) 2 := by unfold dk; decide +kernel
theorem dX7_sorted_27 : dk cX7_sorted 27 28 (.aload_n 0) 1 := by unfold dk; decide +kernel
theorem dX7_sorted_28 : dk cX7_sorted 28 31 (.getfield 9) 3 := by unfold dk; decide +kernel
theorem dX7_sorted_31 : dk cX7_sorted 31 34 (.sipush 7527) 3 := by unfold dk; decide +kernel
theorem dX7_sorted_34 : dk cX7_sorted 34 35 (.iload_n 1) 1 := by unfold dk; decide +kernel
theorem dX7_sorted_35 : dk cX7_sorted 35 36 (.iadd) 1 := by unfold dk; decide +kernel
theorem dX7_sorted_36 : dk cX7_sorted 36 37 (.iaload) 1 := by unfold dk; decide +kernel
theorem dX7_sorted_37 : bk cX7_sorted 37 40 42 (.goto 5) (5) := by unfold bk; decide +kernel
theorem dX7_sorted_42 : dk cX7_sorted 42 43 (.ireturn) 1 := by unfold dk; decide +kernel
theorem dX7_sorted_14 : dk cX7_sorted 14 15 (.iconst (-1)) 1 := by unfold dk; decide +kernel
theorem dX7_sorted_15 : dk cX7_sorted 15 16 (.ireturn) 1 := by unfold dk; decide +kernel
theorem dX7_sorted_11 : bk cX7_sorted 11 14 16 (.ifCond .ne 5) (5) := by unfold bk; decide +kernel
set_option maxHeartbeats 4000000 in
set_option maxRecDepth 100000 in
theorem kX7_sorted {l : Launch} {G : Gl} {E : En} {a0 : Nat} {a1 : Int32} {σ σ' : Sg} {r : Int32} : fX7_sorted E a0 a1 σ = some (r, σ') → CT l yX7_sorted cX7_sorted 2 (some .int) ({ frames := 1, cells := 0, slots := 0, locals := 22 } : Room) [.ref (G.1 + a0), .int a1] G E σ (some (.int r)) σ' := by
  intro h
  refine CT_of (lv0 := [(0, .ref (G.1 + a0)), (1, .int a1)]) (by decide) (Nat.le_of_ble_eq_true rfl) rfl (fun κ hl hR hr C => ?_)
  have C : Cx κ G cX7_sorted RX7 2 := C
  revert h
  unfold fX7_sorted
  refine R_tk (fun ha0 => ?_)
  refine R_iload_n C 1 rfl dX7_sorted_0 ?_
  refine R_iconst C (0) dX7_sorted_1 (by decide) ?_
  refine R_aload_n C 0 rfl dX7_sorted_2 ?_
  refine R_bd (fun r3 s1 q2 => ?_)
  refine R_callVi [] [.int (0 : Int32), .int a1] C ml7_93 (kX7_many q2) (by rw [hR]; exact ⟨rfl, rfl, Nat.le_of_ble_eq_true rfl, Nat.le_of_ble_eq_true rfl, Nat.zero_le _, Nat.zero_le _⟩) ha0 rfl rfl (Nat.le_of_ble_eq_true rfl) dX7_sorted_3 ?_
  refine R_iconst C (1) dX7_sorted_6 (by decide) ?_
  refine R_isub C dX7_sorted_7 ?_
  refine R_bd (fun r6 s4 q5 => ?_)
  refine R_callSi [.int a1, .int (0 : Int32), .int (r3 - (1 : Int32))] [] C ml7_116 (kX7_in q5) (by rw [hR]; exact ⟨rfl, rfl, Nat.le_of_ble_eq_true rfl, Nat.le_of_ble_eq_true rfl, Nat.zero_le _, Nat.zero_le _⟩) rfl rfl (Nat.le_of_ble_eq_true rfl) dX7_sorted_8 ?_
  refine B_if_ne C dX7_sorted_11 ?_ ?_
  · refine R_aload_n C 0 rfl dX7_sorted_16 ?_
    refine R_dr (fun x7 rx7 cx7 => ?_)
    refine R_getr C fl7_9 rfl ha0 rx7 dX7_sorted_17 ?_
    refine R_bipush C (7) dX7_sorted_20 (by decide) ?_
    refine R_ck (fun h8 => ?_)
    refine R_iald C cx7 h8 dX7_sorted_22 ?_
    refine R_iconst C (3) dX7_sorted_23 (by decide) ?_
    refine R_bdK (fun (w : Int32) (s : Sg) => V κ G (QQ κ G E (some (.int r)) σ') E s (false, 0, 0) 42 [] [.int w]) (fun w9 s10 => ?_) (fun w9 s10 Kw9 => ?_)
    · exact R_iret C hr dX7_sorted_42
    · refine B_icmp_ne C dX7_sorted_24 ?_ ?_
      · refine R_bipush C (-2) dX7_sorted_40 (by decide) ?_
        refine R_loc (lv2 := []) [] rfl ?_
        exact R_end (fun (w : Int32) (s : Sg) => V κ G (QQ κ G E (some (.int r)) σ') E s (false, 0, 0) 42 [] [.int w]) Kw9
      · refine R_aload_n C 0 rfl dX7_sorted_27 ?_
        refine R_getr C fl7_9 rfl ha0 rx7 dX7_sorted_28 ?_
        refine R_sipush C (7527) dX7_sorted_31 (by decide) ?_
        refine R_iload_n C 1 rfl dX7_sorted_34 ?_
        refine R_iadd C dX7_sorted_35 ?_
        refine R_ck (fun h11 => ?_)
        refine R_iald C cx7 h11 dX7_sorted_36 ?_
        refine R_goto C dX7_sorted_37 ?_
        refine R_loc (lv2 := []) [] rfl ?_
        exact R_end (fun (w : Int32) (s : Sg) => V κ G (QQ κ G E (some (.int r)) σ') E s (false, 0, 0) 42 [] [.int w]) Kw9
  · refine R_iconst C (-1) dX7_sorted_14 (by decide) ?_
    exact R_iret C hr dX7_sorted_15
