theorem dX6_isAmongLikeStands_0 : dk cX6_isAmongLikeStands 0 1 (.iconst 0) 1 := by unfold dk; decide +kernel
theorem dX6_isAmongLikeStands_1 : dk cX6_isAmongLikeStands 1 3 (.istore 4) 2 := by unfold dk; decide +kernel
theorem dX6_isAmongLikeStands_3 : dk cX6_isAmongLikeStands 3 5 (.iload 4) 2 := by unfold dk; decide +kernel
theorem dX6_isAmongLikeStands_5 : dk cX6_isAmongLikeStands 5 6 (.iload_n 3) 1 := by unfold dk; decide +kernel
theorem dX6_isAmongLikeStands_9 : dk cX6_isAmongLikeStands 9 10 (.aload_n 0) 1 := by unfold dk; decide +kernel
theorem dX6_isAmongLikeStands_10 : dk cX6_isAmongLikeStands 10 13 (.getfield 53) 3 := by unfold dk; decide +kernel
theorem dX6_isAmongLikeStands_13 : dk cX6_isAmongLikeStands 13 15 (.iload 4) 2 := by unfold dk; decide +kernel
theorem dX6_isAmongLikeStands_15 : dk cX6_isAmongLikeStands 15 16 (.laload) 1 := by unfold dk; decide +kernel
theorem dX6_isAmongLikeStands_16 : dk cX6_isAmongLikeStands 16 17 (.lload_n 1) 1 := by unfold dk; decide +kernel
theorem dX6_isAmongLikeStands_17 : dk cX6_isAmongLikeStands 17 18 (.lcmp) 1 := by unfold dk; decide +kernel
theorem dX6_isAmongLikeStands_23 : dk cX6_isAmongLikeStands 23 26 (.iinc 4 1) 3 := by unfold dk; decide +kernel
theorem dX6_isAmongLikeStands_26 : bk cX6_isAmongLikeStands 26 29 3 (.goto (-23)) (-23) := by unfold bk; decide +kernel
theorem dX6_isAmongLikeStands_21 : dk cX6_isAmongLikeStands 21 22 (.iconst 1) 1 := by unfold dk; decide +kernel
theorem dX6_isAmongLikeStands_22 : dk cX6_isAmongLikeStands 22 23 (.ireturn) 1 := by unfold dk; decide +kernel
theorem dX6_isAmongLikeStands_18 : bk cX6_isAmongLikeStands 18 21 23 (.ifCond .ne 5) (5) := by unfold bk; decide +kernel
theorem dX6_isAmongLikeStands_6 : bk cX6_isAmongLikeStands 6 9 29 (.if_icmp .ge 23) (23) := by unfold bk; decide +kernel
theorem dX6_isAmongLikeStands_29 : dk cX6_isAmongLikeStands 29 30 (.iconst 0) 1 := by unfold dk; decide +kernel
theorem dX6_isAmongLikeStands_30 : dk cX6_isAmongLikeStands 30 31 (.ireturn) 1 := by unfold dk; decide +kernel
set_option maxHeartbeats 4000000 in
set_option maxRecDepth 100000 in
theorem kX6_isAmongLikeStands {l : Launch} {G : Gl} {E : En} {a0 : Nat} {a1 : Int64} {a3 : Int32} {σ σ' : Sg} {r : Int32} : fX6_isAmongLikeStands E a0 a1 a3 σ = some (r, σ') → CT l yX6_isAmongLikeStands cX6_isAmongLikeStands 5 (some .boolean) ({ frames := 0, cells := 0, slots := 0, locals := 0 } : Room) [.ref (G.1 + a0), .long a1, .int a3] G E σ (some (.int r)) σ' := by
  intro h
  refine CT_of (lv0 := [(0, .ref (G.1 + a0)), (1, .long a1), (3, .int a3)]) (by decide) (Nat.le_of_ble_eq_true rfl) rfl (fun κ hl hR hr C => ?_)
  have C : Cx κ G cX6_isAmongLikeStands RX6 5 := C
  revert h
  unfold fX6_isAmongLikeStands
  refine R_tk (fun ha0 => ?_)
  refine R_iconst C (0) dX6_isAmongLikeStands_0 (by decide) ?_
  refine R_istore (lv2 := [(4, .int (0 : Int32)), (0, .ref (G.1 + a0)), (1, .long a1), (3, .int a3)]) C dX6_isAmongLikeStands_1 (by decide) rfl ?_
  refine R_loc (lv2 := [(0, .ref (G.1 + a0)), (1, .long a1), (3, .int a3), (4, .int (0 : Int32))]) [1, 2, 3, 0] rfl ?_
  refine R_loop (fun (a : (Int32) × Sg) => V κ G (QQ κ G E (some (.int r)) σ') E a.2 (false, 0, 0) 3 [(0, .ref (G.1 + a0)), (1, .long a1), (3, .int a3), (4, .int a.1)] []) (fun (o : ((Int32) ⊕ Int32)) (s : Sg) => sm o (fun o => V κ G (QQ κ G E (some (.int r)) σ') E s (false, 0, 0) 29 [] []) (fun rr => some (rr, s) = some (r, σ'))) ((0 : Int32), σ) (fun o10 s11 => ?_) (fun rec I6 a b4 s5 K3 => ?_)
  · rcases o10 with vo10 | ro10
    · refine R_sml ?_
      refine R_iconst C (0) dX6_isAmongLikeStands_29 (by decide) ?_
      exact R_zret C hr (Or.inl rfl) dX6_isAmongLikeStands_30
    · exact fun h => h
  · obtain ⟨v1, s2⟩ := a
    show bX6_isAmongLikeStands_3 E a3 a0 a1 (fun u0 t => rec (u0, t)) v1 s2 = some (b4, s5) → V κ G (QQ κ G E (some (.int r)) σ') E s2 (false, 0, 0) 3 [(0, .ref (G.1 + a0)), (1, .long a1), (3, .int a3), (4, .int v1)] []
    unfold bX6_isAmongLikeStands_3
    refine R_iload C 3 rfl dX6_isAmongLikeStands_3 ?_
    refine R_iload_n C 2 rfl dX6_isAmongLikeStands_5 ?_
    refine B_icmp_ge C dX6_isAmongLikeStands_6 ?_ ?_
    · refine R_loc (lv2 := []) [] rfl ?_
      exact R_inr (VX := (fun (o : ((Int32) ⊕ Int32)) (s : Sg) => sm o (fun o => V κ G (QQ κ G E (some (.int r)) σ') E s (false, 0, 0) 29 [] []) (fun rr => some (rr, s) = some (r, σ')))) (i := .inl) K3 (fun h => h)
    · refine R_aload_n C 0 rfl dX6_isAmongLikeStands_9 ?_
      refine R_dr (fun x7 rx7 cx7 => ?_)
      refine R_getr C fl6_53 rfl ha0 rx7 dX6_isAmongLikeStands_10 ?_
      refine R_iload C 3 rfl dX6_isAmongLikeStands_13 ?_
      refine R_ck (fun h8 => ?_)
      refine R_lald C cx7 h8 dX6_isAmongLikeStands_15 ?_
      refine R_lload_n C 1 rfl dX6_isAmongLikeStands_16 ?_
      refine R_lcmp C dX6_isAmongLikeStands_17 ?_
      refine B_if_ne C dX6_isAmongLikeStands_18 ?_ ?_
      · refine S_iinc (fun v9 => [(4, .int v9), (0, .ref (G.1 + a0)), (1, .long a1), (3, .int a3)]) 3 C dX6_isAmongLikeStands_23 rfl (by decide) (by decide) (fun _ => rfl) (fun v9 => ?_)
        refine R_goto C dX6_isAmongLikeStands_26 ?_
        refine R_loc (lv2 := [(0, .ref (G.1 + a0)), (1, .long a1), (3, .int a3), (4, .int v9)]) [1, 2, 3, 0] rfl ?_
        exact I6 (v9, s2) b4 s5 K3
      · refine R_iconst C (1) dX6_isAmongLikeStands_21 (by decide) ?_
        exact R_inr (VX := (fun (o : ((Int32) ⊕ Int32)) (s : Sg) => sm o (fun o => V κ G (QQ κ G E (some (.int r)) σ') E s (false, 0, 0) 29 [] []) (fun rr => some (rr, s) = some (r, σ')))) (i := .inr) K3 (R_zret C hr (Or.inr rfl) dX6_isAmongLikeStands_22)
theorem dX6_stands_0 : dk cX6_stands 0 1 (.aload_n 0) 1 := by unfold dk; decide +kernel
theorem dX6_stands_1 : dk cX6_stands 1 4 (.invokevirtual 122) 3 := by unfold dk; decide +kernel
theorem dX6_stands_9 : dk cX6_stands 9 10 (.aload_n 0) 1 := by unfold dk; decide +kernel
theorem dX6_stands_10 : dk cX6_stands 10 13 (.invokevirtual 215) 3 := by unfold dk; decide +kernel
theorem dX6_stands_13 : dk cX6_stands 13 14 (.aload_n 0) 1 := by unfold dk; decide +kernel
theorem dX6_stands_14 : dk cX6_stands 14 17 (.getfield 53) 3 := by unfold dk; decide +kernel
theorem dX6_stands_17 : dk cX6_stands 17 18 (.iconst 0) 1 := by unfold dk; decide +kernel
theorem dX6_stands_18 : dk cX6_stands 18 19 (.aload_n 0) 1 := by unfold dk; decide +kernel
theorem dX6_stands_19 : dk cX6_stands 19 22 (.getfield 39) 3 := by unfold dk; decide +kernel
theorem dX6_stands_22 : dk cX6_stands 22 25 (.invokevirtual 261) 3 := by unfold dk; decide +kernel
theorem dX6_stands_25 : dk cX6_stands 25 26 (.lastore) 1 := by unfold dk; decide +kernel
theorem dX6_stands_26 : dk cX6_stands 26 27 (.iconst 1) 1 := by unfold dk; decide +kernel
theorem dX6_stands_27 : dk cX6_stands 27 28 (.istore_n 1) 1 := by unfold dk; decide +kernel
theorem dX6_stands_28 : dk cX6_stands 28 29 (.iconst 1) 1 := by unfold dk; decide +kernel
theorem dX6_stands_29 : dk cX6_stands 29 30 (.istore_n 2) 1 := by unfold dk; decide +kernel
theorem dX6_stands_30 : dk cX6_stands 30 31 (.aload_n 0) 1 := by unfold dk; decide +kernel
theorem dX6_stands_31 : dk cX6_stands 31 34 (.getfield 39) 3 := by unfold dk; decide +kernel
theorem dX6_stands_34 : dk cX6_stands 34 37 (.getfield 241) 3 := by unfold dk; decide +kernel
theorem dX6_stands_37 : dk cX6_stands 37 38 (.istore_n 3) 1 := by unfold dk; decide +kernel
theorem dX6_stands_38 : dk cX6_stands 38 39 (.iconst 0) 1 := by unfold dk; decide +kernel
theorem dX6_stands_39 : dk cX6_stands 39 41 (.istore 4) 2 := by unfold dk; decide +kernel
theorem dX6_stands_41 : dk cX6_stands 41 43 (.iload 4) 2 := by unfold dk; decide +kernel
theorem dX6_stands_43 : dk cX6_stands 43 45 (.ldc 142) 2 := by unfold dk; decide +kernel
theorem dX6_stands_48 : dk cX6_stands 48 49 (.aload_n 0) 1 := by unfold dk; decide +kernel
theorem dX6_stands_49 : dk cX6_stands 49 52 (.getfield 39) 3 := by unfold dk; decide +kernel
theorem dX6_stands_52 : dk cX6_stands 52 55 (.getfield 241) 3 := by unfold dk; decide +kernel
theorem dX6_stands_55 : dk cX6_stands 55 56 (.iconst 1) 1 := by unfold dk; decide +kernel
theorem dX6_stands_59 : dk cX6_stands 59 60 (.aload_n 0) 1 := by unfold dk; decide +kernel
theorem dX6_stands_60 : dk cX6_stands 60 63 (.getfield 39) 3 := by unfold dk; decide +kernel
theorem dX6_stands_63 : dk cX6_stands 63 66 (.invokevirtual 244) 3 := by unfold dk; decide +kernel
theorem dX6_stands_66 : dk cX6_stands 66 67 (.aload_n 0) 1 := by unfold dk; decide +kernel
theorem dX6_stands_67 : dk cX6_stands 67 70 (.getfield 39) 3 := by unfold dk; decide +kernel
theorem dX6_stands_70 : dk cX6_stands 70 73 (.getfield 241) 3 := by unfold dk; decide +kernel
theorem dX6_stands_73 : dk cX6_stands 73 74 (.iload_n 3) 1 := by unfold dk; decide +kernel
theorem dX6_stands_74 : bk cX6_stands 74 77 87 (.if_icmp .eq 13) (13) := by unfold bk; decide +kernel
theorem dX6_stands_77 : dk cX6_stands 77 78 (.aload_n 0) 1 := by unfold dk; decide +kernel
theorem dX6_stands_78 : dk cX6_stands 78 81 (.getfield 39) 3 := by unfold dk; decide +kernel
theorem dX6_stands_81 : dk cX6_stands 81 84 (.getfield 241) 3 := by unfold dk; decide +kernel
theorem dX6_stands_84 : dk cX6_stands 84 85 (.istore_n 3) 1 := by unfold dk; decide +kernel
theorem dX6_stands_85 : dk cX6_stands 85 86 (.iconst 0) 1 := by unfold dk; decide +kernel
theorem dX6_stands_86 : dk cX6_stands 86 87 (.istore_n 1) 1 := by unfold dk; decide +kernel
theorem dX6_stands_87 : dk cX6_stands 87 88 (.aload_n 0) 1 := by unfold dk; decide +kernel
theorem dX6_stands_88 : dk cX6_stands 88 91 (.getfield 39) 3 := by unfold dk; decide +kernel
theorem dX6_stands_91 : dk cX6_stands 91 94 (.invokevirtual 261) 3 := by unfold dk; decide +kernel
theorem dX6_stands_94 : dk cX6_stands 94 96 (.lstore 5) 2 := by unfold dk; decide +kernel
theorem dX6_stands_96 : dk cX6_stands 96 97 (.aload_n 0) 1 := by unfold dk; decide +kernel
theorem dX6_stands_97 : dk cX6_stands 97 99 (.lload 5) 2 := by unfold dk; decide +kernel
theorem dX6_stands_99 : dk cX6_stands 99 100 (.iload_n 1) 1 := by unfold dk; decide +kernel
theorem dX6_stands_100 : dk cX6_stands 100 103 (.invokevirtual 265) 3 := by unfold dk; decide +kernel
theorem dX6_stands_103 : bk cX6_stands 103 106 129 (.ifCond .ne 26) (26) := by unfold bk; decide +kernel
theorem dX6_stands_106 : dk cX6_stands 106 107 (.iload_n 1) 1 := by unfold dk; decide +kernel
theorem dX6_stands_107 : dk cX6_stands 107 108 (.aload_n 0) 1 := by unfold dk; decide +kernel
theorem dX6_stands_108 : dk cX6_stands 108 111 (.getfield 53) 3 := by unfold dk; decide +kernel
theorem dX6_stands_111 : dk cX6_stands 111 112 (.arraylength) 1 := by unfold dk; decide +kernel
theorem dX6_stands_115 : dk cX6_stands 115 116 (.aload_n 0) 1 := by unfold dk; decide +kernel
theorem dX6_stands_116 : dk cX6_stands 116 119 (.getfield 53) 3 := by unfold dk; decide +kernel
theorem dX6_stands_119 : dk cX6_stands 119 120 (.iload_n 1) 1 := by unfold dk; decide +kernel
theorem dX6_stands_120 : dk cX6_stands 120 122 (.lload 5) 2 := by unfold dk; decide +kernel
theorem dX6_stands_122 : dk cX6_stands 122 123 (.lastore) 1 := by unfold dk; decide +kernel
theorem dX6_stands_123 : dk cX6_stands 123 126 (.iinc 1 1) 3 := by unfold dk; decide +kernel
theorem dX6_stands_126 : dk cX6_stands 126 129 (.iinc 2 1) 3 := by unfold dk; decide +kernel
theorem dX6_stands_112 : bk cX6_stands 112 115 129 (.if_icmp .ge 17) (17) := by unfold bk; decide +kernel
theorem dX6_stands_129 : dk cX6_stands 129 132 (.iinc 4 1) 3 := by unfold dk; decide +kernel
theorem dX6_stands_132 : bk cX6_stands 132 135 41 (.goto (-91)) (-91) := by unfold bk; decide +kernel
theorem dX6_stands_56 : bk cX6_stands 56 59 135 (.if_icmp .le 79) (79) := by unfold bk; decide +kernel
theorem dX6_stands_45 : bk cX6_stands 45 48 135 (.if_icmp .ge 90) (90) := by unfold bk; decide +kernel
theorem dX6_stands_135 : dk cX6_stands 135 136 (.iload_n 2) 1 := by unfold dk; decide +kernel
theorem dX6_stands_136 : dk cX6_stands 136 137 (.ireturn) 1 := by unfold dk; decide +kernel
theorem dX6_stands_7 : dk cX6_stands 7 8 (.iconst (-1)) 1 := by unfold dk; decide +kernel
theorem dX6_stands_8 : dk cX6_stands 8 9 (.ireturn) 1 := by unfold dk; decide +kernel
theorem dX6_stands_4 : bk cX6_stands 4 7 9 (.ifCond .ne 5) (5) := by unfold bk; decide +kernel
set_option maxHeartbeats 4000000 in
set_option maxRecDepth 100000 in
theorem kX6_stands {l : Launch} {G : Gl} {E : En} {a0 : Nat} {σ σ' : Sg} {r : Int32} : fX6_stands E a0 σ = some (r, σ') → CT l yX6_stands cX6_stands 7 (some .int) ({ frames := 6, cells := 0, slots := 0, locals := 132 } : Room) [.ref (G.1 + a0)] G E σ (some (.int r)) σ' := by
  intro h
  refine CT_of (lv0 := [(0, .ref (G.1 + a0))]) (by decide) (Nat.le_of_ble_eq_true rfl) rfl (fun κ hl hR hr C => ?_)
  have C : Cx κ G cX6_stands RX6 7 := C
  revert h
  unfold fX6_stands
  refine R_tk (fun ha0 => ?_)
  refine R_aload_n C 0 rfl dX6_stands_0 ?_
  refine R_bd (fun r3 s1 q2 => ?_)
  refine R_callVi [] [] C ml6_122 (kX6_canPlan q2) (by rw [hR]; exact ⟨rfl, rfl, Nat.le_of_ble_eq_true rfl, Nat.le_of_ble_eq_true rfl, Nat.zero_le _, Nat.zero_le _⟩) ha0 rfl rfl (Nat.le_of_ble_eq_true rfl) dX6_stands_1 ?_
  refine B_if_ne C dX6_stands_4 ?_ ?_
  · refine R_aload_n C 0 rfl dX6_stands_9 ?_
    refine R_bv (fun s4 q5 => ?_)
    refine R_callVv [] [] C ml6_215 (kX6_beginPlan q5) (by rw [hR]; exact ⟨rfl, rfl, Nat.le_of_ble_eq_true rfl, Nat.le_of_ble_eq_true rfl, Nat.zero_le _, Nat.zero_le _⟩) ha0 rfl rfl (Nat.le_of_ble_eq_true rfl) dX6_stands_10 ?_
    refine R_aload_n C 0 rfl dX6_stands_13 ?_
    refine R_dr (fun x6 rx6 cx6 => ?_)
    refine R_getr C fl6_53 rfl ha0 rx6 dX6_stands_14 ?_
    refine R_iconst C (0) dX6_stands_17 (by decide) ?_
    refine R_aload_n C 0 rfl dX6_stands_18 ?_
    refine R_dr (fun x7 rx7 cx7 => ?_)
    refine R_getr C fl6_39 rfl ha0 rx7 dX6_stands_19 ?_
    refine R_bd (fun r10 s8 q9 => ?_)
    refine R_callVl [] [.int (0 : Int32), .ref (G.1 + x6)] C ml6_261 (kX1_stand q9) (by rw [hR]; exact ⟨rfl, rfl, Nat.le_of_ble_eq_true rfl, Nat.le_of_ble_eq_true rfl, Nat.zero_le _, Nat.zero_le _⟩) cx7 rfl rfl (Nat.le_of_ble_eq_true rfl) dX6_stands_22 ?_
    refine R_ck (fun h11 => ?_)
    refine S_last C cx6 h11 dX6_stands_25 (fun s12 => ?_)
    refine R_iconst C (1) dX6_stands_26 (by decide) ?_
    refine R_istore_n (lv2 := [(1, .int (1 : Int32)), (0, .ref (G.1 + a0))]) C dX6_stands_27 rfl (by decide) rfl ?_
    refine R_iconst C (1) dX6_stands_28 (by decide) ?_
    refine R_istore_n (lv2 := [(2, .int (1 : Int32)), (1, .int (1 : Int32)), (0, .ref (G.1 + a0))]) C dX6_stands_29 rfl (by decide) rfl ?_
    refine R_aload_n C 2 rfl dX6_stands_30 ?_
    refine R_getr C fl6_39 rfl ha0 rx7 dX6_stands_31 ?_
    refine R_geti C fl6_241 rfl cx7 dX6_stands_34 ?_
    refine S_istore_n C dX6_stands_37 rfl (fun v13 => [(3, .int v13), (2, .int (1 : Int32)), (1, .int (1 : Int32)), (0, .ref (G.1 + a0))]) (by decide) (fun _ => rfl) (fun v13 => ?_)
    refine R_iconst C (0) dX6_stands_38 (by decide) ?_
    refine R_istore (lv2 := [(4, .int (0 : Int32)), (3, .int v13), (2, .int (1 : Int32)), (1, .int (1 : Int32)), (0, .ref (G.1 + a0))]) C dX6_stands_39 (by decide) rfl ?_
    refine R_loc (lv2 := [(0, .ref (G.1 + a0)), (1, .int (1 : Int32)), (2, .int (1 : Int32)), (3, .int v13), (4, .int (0 : Int32))]) [4, 3, 2, 1, 0] rfl ?_
    refine R_loop (fun (a : (Int32 × Int32 × Int32 × Int32) × Sg) => V κ G (QQ κ G E (some (.int r)) σ') E a.2 (false, 0, 0) 41 [(0, .ref (G.1 + a0)), (1, .int a.1.1), (2, .int a.1.2.1), (3, .int a.1.2.2.1), (4, .int a.1.2.2.2)] []) (fun (o : (Int32 × Int32 × Int32 × Int32)) (s : Sg) => V κ G (QQ κ G E (some (.int r)) σ') E s (false, 0, 0) 135 [(2, .int o.2.1)] []) (((1 : Int32), (1 : Int32), v13, (0 : Int32)), s12) (fun o41 s42 => ?_) (fun rec I22 a b20 s21 K19 => ?_)
    · refine R_iload_n C 0 rfl dX6_stands_135 ?_
      exact R_iret C hr dX6_stands_136
    · obtain ⟨⟨v14, v15, v16, v17⟩, s18⟩ := a
      show bX6_stands_41 E x7 a0 x6 (fun u0 u1 u2 u3 t => rec ((u0, u1, u2, u3), t)) v14 v15 v16 v17 s18 = some (b20, s21) → V κ G (QQ κ G E (some (.int r)) σ') E s18 (false, 0, 0) 41 [(0, .ref (G.1 + a0)), (1, .int v14), (2, .int v15), (3, .int v16), (4, .int v17)] []
      unfold bX6_stands_41
      refine R_iload C 4 rfl dX6_stands_41 ?_
      refine R_ldc C cs6_142 dX6_stands_43 ?_
      refine B_icmp_ge C dX6_stands_45 ?_ ?_
      · refine R_loc (lv2 := [(2, .int v15)]) [2] rfl ?_
        exact R_end (fun (o : (Int32 × Int32 × Int32 × Int32)) (s : Sg) => V κ G (QQ κ G E (some (.int r)) σ') E s (false, 0, 0) 135 [(2, .int o.2.1)] []) K19
      · refine R_aload_n C 0 rfl dX6_stands_48 ?_
        refine R_getr C fl6_39 rfl ha0 rx7 dX6_stands_49 ?_
        refine R_geti C fl6_241 rfl cx7 dX6_stands_52 ?_
        refine R_iconst C (1) dX6_stands_55 (by decide) ?_
        refine B_icmp_le C dX6_stands_56 ?_ ?_
        · refine R_loc (lv2 := [(2, .int v15)]) [2] rfl ?_
          exact R_end (fun (o : (Int32 × Int32 × Int32 × Int32)) (s : Sg) => V κ G (QQ κ G E (some (.int r)) σ') E s (false, 0, 0) 135 [(2, .int o.2.1)] []) K19
        · refine R_aload_n C 0 rfl dX6_stands_59 ?_
          refine R_getr C fl6_39 rfl ha0 rx7 dX6_stands_60 ?_
          refine R_bv (fun s23 q24 => ?_)
          refine R_callVv [] [] C ml6_244 (kX1_advance q24) (by rw [hR]; exact ⟨rfl, rfl, Nat.le_of_ble_eq_true rfl, Nat.le_of_ble_eq_true rfl, Nat.zero_le _, Nat.zero_le _⟩) cx7 rfl rfl (Nat.le_of_ble_eq_true rfl) dX6_stands_63 ?_
          refine R_aload_n C 0 rfl dX6_stands_66 ?_
          refine R_getr C fl6_39 rfl ha0 rx7 dX6_stands_67 ?_
          refine R_geti C fl6_241 rfl cx7 dX6_stands_70 ?_
          refine R_iload_n C 3 rfl dX6_stands_73 ?_
          refine R_bdK (fun (w : Int32 × Int32) (s : Sg) => V κ G (QQ κ G E (some (.int r)) σ') E s (false, 0, 0) 87 [(0, .ref (G.1 + a0)), (2, .int v15), (4, .int v17), (1, .int w.1), (3, .int w.2)] []) (fun w25 s26 => ?_) (fun w25 s26 Kw25 => ?_)
          · refine R_aload_n C 0 rfl dX6_stands_87 ?_
            refine R_getr C fl6_39 rfl ha0 rx7 dX6_stands_88 ?_
            refine R_bd (fun r30 s28 q29 => ?_)
            refine R_callVl [] [] C ml6_261 (kX1_stand q29) (by rw [hR]; exact ⟨rfl, rfl, Nat.le_of_ble_eq_true rfl, Nat.le_of_ble_eq_true rfl, Nat.zero_le _, Nat.zero_le _⟩) cx7 rfl rfl (Nat.le_of_ble_eq_true rfl) dX6_stands_91 ?_
            refine R_lstore (lv2 := [(5, .long r30), (0, .ref (G.1 + a0)), (2, .int v15), (4, .int v17), (1, .int w25.1), (3, .int w25.2)]) C dX6_stands_94 (by decide) rfl ?_
            refine R_aload_n C 1 rfl dX6_stands_96 ?_
            refine R_lload C 0 rfl dX6_stands_97 ?_
            refine R_iload_n C 4 rfl dX6_stands_99 ?_
            refine R_bd (fun r33 s31 q32 => ?_)
            refine R_callVi [.long r30, .int w25.1] [] C ml6_265 (kX6_isAmongLikeStands q32) (by rw [hR]; exact ⟨rfl, rfl, Nat.le_of_ble_eq_true rfl, Nat.le_of_ble_eq_true rfl, Nat.zero_le _, Nat.zero_le _⟩) ha0 rfl rfl (Nat.le_of_ble_eq_true rfl) dX6_stands_100 ?_
            refine R_bdK (fun (w : Int32 × Int32) (s : Sg) => V κ G (QQ κ G E (some (.int r)) σ') E s (false, 0, 0) 129 [(0, .ref (G.1 + a0)), (4, .int v17), (3, .int w25.2), (1, .int w.1), (2, .int w.2)] []) (fun w34 s35 => ?_) (fun w34 s35 Kw34 => ?_)
            · refine S_iinc (fun v40 => [(4, .int v40), (0, .ref (G.1 + a0)), (3, .int w25.2), (1, .int w34.1), (2, .int w34.2)]) 1 C dX6_stands_129 rfl (by decide) (by decide) (fun _ => rfl) (fun v40 => ?_)
              refine R_goto C dX6_stands_132 ?_
              refine R_loc (lv2 := [(0, .ref (G.1 + a0)), (1, .int w34.1), (2, .int w34.2), (3, .int w25.2), (4, .int v40)]) [1, 3, 4, 2, 0] rfl ?_
              exact I22 ((w34.1, w34.2, w25.2, v40), s35) b20 s21 K19
            · refine B_if_ne C dX6_stands_103 ?_ ?_
              · refine R_loc (lv2 := [(0, .ref (G.1 + a0)), (4, .int v17), (3, .int w25.2), (1, .int w25.1), (2, .int v15)]) [1, 3, 5, 4, 2] rfl ?_
                exact R_end (fun (w : Int32 × Int32) (s : Sg) => V κ G (QQ κ G E (some (.int r)) σ') E s (false, 0, 0) 129 [(0, .ref (G.1 + a0)), (4, .int v17), (3, .int w25.2), (1, .int w.1), (2, .int w.2)] []) Kw34
              · refine R_iload_n C 4 rfl dX6_stands_106 ?_
                refine R_aload_n C 1 rfl dX6_stands_107 ?_
                refine R_getr C fl6_53 rfl ha0 rx6 dX6_stands_108 ?_
                refine R_alen C cx6 (by omega) (by omega) dX6_stands_111 ?_
                refine B_icmp_ge C dX6_stands_112 ?_ ?_
                · refine R_loc (lv2 := [(0, .ref (G.1 + a0)), (4, .int v17), (3, .int w25.2), (1, .int w25.1), (2, .int v15)]) [1, 3, 5, 4, 2] rfl ?_
                  exact R_end (fun (w : Int32 × Int32) (s : Sg) => V κ G (QQ κ G E (some (.int r)) σ') E s (false, 0, 0) 129 [(0, .ref (G.1 + a0)), (4, .int v17), (3, .int w25.2), (1, .int w.1), (2, .int w.2)] []) Kw34
                · refine R_aload_n C 1 rfl dX6_stands_115 ?_
                  refine R_getr C fl6_53 rfl ha0 rx6 dX6_stands_116 ?_
                  refine R_iload_n C 4 rfl dX6_stands_119 ?_
                  refine R_lload C 0 rfl dX6_stands_120 ?_
                  refine R_ck (fun h36 => ?_)
                  refine S_last C cx6 h36 dX6_stands_122 (fun s37 => ?_)
                  refine S_iinc (fun v38 => [(1, .int v38), (5, .long r30), (0, .ref (G.1 + a0)), (2, .int v15), (4, .int v17), (3, .int w25.2)]) 4 C dX6_stands_123 rfl (by decide) (by decide) (fun _ => rfl) (fun v38 => ?_)
                  refine S_iinc (fun v39 => [(2, .int v39), (1, .int v38), (5, .long r30), (0, .ref (G.1 + a0)), (4, .int v17), (3, .int w25.2)]) 3 C dX6_stands_126 rfl (by decide) (by decide) (fun _ => rfl) (fun v39 => ?_)
                  refine R_loc (lv2 := [(0, .ref (G.1 + a0)), (4, .int v17), (3, .int w25.2), (1, .int v38), (2, .int v39)]) [3, 4, 5, 1, 0] rfl ?_
                  exact R_end (fun (w : Int32 × Int32) (s : Sg) => V κ G (QQ κ G E (some (.int r)) σ') E s (false, 0, 0) 129 [(0, .ref (G.1 + a0)), (4, .int v17), (3, .int w25.2), (1, .int w.1), (2, .int w.2)] []) Kw34
          · refine B_icmp_eq C dX6_stands_74 ?_ ?_
            · refine R_loc (lv2 := [(0, .ref (G.1 + a0)), (2, .int v15), (4, .int v17), (1, .int v14), (3, .int v16)]) [0, 2, 4, 1, 3] rfl ?_
              exact R_end (fun (w : Int32 × Int32) (s : Sg) => V κ G (QQ κ G E (some (.int r)) σ') E s (false, 0, 0) 87 [(0, .ref (G.1 + a0)), (2, .int v15), (4, .int v17), (1, .int w.1), (3, .int w.2)] []) Kw25
            · refine R_aload_n C 0 rfl dX6_stands_77 ?_
              refine R_getr C fl6_39 rfl ha0 rx7 dX6_stands_78 ?_
              refine R_geti C fl6_241 rfl cx7 dX6_stands_81 ?_
              refine S_istore_n C dX6_stands_84 rfl (fun v27 => [(3, .int v27), (0, .ref (G.1 + a0)), (1, .int v14), (2, .int v15), (4, .int v17)]) (by decide) (fun _ => rfl) (fun v27 => ?_)
              refine R_iconst C (0) dX6_stands_85 (by decide) ?_
              refine R_istore_n (lv2 := [(1, .int (0 : Int32)), (3, .int v27), (0, .ref (G.1 + a0)), (2, .int v15), (4, .int v17)]) C dX6_stands_86 rfl (by decide) rfl ?_
              refine R_loc (lv2 := [(0, .ref (G.1 + a0)), (2, .int v15), (4, .int v17), (1, .int (0 : Int32)), (3, .int v27)]) [2, 3, 4, 0, 1] rfl ?_
              exact R_end (fun (w : Int32 × Int32) (s : Sg) => V κ G (QQ κ G E (some (.int r)) σ') E s (false, 0, 0) 87 [(0, .ref (G.1 + a0)), (2, .int v15), (4, .int v17), (1, .int w.1), (3, .int w.2)] []) Kw25
  · refine R_iconst C (-1) dX6_stands_7 (by decide) ?_
    exact R_iret C hr dX6_stands_8
theorem dX6_key_0 : dk cX6_key 0 1 (.iload_n 1) 1 := by unfold dk; decide +kernel
theorem dX6_key_11 : dk cX6_key 11 12 (.iconst (-1)) 1 := by unfold dk; decide +kernel
theorem dX6_key_12 : dk cX6_key 12 13 (.ireturn) 1 := by unfold dk; decide +kernel
theorem dX6_key_4 : dk cX6_key 4 5 (.iload_n 1) 1 := by unfold dk; decide +kernel
theorem dX6_key_5 : dk cX6_key 5 8 (.sipush 256) 3 := by unfold dk; decide +kernel
theorem dX6_key_13 : dk cX6_key 13 14 (.iload_n 2) 1 := by unfold dk; decide +kernel
theorem dX6_key_14 : dk cX6_key 14 40 (.tableswitch 62 0 2 #[26, 38, 50]) 26 := by unfold dk; decide +kernel
theorem dX6_key_40 : dk cX6_key 40 41 (.aload_n 0) 1 := by unfold dk; decide +kernel
theorem dX6_key_41 : dk cX6_key 41 44 (.getfield 16) 3 := by unfold dk; decide +kernel
theorem dX6_key_44 : dk cX6_key 44 47 (.getfield 64) 3 := by unfold dk; decide +kernel
theorem dX6_key_47 : dk cX6_key 47 48 (.iload_n 1) 1 := by unfold dk; decide +kernel
theorem dX6_key_48 : dk cX6_key 48 51 (.invokevirtual 269) 3 := by unfold dk; decide +kernel
theorem dX6_key_51 : dk cX6_key 51 52 (.ireturn) 1 := by unfold dk; decide +kernel
theorem dX6_key_52 : dk cX6_key 52 53 (.aload_n 0) 1 := by unfold dk; decide +kernel
theorem dX6_key_53 : dk cX6_key 53 56 (.getfield 16) 3 := by unfold dk; decide +kernel
theorem dX6_key_56 : dk cX6_key 56 59 (.getfield 64) 3 := by unfold dk; decide +kernel
theorem dX6_key_59 : dk cX6_key 59 60 (.iload_n 1) 1 := by unfold dk; decide +kernel
theorem dX6_key_60 : dk cX6_key 60 63 (.invokevirtual 272) 3 := by unfold dk; decide +kernel
theorem dX6_key_63 : dk cX6_key 63 64 (.ireturn) 1 := by unfold dk; decide +kernel
theorem dX6_key_64 : dk cX6_key 64 65 (.aload_n 0) 1 := by unfold dk; decide +kernel
theorem dX6_key_65 : dk cX6_key 65 68 (.getfield 16) 3 := by unfold dk; decide +kernel
theorem dX6_key_68 : dk cX6_key 68 71 (.getfield 64) 3 := by unfold dk; decide +kernel
theorem dX6_key_71 : dk cX6_key 71 72 (.iload_n 1) 1 := by unfold dk; decide +kernel
theorem dX6_key_72 : dk cX6_key 72 75 (.invokevirtual 275) 3 := by unfold dk; decide +kernel
theorem dX6_key_75 : dk cX6_key 75 76 (.ireturn) 1 := by unfold dk; decide +kernel
theorem dX6_key_76 : dk cX6_key 76 77 (.iconst (-1)) 1 := by unfold dk; decide +kernel
theorem dX6_key_77 : dk cX6_key 77 78 (.ireturn) 1 := by unfold dk; decide +kernel
theorem dX6_key_8 : bk cX6_key 8 11 13 (.if_icmp .lt 5) (5) := by unfold bk; decide +kernel
theorem dX6_key_1 : bk cX6_key 1 4 11 (.ifCond .lt 10) (10) := by unfold bk; decide +kernel
set_option maxHeartbeats 4000000 in
set_option maxRecDepth 100000 in
theorem kX6_key {l : Launch} {G : Gl} {E : En} {a0 : Nat} {a1 : Int32} {a2 : Int32} {σ σ' : Sg} {r : Int32} : fX6_key E a0 a1 a2 σ = some (r, σ') → CT l yX6_key cX6_key 3 (some .int) ({ frames := 1, cells := 0, slots := 0, locals := 23 } : Room) [.ref (G.1 + a0), .int a1, .int a2] G E σ (some (.int r)) σ' := by
  intro h
  refine CT_of (lv0 := [(0, .ref (G.1 + a0)), (1, .int a1), (2, .int a2)]) (by decide) (Nat.le_of_ble_eq_true rfl) rfl (fun κ hl hR hr C => ?_)
  have C : Cx κ G cX6_key RX6 3 := C
  revert h
  unfold fX6_key
  refine R_tk (fun ha0 => ?_)
  refine R_iload_n C 1 rfl dX6_key_0 ?_
  refine B_if_lt C dX6_key_1 ?_ ?_
  · refine R_iconst C (-1) dX6_key_11 (by decide) ?_
    exact R_iret C hr dX6_key_12
  · refine R_iload_n C 1 rfl dX6_key_4 ?_
    refine R_sipush C (256) dX6_key_5 (by decide) ?_
    refine B_icmp_lt C dX6_key_8 ?_ ?_
    · refine R_iload_n C 2 rfl dX6_key_13 ?_
      refine R_if (fun h1 => ?_) (fun h1 => ?_)
      · refine R_tsIn (off := 26) (t := 40) C dX6_key_14 h1 (by decide) ?_
        refine R_aload_n C 0 rfl dX6_key_40 ?_
        refine R_dr (fun x2 rx2 cx2 => ?_)
        refine R_getr C fl6_16 rfl ha0 rx2 dX6_key_41 ?_
        refine R_dr (fun x3 rx3 cx3 => ?_)
        refine R_getr C fl6_64 rfl cx2 rx3 dX6_key_44 ?_
        refine R_iload_n C 1 rfl dX6_key_47 ?_
        refine R_bd (fun r6 s4 q5 => ?_)
        refine R_callVi [.int a1] [] C ml6_269 (kX3_howOften q5) (by rw [hR]; exact ⟨rfl, rfl, Nat.le_of_ble_eq_true rfl, Nat.le_of_ble_eq_true rfl, Nat.zero_le _, Nat.zero_le _⟩) cx3 rfl rfl (Nat.le_of_ble_eq_true rfl) dX6_key_48 ?_
        exact R_iret C hr dX6_key_51
      refine R_if (fun h7 => ?_) (fun h7 => ?_)
      · refine R_tsIn (off := 38) (t := 52) C dX6_key_14 h7 (by decide) ?_
        refine R_aload_n C 0 rfl dX6_key_52 ?_
        refine R_dr (fun x8 rx8 cx8 => ?_)
        refine R_getr C fl6_16 rfl ha0 rx8 dX6_key_53 ?_
        refine R_dr (fun x9 rx9 cx9 => ?_)
        refine R_getr C fl6_64 rfl cx8 rx9 dX6_key_56 ?_
        refine R_iload_n C 1 rfl dX6_key_59 ?_
        refine R_bd (fun r12 s10 q11 => ?_)
        refine R_callVi [.int a1] [] C ml6_272 (kX3_firstOf q11) (by rw [hR]; exact ⟨rfl, rfl, Nat.le_of_ble_eq_true rfl, Nat.le_of_ble_eq_true rfl, Nat.zero_le _, Nat.zero_le _⟩) cx9 rfl rfl (Nat.le_of_ble_eq_true rfl) dX6_key_60 ?_
        exact R_iret C hr dX6_key_63
      refine R_if (fun h13 => ?_) (fun h13 => ?_)
      · refine R_tsIn (off := 50) (t := 64) C dX6_key_14 h13 (by decide) ?_
        refine R_aload_n C 0 rfl dX6_key_64 ?_
        refine R_dr (fun x14 rx14 cx14 => ?_)
        refine R_getr C fl6_16 rfl ha0 rx14 dX6_key_65 ?_
        refine R_dr (fun x15 rx15 cx15 => ?_)
        refine R_getr C fl6_64 rfl cx14 rx15 dX6_key_68 ?_
        refine R_iload_n C 1 rfl dX6_key_71 ?_
        refine R_bd (fun r18 s16 q17 => ?_)
        refine R_callVi [.int a1] [] C ml6_275 (kX3_lastOf q17) (by rw [hR]; exact ⟨rfl, rfl, Nat.le_of_ble_eq_true rfl, Nat.le_of_ble_eq_true rfl, Nat.zero_le _, Nat.zero_le _⟩) cx15 rfl rfl (Nat.le_of_ble_eq_true rfl) dX6_key_72 ?_
        exact R_iret C hr dX6_key_75
      · refine R_tsOut (t := 76) C dX6_key_14 (by have ah1 := lv_neT (a := 0) h1 (by decide); have ah7 := lv_neT (a := 1) h7 (by decide); have ah13 := lv_neT (a := 2) h13 (by decide); omega) (by decide) ?_
        refine R_iconst C (-1) dX6_key_76 (by decide) ?_
        exact R_iret C hr dX6_key_77
    · refine R_iconst C (-1) dX6_key_11 (by decide) ?_
      exact R_iret C hr dX6_key_12
theorem dX6_keys_0 : dk cX6_keys 0 1 (.iload_n 1) 1 := by unfold dk; decide +kernel
theorem dX6_keys_15 : dk cX6_keys 15 16 (.iload_n 1) 1 := by unfold dk; decide +kernel
theorem dX6_keys_16 : dk cX6_keys 16 17 (.iconst 1) 1 := by unfold dk; decide +kernel
theorem dX6_keys_27 : dk cX6_keys 27 28 (.aload_n 0) 1 := by unfold dk; decide +kernel
theorem dX6_keys_28 : dk cX6_keys 28 31 (.getfield 16) 3 := by unfold dk; decide +kernel
theorem dX6_keys_31 : dk cX6_keys 31 34 (.getfield 64) 3 := by unfold dk; decide +kernel
theorem dX6_keys_34 : dk cX6_keys 34 37 (.invokevirtual 281) 3 := by unfold dk; decide +kernel
theorem dX6_keys_37 : dk cX6_keys 37 38 (.istore_n 2) 1 := by unfold dk; decide +kernel
theorem dX6_keys_38 : dk cX6_keys 38 39 (.iload_n 1) 1 := by unfold dk; decide +kernel
theorem dX6_keys_39 : dk cX6_keys 39 40 (.iconst 1) 1 := by unfold dk; decide +kernel
theorem dX6_keys_45 : dk cX6_keys 45 46 (.iload_n 2) 1 := by unfold dk; decide +kernel
theorem dX6_keys_46 : dk cX6_keys 46 47 (.iconst (-1)) 1 := by unfold dk; decide +kernel
theorem dX6_keys_47 : bk cX6_keys 47 50 54 (.if_icmp .ne 7) (7) := by unfold bk; decide +kernel
theorem dX6_keys_54 : dk cX6_keys 54 55 (.aload_n 0) 1 := by unfold dk; decide +kernel
theorem dX6_keys_55 : dk cX6_keys 55 58 (.getfield 16) 3 := by unfold dk; decide +kernel
theorem dX6_keys_58 : dk cX6_keys 58 61 (.getfield 64) 3 := by unfold dk; decide +kernel
theorem dX6_keys_61 : dk cX6_keys 61 62 (.iload_n 2) 1 := by unfold dk; decide +kernel
theorem dX6_keys_62 : dk cX6_keys 62 65 (.invokevirtual 269) 3 := by unfold dk; decide +kernel
theorem dX6_keys_50 : dk cX6_keys 50 51 (.iconst 0) 1 := by unfold dk; decide +kernel
theorem dX6_keys_51 : bk cX6_keys 51 54 65 (.goto 14) (14) := by unfold bk; decide +kernel
theorem dX6_keys_65 : dk cX6_keys 65 66 (.ireturn) 1 := by unfold dk; decide +kernel
theorem dX6_keys_43 : dk cX6_keys 43 44 (.iload_n 2) 1 := by unfold dk; decide +kernel
theorem dX6_keys_44 : dk cX6_keys 44 45 (.ireturn) 1 := by unfold dk; decide +kernel
theorem dX6_keys_40 : bk cX6_keys 40 43 45 (.if_icmp .ne 5) (5) := by unfold bk; decide +kernel
theorem dX6_keys_20 : dk cX6_keys 20 21 (.iload_n 1) 1 := by unfold dk; decide +kernel
theorem dX6_keys_21 : dk cX6_keys 21 22 (.iconst 2) 1 := by unfold dk; decide +kernel
theorem dX6_keys_25 : dk cX6_keys 25 26 (.iconst (-1)) 1 := by unfold dk; decide +kernel
theorem dX6_keys_26 : dk cX6_keys 26 27 (.ireturn) 1 := by unfold dk; decide +kernel
theorem dX6_keys_22 : bk cX6_keys 22 25 27 (.if_icmp .eq 5) (5) := by unfold bk; decide +kernel
theorem dX6_keys_17 : bk cX6_keys 17 20 27 (.if_icmp .eq 10) (10) := by unfold bk; decide +kernel
theorem dX6_keys_4 : dk cX6_keys 4 5 (.aload_n 0) 1 := by unfold dk; decide +kernel
theorem dX6_keys_5 : dk cX6_keys 5 8 (.getfield 16) 3 := by unfold dk; decide +kernel
theorem dX6_keys_8 : dk cX6_keys 8 11 (.getfield 64) 3 := by unfold dk; decide +kernel
theorem dX6_keys_11 : dk cX6_keys 11 14 (.invokevirtual 278) 3 := by unfold dk; decide +kernel
theorem dX6_keys_14 : dk cX6_keys 14 15 (.ireturn) 1 := by unfold dk; decide +kernel
theorem dX6_keys_1 : bk cX6_keys 1 4 15 (.ifCond .ne 14) (14) := by unfold bk; decide +kernel
set_option maxHeartbeats 4000000 in
set_option maxRecDepth 100000 in
theorem kX6_keys {l : Launch} {G : Gl} {E : En} {a0 : Nat} {a1 : Int32} {σ σ' : Sg} {r : Int32} : fX6_keys E a0 a1 σ = some (r, σ') → CT l yX6_keys cX6_keys 3 (some .int) ({ frames := 2, cells := 0, slots := 0, locals := 47 } : Room) [.ref (G.1 + a0), .int a1] G E σ (some (.int r)) σ' := by
  intro h
  refine CT_of (lv0 := [(0, .ref (G.1 + a0)), (1, .int a1)]) (by decide) (Nat.le_of_ble_eq_true rfl) rfl (fun κ hl hR hr C => ?_)
  have C : Cx κ G cX6_keys RX6 3 := C
  revert h
  unfold fX6_keys
  refine R_tk (fun ha0 => ?_)
  refine R_iload_n C 1 rfl dX6_keys_0 ?_
  refine B_if_ne C dX6_keys_1 ?_ ?_
  · refine R_iload_n C 1 rfl dX6_keys_15 ?_
    refine R_iconst C (1) dX6_keys_16 (by decide) ?_
    refine B_icmp_eq C dX6_keys_17 ?_ ?_
    · refine R_aload_n C 0 rfl dX6_keys_27 ?_
      refine R_dr (fun x1 rx1 cx1 => ?_)
      refine R_getr C fl6_16 rfl ha0 rx1 dX6_keys_28 ?_
      refine R_dr (fun x2 rx2 cx2 => ?_)
      refine R_getr C fl6_64 rfl cx1 rx2 dX6_keys_31 ?_
      refine R_bd (fun r5 s3 q4 => ?_)
      refine R_callVi [] [] C ml6_281 (kX3_keyMostOften q4) (by rw [hR]; exact ⟨rfl, rfl, Nat.le_of_ble_eq_true rfl, Nat.le_of_ble_eq_true rfl, Nat.zero_le _, Nat.zero_le _⟩) cx2 rfl rfl (Nat.le_of_ble_eq_true rfl) dX6_keys_34 ?_
      refine R_istore_n (lv2 := [(2, .int r5), (0, .ref (G.1 + a0)), (1, .int a1)]) C dX6_keys_37 rfl (by decide) rfl ?_
      refine R_iload_n C 2 rfl dX6_keys_38 ?_
      refine R_iconst C (1) dX6_keys_39 (by decide) ?_
      refine B_icmp_ne C dX6_keys_40 ?_ ?_
      · refine R_iload_n C 0 rfl dX6_keys_45 ?_
        refine R_iconst C (-1) dX6_keys_46 (by decide) ?_
        refine R_bdK (fun (w : Int32) (s : Sg) => V κ G (QQ κ G E (some (.int r)) σ') E s (false, 0, 0) 65 [] [.int w]) (fun w6 s7 => ?_) (fun w6 s7 Kw6 => ?_)
        · exact R_iret C hr dX6_keys_65
        · refine B_icmp_ne C dX6_keys_47 ?_ ?_
          · refine R_aload_n C 1 rfl dX6_keys_54 ?_
            refine R_getr C fl6_16 rfl ha0 rx1 dX6_keys_55 ?_
            refine R_getr C fl6_64 rfl cx1 rx2 dX6_keys_58 ?_
            refine R_iload_n C 0 rfl dX6_keys_61 ?_
            refine R_bd (fun r10 s8 q9 => ?_)
            refine R_callVi [.int r5] [] C ml6_269 (kX3_howOften q9) (by rw [hR]; exact ⟨rfl, rfl, Nat.le_of_ble_eq_true rfl, Nat.le_of_ble_eq_true rfl, Nat.zero_le _, Nat.zero_le _⟩) cx2 rfl rfl (Nat.le_of_ble_eq_true rfl) dX6_keys_62 ?_
            refine R_loc (lv2 := []) [] rfl ?_
            exact R_end (fun (w : Int32) (s : Sg) => V κ G (QQ κ G E (some (.int r)) σ') E s (false, 0, 0) 65 [] [.int w]) Kw6
          · refine R_iconst C (0) dX6_keys_50 (by decide) ?_
            refine R_goto C dX6_keys_51 ?_
            refine R_loc (lv2 := []) [] rfl ?_
            exact R_end (fun (w : Int32) (s : Sg) => V κ G (QQ κ G E (some (.int r)) σ') E s (false, 0, 0) 65 [] [.int w]) Kw6
      · refine R_iload_n C 0 rfl dX6_keys_43 ?_
        exact R_iret C hr dX6_keys_44
    · refine R_iload_n C 1 rfl dX6_keys_20 ?_
      refine R_iconst C (2) dX6_keys_21 (by decide) ?_
      refine B_icmp_eq C dX6_keys_22 ?_ ?_
      · refine R_aload_n C 0 rfl dX6_keys_27 ?_
        refine R_dr (fun x11 rx11 cx11 => ?_)
        refine R_getr C fl6_16 rfl ha0 rx11 dX6_keys_28 ?_
        refine R_dr (fun x12 rx12 cx12 => ?_)
        refine R_getr C fl6_64 rfl cx11 rx12 dX6_keys_31 ?_
        refine R_bd (fun r15 s13 q14 => ?_)
        refine R_callVi [] [] C ml6_281 (kX3_keyMostOften q14) (by rw [hR]; exact ⟨rfl, rfl, Nat.le_of_ble_eq_true rfl, Nat.le_of_ble_eq_true rfl, Nat.zero_le _, Nat.zero_le _⟩) cx12 rfl rfl (Nat.le_of_ble_eq_true rfl) dX6_keys_34 ?_
        refine R_istore_n (lv2 := [(2, .int r15), (0, .ref (G.1 + a0)), (1, .int a1)]) C dX6_keys_37 rfl (by decide) rfl ?_
        refine R_iload_n C 2 rfl dX6_keys_38 ?_
        refine R_iconst C (1) dX6_keys_39 (by decide) ?_
        refine B_icmp_ne C dX6_keys_40 ?_ ?_
        · refine R_iload_n C 0 rfl dX6_keys_45 ?_
          refine R_iconst C (-1) dX6_keys_46 (by decide) ?_
          refine R_bdK (fun (w : Int32) (s : Sg) => V κ G (QQ κ G E (some (.int r)) σ') E s (false, 0, 0) 65 [] [.int w]) (fun w16 s17 => ?_) (fun w16 s17 Kw16 => ?_)
          · exact R_iret C hr dX6_keys_65
          · refine B_icmp_ne C dX6_keys_47 ?_ ?_
            · refine R_aload_n C 1 rfl dX6_keys_54 ?_
              refine R_getr C fl6_16 rfl ha0 rx11 dX6_keys_55 ?_
              refine R_getr C fl6_64 rfl cx11 rx12 dX6_keys_58 ?_
              refine R_iload_n C 0 rfl dX6_keys_61 ?_
              refine R_bd (fun r20 s18 q19 => ?_)
              refine R_callVi [.int r15] [] C ml6_269 (kX3_howOften q19) (by rw [hR]; exact ⟨rfl, rfl, Nat.le_of_ble_eq_true rfl, Nat.le_of_ble_eq_true rfl, Nat.zero_le _, Nat.zero_le _⟩) cx12 rfl rfl (Nat.le_of_ble_eq_true rfl) dX6_keys_62 ?_
              refine R_loc (lv2 := []) [] rfl ?_
              exact R_end (fun (w : Int32) (s : Sg) => V κ G (QQ κ G E (some (.int r)) σ') E s (false, 0, 0) 65 [] [.int w]) Kw16
            · refine R_iconst C (0) dX6_keys_50 (by decide) ?_
              refine R_goto C dX6_keys_51 ?_
              refine R_loc (lv2 := []) [] rfl ?_
              exact R_end (fun (w : Int32) (s : Sg) => V κ G (QQ κ G E (some (.int r)) σ') E s (false, 0, 0) 65 [] [.int w]) Kw16
        · refine R_iload_n C 0 rfl dX6_keys_43 ?_
          exact R_iret C hr dX6_keys_44
      · refine R_iconst C (-1) dX6_keys_25 (by decide) ?_
        exact R_iret C hr dX6_keys_26
  · refine R_aload_n C 0 rfl dX6_keys_4 ?_
    refine R_dr (fun x21 rx21 cx21 => ?_)
    refine R_getr C fl6_16 rfl ha0 rx21 dX6_keys_5 ?_
    refine R_dr (fun x22 rx22 cx22 => ?_)
    refine R_getr C fl6_64 rfl cx21 rx22 dX6_keys_8 ?_
    refine R_bd (fun r25 s23 q24 => ?_)
    refine R_callVi [] [] C ml6_278 (kX3_unlikeKeys q24) (by rw [hR]; exact ⟨rfl, rfl, Nat.le_of_ble_eq_true rfl, Nat.le_of_ble_eq_true rfl, Nat.zero_le _, Nat.zero_le _⟩) cx22 rfl rfl (Nat.le_of_ble_eq_true rfl) dX6_keys_11 ?_
    exact R_iret C hr dX6_keys_14
theorem dX6_about_0 : dk cX6_about 0 1 (.aload_n 0) 1 := by unfold dk; decide +kernel
theorem dX6_about_1 : dk cX6_about 1 4 (.getfield 16) 3 := by unfold dk; decide +kernel
theorem dX6_about_4 : dk cX6_about 4 7 (.getfield 64) 3 := by unfold dk; decide +kernel
theorem dX6_about_7 : dk cX6_about 7 8 (.astore_n 2) 1 := by unfold dk; decide +kernel
theorem dX6_about_8 : dk cX6_about 8 9 (.iload_n 1) 1 := by unfold dk; decide +kernel
theorem dX6_about_9 : dk cX6_about 9 36 (.tableswitch 60 0 2 #[27, 32, 37]) 27 := by unfold dk; decide +kernel
theorem dX6_about_36 : dk cX6_about 36 37 (.aload_n 2) 1 := by unfold dk; decide +kernel
theorem dX6_about_37 : dk cX6_about 37 40 (.getfield 284) 3 := by unfold dk; decide +kernel
theorem dX6_about_40 : dk cX6_about 40 41 (.ireturn) 1 := by unfold dk; decide +kernel
theorem dX6_about_41 : dk cX6_about 41 42 (.aload_n 2) 1 := by unfold dk; decide +kernel
theorem dX6_about_42 : dk cX6_about 42 45 (.invokevirtual 287) 3 := by unfold dk; decide +kernel
theorem dX6_about_45 : dk cX6_about 45 46 (.ireturn) 1 := by unfold dk; decide +kernel
theorem dX6_about_46 : dk cX6_about 46 47 (.aload_n 2) 1 := by unfold dk; decide +kernel
theorem dX6_about_47 : dk cX6_about 47 50 (.getfield 68) 3 := by unfold dk; decide +kernel
theorem dX6_about_50 : bk cX6_about 50 53 57 (.ifCond .ne 7) (7) := by unfold bk; decide +kernel
theorem dX6_about_57 : dk cX6_about 57 58 (.aload_n 2) 1 := by unfold dk; decide +kernel
theorem dX6_about_58 : dk cX6_about 58 61 (.getfield 203) 3 := by unfold dk; decide +kernel
theorem dX6_about_61 : dk cX6_about 61 62 (.aload_n 2) 1 := by unfold dk; decide +kernel
theorem dX6_about_62 : dk cX6_about 62 65 (.getfield 68) 3 := by unfold dk; decide +kernel
theorem dX6_about_65 : dk cX6_about 65 66 (.iconst 2) 1 := by unfold dk; decide +kernel
theorem dX6_about_66 : dk cX6_about 66 67 (.idiv) 1 := by unfold dk; decide +kernel
theorem dX6_about_67 : dk cX6_about 67 68 (.iaload) 1 := by unfold dk; decide +kernel
theorem dX6_about_53 : dk cX6_about 53 54 (.iconst (-1)) 1 := by unfold dk; decide +kernel
theorem dX6_about_54 : bk cX6_about 54 57 68 (.goto 14) (14) := by unfold bk; decide +kernel
theorem dX6_about_68 : dk cX6_about 68 69 (.ireturn) 1 := by unfold dk; decide +kernel
theorem dX6_about_69 : dk cX6_about 69 70 (.iconst (-1)) 1 := by unfold dk; decide +kernel
theorem dX6_about_70 : dk cX6_about 70 71 (.ireturn) 1 := by unfold dk; decide +kernel
set_option maxHeartbeats 4000000 in
set_option maxRecDepth 100000 in
theorem kX6_about {l : Launch} {G : Gl} {E : En} {a0 : Nat} {a1 : Int32} {σ σ' : Sg} {r : Int32} : fX6_about E a0 a1 σ = some (r, σ') → CT l yX6_about cX6_about 3 (some .int) ({ frames := 1, cells := 0, slots := 0, locals := 22 } : Room) [.ref (G.1 + a0), .int a1] G E σ (some (.int r)) σ' := by
  intro h
  refine CT_of (lv0 := [(0, .ref (G.1 + a0)), (1, .int a1)]) (by decide) (Nat.le_of_ble_eq_true rfl) rfl (fun κ hl hR hr C => ?_)
  have C : Cx κ G cX6_about RX6 3 := C
  revert h
  unfold fX6_about
  refine R_tk (fun ha0 => ?_)
  refine R_aload_n C 0 rfl dX6_about_0 ?_
  refine R_dr (fun x1 rx1 cx1 => ?_)
  refine R_getr C fl6_16 rfl ha0 rx1 dX6_about_1 ?_
  refine R_dr (fun x2 rx2 cx2 => ?_)
  refine R_getr C fl6_64 rfl cx1 rx2 dX6_about_4 ?_
  refine R_astore_n (lv2 := [(2, .ref (G.1 + x2)), (0, .ref (G.1 + a0)), (1, .int a1)]) C dX6_about_7 rfl (by decide) rfl ?_
  refine R_iload_n C 2 rfl dX6_about_8 ?_
  refine R_if (fun h3 => ?_) (fun h3 => ?_)
  · refine R_tsIn (off := 27) (t := 36) C dX6_about_9 h3 (by decide) ?_
    refine R_aload_n C 0 rfl dX6_about_36 ?_
    refine R_geti C fl6_284 rfl cx2 dX6_about_37 ?_
    exact R_iret C hr dX6_about_40
  refine R_if (fun h4 => ?_) (fun h4 => ?_)
  · refine R_tsIn (off := 32) (t := 41) C dX6_about_9 h4 (by decide) ?_
    refine R_aload_n C 0 rfl dX6_about_41 ?_
    refine R_bd (fun r7 s5 q6 => ?_)
    refine R_callVi [] [] C ml6_287 (kX3_naturalRuns q6) (by rw [hR]; exact ⟨rfl, rfl, Nat.le_of_ble_eq_true rfl, Nat.le_of_ble_eq_true rfl, Nat.zero_le _, Nat.zero_le _⟩) cx2 rfl rfl (Nat.le_of_ble_eq_true rfl) dX6_about_42 ?_
    exact R_iret C hr dX6_about_45
  refine R_if (fun h8 => ?_) (fun h8 => ?_)
  · refine R_tsIn (off := 37) (t := 46) C dX6_about_9 h8 (by decide) ?_
    refine R_aload_n C 0 rfl dX6_about_46 ?_
    refine R_geti C fl6_68 rfl cx2 dX6_about_47 ?_
    refine R_bdK (fun (w : Int32) (s : Sg) => V κ G (QQ κ G E (some (.int r)) σ') E s (false, 0, 0) 68 [] [.int w]) (fun w9 s10 => ?_) (fun w9 s10 Kw9 => ?_)
    · exact R_iret C hr dX6_about_68
    · refine B_if_ne C dX6_about_50 ?_ ?_
      · refine R_aload_n C 0 rfl dX6_about_57 ?_
        refine R_dr (fun x11 rx11 cx11 => ?_)
        refine R_getr C fl6_203 rfl cx2 rx11 dX6_about_58 ?_
        refine R_aload_n C 0 rfl dX6_about_61 ?_
        refine R_geti C fl6_68 rfl cx2 dX6_about_62 ?_
        refine R_iconst C (2) dX6_about_65 (by decide) ?_
        refine R_idiv C dX6_about_66 (by decide) ?_
        refine R_ck (fun h12 => ?_)
        refine R_iald C cx11 h12 dX6_about_67 ?_
        refine R_loc (lv2 := []) [] rfl ?_
        exact R_end (fun (w : Int32) (s : Sg) => V κ G (QQ κ G E (some (.int r)) σ') E s (false, 0, 0) 68 [] [.int w]) Kw9
      · refine R_iconst C (-1) dX6_about_53 (by decide) ?_
        refine R_goto C dX6_about_54 ?_
        refine R_loc (lv2 := []) [] rfl ?_
        exact R_end (fun (w : Int32) (s : Sg) => V κ G (QQ κ G E (some (.int r)) σ') E s (false, 0, 0) 68 [] [.int w]) Kw9
  · refine R_tsOut (t := 69) C dX6_about_9 (by have ah3 := lv_neT (a := 0) h3 (by decide); have ah4 := lv_neT (a := 1) h4 (by decide); have ah8 := lv_neT (a := 2) h8 (by decide); omega) (by decide) ?_
    refine R_iconst C (-1) dX6_about_69 (by decide) ?_
    exact R_iret C hr dX6_about_70
theorem dX6_forecast_0 : dk cX6_forecast 0 1 (.iload_n 1) 1 := by unfold dk; decide +kernel
theorem dX6_forecast_1 : dk cX6_forecast 1 2 (.iconst 1) 1 := by unfold dk; decide +kernel
theorem dX6_forecast_27 : dk cX6_forecast 27 28 (.iconst (-1)) 1 := by unfold dk; decide +kernel
theorem dX6_forecast_28 : dk cX6_forecast 28 29 (.ireturn) 1 := by unfold dk; decide +kernel
theorem dX6_forecast_5 : dk cX6_forecast 5 6 (.iload_n 1) 1 := by unfold dk; decide +kernel
theorem dX6_forecast_6 : dk cX6_forecast 6 8 (.bipush 16) 2 := by unfold dk; decide +kernel
theorem dX6_forecast_11 : dk cX6_forecast 11 12 (.iload_n 2) 1 := by unfold dk; decide +kernel
theorem dX6_forecast_12 : dk cX6_forecast 12 13 (.iconst (-1)) 1 := by unfold dk; decide +kernel
theorem dX6_forecast_16 : dk cX6_forecast 16 17 (.aload_n 0) 1 := by unfold dk; decide +kernel
theorem dX6_forecast_17 : dk cX6_forecast 17 20 (.getfield 16) 3 := by unfold dk; decide +kernel
theorem dX6_forecast_20 : dk cX6_forecast 20 23 (.getfield 79) 3 := by unfold dk; decide +kernel
theorem dX6_forecast_23 : dk cX6_forecast 23 24 (.iconst 2) 1 := by unfold dk; decide +kernel
theorem dX6_forecast_29 : dk cX6_forecast 29 30 (.aload_n 0) 1 := by unfold dk; decide +kernel
theorem dX6_forecast_30 : dk cX6_forecast 30 33 (.getfield 16) 3 := by unfold dk; decide +kernel
theorem dX6_forecast_33 : dk cX6_forecast 33 34 (.iload_n 1) 1 := by unfold dk; decide +kernel
theorem dX6_forecast_34 : dk cX6_forecast 34 35 (.iload_n 2) 1 := by unfold dk; decide +kernel
theorem dX6_forecast_35 : dk cX6_forecast 35 38 (.invokevirtual 290) 3 := by unfold dk; decide +kernel
theorem dX6_forecast_38 : dk cX6_forecast 38 39 (.ireturn) 1 := by unfold dk; decide +kernel
theorem dX6_forecast_24 : bk cX6_forecast 24 27 29 (.if_icmp .eq 5) (5) := by unfold bk; decide +kernel
theorem dX6_forecast_13 : bk cX6_forecast 13 16 27 (.if_icmp .lt 14) (14) := by unfold bk; decide +kernel
theorem dX6_forecast_8 : bk cX6_forecast 8 11 27 (.if_icmp .gt 19) (19) := by unfold bk; decide +kernel
theorem dX6_forecast_2 : bk cX6_forecast 2 5 27 (.if_icmp .lt 25) (25) := by unfold bk; decide +kernel
set_option maxHeartbeats 4000000 in
set_option maxRecDepth 100000 in
theorem kX6_forecast {l : Launch} {G : Gl} {E : En} {a0 : Nat} {a1 : Int32} {a2 : Int32} {σ σ' : Sg} {r : Int32} : fX6_forecast E a0 a1 a2 σ = some (r, σ') → CT l yX6_forecast cX6_forecast 3 (some .int) ({ frames := 4, cells := 0, slots := 0, locals := 89 } : Room) [.ref (G.1 + a0), .int a1, .int a2] G E σ (some (.int r)) σ' := by
  intro h
  refine CT_of (lv0 := [(0, .ref (G.1 + a0)), (1, .int a1), (2, .int a2)]) (by decide) (Nat.le_of_ble_eq_true rfl) rfl (fun κ hl hR hr C => ?_)
  have C : Cx κ G cX6_forecast RX6 3 := C
  revert h
  unfold fX6_forecast
  refine R_tk (fun ha0 => ?_)
  refine R_iload_n C 1 rfl dX6_forecast_0 ?_
  refine R_iconst C (1) dX6_forecast_1 (by decide) ?_
  refine B_icmp_lt C dX6_forecast_2 ?_ ?_
  · refine R_iconst C (-1) dX6_forecast_27 (by decide) ?_
    exact R_iret C hr dX6_forecast_28
  · refine R_iload_n C 1 rfl dX6_forecast_5 ?_
    refine R_bipush C (16) dX6_forecast_6 (by decide) ?_
    refine B_icmp_gt C dX6_forecast_8 ?_ ?_
    · refine R_iconst C (-1) dX6_forecast_27 (by decide) ?_
      exact R_iret C hr dX6_forecast_28
    · refine R_iload_n C 2 rfl dX6_forecast_11 ?_
      refine R_iconst C (-1) dX6_forecast_12 (by decide) ?_
      refine B_icmp_lt C dX6_forecast_13 ?_ ?_
      · refine R_iconst C (-1) dX6_forecast_27 (by decide) ?_
        exact R_iret C hr dX6_forecast_28
      · refine R_aload_n C 0 rfl dX6_forecast_16 ?_
        refine R_dr (fun x1 rx1 cx1 => ?_)
        refine R_getr C fl6_16 rfl ha0 rx1 dX6_forecast_17 ?_
        refine R_geti C fl6_79 rfl cx1 dX6_forecast_20 ?_
        refine R_iconst C (2) dX6_forecast_23 (by decide) ?_
        refine B_icmp_eq C dX6_forecast_24 ?_ ?_
        · refine R_aload_n C 0 rfl dX6_forecast_29 ?_
          refine R_getr C fl6_16 rfl ha0 rx1 dX6_forecast_30 ?_
          refine R_iload_n C 1 rfl dX6_forecast_33 ?_
          refine R_iload_n C 2 rfl dX6_forecast_34 ?_
          refine R_bd (fun r4 s2 q3 => ?_)
          refine R_callVi [.int a1, .int a2] [] C ml6_290 (kX4_fetchedTape q3) (by rw [hR]; exact ⟨rfl, rfl, Nat.le_of_ble_eq_true rfl, Nat.le_of_ble_eq_true rfl, Nat.zero_le _, Nat.zero_le _⟩) cx1 rfl rfl (Nat.le_of_ble_eq_true rfl) dX6_forecast_35 ?_
          exact R_iret C hr dX6_forecast_38
        · refine R_iconst C (-1) dX6_forecast_27 (by decide) ?_
          exact R_iret C hr dX6_forecast_28
theorem dX6_needs_0 : dk cX6_needs 0 1 (.iload_n 1) 1 := by unfold dk; decide +kernel
theorem dX6_needs_1 : dk cX6_needs 1 2 (.iconst 1) 1 := by unfold dk; decide +kernel
theorem dX6_needs_22 : dk cX6_needs 22 23 (.iconst (-1)) 1 := by unfold dk; decide +kernel
theorem dX6_needs_23 : dk cX6_needs 23 24 (.ireturn) 1 := by unfold dk; decide +kernel
theorem dX6_needs_5 : dk cX6_needs 5 6 (.iload_n 1) 1 := by unfold dk; decide +kernel
theorem dX6_needs_6 : dk cX6_needs 6 8 (.bipush 16) 2 := by unfold dk; decide +kernel
theorem dX6_needs_11 : dk cX6_needs 11 12 (.aload_n 0) 1 := by unfold dk; decide +kernel
theorem dX6_needs_12 : dk cX6_needs 12 15 (.getfield 16) 3 := by unfold dk; decide +kernel
theorem dX6_needs_15 : dk cX6_needs 15 18 (.getfield 79) 3 := by unfold dk; decide +kernel
theorem dX6_needs_18 : dk cX6_needs 18 19 (.iconst 2) 1 := by unfold dk; decide +kernel
theorem dX6_needs_24 : dk cX6_needs 24 25 (.aload_n 0) 1 := by unfold dk; decide +kernel
theorem dX6_needs_25 : dk cX6_needs 25 28 (.getfield 39) 3 := by unfold dk; decide +kernel
theorem dX6_needs_28 : dk cX6_needs 28 29 (.aload_n 0) 1 := by unfold dk; decide +kernel
theorem dX6_needs_29 : dk cX6_needs 29 32 (.getfield 16) 3 := by unfold dk; decide +kernel
theorem dX6_needs_32 : dk cX6_needs 32 35 (.getfield 129) 3 := by unfold dk; decide +kernel
theorem dX6_needs_35 : dk cX6_needs 35 38 (.invokevirtual 293) 3 := by unfold dk; decide +kernel
theorem dX6_needs_38 : dk cX6_needs 38 39 (.iconst 0) 1 := by unfold dk; decide +kernel
theorem dX6_needs_39 : dk cX6_needs 39 40 (.istore_n 2) 1 := by unfold dk; decide +kernel
theorem dX6_needs_40 : dk cX6_needs 40 41 (.iconst 0) 1 := by unfold dk; decide +kernel
theorem dX6_needs_41 : dk cX6_needs 41 42 (.istore_n 3) 1 := by unfold dk; decide +kernel
theorem dX6_needs_42 : dk cX6_needs 42 43 (.iload_n 3) 1 := by unfold dk; decide +kernel
theorem dX6_needs_43 : dk cX6_needs 43 45 (.ldc 142) 2 := by unfold dk; decide +kernel
theorem dX6_needs_48 : dk cX6_needs 48 49 (.aload_n 0) 1 := by unfold dk; decide +kernel
theorem dX6_needs_49 : dk cX6_needs 49 52 (.getfield 39) 3 := by unfold dk; decide +kernel
theorem dX6_needs_52 : dk cX6_needs 52 55 (.getfield 241) 3 := by unfold dk; decide +kernel
theorem dX6_needs_55 : dk cX6_needs 55 56 (.iconst 1) 1 := by unfold dk; decide +kernel
theorem dX6_needs_59 : dk cX6_needs 59 60 (.aload_n 0) 1 := by unfold dk; decide +kernel
theorem dX6_needs_60 : dk cX6_needs 60 63 (.getfield 39) 3 := by unfold dk; decide +kernel
theorem dX6_needs_63 : dk cX6_needs 63 66 (.invokevirtual 296) 3 := by unfold dk; decide +kernel
theorem dX6_needs_66 : dk cX6_needs 66 67 (.iload_n 2) 1 := by unfold dk; decide +kernel
theorem dX6_needs_67 : dk cX6_needs 67 68 (.aload_n 0) 1 := by unfold dk; decide +kernel
theorem dX6_needs_68 : dk cX6_needs 68 71 (.getfield 39) 3 := by unfold dk; decide +kernel
theorem dX6_needs_71 : dk cX6_needs 71 72 (.iload_n 1) 1 := by unfold dk; decide +kernel
theorem dX6_needs_72 : dk cX6_needs 72 75 (.invokevirtual 299) 3 := by unfold dk; decide +kernel
theorem dX6_needs_75 : dk cX6_needs 75 76 (.iadd) 1 := by unfold dk; decide +kernel
theorem dX6_needs_76 : dk cX6_needs 76 77 (.istore_n 2) 1 := by unfold dk; decide +kernel
theorem dX6_needs_77 : dk cX6_needs 77 78 (.aload_n 0) 1 := by unfold dk; decide +kernel
theorem dX6_needs_78 : dk cX6_needs 78 81 (.getfield 39) 3 := by unfold dk; decide +kernel
theorem dX6_needs_81 : dk cX6_needs 81 84 (.invokevirtual 244) 3 := by unfold dk; decide +kernel
theorem dX6_needs_84 : dk cX6_needs 84 87 (.iinc 3 1) 3 := by unfold dk; decide +kernel
theorem dX6_needs_87 : bk cX6_needs 87 90 42 (.goto (-45)) (-45) := by unfold bk; decide +kernel
theorem dX6_needs_56 : bk cX6_needs 56 59 90 (.if_icmp .le 34) (34) := by unfold bk; decide +kernel
theorem dX6_needs_45 : bk cX6_needs 45 48 90 (.if_icmp .ge 45) (45) := by unfold bk; decide +kernel
theorem dX6_needs_90 : dk cX6_needs 90 91 (.iload_n 2) 1 := by unfold dk; decide +kernel
theorem dX6_needs_91 : dk cX6_needs 91 92 (.ireturn) 1 := by unfold dk; decide +kernel
theorem dX6_needs_19 : bk cX6_needs 19 22 24 (.if_icmp .ge 5) (5) := by unfold bk; decide +kernel
theorem dX6_needs_8 : bk cX6_needs 8 11 22 (.if_icmp .gt 14) (14) := by unfold bk; decide +kernel
theorem dX6_needs_2 : bk cX6_needs 2 5 22 (.if_icmp .lt 20) (20) := by unfold bk; decide +kernel
set_option maxHeartbeats 4000000 in
set_option maxRecDepth 100000 in
theorem kX6_needs {l : Launch} {G : Gl} {E : En} {a0 : Nat} {a1 : Int32} {σ σ' : Sg} {r : Int32} : fX6_needs E a0 a1 σ = some (r, σ') → CT l yX6_needs cX6_needs 4 (some .int) ({ frames := 5, cells := 0, slots := 0, locals := 107 } : Room) [.ref (G.1 + a0), .int a1] G E σ (some (.int r)) σ' := by
  intro h
  refine CT_of (lv0 := [(0, .ref (G.1 + a0)), (1, .int a1)]) (by decide) (Nat.le_of_ble_eq_true rfl) rfl (fun κ hl hR hr C => ?_)
  have C : Cx κ G cX6_needs RX6 4 := C
  revert h
  unfold fX6_needs
  refine R_tk (fun ha0 => ?_)
  refine R_iload_n C 1 rfl dX6_needs_0 ?_
  refine R_iconst C (1) dX6_needs_1 (by decide) ?_
  refine B_icmp_lt C dX6_needs_2 ?_ ?_
  · refine R_iconst C (-1) dX6_needs_22 (by decide) ?_
    exact R_iret C hr dX6_needs_23
  · refine R_iload_n C 1 rfl dX6_needs_5 ?_
    refine R_bipush C (16) dX6_needs_6 (by decide) ?_
    refine B_icmp_gt C dX6_needs_8 ?_ ?_
    · refine R_iconst C (-1) dX6_needs_22 (by decide) ?_
      exact R_iret C hr dX6_needs_23
    · refine R_aload_n C 0 rfl dX6_needs_11 ?_
      refine R_dr (fun x1 rx1 cx1 => ?_)
      refine R_getr C fl6_16 rfl ha0 rx1 dX6_needs_12 ?_
      refine R_geti C fl6_79 rfl cx1 dX6_needs_15 ?_
      refine R_iconst C (2) dX6_needs_18 (by decide) ?_
      refine B_icmp_ge C dX6_needs_19 ?_ ?_
      · refine R_aload_n C 0 rfl dX6_needs_24 ?_
        refine R_dr (fun x2 rx2 cx2 => ?_)
        refine R_getr C fl6_39 rfl ha0 rx2 dX6_needs_25 ?_
        refine R_aload_n C 0 rfl dX6_needs_28 ?_
        refine R_getr C fl6_16 rfl ha0 rx1 dX6_needs_29 ?_
        refine R_dr (fun x3 rx3 cx3 => ?_)
        refine R_getr C fl6_129 rfl cx1 rx3 dX6_needs_32 ?_
        refine R_bv (fun s4 q5 => ?_)
        refine R_callVv [.ref (G.1 + x3)] [] C ml6_293 (kX1_copyFrom q5) (by rw [hR]; exact ⟨rfl, rfl, Nat.le_of_ble_eq_true rfl, Nat.le_of_ble_eq_true rfl, Nat.zero_le _, Nat.zero_le _⟩) cx2 rfl rfl (Nat.le_of_ble_eq_true rfl) dX6_needs_35 ?_
        refine R_iconst C (0) dX6_needs_38 (by decide) ?_
        refine R_istore_n (lv2 := [(2, .int (0 : Int32)), (0, .ref (G.1 + a0)), (1, .int a1)]) C dX6_needs_39 rfl (by decide) rfl ?_
        refine R_iconst C (0) dX6_needs_40 (by decide) ?_
        refine R_istore_n (lv2 := [(3, .int (0 : Int32)), (2, .int (0 : Int32)), (0, .ref (G.1 + a0)), (1, .int a1)]) C dX6_needs_41 rfl (by decide) rfl ?_
        refine R_loc (lv2 := [(0, .ref (G.1 + a0)), (1, .int a1), (2, .int (0 : Int32)), (3, .int (0 : Int32))]) [2, 3, 1, 0] rfl ?_
        refine R_loop (fun (a : (Int32 × Int32) × Sg) => V κ G (QQ κ G E (some (.int r)) σ') E a.2 (false, 0, 0) 42 [(0, .ref (G.1 + a0)), (1, .int a1), (2, .int a.1.1), (3, .int a.1.2)] []) (fun (o : (Int32 × Int32)) (s : Sg) => V κ G (QQ κ G E (some (.int r)) σ') E s (false, 0, 0) 90 [(2, .int o.1)] []) (((0 : Int32), (0 : Int32)), s4) (fun o22 s23 => ?_) (fun rec I12 a b10 s11 K9 => ?_)
        · refine R_iload_n C 0 rfl dX6_needs_90 ?_
          exact R_iret C hr dX6_needs_91
        · obtain ⟨⟨v6, v7⟩, s8⟩ := a
          show bX6_needs_42 E x2 a1 (fun u0 u1 t => rec ((u0, u1), t)) v6 v7 s8 = some (b10, s11) → V κ G (QQ κ G E (some (.int r)) σ') E s8 (false, 0, 0) 42 [(0, .ref (G.1 + a0)), (1, .int a1), (2, .int v6), (3, .int v7)] []
          unfold bX6_needs_42
          refine R_iload_n C 3 rfl dX6_needs_42 ?_
          refine R_ldc C cs6_142 dX6_needs_43 ?_
          refine B_icmp_ge C dX6_needs_45 ?_ ?_
          · refine R_loc (lv2 := [(2, .int v6)]) [2] rfl ?_
            exact R_end (fun (o : (Int32 × Int32)) (s : Sg) => V κ G (QQ κ G E (some (.int r)) σ') E s (false, 0, 0) 90 [(2, .int o.1)] []) K9
          · refine R_aload_n C 0 rfl dX6_needs_48 ?_
            refine R_getr C fl6_39 rfl ha0 rx2 dX6_needs_49 ?_
            refine R_geti C fl6_241 rfl cx2 dX6_needs_52 ?_
            refine R_iconst C (1) dX6_needs_55 (by decide) ?_
            refine B_icmp_le C dX6_needs_56 ?_ ?_
            · refine R_loc (lv2 := [(2, .int v6)]) [2] rfl ?_
              exact R_end (fun (o : (Int32 × Int32)) (s : Sg) => V κ G (QQ κ G E (some (.int r)) σ') E s (false, 0, 0) 90 [(2, .int o.1)] []) K9
            · refine R_aload_n C 0 rfl dX6_needs_59 ?_
              refine R_getr C fl6_39 rfl ha0 rx2 dX6_needs_60 ?_
              refine R_bv (fun s13 q14 => ?_)
              refine R_callVv [] [] C ml6_296 (kX1_look q14) (by rw [hR]; exact ⟨rfl, rfl, Nat.le_of_ble_eq_true rfl, Nat.le_of_ble_eq_true rfl, Nat.zero_le _, Nat.zero_le _⟩) cx2 rfl rfl (Nat.le_of_ble_eq_true rfl) dX6_needs_63 ?_
              refine R_iload_n C 2 rfl dX6_needs_66 ?_
              refine R_aload_n C 0 rfl dX6_needs_67 ?_
              refine R_getr C fl6_39 rfl ha0 rx2 dX6_needs_68 ?_
              refine R_iload_n C 1 rfl dX6_needs_71 ?_
              refine R_bd (fun r17 s15 q16 => ?_)
              refine R_callVi [.int a1] [.int v6] C ml6_299 (kX1_blocksTaken q16) (by rw [hR]; exact ⟨rfl, rfl, Nat.le_of_ble_eq_true rfl, Nat.le_of_ble_eq_true rfl, Nat.zero_le _, Nat.zero_le _⟩) cx2 rfl rfl (Nat.le_of_ble_eq_true rfl) dX6_needs_72 ?_
              refine R_iadd C dX6_needs_75 ?_
              refine S_istore_n C dX6_needs_76 rfl (fun v18 => [(2, .int v18), (0, .ref (G.1 + a0)), (1, .int a1), (3, .int v7)]) (by decide) (fun _ => rfl) (fun v18 => ?_)
              refine R_aload_n C 1 rfl dX6_needs_77 ?_
              refine R_getr C fl6_39 rfl ha0 rx2 dX6_needs_78 ?_
              refine R_bv (fun s19 q20 => ?_)
              refine R_callVv [] [] C ml6_244 (kX1_advance q20) (by rw [hR]; exact ⟨rfl, rfl, Nat.le_of_ble_eq_true rfl, Nat.le_of_ble_eq_true rfl, Nat.zero_le _, Nat.zero_le _⟩) cx2 rfl rfl (Nat.le_of_ble_eq_true rfl) dX6_needs_81 ?_
              refine S_iinc (fun v21 => [(3, .int v21), (2, .int v18), (0, .ref (G.1 + a0)), (1, .int a1)]) 3 C dX6_needs_84 rfl (by decide) (by decide) (fun _ => rfl) (fun v21 => ?_)
              refine R_goto C dX6_needs_87 ?_
              refine R_loc (lv2 := [(0, .ref (G.1 + a0)), (1, .int a1), (2, .int v18), (3, .int v21)]) [2, 3, 1, 0] rfl ?_
              exact I12 ((v18, v21), s19) b10 s11 K9
      · refine R_iconst C (-1) dX6_needs_22 (by decide) ?_
        exact R_iret C hr dX6_needs_23
theorem dX6_undo_0 : dk cX6_undo 0 1 (.aload_n 0) 1 := by unfold dk; decide +kernel
theorem dX6_undo_1 : dk cX6_undo 1 4 (.getfield 308) 3 := by unfold dk; decide +kernel
theorem dX6_undo_9 : dk cX6_undo 9 10 (.aload_n 0) 1 := by unfold dk; decide +kernel
theorem dX6_undo_10 : dk cX6_undo 10 11 (.aload_n 0) 1 := by unfold dk; decide +kernel
theorem dX6_undo_11 : dk cX6_undo 11 14 (.getfield 302) 3 := by unfold dk; decide +kernel
theorem dX6_undo_14 : dk cX6_undo 14 16 (.bipush 8) 2 := by unfold dk; decide +kernel
theorem dX6_undo_16 : dk cX6_undo 16 17 (.iadd) 1 := by unfold dk; decide +kernel
theorem dX6_undo_17 : dk cX6_undo 17 18 (.iconst 1) 1 := by unfold dk; decide +kernel
theorem dX6_undo_18 : dk cX6_undo 18 19 (.isub) 1 := by unfold dk; decide +kernel
theorem dX6_undo_19 : dk cX6_undo 19 21 (.bipush 8) 2 := by unfold dk; decide +kernel
theorem dX6_undo_21 : dk cX6_undo 21 22 (.irem) 1 := by unfold dk; decide +kernel
theorem dX6_undo_22 : dk cX6_undo 22 25 (.putfield 302) 3 := by unfold dk; decide +kernel
theorem dX6_undo_25 : dk cX6_undo 25 26 (.aload_n 0) 1 := by unfold dk; decide +kernel
theorem dX6_undo_26 : dk cX6_undo 26 29 (.getfield 16) 3 := by unfold dk; decide +kernel
theorem dX6_undo_29 : dk cX6_undo 29 30 (.aload_n 0) 1 := by unfold dk; decide +kernel
theorem dX6_undo_30 : dk cX6_undo 30 33 (.getfield 20) 3 := by unfold dk; decide +kernel
theorem dX6_undo_33 : dk cX6_undo 33 34 (.aload_n 0) 1 := by unfold dk; decide +kernel
theorem dX6_undo_34 : dk cX6_undo 34 37 (.getfield 302) 3 := by unfold dk; decide +kernel
theorem dX6_undo_37 : dk cX6_undo 37 38 (.aaload) 1 := by unfold dk; decide +kernel
theorem dX6_undo_38 : dk cX6_undo 38 41 (.invokevirtual 305) 3 := by unfold dk; decide +kernel
theorem dX6_undo_41 : dk cX6_undo 41 42 (.aload_n 0) 1 := by unfold dk; decide +kernel
theorem dX6_undo_42 : dk cX6_undo 42 43 (.aload_n 0) 1 := by unfold dk; decide +kernel
theorem dX6_undo_43 : dk cX6_undo 43 46 (.getfield 24) 3 := by unfold dk; decide +kernel
theorem dX6_undo_46 : dk cX6_undo 46 47 (.aload_n 0) 1 := by unfold dk; decide +kernel
theorem dX6_undo_47 : dk cX6_undo 47 50 (.getfield 302) 3 := by unfold dk; decide +kernel
theorem dX6_undo_50 : dk cX6_undo 50 51 (.iaload) 1 := by unfold dk; decide +kernel
theorem dX6_undo_51 : dk cX6_undo 51 54 (.putfield 86) 3 := by unfold dk; decide +kernel
theorem dX6_undo_54 : dk cX6_undo 54 55 (.aload_n 0) 1 := by unfold dk; decide +kernel
theorem dX6_undo_55 : dk cX6_undo 55 56 (.dup) 1 := by unfold dk; decide +kernel
theorem dX6_undo_56 : dk cX6_undo 56 59 (.getfield 308) 3 := by unfold dk; decide +kernel
theorem dX6_undo_59 : dk cX6_undo 59 60 (.iconst 1) 1 := by unfold dk; decide +kernel
theorem dX6_undo_60 : dk cX6_undo 60 61 (.isub) 1 := by unfold dk; decide +kernel
theorem dX6_undo_61 : dk cX6_undo 61 64 (.putfield 308) 3 := by unfold dk; decide +kernel
theorem dX6_undo_64 : dk cX6_undo 64 65 (.aload_n 0) 1 := by unfold dk; decide +kernel
theorem dX6_undo_65 : dk cX6_undo 65 68 (.getfield 308) 3 := by unfold dk; decide +kernel
theorem dX6_undo_68 : dk cX6_undo 68 69 (.ireturn) 1 := by unfold dk; decide +kernel
theorem dX6_undo_7 : dk cX6_undo 7 8 (.iconst (-1)) 1 := by unfold dk; decide +kernel
theorem dX6_undo_8 : dk cX6_undo 8 9 (.ireturn) 1 := by unfold dk; decide +kernel
theorem dX6_undo_4 : bk cX6_undo 4 7 9 (.ifCond .ne 5) (5) := by unfold bk; decide +kernel
set_option maxHeartbeats 4000000 in
set_option maxRecDepth 100000 in
theorem kX6_undo {l : Launch} {G : Gl} {E : En} {a0 : Nat} {σ σ' : Sg} {r : Int32} : fX6_undo E a0 σ = some (r, σ') → CT l yX6_undo cX6_undo 1 (some .int) ({ frames := 4, cells := 0, slots := 0, locals := 124 } : Room) [.ref (G.1 + a0)] G E σ (some (.int r)) σ' := by
  intro h
  refine CT_of (lv0 := [(0, .ref (G.1 + a0))]) (by decide) (Nat.le_of_ble_eq_true rfl) rfl (fun κ hl hR hr C => ?_)
  have C : Cx κ G cX6_undo RX6 1 := C
  revert h
  unfold fX6_undo
  refine R_tk (fun ha0 => ?_)
  refine R_aload_n C 0 rfl dX6_undo_0 ?_
  refine R_geti C fl6_308 rfl ha0 dX6_undo_1 ?_
  refine B_if_ne C dX6_undo_4 ?_ ?_
  · refine R_aload_n C 0 rfl dX6_undo_9 ?_
    refine R_aload_n C 0 rfl dX6_undo_10 ?_
    refine R_geti C fl6_302 rfl ha0 dX6_undo_11 ?_
    refine R_bipush C (8) dX6_undo_14 (by decide) ?_
    refine R_iadd C dX6_undo_16 ?_
    refine R_iconst C (1) dX6_undo_17 (by decide) ?_
    refine R_isub C dX6_undo_18 ?_
    refine R_bipush C (8) dX6_undo_19 (by decide) ?_
    refine R_irem C dX6_undo_21 (by decide) ?_
    refine S_puti C fl6_302 rfl ha0 rfl rfl dX6_undo_22 (fun s1 => ?_)
    refine R_aload_n C 0 rfl dX6_undo_25 ?_
    refine R_dr (fun x2 rx2 cx2 => ?_)
    refine R_getr C fl6_16 rfl ha0 rx2 dX6_undo_26 ?_
    refine R_aload_n C 0 rfl dX6_undo_29 ?_
    refine R_dr (fun x3 rx3 cx3 => ?_)
    refine R_getr C fl6_20 rfl ha0 rx3 dX6_undo_30 ?_
    refine R_aload_n C 0 rfl dX6_undo_33 ?_
    refine R_geti C fl6_302 rfl ha0 dX6_undo_34 ?_
    refine R_ck (fun h4 => ?_)
    refine R_dr (fun x5 rx5 cx5 => ?_)
    refine R_aald5 C cx3 h4 rx5 dX6_undo_37 ?_
    refine R_bv (fun s6 q7 => ?_)
    refine R_callVv [.ref (G.1 + x5)] [] C ml6_305 (kX4_copyFrom q7) (by rw [hR]; exact ⟨rfl, rfl, Nat.le_of_ble_eq_true rfl, Nat.le_of_ble_eq_true rfl, Nat.zero_le _, Nat.zero_le _⟩) cx2 rfl rfl (Nat.le_of_ble_eq_true rfl) dX6_undo_38 ?_
    refine R_aload_n C 0 rfl dX6_undo_41 ?_
    refine R_aload_n C 0 rfl dX6_undo_42 ?_
    refine R_dr (fun x8 rx8 cx8 => ?_)
    refine R_getr C fl6_24 rfl ha0 rx8 dX6_undo_43 ?_
    refine R_aload_n C 0 rfl dX6_undo_46 ?_
    refine R_geti C fl6_302 rfl ha0 dX6_undo_47 ?_
    refine R_ck (fun h9 => ?_)
    refine R_iald C cx8 h9 dX6_undo_50 ?_
    refine S_puti C fl6_86 rfl ha0 rfl rfl dX6_undo_51 (fun s10 => ?_)
    refine R_aload_n C 0 rfl dX6_undo_54 ?_
    refine R_dup C dX6_undo_55 rfl ?_
    refine R_geti C fl6_308 rfl ha0 dX6_undo_56 ?_
    refine R_iconst C (1) dX6_undo_59 (by decide) ?_
    refine R_isub C dX6_undo_60 ?_
    refine S_puti C fl6_308 rfl ha0 rfl rfl dX6_undo_61 (fun s11 => ?_)
    refine R_aload_n C 0 rfl dX6_undo_64 ?_
    refine R_geti C fl6_308 rfl ha0 dX6_undo_65 ?_
    exact R_iret C hr dX6_undo_68
  · refine R_iconst C (-1) dX6_undo_7 (by decide) ?_
    exact R_iret C hr dX6_undo_8
theorem dX6_keep_0 : dk cX6_keep 0 1 (.iload_n 1) 1 := by unfold dk; decide +kernel
theorem dX6_keep_9 : dk cX6_keep 9 10 (.iconst (-1)) 1 := by unfold dk; decide +kernel
theorem dX6_keep_10 : dk cX6_keep 10 11 (.ireturn) 1 := by unfold dk; decide +kernel
theorem dX6_keep_4 : dk cX6_keep 4 5 (.iload_n 1) 1 := by unfold dk; decide +kernel
theorem dX6_keep_5 : dk cX6_keep 5 6 (.iconst 2) 1 := by unfold dk; decide +kernel
theorem dX6_keep_11 : dk cX6_keep 11 12 (.aload_n 0) 1 := by unfold dk; decide +kernel
theorem dX6_keep_12 : dk cX6_keep 12 15 (.getfield 27) 3 := by unfold dk; decide +kernel
theorem dX6_keep_15 : dk cX6_keep 15 16 (.iload_n 1) 1 := by unfold dk; decide +kernel
theorem dX6_keep_16 : dk cX6_keep 16 17 (.aaload) 1 := by unfold dk; decide +kernel
theorem dX6_keep_17 : dk cX6_keep 17 18 (.aload_n 0) 1 := by unfold dk; decide +kernel
theorem dX6_keep_18 : dk cX6_keep 18 21 (.getfield 16) 3 := by unfold dk; decide +kernel
theorem dX6_keep_21 : dk cX6_keep 21 24 (.invokevirtual 305) 3 := by unfold dk; decide +kernel
theorem dX6_keep_24 : dk cX6_keep 24 25 (.aload_n 0) 1 := by unfold dk; decide +kernel
theorem dX6_keep_25 : dk cX6_keep 25 28 (.getfield 30) 3 := by unfold dk; decide +kernel
theorem dX6_keep_28 : dk cX6_keep 28 29 (.iload_n 1) 1 := by unfold dk; decide +kernel
theorem dX6_keep_29 : dk cX6_keep 29 30 (.iconst 1) 1 := by unfold dk; decide +kernel
theorem dX6_keep_30 : dk cX6_keep 30 31 (.bastore) 1 := by unfold dk; decide +kernel
theorem dX6_keep_31 : dk cX6_keep 31 32 (.aload_n 0) 1 := by unfold dk; decide +kernel
theorem dX6_keep_32 : dk cX6_keep 32 35 (.getfield 16) 3 := by unfold dk; decide +kernel
theorem dX6_keep_35 : dk cX6_keep 35 38 (.getfield 64) 3 := by unfold dk; decide +kernel
theorem dX6_keep_38 : dk cX6_keep 38 41 (.getfield 68) 3 := by unfold dk; decide +kernel
theorem dX6_keep_41 : dk cX6_keep 41 42 (.ireturn) 1 := by unfold dk; decide +kernel
theorem dX6_keep_6 : bk cX6_keep 6 9 11 (.if_icmp .lt 5) (5) := by unfold bk; decide +kernel
theorem dX6_keep_1 : bk cX6_keep 1 4 9 (.ifCond .lt 8) (8) := by unfold bk; decide +kernel
set_option maxHeartbeats 4000000 in
set_option maxRecDepth 100000 in
theorem kX6_keep {l : Launch} {G : Gl} {E : En} {a0 : Nat} {a1 : Int32} {σ σ' : Sg} {r : Int32} : fX6_keep E a0 a1 σ = some (r, σ') → CT l yX6_keep cX6_keep 2 (some .int) ({ frames := 4, cells := 0, slots := 0, locals := 124 } : Room) [.ref (G.1 + a0), .int a1] G E σ (some (.int r)) σ' := by
  intro h
  refine CT_of (lv0 := [(0, .ref (G.1 + a0)), (1, .int a1)]) (by decide) (Nat.le_of_ble_eq_true rfl) rfl (fun κ hl hR hr C => ?_)
  have C : Cx κ G cX6_keep RX6 2 := C
  revert h
  unfold fX6_keep
  refine R_tk (fun ha0 => ?_)
  refine R_iload_n C 1 rfl dX6_keep_0 ?_
  refine B_if_lt C dX6_keep_1 ?_ ?_
  · refine R_iconst C (-1) dX6_keep_9 (by decide) ?_
    exact R_iret C hr dX6_keep_10
  · refine R_iload_n C 1 rfl dX6_keep_4 ?_
    refine R_iconst C (2) dX6_keep_5 (by decide) ?_
    refine B_icmp_lt C dX6_keep_6 ?_ ?_
    · refine R_aload_n C 0 rfl dX6_keep_11 ?_
      refine R_dr (fun x1 rx1 cx1 => ?_)
      refine R_getr C fl6_27 rfl ha0 rx1 dX6_keep_12 ?_
      refine R_iload_n C 1 rfl dX6_keep_15 ?_
      refine R_ck (fun h2 => ?_)
      refine R_dr (fun x3 rx3 cx3 => ?_)
      refine R_aald5 C cx1 h2 rx3 dX6_keep_16 ?_
      refine R_aload_n C 0 rfl dX6_keep_17 ?_
      refine R_dr (fun x4 rx4 cx4 => ?_)
      refine R_getr C fl6_16 rfl ha0 rx4 dX6_keep_18 ?_
      refine R_bv (fun s5 q6 => ?_)
      refine R_callVv [.ref (G.1 + x4)] [] C ml6_305 (kX4_copyFrom q6) (by rw [hR]; exact ⟨rfl, rfl, Nat.le_of_ble_eq_true rfl, Nat.le_of_ble_eq_true rfl, Nat.zero_le _, Nat.zero_le _⟩) cx3 rfl rfl (Nat.le_of_ble_eq_true rfl) dX6_keep_21 ?_
      refine R_aload_n C 0 rfl dX6_keep_24 ?_
      refine R_dr (fun x7 rx7 cx7 => ?_)
      refine R_getr C fl6_30 rfl ha0 rx7 dX6_keep_25 ?_
      refine R_iload_n C 1 rfl dX6_keep_28 ?_
      refine R_iconst C (1) dX6_keep_29 (by decide) ?_
      refine R_ck (fun h8 => ?_)
      refine S_zast C cx7 h8 dX6_keep_30 (fun s9 => ?_)
      refine R_aload_n C 0 rfl dX6_keep_31 ?_
      refine R_getr C fl6_16 rfl ha0 rx4 dX6_keep_32 ?_
      refine R_dr (fun x10 rx10 cx10 => ?_)
      refine R_getr C fl6_64 rfl cx4 rx10 dX6_keep_35 ?_
      refine R_geti C fl6_68 rfl cx10 dX6_keep_38 ?_
      exact R_iret C hr dX6_keep_41
    · refine R_iconst C (-1) dX6_keep_9 (by decide) ?_
      exact R_iret C hr dX6_keep_10
theorem dX6_back_0 : dk cX6_back 0 1 (.iload_n 1) 1 := by unfold dk; decide +kernel
theorem dX6_back_9 : dk cX6_back 9 10 (.iconst (-1)) 1 := by unfold dk; decide +kernel
theorem dX6_back_10 : dk cX6_back 10 11 (.ireturn) 1 := by unfold dk; decide +kernel
theorem dX6_back_4 : dk cX6_back 4 5 (.iload_n 1) 1 := by unfold dk; decide +kernel
theorem dX6_back_5 : dk cX6_back 5 6 (.iconst 2) 1 := by unfold dk; decide +kernel
theorem dX6_back_11 : dk cX6_back 11 12 (.aload_n 0) 1 := by unfold dk; decide +kernel
theorem dX6_back_12 : dk cX6_back 12 15 (.getfield 30) 3 := by unfold dk; decide +kernel
theorem dX6_back_15 : dk cX6_back 15 16 (.iload_n 1) 1 := by unfold dk; decide +kernel
theorem dX6_back_16 : dk cX6_back 16 17 (.baload) 1 := by unfold dk; decide +kernel
theorem dX6_back_23 : dk cX6_back 23 24 (.aload_n 0) 1 := by unfold dk; decide +kernel
theorem dX6_back_24 : dk cX6_back 24 27 (.getfield 16) 3 := by unfold dk; decide +kernel
theorem dX6_back_27 : dk cX6_back 27 28 (.aload_n 0) 1 := by unfold dk; decide +kernel
theorem dX6_back_28 : dk cX6_back 28 31 (.getfield 27) 3 := by unfold dk; decide +kernel
theorem dX6_back_31 : dk cX6_back 31 32 (.iload_n 1) 1 := by unfold dk; decide +kernel
theorem dX6_back_32 : dk cX6_back 32 33 (.aaload) 1 := by unfold dk; decide +kernel
theorem dX6_back_33 : dk cX6_back 33 36 (.invokevirtual 305) 3 := by unfold dk; decide +kernel
theorem dX6_back_36 : dk cX6_back 36 37 (.aload_n 0) 1 := by unfold dk; decide +kernel
theorem dX6_back_37 : dk cX6_back 37 38 (.iconst 0) 1 := by unfold dk; decide +kernel
theorem dX6_back_38 : dk cX6_back 38 41 (.putfield 308) 3 := by unfold dk; decide +kernel
theorem dX6_back_41 : dk cX6_back 41 42 (.aload_n 0) 1 := by unfold dk; decide +kernel
theorem dX6_back_42 : dk cX6_back 42 45 (.getfield 16) 3 := by unfold dk; decide +kernel
theorem dX6_back_45 : dk cX6_back 45 48 (.getfield 64) 3 := by unfold dk; decide +kernel
theorem dX6_back_48 : dk cX6_back 48 51 (.getfield 68) 3 := by unfold dk; decide +kernel
theorem dX6_back_51 : dk cX6_back 51 52 (.ireturn) 1 := by unfold dk; decide +kernel
theorem dX6_back_20 : dk cX6_back 20 22 (.bipush (-2)) 2 := by unfold dk; decide +kernel
theorem dX6_back_22 : dk cX6_back 22 23 (.ireturn) 1 := by unfold dk; decide +kernel
theorem dX6_back_17 : bk cX6_back 17 20 23 (.ifCond .ne 6) (6) := by unfold bk; decide +kernel
theorem dX6_back_6 : bk cX6_back 6 9 11 (.if_icmp .lt 5) (5) := by unfold bk; decide +kernel
theorem dX6_back_1 : bk cX6_back 1 4 9 (.ifCond .lt 8) (8) := by unfold bk; decide +kernel
set_option maxHeartbeats 4000000 in
set_option maxRecDepth 100000 in
theorem kX6_back {l : Launch} {G : Gl} {E : En} {a0 : Nat} {a1 : Int32} {σ σ' : Sg} {r : Int32} : fX6_back E a0 a1 σ = some (r, σ') → CT l yX6_back cX6_back 2 (some .int) ({ frames := 4, cells := 0, slots := 0, locals := 124 } : Room) [.ref (G.1 + a0), .int a1] G E σ (some (.int r)) σ' := by
  intro h
  refine CT_of (lv0 := [(0, .ref (G.1 + a0)), (1, .int a1)]) (by decide) (Nat.le_of_ble_eq_true rfl) rfl (fun κ hl hR hr C => ?_)
  have C : Cx κ G cX6_back RX6 2 := C
  revert h
  unfold fX6_back
  refine R_tk (fun ha0 => ?_)
  refine R_iload_n C 1 rfl dX6_back_0 ?_
  refine B_if_lt C dX6_back_1 ?_ ?_
  · refine R_iconst C (-1) dX6_back_9 (by decide) ?_
    exact R_iret C hr dX6_back_10
  · refine R_iload_n C 1 rfl dX6_back_4 ?_
    refine R_iconst C (2) dX6_back_5 (by decide) ?_
    refine B_icmp_lt C dX6_back_6 ?_ ?_
    · refine R_aload_n C 0 rfl dX6_back_11 ?_
      refine R_dr (fun x1 rx1 cx1 => ?_)
      refine R_getr C fl6_30 rfl ha0 rx1 dX6_back_12 ?_
      refine R_iload_n C 1 rfl dX6_back_15 ?_
      refine R_ck (fun h2 => ?_)
      refine R_zald C cx1 h2 dX6_back_16 ?_
      refine B_if_ne C dX6_back_17 ?_ ?_
      · refine R_aload_n C 0 rfl dX6_back_23 ?_
        refine R_dr (fun x3 rx3 cx3 => ?_)
        refine R_getr C fl6_16 rfl ha0 rx3 dX6_back_24 ?_
        refine R_aload_n C 0 rfl dX6_back_27 ?_
        refine R_dr (fun x4 rx4 cx4 => ?_)
        refine R_getr C fl6_27 rfl ha0 rx4 dX6_back_28 ?_
        refine R_iload_n C 1 rfl dX6_back_31 ?_
        refine R_ck (fun h5 => ?_)
        refine R_dr (fun x6 rx6 cx6 => ?_)
        refine R_aald5 C cx4 h5 rx6 dX6_back_32 ?_
        refine R_bv (fun s7 q8 => ?_)
        refine R_callVv [.ref (G.1 + x6)] [] C ml6_305 (kX4_copyFrom q8) (by rw [hR]; exact ⟨rfl, rfl, Nat.le_of_ble_eq_true rfl, Nat.le_of_ble_eq_true rfl, Nat.zero_le _, Nat.zero_le _⟩) cx3 rfl rfl (Nat.le_of_ble_eq_true rfl) dX6_back_33 ?_
        refine R_aload_n C 0 rfl dX6_back_36 ?_
        refine R_iconst C (0) dX6_back_37 (by decide) ?_
        refine S_puti C fl6_308 rfl ha0 rfl rfl dX6_back_38 (fun s9 => ?_)
        refine R_aload_n C 0 rfl dX6_back_41 ?_
        refine R_getr C fl6_16 rfl ha0 rx3 dX6_back_42 ?_
        refine R_dr (fun x10 rx10 cx10 => ?_)
        refine R_getr C fl6_64 rfl cx3 rx10 dX6_back_45 ?_
        refine R_geti C fl6_68 rfl cx10 dX6_back_48 ?_
        exact R_iret C hr dX6_back_51
      · refine R_bipush C (-2) dX6_back_20 (by decide) ?_
        exact R_iret C hr dX6_back_22
    · refine R_iconst C (-1) dX6_back_9 (by decide) ?_
      exact R_iret C hr dX6_back_10
theorem dX6_count_0 : dk cX6_count 0 1 (.iload_n 1) 1 := by unfold dk; decide +kernel
theorem dX6_count_1 : dk cX6_count 1 2 (.iconst 2) 1 := by unfold dk; decide +kernel
theorem dX6_count_23 : dk cX6_count 23 24 (.iload_n 1) 1 := by unfold dk; decide +kernel
theorem dX6_count_24 : dk cX6_count 24 26 (.bipush 8) 2 := by unfold dk; decide +kernel
theorem dX6_count_66 : dk cX6_count 66 67 (.iload_n 1) 1 := by unfold dk; decide +kernel
theorem dX6_count_67 : dk cX6_count 67 144 (.tableswitch 147 0 15 #[77, 88, 147, 147, 147, 147, 147, 114, 147, 147, 147, 147, 122, 127, 132, 137]) 77 := by unfold dk; decide +kernel
theorem dX6_count_144 : dk cX6_count 144 145 (.aload_n 0) 1 := by unfold dk; decide +kernel
theorem dX6_count_145 : dk cX6_count 145 148 (.getfield 16) 3 := by unfold dk; decide +kernel
theorem dX6_count_148 : dk cX6_count 148 151 (.getfield 64) 3 := by unfold dk; decide +kernel
theorem dX6_count_151 : dk cX6_count 151 154 (.getfield 68) 3 := by unfold dk; decide +kernel
theorem dX6_count_154 : dk cX6_count 154 155 (.ireturn) 1 := by unfold dk; decide +kernel
theorem dX6_count_155 : dk cX6_count 155 156 (.aload_n 0) 1 := by unfold dk; decide +kernel
theorem dX6_count_156 : dk cX6_count 156 159 (.getfield 16) 3 := by unfold dk; decide +kernel
theorem dX6_count_159 : dk cX6_count 159 162 (.getfield 79) 3 := by unfold dk; decide +kernel
theorem dX6_count_162 : dk cX6_count 162 163 (.iconst 1) 1 := by unfold dk; decide +kernel
theorem dX6_count_163 : bk cX6_count 163 166 179 (.if_icmp .lt 16) (16) := by unfold bk; decide +kernel
theorem dX6_count_179 : dk cX6_count 179 180 (.iconst 0) 1 := by unfold dk; decide +kernel
theorem dX6_count_166 : dk cX6_count 166 167 (.aload_n 0) 1 := by unfold dk; decide +kernel
theorem dX6_count_167 : dk cX6_count 167 170 (.getfield 16) 3 := by unfold dk; decide +kernel
theorem dX6_count_170 : dk cX6_count 170 173 (.getfield 115) 3 := by unfold dk; decide +kernel
theorem dX6_count_173 : dk cX6_count 173 176 (.getfield 119) 3 := by unfold dk; decide +kernel
theorem dX6_count_176 : bk cX6_count 176 179 180 (.goto 4) (4) := by unfold bk; decide +kernel
theorem dX6_count_180 : dk cX6_count 180 181 (.ireturn) 1 := by unfold dk; decide +kernel
theorem dX6_count_214 : dk cX6_count 214 215 (.iconst (-1)) 1 := by unfold dk; decide +kernel
theorem dX6_count_215 : dk cX6_count 215 216 (.ireturn) 1 := by unfold dk; decide +kernel
theorem dX6_count_181 : dk cX6_count 181 182 (.aload_n 0) 1 := by unfold dk; decide +kernel
theorem dX6_count_182 : dk cX6_count 182 185 (.getfield 16) 3 := by unfold dk; decide +kernel
theorem dX6_count_185 : dk cX6_count 185 188 (.getfield 79) 3 := by unfold dk; decide +kernel
theorem dX6_count_188 : dk cX6_count 188 189 (.ireturn) 1 := by unfold dk; decide +kernel
theorem dX6_count_189 : dk cX6_count 189 190 (.aload_n 0) 1 := by unfold dk; decide +kernel
theorem dX6_count_190 : dk cX6_count 190 193 (.getfield 308) 3 := by unfold dk; decide +kernel
theorem dX6_count_193 : dk cX6_count 193 194 (.ireturn) 1 := by unfold dk; decide +kernel
theorem dX6_count_194 : dk cX6_count 194 195 (.aload_n 0) 1 := by unfold dk; decide +kernel
theorem dX6_count_195 : dk cX6_count 195 198 (.getfield 86) 3 := by unfold dk; decide +kernel
theorem dX6_count_198 : dk cX6_count 198 199 (.ireturn) 1 := by unfold dk; decide +kernel
theorem dX6_count_199 : dk cX6_count 199 200 (.aload_n 0) 1 := by unfold dk; decide +kernel
theorem dX6_count_200 : dk cX6_count 200 203 (.getfield 57) 3 := by unfold dk; decide +kernel
theorem dX6_count_203 : dk cX6_count 203 204 (.ireturn) 1 := by unfold dk; decide +kernel
theorem dX6_count_204 : dk cX6_count 204 205 (.aload_n 0) 1 := by unfold dk; decide +kernel
theorem dX6_count_205 : dk cX6_count 205 208 (.getfield 16) 3 := by unfold dk; decide +kernel
theorem dX6_count_208 : dk cX6_count 208 211 (.getfield 103) 3 := by unfold dk; decide +kernel
theorem dX6_count_211 : dk cX6_count 211 212 (.iconst 5) 1 := by unfold dk; decide +kernel
theorem dX6_count_212 : dk cX6_count 212 213 (.iaload) 1 := by unfold dk; decide +kernel
theorem dX6_count_213 : dk cX6_count 213 214 (.ireturn) 1 := by unfold dk; decide +kernel
theorem dX6_count_29 : dk cX6_count 29 30 (.iload_n 1) 1 := by unfold dk; decide +kernel
theorem dX6_count_30 : dk cX6_count 30 32 (.bipush 11) 2 := by unfold dk; decide +kernel
theorem dX6_count_35 : dk cX6_count 35 36 (.aload_n 0) 1 := by unfold dk; decide +kernel
theorem dX6_count_36 : dk cX6_count 36 39 (.getfield 16) 3 := by unfold dk; decide +kernel
theorem dX6_count_39 : dk cX6_count 39 42 (.getfield 79) 3 := by unfold dk; decide +kernel
theorem dX6_count_42 : dk cX6_count 42 43 (.iconst 2) 1 := by unfold dk; decide +kernel
theorem dX6_count_43 : bk cX6_count 43 46 64 (.if_icmp .lt 21) (21) := by unfold bk; decide +kernel
theorem dX6_count_64 : dk cX6_count 64 65 (.iconst 0) 1 := by unfold dk; decide +kernel
theorem dX6_count_46 : dk cX6_count 46 47 (.aload_n 0) 1 := by unfold dk; decide +kernel
theorem dX6_count_47 : dk cX6_count 47 50 (.getfield 16) 3 := by unfold dk; decide +kernel
theorem dX6_count_50 : dk cX6_count 50 53 (.getfield 129) 3 := by unfold dk; decide +kernel
theorem dX6_count_53 : dk cX6_count 53 56 (.getfield 132) 3 := by unfold dk; decide +kernel
theorem dX6_count_56 : dk cX6_count 56 57 (.iload_n 1) 1 := by unfold dk; decide +kernel
theorem dX6_count_57 : dk cX6_count 57 59 (.bipush 8) 2 := by unfold dk; decide +kernel
theorem dX6_count_59 : dk cX6_count 59 60 (.isub) 1 := by unfold dk; decide +kernel
theorem dX6_count_60 : dk cX6_count 60 61 (.iaload) 1 := by unfold dk; decide +kernel
theorem dX6_count_61 : bk cX6_count 61 64 65 (.goto 4) (4) := by unfold bk; decide +kernel
theorem dX6_count_65 : dk cX6_count 65 66 (.ireturn) 1 := by unfold dk; decide +kernel
theorem dX6_count_32 : bk cX6_count 32 35 66 (.if_icmp .gt 34) (34) := by unfold bk; decide +kernel
theorem dX6_count_26 : bk cX6_count 26 29 66 (.if_icmp .lt 40) (40) := by unfold bk; decide +kernel
theorem dX6_count_5 : dk cX6_count 5 6 (.iload_n 1) 1 := by unfold dk; decide +kernel
theorem dX6_count_6 : dk cX6_count 6 8 (.bipush 6) 2 := by unfold dk; decide +kernel
theorem dX6_count_11 : dk cX6_count 11 12 (.aload_n 0) 1 := by unfold dk; decide +kernel
theorem dX6_count_12 : dk cX6_count 12 15 (.getfield 16) 3 := by unfold dk; decide +kernel
theorem dX6_count_15 : dk cX6_count 15 18 (.getfield 103) 3 := by unfold dk; decide +kernel
theorem dX6_count_18 : dk cX6_count 18 19 (.iload_n 1) 1 := by unfold dk; decide +kernel
theorem dX6_count_19 : dk cX6_count 19 20 (.iconst 2) 1 := by unfold dk; decide +kernel
theorem dX6_count_20 : dk cX6_count 20 21 (.isub) 1 := by unfold dk; decide +kernel
theorem dX6_count_21 : dk cX6_count 21 22 (.iaload) 1 := by unfold dk; decide +kernel
theorem dX6_count_22 : dk cX6_count 22 23 (.ireturn) 1 := by unfold dk; decide +kernel
theorem dX6_count_8 : bk cX6_count 8 11 23 (.if_icmp .gt 15) (15) := by unfold bk; decide +kernel
theorem dX6_count_2 : bk cX6_count 2 5 23 (.if_icmp .lt 21) (21) := by unfold bk; decide +kernel
set_option maxHeartbeats 4000000 in
set_option maxRecDepth 100000 in
theorem kX6_count {l : Launch} {G : Gl} {E : En} {a0 : Nat} {a1 : Int32} {σ σ' : Sg} {r : Int32} : fX6_count E a0 a1 σ = some (r, σ') → CT l yX6_count cX6_count 2 (some .int) ({ frames := 0, cells := 0, slots := 0, locals := 0 } : Room) [.ref (G.1 + a0), .int a1] G E σ (some (.int r)) σ' := by
  intro h
  refine CT_of (lv0 := [(0, .ref (G.1 + a0)), (1, .int a1)]) (by decide) (Nat.le_of_ble_eq_true rfl) rfl (fun κ hl hR hr C => ?_)
  have C : Cx κ G cX6_count RX6 2 := C
  revert h
  unfold fX6_count
  refine R_tk (fun ha0 => ?_)
  refine R_iload_n C 1 rfl dX6_count_0 ?_
  refine R_iconst C (2) dX6_count_1 (by decide) ?_
  refine B_icmp_lt C dX6_count_2 ?_ ?_
  · refine R_iload_n C 1 rfl dX6_count_23 ?_
    refine R_bipush C (8) dX6_count_24 (by decide) ?_
    refine B_icmp_lt C dX6_count_26 ?_ ?_
    · refine R_iload_n C 1 rfl dX6_count_66 ?_
      refine R_if (fun h1 => ?_) (fun h1 => ?_)
      · refine R_tsIn (off := 77) (t := 144) C dX6_count_67 h1 (by decide) ?_
        refine R_aload_n C 0 rfl dX6_count_144 ?_
        refine R_dr (fun x2 rx2 cx2 => ?_)
        refine R_getr C fl6_16 rfl ha0 rx2 dX6_count_145 ?_
        refine R_dr (fun x3 rx3 cx3 => ?_)
        refine R_getr C fl6_64 rfl cx2 rx3 dX6_count_148 ?_
        refine R_geti C fl6_68 rfl cx3 dX6_count_151 ?_
        exact R_iret C hr dX6_count_154
      refine R_if (fun h4 => ?_) (fun h4 => ?_)
      · refine R_tsIn (off := 88) (t := 155) C dX6_count_67 h4 (by decide) ?_
        refine R_aload_n C 0 rfl dX6_count_155 ?_
        refine R_dr (fun x5 rx5 cx5 => ?_)
        refine R_getr C fl6_16 rfl ha0 rx5 dX6_count_156 ?_
        refine R_geti C fl6_79 rfl cx5 dX6_count_159 ?_
        refine R_iconst C (1) dX6_count_162 (by decide) ?_
        refine R_bdK (fun (w : Int32) (s : Sg) => V κ G (QQ κ G E (some (.int r)) σ') E s (false, 0, 0) 180 [] [.int w]) (fun w6 s7 => ?_) (fun w6 s7 Kw6 => ?_)
        · exact R_iret C hr dX6_count_180
        · refine B_icmp_lt C dX6_count_163 ?_ ?_
          · refine R_iconst C (0) dX6_count_179 (by decide) ?_
            refine R_loc (lv2 := []) [] rfl ?_
            exact R_end (fun (w : Int32) (s : Sg) => V κ G (QQ κ G E (some (.int r)) σ') E s (false, 0, 0) 180 [] [.int w]) Kw6
          · refine R_aload_n C 0 rfl dX6_count_166 ?_
            refine R_getr C fl6_16 rfl ha0 rx5 dX6_count_167 ?_
            refine R_dr (fun x8 rx8 cx8 => ?_)
            refine R_getr C fl6_115 rfl cx5 rx8 dX6_count_170 ?_
            refine R_geti C fl6_119 rfl cx8 dX6_count_173 ?_
            refine R_goto C dX6_count_176 ?_
            refine R_loc (lv2 := []) [] rfl ?_
            exact R_end (fun (w : Int32) (s : Sg) => V κ G (QQ κ G E (some (.int r)) σ') E s (false, 0, 0) 180 [] [.int w]) Kw6
      refine R_if (fun h9 => ?_) (fun h9 => ?_)
      · refine R_tsIn (off := 147) (t := 214) C dX6_count_67 h9 (by decide) ?_
        refine R_iconst C (-1) dX6_count_214 (by decide) ?_
        exact R_iret C hr dX6_count_215
      refine R_if (fun h10 => ?_) (fun h10 => ?_)
      · refine R_tsIn (off := 147) (t := 214) C dX6_count_67 h10 (by decide) ?_
        refine R_iconst C (-1) dX6_count_214 (by decide) ?_
        exact R_iret C hr dX6_count_215
      refine R_if (fun h11 => ?_) (fun h11 => ?_)
      · refine R_tsIn (off := 147) (t := 214) C dX6_count_67 h11 (by decide) ?_
        refine R_iconst C (-1) dX6_count_214 (by decide) ?_
        exact R_iret C hr dX6_count_215
      refine R_if (fun h12 => ?_) (fun h12 => ?_)
      · refine R_tsIn (off := 147) (t := 214) C dX6_count_67 h12 (by decide) ?_
        refine R_iconst C (-1) dX6_count_214 (by decide) ?_
        exact R_iret C hr dX6_count_215
      refine R_if (fun h13 => ?_) (fun h13 => ?_)
      · refine R_tsIn (off := 147) (t := 214) C dX6_count_67 h13 (by decide) ?_
        refine R_iconst C (-1) dX6_count_214 (by decide) ?_
        exact R_iret C hr dX6_count_215
      refine R_if (fun h14 => ?_) (fun h14 => ?_)
      · refine R_tsIn (off := 114) (t := 181) C dX6_count_67 h14 (by decide) ?_
        refine R_aload_n C 0 rfl dX6_count_181 ?_
        refine R_dr (fun x15 rx15 cx15 => ?_)
        refine R_getr C fl6_16 rfl ha0 rx15 dX6_count_182 ?_
        refine R_geti C fl6_79 rfl cx15 dX6_count_185 ?_
        exact R_iret C hr dX6_count_188
      refine R_if (fun h16 => ?_) (fun h16 => ?_)
      · refine R_tsIn (off := 147) (t := 214) C dX6_count_67 h16 (by decide) ?_
        refine R_iconst C (-1) dX6_count_214 (by decide) ?_
        exact R_iret C hr dX6_count_215
      refine R_if (fun h17 => ?_) (fun h17 => ?_)
      · refine R_tsIn (off := 147) (t := 214) C dX6_count_67 h17 (by decide) ?_
        refine R_iconst C (-1) dX6_count_214 (by decide) ?_
        exact R_iret C hr dX6_count_215
      refine R_if (fun h18 => ?_) (fun h18 => ?_)
      · refine R_tsIn (off := 147) (t := 214) C dX6_count_67 h18 (by decide) ?_
        refine R_iconst C (-1) dX6_count_214 (by decide) ?_
        exact R_iret C hr dX6_count_215
      refine R_if (fun h19 => ?_) (fun h19 => ?_)
      · refine R_tsIn (off := 147) (t := 214) C dX6_count_67 h19 (by decide) ?_
        refine R_iconst C (-1) dX6_count_214 (by decide) ?_
        exact R_iret C hr dX6_count_215
      refine R_if (fun h20 => ?_) (fun h20 => ?_)
      · refine R_tsIn (off := 122) (t := 189) C dX6_count_67 h20 (by decide) ?_
        refine R_aload_n C 0 rfl dX6_count_189 ?_
        refine R_geti C fl6_308 rfl ha0 dX6_count_190 ?_
        exact R_iret C hr dX6_count_193
      refine R_if (fun h21 => ?_) (fun h21 => ?_)
      · refine R_tsIn (off := 127) (t := 194) C dX6_count_67 h21 (by decide) ?_
        refine R_aload_n C 0 rfl dX6_count_194 ?_
        refine R_geti C fl6_86 rfl ha0 dX6_count_195 ?_
        exact R_iret C hr dX6_count_198
      refine R_if (fun h22 => ?_) (fun h22 => ?_)
      · refine R_tsIn (off := 132) (t := 199) C dX6_count_67 h22 (by decide) ?_
        refine R_aload_n C 0 rfl dX6_count_199 ?_
        refine R_geti C fl6_57 rfl ha0 dX6_count_200 ?_
        exact R_iret C hr dX6_count_203
      refine R_if (fun h23 => ?_) (fun h23 => ?_)
      · refine R_tsIn (off := 137) (t := 204) C dX6_count_67 h23 (by decide) ?_
        refine R_aload_n C 0 rfl dX6_count_204 ?_
        refine R_dr (fun x24 rx24 cx24 => ?_)
        refine R_getr C fl6_16 rfl ha0 rx24 dX6_count_205 ?_
        refine R_dr (fun x25 rx25 cx25 => ?_)
        refine R_getr C fl6_103 rfl cx24 rx25 dX6_count_208 ?_
        refine R_iconst C (5) dX6_count_211 (by decide) ?_
        refine R_ck (fun h26 => ?_)
        refine R_iald C cx25 h26 dX6_count_212 ?_
        exact R_iret C hr dX6_count_213
      · refine R_tsOut (t := 214) C dX6_count_67 (by have ah1 := lv_neT (a := 0) h1 (by decide); have ah4 := lv_neT (a := 1) h4 (by decide); have ah9 := lv_neT (a := 2) h9 (by decide); have ah10 := lv_neT (a := 3) h10 (by decide); have ah11 := lv_neT (a := 4) h11 (by decide); have ah12 := lv_neT (a := 5) h12 (by decide); have ah13 := lv_neT (a := 6) h13 (by decide); have ah14 := lv_neT (a := 7) h14 (by decide); have ah16 := lv_neT (a := 8) h16 (by decide); have ah17 := lv_neT (a := 9) h17 (by decide); have ah18 := lv_neT (a := 10) h18 (by decide); have ah19 := lv_neT (a := 11) h19 (by decide); have ah20 := lv_neT (a := 12) h20 (by decide); have ah21 := lv_neT (a := 13) h21 (by decide); have ah22 := lv_neT (a := 14) h22 (by decide); have ah23 := lv_neT (a := 15) h23 (by decide); omega) (by decide) ?_
        refine R_iconst C (-1) dX6_count_214 (by decide) ?_
        exact R_iret C hr dX6_count_215
    · refine R_iload_n C 1 rfl dX6_count_29 ?_
      refine R_bipush C (11) dX6_count_30 (by decide) ?_
      refine B_icmp_gt C dX6_count_32 ?_ ?_
      · refine R_iload_n C 1 rfl dX6_count_66 ?_
        refine R_if (fun h27 => ?_) (fun h27 => ?_)
        · refine R_tsIn (off := 77) (t := 144) C dX6_count_67 h27 (by decide) ?_
          refine R_aload_n C 0 rfl dX6_count_144 ?_
          refine R_dr (fun x28 rx28 cx28 => ?_)
          refine R_getr C fl6_16 rfl ha0 rx28 dX6_count_145 ?_
          refine R_dr (fun x29 rx29 cx29 => ?_)
          refine R_getr C fl6_64 rfl cx28 rx29 dX6_count_148 ?_
          refine R_geti C fl6_68 rfl cx29 dX6_count_151 ?_
          exact R_iret C hr dX6_count_154
        refine R_if (fun h30 => ?_) (fun h30 => ?_)
        · refine R_tsIn (off := 88) (t := 155) C dX6_count_67 h30 (by decide) ?_
          refine R_aload_n C 0 rfl dX6_count_155 ?_
          refine R_dr (fun x31 rx31 cx31 => ?_)
          refine R_getr C fl6_16 rfl ha0 rx31 dX6_count_156 ?_
          refine R_geti C fl6_79 rfl cx31 dX6_count_159 ?_
          refine R_iconst C (1) dX6_count_162 (by decide) ?_
          refine R_bdK (fun (w : Int32) (s : Sg) => V κ G (QQ κ G E (some (.int r)) σ') E s (false, 0, 0) 180 [] [.int w]) (fun w32 s33 => ?_) (fun w32 s33 Kw32 => ?_)
          · exact R_iret C hr dX6_count_180
          · refine B_icmp_lt C dX6_count_163 ?_ ?_
            · refine R_iconst C (0) dX6_count_179 (by decide) ?_
              refine R_loc (lv2 := []) [] rfl ?_
              exact R_end (fun (w : Int32) (s : Sg) => V κ G (QQ κ G E (some (.int r)) σ') E s (false, 0, 0) 180 [] [.int w]) Kw32
            · refine R_aload_n C 0 rfl dX6_count_166 ?_
              refine R_getr C fl6_16 rfl ha0 rx31 dX6_count_167 ?_
              refine R_dr (fun x34 rx34 cx34 => ?_)
              refine R_getr C fl6_115 rfl cx31 rx34 dX6_count_170 ?_
              refine R_geti C fl6_119 rfl cx34 dX6_count_173 ?_
              refine R_goto C dX6_count_176 ?_
              refine R_loc (lv2 := []) [] rfl ?_
              exact R_end (fun (w : Int32) (s : Sg) => V κ G (QQ κ G E (some (.int r)) σ') E s (false, 0, 0) 180 [] [.int w]) Kw32
        refine R_if (fun h35 => ?_) (fun h35 => ?_)
        · refine R_tsIn (off := 147) (t := 214) C dX6_count_67 h35 (by decide) ?_
          refine R_iconst C (-1) dX6_count_214 (by decide) ?_
          exact R_iret C hr dX6_count_215
        refine R_if (fun h36 => ?_) (fun h36 => ?_)
        · refine R_tsIn (off := 147) (t := 214) C dX6_count_67 h36 (by decide) ?_
          refine R_iconst C (-1) dX6_count_214 (by decide) ?_
          exact R_iret C hr dX6_count_215
        refine R_if (fun h37 => ?_) (fun h37 => ?_)
        · refine R_tsIn (off := 147) (t := 214) C dX6_count_67 h37 (by decide) ?_
          refine R_iconst C (-1) dX6_count_214 (by decide) ?_
          exact R_iret C hr dX6_count_215
        refine R_if (fun h38 => ?_) (fun h38 => ?_)
        · refine R_tsIn (off := 147) (t := 214) C dX6_count_67 h38 (by decide) ?_
          refine R_iconst C (-1) dX6_count_214 (by decide) ?_
          exact R_iret C hr dX6_count_215
        refine R_if (fun h39 => ?_) (fun h39 => ?_)
        · refine R_tsIn (off := 147) (t := 214) C dX6_count_67 h39 (by decide) ?_
          refine R_iconst C (-1) dX6_count_214 (by decide) ?_
          exact R_iret C hr dX6_count_215
        refine R_if (fun h40 => ?_) (fun h40 => ?_)
        · refine R_tsIn (off := 114) (t := 181) C dX6_count_67 h40 (by decide) ?_
          refine R_aload_n C 0 rfl dX6_count_181 ?_
          refine R_dr (fun x41 rx41 cx41 => ?_)
          refine R_getr C fl6_16 rfl ha0 rx41 dX6_count_182 ?_
          refine R_geti C fl6_79 rfl cx41 dX6_count_185 ?_
          exact R_iret C hr dX6_count_188
        refine R_if (fun h42 => ?_) (fun h42 => ?_)
        · refine R_tsIn (off := 147) (t := 214) C dX6_count_67 h42 (by decide) ?_
          refine R_iconst C (-1) dX6_count_214 (by decide) ?_
          exact R_iret C hr dX6_count_215
        refine R_if (fun h43 => ?_) (fun h43 => ?_)
        · refine R_tsIn (off := 147) (t := 214) C dX6_count_67 h43 (by decide) ?_
          refine R_iconst C (-1) dX6_count_214 (by decide) ?_
          exact R_iret C hr dX6_count_215
        refine R_if (fun h44 => ?_) (fun h44 => ?_)
        · refine R_tsIn (off := 147) (t := 214) C dX6_count_67 h44 (by decide) ?_
          refine R_iconst C (-1) dX6_count_214 (by decide) ?_
          exact R_iret C hr dX6_count_215
        refine R_if (fun h45 => ?_) (fun h45 => ?_)
        · refine R_tsIn (off := 147) (t := 214) C dX6_count_67 h45 (by decide) ?_
          refine R_iconst C (-1) dX6_count_214 (by decide) ?_
          exact R_iret C hr dX6_count_215
        refine R_if (fun h46 => ?_) (fun h46 => ?_)
        · refine R_tsIn (off := 122) (t := 189) C dX6_count_67 h46 (by decide) ?_
          refine R_aload_n C 0 rfl dX6_count_189 ?_
          refine R_geti C fl6_308 rfl ha0 dX6_count_190 ?_
          exact R_iret C hr dX6_count_193
        refine R_if (fun h47 => ?_) (fun h47 => ?_)
        · refine R_tsIn (off := 127) (t := 194) C dX6_count_67 h47 (by decide) ?_
          refine R_aload_n C 0 rfl dX6_count_194 ?_
          refine R_geti C fl6_86 rfl ha0 dX6_count_195 ?_
          exact R_iret C hr dX6_count_198
        refine R_if (fun h48 => ?_) (fun h48 => ?_)
        · refine R_tsIn (off := 132) (t := 199) C dX6_count_67 h48 (by decide) ?_
          refine R_aload_n C 0 rfl dX6_count_199 ?_
          refine R_geti C fl6_57 rfl ha0 dX6_count_200 ?_
          exact R_iret C hr dX6_count_203
        refine R_if (fun h49 => ?_) (fun h49 => ?_)
        · refine R_tsIn (off := 137) (t := 204) C dX6_count_67 h49 (by decide) ?_
          refine R_aload_n C 0 rfl dX6_count_204 ?_
          refine R_dr (fun x50 rx50 cx50 => ?_)
          refine R_getr C fl6_16 rfl ha0 rx50 dX6_count_205 ?_
          refine R_dr (fun x51 rx51 cx51 => ?_)
          refine R_getr C fl6_103 rfl cx50 rx51 dX6_count_208 ?_
          refine R_iconst C (5) dX6_count_211 (by decide) ?_
          refine R_ck (fun h52 => ?_)
          refine R_iald C cx51 h52 dX6_count_212 ?_
          exact R_iret C hr dX6_count_213
        · refine R_tsOut (t := 214) C dX6_count_67 (by have ah27 := lv_neT (a := 0) h27 (by decide); have ah30 := lv_neT (a := 1) h30 (by decide); have ah35 := lv_neT (a := 2) h35 (by decide); have ah36 := lv_neT (a := 3) h36 (by decide); have ah37 := lv_neT (a := 4) h37 (by decide); have ah38 := lv_neT (a := 5) h38 (by decide); have ah39 := lv_neT (a := 6) h39 (by decide); have ah40 := lv_neT (a := 7) h40 (by decide); have ah42 := lv_neT (a := 8) h42 (by decide); have ah43 := lv_neT (a := 9) h43 (by decide); have ah44 := lv_neT (a := 10) h44 (by decide); have ah45 := lv_neT (a := 11) h45 (by decide); have ah46 := lv_neT (a := 12) h46 (by decide); have ah47 := lv_neT (a := 13) h47 (by decide); have ah48 := lv_neT (a := 14) h48 (by decide); have ah49 := lv_neT (a := 15) h49 (by decide); omega) (by decide) ?_
          refine R_iconst C (-1) dX6_count_214 (by decide) ?_
          exact R_iret C hr dX6_count_215
      · refine R_aload_n C 0 rfl dX6_count_35 ?_
        refine R_dr (fun x53 rx53 cx53 => ?_)
        refine R_getr C fl6_16 rfl ha0 rx53 dX6_count_36 ?_
        refine R_geti C fl6_79 rfl cx53 dX6_count_39 ?_
        refine R_iconst C (2) dX6_count_42 (by decide) ?_
        refine R_bdK (fun (w : Int32) (s : Sg) => V κ G (QQ κ G E (some (.int r)) σ') E s (false, 0, 0) 65 [] [.int w]) (fun w54 s55 => ?_) (fun w54 s55 Kw54 => ?_)
        · exact R_iret C hr dX6_count_65
        · refine B_icmp_lt C dX6_count_43 ?_ ?_
          · refine R_iconst C (0) dX6_count_64 (by decide) ?_
            refine R_loc (lv2 := []) [] rfl ?_
            exact R_end (fun (w : Int32) (s : Sg) => V κ G (QQ κ G E (some (.int r)) σ') E s (false, 0, 0) 65 [] [.int w]) Kw54
          · refine R_aload_n C 0 rfl dX6_count_46 ?_
            refine R_getr C fl6_16 rfl ha0 rx53 dX6_count_47 ?_
            refine R_dr (fun x56 rx56 cx56 => ?_)
            refine R_getr C fl6_129 rfl cx53 rx56 dX6_count_50 ?_
            refine R_dr (fun x57 rx57 cx57 => ?_)
            refine R_getr C fl6_132 rfl cx56 rx57 dX6_count_53 ?_
            refine R_iload_n C 1 rfl dX6_count_56 ?_
            refine R_bipush C (8) dX6_count_57 (by decide) ?_
            refine R_isub C dX6_count_59 ?_
            refine R_ck (fun h58 => ?_)
            refine R_iald C cx57 h58 dX6_count_60 ?_
            refine R_goto C dX6_count_61 ?_
            refine R_loc (lv2 := []) [] rfl ?_
            exact R_end (fun (w : Int32) (s : Sg) => V κ G (QQ κ G E (some (.int r)) σ') E s (false, 0, 0) 65 [] [.int w]) Kw54
  · refine R_iload_n C 1 rfl dX6_count_5 ?_
    refine R_bipush C (6) dX6_count_6 (by decide) ?_
    refine B_icmp_gt C dX6_count_8 ?_ ?_
    · refine R_iload_n C 1 rfl dX6_count_23 ?_
      refine R_bipush C (8) dX6_count_24 (by decide) ?_
      refine B_icmp_lt C dX6_count_26 ?_ ?_
      · refine R_iload_n C 1 rfl dX6_count_66 ?_
        refine R_if (fun h59 => ?_) (fun h59 => ?_)
        · refine R_tsIn (off := 77) (t := 144) C dX6_count_67 h59 (by decide) ?_
          refine R_aload_n C 0 rfl dX6_count_144 ?_
          refine R_dr (fun x60 rx60 cx60 => ?_)
          refine R_getr C fl6_16 rfl ha0 rx60 dX6_count_145 ?_
          refine R_dr (fun x61 rx61 cx61 => ?_)
          refine R_getr C fl6_64 rfl cx60 rx61 dX6_count_148 ?_
          refine R_geti C fl6_68 rfl cx61 dX6_count_151 ?_
          exact R_iret C hr dX6_count_154
        refine R_if (fun h62 => ?_) (fun h62 => ?_)
        · refine R_tsIn (off := 88) (t := 155) C dX6_count_67 h62 (by decide) ?_
          refine R_aload_n C 0 rfl dX6_count_155 ?_
          refine R_dr (fun x63 rx63 cx63 => ?_)
          refine R_getr C fl6_16 rfl ha0 rx63 dX6_count_156 ?_
          refine R_geti C fl6_79 rfl cx63 dX6_count_159 ?_
          refine R_iconst C (1) dX6_count_162 (by decide) ?_
          refine R_bdK (fun (w : Int32) (s : Sg) => V κ G (QQ κ G E (some (.int r)) σ') E s (false, 0, 0) 180 [] [.int w]) (fun w64 s65 => ?_) (fun w64 s65 Kw64 => ?_)
          · exact R_iret C hr dX6_count_180
          · refine B_icmp_lt C dX6_count_163 ?_ ?_
            · refine R_iconst C (0) dX6_count_179 (by decide) ?_
              refine R_loc (lv2 := []) [] rfl ?_
              exact R_end (fun (w : Int32) (s : Sg) => V κ G (QQ κ G E (some (.int r)) σ') E s (false, 0, 0) 180 [] [.int w]) Kw64
            · refine R_aload_n C 0 rfl dX6_count_166 ?_
              refine R_getr C fl6_16 rfl ha0 rx63 dX6_count_167 ?_
              refine R_dr (fun x66 rx66 cx66 => ?_)
              refine R_getr C fl6_115 rfl cx63 rx66 dX6_count_170 ?_
              refine R_geti C fl6_119 rfl cx66 dX6_count_173 ?_
              refine R_goto C dX6_count_176 ?_
              refine R_loc (lv2 := []) [] rfl ?_
              exact R_end (fun (w : Int32) (s : Sg) => V κ G (QQ κ G E (some (.int r)) σ') E s (false, 0, 0) 180 [] [.int w]) Kw64
        refine R_if (fun h67 => ?_) (fun h67 => ?_)
        · refine R_tsIn (off := 147) (t := 214) C dX6_count_67 h67 (by decide) ?_
          refine R_iconst C (-1) dX6_count_214 (by decide) ?_
          exact R_iret C hr dX6_count_215
        refine R_if (fun h68 => ?_) (fun h68 => ?_)
        · refine R_tsIn (off := 147) (t := 214) C dX6_count_67 h68 (by decide) ?_
          refine R_iconst C (-1) dX6_count_214 (by decide) ?_
          exact R_iret C hr dX6_count_215
        refine R_if (fun h69 => ?_) (fun h69 => ?_)
        · refine R_tsIn (off := 147) (t := 214) C dX6_count_67 h69 (by decide) ?_
          refine R_iconst C (-1) dX6_count_214 (by decide) ?_
          exact R_iret C hr dX6_count_215
        refine R_if (fun h70 => ?_) (fun h70 => ?_)
        · refine R_tsIn (off := 147) (t := 214) C dX6_count_67 h70 (by decide) ?_
          refine R_iconst C (-1) dX6_count_214 (by decide) ?_
          exact R_iret C hr dX6_count_215
        refine R_if (fun h71 => ?_) (fun h71 => ?_)
        · refine R_tsIn (off := 147) (t := 214) C dX6_count_67 h71 (by decide) ?_
          refine R_iconst C (-1) dX6_count_214 (by decide) ?_
          exact R_iret C hr dX6_count_215
        refine R_if (fun h72 => ?_) (fun h72 => ?_)
        · refine R_tsIn (off := 114) (t := 181) C dX6_count_67 h72 (by decide) ?_
          refine R_aload_n C 0 rfl dX6_count_181 ?_
          refine R_dr (fun x73 rx73 cx73 => ?_)
          refine R_getr C fl6_16 rfl ha0 rx73 dX6_count_182 ?_
          refine R_geti C fl6_79 rfl cx73 dX6_count_185 ?_
          exact R_iret C hr dX6_count_188
        refine R_if (fun h74 => ?_) (fun h74 => ?_)
        · refine R_tsIn (off := 147) (t := 214) C dX6_count_67 h74 (by decide) ?_
          refine R_iconst C (-1) dX6_count_214 (by decide) ?_
          exact R_iret C hr dX6_count_215
        refine R_if (fun h75 => ?_) (fun h75 => ?_)
        · refine R_tsIn (off := 147) (t := 214) C dX6_count_67 h75 (by decide) ?_
          refine R_iconst C (-1) dX6_count_214 (by decide) ?_
          exact R_iret C hr dX6_count_215
        refine R_if (fun h76 => ?_) (fun h76 => ?_)
        · refine R_tsIn (off := 147) (t := 214) C dX6_count_67 h76 (by decide) ?_
          refine R_iconst C (-1) dX6_count_214 (by decide) ?_
          exact R_iret C hr dX6_count_215
        refine R_if (fun h77 => ?_) (fun h77 => ?_)
        · refine R_tsIn (off := 147) (t := 214) C dX6_count_67 h77 (by decide) ?_
          refine R_iconst C (-1) dX6_count_214 (by decide) ?_
          exact R_iret C hr dX6_count_215
        refine R_if (fun h78 => ?_) (fun h78 => ?_)
        · refine R_tsIn (off := 122) (t := 189) C dX6_count_67 h78 (by decide) ?_
          refine R_aload_n C 0 rfl dX6_count_189 ?_
          refine R_geti C fl6_308 rfl ha0 dX6_count_190 ?_
          exact R_iret C hr dX6_count_193
        refine R_if (fun h79 => ?_) (fun h79 => ?_)
        · refine R_tsIn (off := 127) (t := 194) C dX6_count_67 h79 (by decide) ?_
          refine R_aload_n C 0 rfl dX6_count_194 ?_
          refine R_geti C fl6_86 rfl ha0 dX6_count_195 ?_
          exact R_iret C hr dX6_count_198
        refine R_if (fun h80 => ?_) (fun h80 => ?_)
        · refine R_tsIn (off := 132) (t := 199) C dX6_count_67 h80 (by decide) ?_
          refine R_aload_n C 0 rfl dX6_count_199 ?_
          refine R_geti C fl6_57 rfl ha0 dX6_count_200 ?_
          exact R_iret C hr dX6_count_203
        refine R_if (fun h81 => ?_) (fun h81 => ?_)
        · refine R_tsIn (off := 137) (t := 204) C dX6_count_67 h81 (by decide) ?_
          refine R_aload_n C 0 rfl dX6_count_204 ?_
          refine R_dr (fun x82 rx82 cx82 => ?_)
          refine R_getr C fl6_16 rfl ha0 rx82 dX6_count_205 ?_
          refine R_dr (fun x83 rx83 cx83 => ?_)
          refine R_getr C fl6_103 rfl cx82 rx83 dX6_count_208 ?_
          refine R_iconst C (5) dX6_count_211 (by decide) ?_
          refine R_ck (fun h84 => ?_)
          refine R_iald C cx83 h84 dX6_count_212 ?_
          exact R_iret C hr dX6_count_213
        · refine R_tsOut (t := 214) C dX6_count_67 (by have ah59 := lv_neT (a := 0) h59 (by decide); have ah62 := lv_neT (a := 1) h62 (by decide); have ah67 := lv_neT (a := 2) h67 (by decide); have ah68 := lv_neT (a := 3) h68 (by decide); have ah69 := lv_neT (a := 4) h69 (by decide); have ah70 := lv_neT (a := 5) h70 (by decide); have ah71 := lv_neT (a := 6) h71 (by decide); have ah72 := lv_neT (a := 7) h72 (by decide); have ah74 := lv_neT (a := 8) h74 (by decide); have ah75 := lv_neT (a := 9) h75 (by decide); have ah76 := lv_neT (a := 10) h76 (by decide); have ah77 := lv_neT (a := 11) h77 (by decide); have ah78 := lv_neT (a := 12) h78 (by decide); have ah79 := lv_neT (a := 13) h79 (by decide); have ah80 := lv_neT (a := 14) h80 (by decide); have ah81 := lv_neT (a := 15) h81 (by decide); omega) (by decide) ?_
          refine R_iconst C (-1) dX6_count_214 (by decide) ?_
          exact R_iret C hr dX6_count_215
      · refine R_iload_n C 1 rfl dX6_count_29 ?_
        refine R_bipush C (11) dX6_count_30 (by decide) ?_
        refine B_icmp_gt C dX6_count_32 ?_ ?_
        · refine R_iload_n C 1 rfl dX6_count_66 ?_
          refine R_if (fun h85 => ?_) (fun h85 => ?_)
          · refine R_tsIn (off := 77) (t := 144) C dX6_count_67 h85 (by decide) ?_
            refine R_aload_n C 0 rfl dX6_count_144 ?_
            refine R_dr (fun x86 rx86 cx86 => ?_)
            refine R_getr C fl6_16 rfl ha0 rx86 dX6_count_145 ?_
            refine R_dr (fun x87 rx87 cx87 => ?_)
            refine R_getr C fl6_64 rfl cx86 rx87 dX6_count_148 ?_
            refine R_geti C fl6_68 rfl cx87 dX6_count_151 ?_
            exact R_iret C hr dX6_count_154
          refine R_if (fun h88 => ?_) (fun h88 => ?_)
          · refine R_tsIn (off := 88) (t := 155) C dX6_count_67 h88 (by decide) ?_
            refine R_aload_n C 0 rfl dX6_count_155 ?_
            refine R_dr (fun x89 rx89 cx89 => ?_)
            refine R_getr C fl6_16 rfl ha0 rx89 dX6_count_156 ?_
            refine R_geti C fl6_79 rfl cx89 dX6_count_159 ?_
            refine R_iconst C (1) dX6_count_162 (by decide) ?_
            refine R_bdK (fun (w : Int32) (s : Sg) => V κ G (QQ κ G E (some (.int r)) σ') E s (false, 0, 0) 180 [] [.int w]) (fun w90 s91 => ?_) (fun w90 s91 Kw90 => ?_)
            · exact R_iret C hr dX6_count_180
            · refine B_icmp_lt C dX6_count_163 ?_ ?_
              · refine R_iconst C (0) dX6_count_179 (by decide) ?_
                refine R_loc (lv2 := []) [] rfl ?_
                exact R_end (fun (w : Int32) (s : Sg) => V κ G (QQ κ G E (some (.int r)) σ') E s (false, 0, 0) 180 [] [.int w]) Kw90
              · refine R_aload_n C 0 rfl dX6_count_166 ?_
                refine R_getr C fl6_16 rfl ha0 rx89 dX6_count_167 ?_
                refine R_dr (fun x92 rx92 cx92 => ?_)
                refine R_getr C fl6_115 rfl cx89 rx92 dX6_count_170 ?_
                refine R_geti C fl6_119 rfl cx92 dX6_count_173 ?_
                refine R_goto C dX6_count_176 ?_
                refine R_loc (lv2 := []) [] rfl ?_
                exact R_end (fun (w : Int32) (s : Sg) => V κ G (QQ κ G E (some (.int r)) σ') E s (false, 0, 0) 180 [] [.int w]) Kw90
          refine R_if (fun h93 => ?_) (fun h93 => ?_)
          · refine R_tsIn (off := 147) (t := 214) C dX6_count_67 h93 (by decide) ?_
            refine R_iconst C (-1) dX6_count_214 (by decide) ?_
            exact R_iret C hr dX6_count_215
          refine R_if (fun h94 => ?_) (fun h94 => ?_)
          · refine R_tsIn (off := 147) (t := 214) C dX6_count_67 h94 (by decide) ?_
            refine R_iconst C (-1) dX6_count_214 (by decide) ?_
            exact R_iret C hr dX6_count_215
          refine R_if (fun h95 => ?_) (fun h95 => ?_)
          · refine R_tsIn (off := 147) (t := 214) C dX6_count_67 h95 (by decide) ?_
            refine R_iconst C (-1) dX6_count_214 (by decide) ?_
            exact R_iret C hr dX6_count_215
          refine R_if (fun h96 => ?_) (fun h96 => ?_)
          · refine R_tsIn (off := 147) (t := 214) C dX6_count_67 h96 (by decide) ?_
            refine R_iconst C (-1) dX6_count_214 (by decide) ?_
            exact R_iret C hr dX6_count_215
          refine R_if (fun h97 => ?_) (fun h97 => ?_)
          · refine R_tsIn (off := 147) (t := 214) C dX6_count_67 h97 (by decide) ?_
            refine R_iconst C (-1) dX6_count_214 (by decide) ?_
            exact R_iret C hr dX6_count_215
          refine R_if (fun h98 => ?_) (fun h98 => ?_)
          · refine R_tsIn (off := 114) (t := 181) C dX6_count_67 h98 (by decide) ?_
            refine R_aload_n C 0 rfl dX6_count_181 ?_
            refine R_dr (fun x99 rx99 cx99 => ?_)
            refine R_getr C fl6_16 rfl ha0 rx99 dX6_count_182 ?_
            refine R_geti C fl6_79 rfl cx99 dX6_count_185 ?_
            exact R_iret C hr dX6_count_188
          refine R_if (fun h100 => ?_) (fun h100 => ?_)
          · refine R_tsIn (off := 147) (t := 214) C dX6_count_67 h100 (by decide) ?_
            refine R_iconst C (-1) dX6_count_214 (by decide) ?_
            exact R_iret C hr dX6_count_215
          refine R_if (fun h101 => ?_) (fun h101 => ?_)
          · refine R_tsIn (off := 147) (t := 214) C dX6_count_67 h101 (by decide) ?_
            refine R_iconst C (-1) dX6_count_214 (by decide) ?_
            exact R_iret C hr dX6_count_215
          refine R_if (fun h102 => ?_) (fun h102 => ?_)
          · refine R_tsIn (off := 147) (t := 214) C dX6_count_67 h102 (by decide) ?_
            refine R_iconst C (-1) dX6_count_214 (by decide) ?_
            exact R_iret C hr dX6_count_215
          refine R_if (fun h103 => ?_) (fun h103 => ?_)
          · refine R_tsIn (off := 147) (t := 214) C dX6_count_67 h103 (by decide) ?_
            refine R_iconst C (-1) dX6_count_214 (by decide) ?_
            exact R_iret C hr dX6_count_215
          refine R_if (fun h104 => ?_) (fun h104 => ?_)
          · refine R_tsIn (off := 122) (t := 189) C dX6_count_67 h104 (by decide) ?_
            refine R_aload_n C 0 rfl dX6_count_189 ?_
            refine R_geti C fl6_308 rfl ha0 dX6_count_190 ?_
            exact R_iret C hr dX6_count_193
          refine R_if (fun h105 => ?_) (fun h105 => ?_)
          · refine R_tsIn (off := 127) (t := 194) C dX6_count_67 h105 (by decide) ?_
            refine R_aload_n C 0 rfl dX6_count_194 ?_
            refine R_geti C fl6_86 rfl ha0 dX6_count_195 ?_
            exact R_iret C hr dX6_count_198
          refine R_if (fun h106 => ?_) (fun h106 => ?_)
          · refine R_tsIn (off := 132) (t := 199) C dX6_count_67 h106 (by decide) ?_
            refine R_aload_n C 0 rfl dX6_count_199 ?_
            refine R_geti C fl6_57 rfl ha0 dX6_count_200 ?_
            exact R_iret C hr dX6_count_203
          refine R_if (fun h107 => ?_) (fun h107 => ?_)
          · refine R_tsIn (off := 137) (t := 204) C dX6_count_67 h107 (by decide) ?_
            refine R_aload_n C 0 rfl dX6_count_204 ?_
            refine R_dr (fun x108 rx108 cx108 => ?_)
            refine R_getr C fl6_16 rfl ha0 rx108 dX6_count_205 ?_
            refine R_dr (fun x109 rx109 cx109 => ?_)
            refine R_getr C fl6_103 rfl cx108 rx109 dX6_count_208 ?_
            refine R_iconst C (5) dX6_count_211 (by decide) ?_
            refine R_ck (fun h110 => ?_)
            refine R_iald C cx109 h110 dX6_count_212 ?_
            exact R_iret C hr dX6_count_213
          · refine R_tsOut (t := 214) C dX6_count_67 (by have ah85 := lv_neT (a := 0) h85 (by decide); have ah88 := lv_neT (a := 1) h88 (by decide); have ah93 := lv_neT (a := 2) h93 (by decide); have ah94 := lv_neT (a := 3) h94 (by decide); have ah95 := lv_neT (a := 4) h95 (by decide); have ah96 := lv_neT (a := 5) h96 (by decide); have ah97 := lv_neT (a := 6) h97 (by decide); have ah98 := lv_neT (a := 7) h98 (by decide); have ah100 := lv_neT (a := 8) h100 (by decide); have ah101 := lv_neT (a := 9) h101 (by decide); have ah102 := lv_neT (a := 10) h102 (by decide); have ah103 := lv_neT (a := 11) h103 (by decide); have ah104 := lv_neT (a := 12) h104 (by decide); have ah105 := lv_neT (a := 13) h105 (by decide); have ah106 := lv_neT (a := 14) h106 (by decide); have ah107 := lv_neT (a := 15) h107 (by decide); omega) (by decide) ?_
            refine R_iconst C (-1) dX6_count_214 (by decide) ?_
            exact R_iret C hr dX6_count_215
        · refine R_aload_n C 0 rfl dX6_count_35 ?_
          refine R_dr (fun x111 rx111 cx111 => ?_)
          refine R_getr C fl6_16 rfl ha0 rx111 dX6_count_36 ?_
          refine R_geti C fl6_79 rfl cx111 dX6_count_39 ?_
          refine R_iconst C (2) dX6_count_42 (by decide) ?_
          refine R_bdK (fun (w : Int32) (s : Sg) => V κ G (QQ κ G E (some (.int r)) σ') E s (false, 0, 0) 65 [] [.int w]) (fun w112 s113 => ?_) (fun w112 s113 Kw112 => ?_)
          · exact R_iret C hr dX6_count_65
          · refine B_icmp_lt C dX6_count_43 ?_ ?_
            · refine R_iconst C (0) dX6_count_64 (by decide) ?_
              refine R_loc (lv2 := []) [] rfl ?_
              exact R_end (fun (w : Int32) (s : Sg) => V κ G (QQ κ G E (some (.int r)) σ') E s (false, 0, 0) 65 [] [.int w]) Kw112
            · refine R_aload_n C 0 rfl dX6_count_46 ?_
              refine R_getr C fl6_16 rfl ha0 rx111 dX6_count_47 ?_
              refine R_dr (fun x114 rx114 cx114 => ?_)
              refine R_getr C fl6_129 rfl cx111 rx114 dX6_count_50 ?_
              refine R_dr (fun x115 rx115 cx115 => ?_)
              refine R_getr C fl6_132 rfl cx114 rx115 dX6_count_53 ?_
              refine R_iload_n C 1 rfl dX6_count_56 ?_
              refine R_bipush C (8) dX6_count_57 (by decide) ?_
              refine R_isub C dX6_count_59 ?_
              refine R_ck (fun h116 => ?_)
              refine R_iald C cx115 h116 dX6_count_60 ?_
              refine R_goto C dX6_count_61 ?_
              refine R_loc (lv2 := []) [] rfl ?_
              exact R_end (fun (w : Int32) (s : Sg) => V κ G (QQ κ G E (some (.int r)) σ') E s (false, 0, 0) 65 [] [.int w]) Kw112
    · refine R_aload_n C 0 rfl dX6_count_11 ?_
      refine R_dr (fun x117 rx117 cx117 => ?_)
      refine R_getr C fl6_16 rfl ha0 rx117 dX6_count_12 ?_
      refine R_dr (fun x118 rx118 cx118 => ?_)
      refine R_getr C fl6_103 rfl cx117 rx118 dX6_count_15 ?_
      refine R_iload_n C 1 rfl dX6_count_18 ?_
      refine R_iconst C (2) dX6_count_19 (by decide) ?_
      refine R_isub C dX6_count_20 ?_
      refine R_ck (fun h119 => ?_)
      refine R_iald C cx118 h119 dX6_count_21 ?_
      exact R_iret C hr dX6_count_22
