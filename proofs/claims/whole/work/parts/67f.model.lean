theorem dX7_oftenOf_0 : dk cX7_oftenOf 0 1 (.iconst 0) 1 := by unfold dk; decide +kernel
theorem dX7_oftenOf_1 : dk cX7_oftenOf 1 2 (.istore_n 2) 1 := by unfold dk; decide +kernel
theorem dX7_oftenOf_2 : dk cX7_oftenOf 2 3 (.iconst 0) 1 := by unfold dk; decide +kernel
theorem dX7_oftenOf_3 : dk cX7_oftenOf 3 4 (.istore_n 3) 1 := by unfold dk; decide +kernel
theorem dX7_oftenOf_4 : dk cX7_oftenOf 4 5 (.iload_n 3) 1 := by unfold dk; decide +kernel
theorem dX7_oftenOf_5 : dk cX7_oftenOf 5 6 (.aload_n 0) 1 := by unfold dk; decide +kernel
theorem dX7_oftenOf_6 : dk cX7_oftenOf 6 9 (.invokevirtual 93) 3 := by unfold dk; decide +kernel
theorem dX7_oftenOf_12 : dk cX7_oftenOf 12 13 (.iload_n 2) 1 := by unfold dk; decide +kernel
theorem dX7_oftenOf_13 : dk cX7_oftenOf 13 14 (.aload_n 0) 1 := by unfold dk; decide +kernel
theorem dX7_oftenOf_14 : dk cX7_oftenOf 14 17 (.getfield 9) 3 := by unfold dk; decide +kernel
theorem dX7_oftenOf_17 : dk cX7_oftenOf 17 19 (.bipush 26) 2 := by unfold dk; decide +kernel
theorem dX7_oftenOf_19 : dk cX7_oftenOf 19 20 (.iload_n 3) 1 := by unfold dk; decide +kernel
theorem dX7_oftenOf_20 : dk cX7_oftenOf 20 21 (.iadd) 1 := by unfold dk; decide +kernel
theorem dX7_oftenOf_21 : dk cX7_oftenOf 21 22 (.iaload) 1 := by unfold dk; decide +kernel
theorem dX7_oftenOf_22 : dk cX7_oftenOf 22 23 (.iload_n 1) 1 := by unfold dk; decide +kernel
theorem dX7_oftenOf_23 : bk cX7_oftenOf 23 26 30 (.if_icmp .ne 7) (7) := by unfold bk; decide +kernel
theorem dX7_oftenOf_30 : dk cX7_oftenOf 30 31 (.iconst 0) 1 := by unfold dk; decide +kernel
theorem dX7_oftenOf_26 : dk cX7_oftenOf 26 27 (.iconst 1) 1 := by unfold dk; decide +kernel
theorem dX7_oftenOf_27 : bk cX7_oftenOf 27 30 31 (.goto 4) (4) := by unfold bk; decide +kernel
theorem dX7_oftenOf_31 : dk cX7_oftenOf 31 34 (.invokestatic 151) 3 := by unfold dk; decide +kernel
theorem dX7_oftenOf_34 : dk cX7_oftenOf 34 35 (.iadd) 1 := by unfold dk; decide +kernel
theorem dX7_oftenOf_35 : dk cX7_oftenOf 35 36 (.istore_n 2) 1 := by unfold dk; decide +kernel
theorem dX7_oftenOf_36 : dk cX7_oftenOf 36 39 (.iinc 3 1) 3 := by unfold dk; decide +kernel
theorem dX7_oftenOf_39 : bk cX7_oftenOf 39 42 4 (.goto (-35)) (-35) := by unfold bk; decide +kernel
theorem dX7_oftenOf_9 : bk cX7_oftenOf 9 12 42 (.if_icmp .ge 33) (33) := by unfold bk; decide +kernel
theorem dX7_oftenOf_42 : dk cX7_oftenOf 42 43 (.iload_n 2) 1 := by unfold dk; decide +kernel
theorem dX7_oftenOf_43 : dk cX7_oftenOf 43 44 (.ireturn) 1 := by unfold dk; decide +kernel
set_option maxHeartbeats 4000000 in
set_option maxRecDepth 100000 in
theorem kX7_oftenOf {l : Launch} {G : Gl} {E : En} {a0 : Nat} {a1 : Int32} {σ σ' : Sg} {r : Int32} : fX7_oftenOf E a0 a1 σ = some (r, σ') → CT l yX7_oftenOf cX7_oftenOf 4 (some .int) ({ frames := 1, cells := 0, slots := 0, locals := 20 } : Room) [.ref (G.1 + a0), .int a1] G E σ (some (.int r)) σ' := by
  intro h
  refine CT_of (lv0 := [(0, .ref (G.1 + a0)), (1, .int a1)]) (by decide) (Nat.le_of_ble_eq_true rfl) rfl (fun κ hl hR hr C => ?_)
  have C : Cx κ G cX7_oftenOf RX7 4 := C
  revert h
  unfold fX7_oftenOf
  refine R_tk (fun ha0 => ?_)
  refine R_iconst C (0) dX7_oftenOf_0 (by decide) ?_
  refine R_istore_n (lv2 := [(2, .int (0 : Int32)), (0, .ref (G.1 + a0)), (1, .int a1)]) C dX7_oftenOf_1 rfl (by decide) rfl ?_
  refine R_iconst C (0) dX7_oftenOf_2 (by decide) ?_
  refine R_istore_n (lv2 := [(3, .int (0 : Int32)), (2, .int (0 : Int32)), (0, .ref (G.1 + a0)), (1, .int a1)]) C dX7_oftenOf_3 rfl (by decide) rfl ?_
  refine R_loc (lv2 := [(0, .ref (G.1 + a0)), (1, .int a1), (2, .int (0 : Int32)), (3, .int (0 : Int32))]) [2, 3, 1, 0] rfl ?_
  refine R_loop (fun (a : (Int32 × Int32) × Sg) => V κ G (QQ κ G E (some (.int r)) σ') E a.2 (false, 0, 0) 4 [(0, .ref (G.1 + a0)), (1, .int a1), (2, .int a.1.1), (3, .int a.1.2)] []) (fun (o : (Int32 × Int32)) (s : Sg) => V κ G (QQ κ G E (some (.int r)) σ') E s (false, 0, 0) 42 [(2, .int o.1)] []) (((0 : Int32), (0 : Int32)), σ) (fun o20 s21 => ?_) (fun rec I7 a b5 s6 K4 => ?_)
  · refine R_iload_n C 0 rfl dX7_oftenOf_42 ?_
    exact R_iret C hr dX7_oftenOf_43
  · obtain ⟨⟨v1, v2⟩, s3⟩ := a
    show bX7_oftenOf_4 E a0 a1 (fun u0 u1 t => rec ((u0, u1), t)) v1 v2 s3 = some (b5, s6) → V κ G (QQ κ G E (some (.int r)) σ') E s3 (false, 0, 0) 4 [(0, .ref (G.1 + a0)), (1, .int a1), (2, .int v1), (3, .int v2)] []
    unfold bX7_oftenOf_4
    refine R_iload_n C 3 rfl dX7_oftenOf_4 ?_
    refine R_aload_n C 0 rfl dX7_oftenOf_5 ?_
    refine R_bd (fun r10 s8 q9 => ?_)
    refine R_callVi [] [.int v2] C ml7_93 (kX7_many q9) (by rw [hR]; exact ⟨rfl, rfl, Nat.le_of_ble_eq_true rfl, Nat.le_of_ble_eq_true rfl, Nat.zero_le _, Nat.zero_le _⟩) ha0 rfl rfl (Nat.le_of_ble_eq_true rfl) dX7_oftenOf_6 ?_
    refine B_icmp_ge C dX7_oftenOf_9 ?_ ?_
    · refine R_loc (lv2 := [(2, .int v1)]) [2] rfl ?_
      exact R_end (fun (o : (Int32 × Int32)) (s : Sg) => V κ G (QQ κ G E (some (.int r)) σ') E s (false, 0, 0) 42 [(2, .int o.1)] []) K4
    · refine R_iload_n C 2 rfl dX7_oftenOf_12 ?_
      refine R_aload_n C 0 rfl dX7_oftenOf_13 ?_
      refine R_dr (fun x11 rx11 cx11 => ?_)
      refine R_getr C fl7_9 rfl ha0 rx11 dX7_oftenOf_14 ?_
      refine R_bipush C (26) dX7_oftenOf_17 (by decide) ?_
      refine R_iload_n C 3 rfl dX7_oftenOf_19 ?_
      refine R_iadd C dX7_oftenOf_20 ?_
      refine R_ck (fun h12 => ?_)
      refine R_iald C cx11 h12 dX7_oftenOf_21 ?_
      refine R_iload_n C 1 rfl dX7_oftenOf_22 ?_
      refine R_bdK (fun (w : Int32) (s : Sg) => V κ G (QQ κ G E (some (.int r)) σ') E s (false, 0, 0) 31 [(0, .ref (G.1 + a0)), (1, .int a1), (3, .int v2)] [.int w, .int v1]) (fun w13 s14 => ?_) (fun w13 s14 Kw13 => ?_)
      · refine R_bd (fun r17 s15 q16 => ?_)
        refine R_callSi [.int w13] [.int v1] C ml7_151 (kX7_truth q16) (by rw [hR]; exact ⟨rfl, rfl, Nat.le_of_ble_eq_true rfl, Nat.le_of_ble_eq_true rfl, Nat.zero_le _, Nat.zero_le _⟩) rfl rfl (Nat.le_of_ble_eq_true rfl) dX7_oftenOf_31 ?_
        refine R_iadd C dX7_oftenOf_34 ?_
        refine S_istore_n C dX7_oftenOf_35 rfl (fun v18 => [(2, .int v18), (0, .ref (G.1 + a0)), (1, .int a1), (3, .int v2)]) (by decide) (fun _ => rfl) (fun v18 => ?_)
        refine S_iinc (fun v19 => [(3, .int v19), (2, .int v18), (0, .ref (G.1 + a0)), (1, .int a1)]) 3 C dX7_oftenOf_36 rfl (by decide) (by decide) (fun _ => rfl) (fun v19 => ?_)
        refine R_goto C dX7_oftenOf_39 ?_
        refine R_loc (lv2 := [(0, .ref (G.1 + a0)), (1, .int a1), (2, .int v18), (3, .int v19)]) [2, 3, 1, 0] rfl ?_
        exact I7 ((v18, v19), s15) b5 s6 K4
      · refine B_icmp_ne C dX7_oftenOf_23 ?_ ?_
        · refine R_iconst C (0) dX7_oftenOf_30 (by decide) ?_
          refine R_loc (lv2 := [(0, .ref (G.1 + a0)), (1, .int a1), (3, .int v2)]) [0, 1, 3] rfl ?_
          exact R_end (fun (w : Int32) (s : Sg) => V κ G (QQ κ G E (some (.int r)) σ') E s (false, 0, 0) 31 [(0, .ref (G.1 + a0)), (1, .int a1), (3, .int v2)] [.int w, .int v1]) Kw13
        · refine R_iconst C (1) dX7_oftenOf_26 (by decide) ?_
          refine R_goto C dX7_oftenOf_27 ?_
          refine R_loc (lv2 := [(0, .ref (G.1 + a0)), (1, .int a1), (3, .int v2)]) [0, 1, 3] rfl ?_
          exact R_end (fun (w : Int32) (s : Sg) => V κ G (QQ κ G E (some (.int r)) σ') E s (false, 0, 0) 31 [(0, .ref (G.1 + a0)), (1, .int a1), (3, .int v2)] [.int w, .int v1]) Kw13
theorem dX7_key_0 : dk cX7_key 0 1 (.iload_n 1) 1 := by unfold dk; decide +kernel
theorem dX7_key_1 : dk cX7_key 1 2 (.iconst 0) 1 := by unfold dk; decide +kernel
theorem dX7_key_2 : dk cX7_key 2 5 (.sipush 255) 3 := by unfold dk; decide +kernel
theorem dX7_key_5 : dk cX7_key 5 8 (.invokestatic 116) 3 := by unfold dk; decide +kernel
theorem dX7_key_20 : dk cX7_key 20 21 (.iconst (-1)) 1 := by unfold dk; decide +kernel
theorem dX7_key_21 : dk cX7_key 21 22 (.ireturn) 1 := by unfold dk; decide +kernel
theorem dX7_key_11 : dk cX7_key 11 12 (.iload_n 2) 1 := by unfold dk; decide +kernel
theorem dX7_key_12 : dk cX7_key 12 13 (.iconst 0) 1 := by unfold dk; decide +kernel
theorem dX7_key_13 : dk cX7_key 13 14 (.iconst 2) 1 := by unfold dk; decide +kernel
theorem dX7_key_14 : dk cX7_key 14 17 (.invokestatic 116) 3 := by unfold dk; decide +kernel
theorem dX7_key_22 : dk cX7_key 22 24 (.bipush (-2)) 2 := by unfold dk; decide +kernel
theorem dX7_key_24 : dk cX7_key 24 25 (.istore_n 3) 1 := by unfold dk; decide +kernel
theorem dX7_key_25 : dk cX7_key 25 27 (.bipush (-2)) 2 := by unfold dk; decide +kernel
theorem dX7_key_27 : dk cX7_key 27 29 (.istore 4) 2 := by unfold dk; decide +kernel
theorem dX7_key_29 : dk cX7_key 29 30 (.iconst 0) 1 := by unfold dk; decide +kernel
theorem dX7_key_30 : dk cX7_key 30 32 (.istore 5) 2 := by unfold dk; decide +kernel
theorem dX7_key_32 : dk cX7_key 32 34 (.iload 5) 2 := by unfold dk; decide +kernel
theorem dX7_key_34 : dk cX7_key 34 35 (.aload_n 0) 1 := by unfold dk; decide +kernel
theorem dX7_key_35 : dk cX7_key 35 38 (.invokevirtual 93) 3 := by unfold dk; decide +kernel
theorem dX7_key_41 : dk cX7_key 41 42 (.aload_n 0) 1 := by unfold dk; decide +kernel
theorem dX7_key_42 : dk cX7_key 42 45 (.getfield 9) 3 := by unfold dk; decide +kernel
theorem dX7_key_45 : dk cX7_key 45 47 (.bipush 26) 2 := by unfold dk; decide +kernel
theorem dX7_key_47 : dk cX7_key 47 49 (.iload 5) 2 := by unfold dk; decide +kernel
theorem dX7_key_49 : dk cX7_key 49 50 (.iadd) 1 := by unfold dk; decide +kernel
theorem dX7_key_50 : dk cX7_key 50 51 (.iaload) 1 := by unfold dk; decide +kernel
theorem dX7_key_51 : dk cX7_key 51 52 (.iload_n 1) 1 := by unfold dk; decide +kernel
theorem dX7_key_52 : bk cX7_key 52 55 72 (.if_icmp .ne 20) (20) := by unfold bk; decide +kernel
theorem dX7_key_55 : dk cX7_key 55 56 (.iload_n 3) 1 := by unfold dk; decide +kernel
theorem dX7_key_56 : dk cX7_key 56 58 (.bipush (-2)) 2 := by unfold dk; decide +kernel
theorem dX7_key_58 : bk cX7_key 58 61 66 (.if_icmp .ne 8) (8) := by unfold bk; decide +kernel
theorem dX7_key_66 : dk cX7_key 66 67 (.iload_n 3) 1 := by unfold dk; decide +kernel
theorem dX7_key_61 : dk cX7_key 61 63 (.iload 5) 2 := by unfold dk; decide +kernel
theorem dX7_key_63 : bk cX7_key 63 66 67 (.goto 4) (4) := by unfold bk; decide +kernel
theorem dX7_key_67 : dk cX7_key 67 68 (.istore_n 3) 1 := by unfold dk; decide +kernel
theorem dX7_key_68 : dk cX7_key 68 70 (.iload 5) 2 := by unfold dk; decide +kernel
theorem dX7_key_70 : dk cX7_key 70 72 (.istore 4) 2 := by unfold dk; decide +kernel
theorem dX7_key_72 : dk cX7_key 72 75 (.iinc 5 1) 3 := by unfold dk; decide +kernel
theorem dX7_key_75 : bk cX7_key 75 78 32 (.goto (-43)) (-43) := by unfold bk; decide +kernel
theorem dX7_key_38 : bk cX7_key 38 41 78 (.if_icmp .ge 40) (40) := by unfold bk; decide +kernel
theorem dX7_key_78 : dk cX7_key 78 79 (.iload_n 2) 1 := by unfold dk; decide +kernel
theorem dX7_key_79 : bk cX7_key 79 82 90 (.ifCond .ne 11) (11) := by unfold bk; decide +kernel
theorem dX7_key_90 : dk cX7_key 90 91 (.iload_n 2) 1 := by unfold dk; decide +kernel
theorem dX7_key_91 : dk cX7_key 91 92 (.iconst 1) 1 := by unfold dk; decide +kernel
theorem dX7_key_99 : dk cX7_key 99 101 (.iload 4) 2 := by unfold dk; decide +kernel
theorem dX7_key_95 : dk cX7_key 95 96 (.iload_n 3) 1 := by unfold dk; decide +kernel
theorem dX7_key_96 : bk cX7_key 96 99 101 (.goto 5) (5) := by unfold bk; decide +kernel
theorem dX7_key_92 : bk cX7_key 92 95 99 (.if_icmp .ne 7) (7) := by unfold bk; decide +kernel
theorem dX7_key_82 : dk cX7_key 82 83 (.aload_n 0) 1 := by unfold dk; decide +kernel
theorem dX7_key_83 : dk cX7_key 83 84 (.iload_n 1) 1 := by unfold dk; decide +kernel
theorem dX7_key_84 : dk cX7_key 84 87 (.invokevirtual 306) 3 := by unfold dk; decide +kernel
theorem dX7_key_87 : bk cX7_key 87 90 101 (.goto 14) (14) := by unfold bk; decide +kernel
theorem dX7_key_101 : dk cX7_key 101 102 (.ireturn) 1 := by unfold dk; decide +kernel
theorem dX7_key_17 : bk cX7_key 17 20 22 (.ifCond .ne 5) (5) := by unfold bk; decide +kernel
theorem dX7_key_8 : bk cX7_key 8 11 20 (.ifCond .eq 12) (12) := by unfold bk; decide +kernel
set_option maxHeartbeats 4000000 in
set_option maxRecDepth 100000 in
theorem kX7_key {l : Launch} {G : Gl} {E : En} {a0 : Nat} {a1 : Int32} {a2 : Int32} {σ σ' : Sg} {r : Int32} : fX7_key E a0 a1 a2 σ = some (r, σ') → CT l yX7_key cX7_key 6 (some .int) ({ frames := 2, cells := 0, slots := 0, locals := 43 } : Room) [.ref (G.1 + a0), .int a1, .int a2] G E σ (some (.int r)) σ' := by
  intro h
  refine CT_of (lv0 := [(0, .ref (G.1 + a0)), (1, .int a1), (2, .int a2)]) (by decide) (Nat.le_of_ble_eq_true rfl) rfl (fun κ hl hR hr C => ?_)
  have C : Cx κ G cX7_key RX7 6 := C
  revert h
  unfold fX7_key
  refine R_tk (fun ha0 => ?_)
  refine R_iload_n C 1 rfl dX7_key_0 ?_
  refine R_iconst C (0) dX7_key_1 (by decide) ?_
  refine R_sipush C (255) dX7_key_2 (by decide) ?_
  refine R_bd (fun r3 s1 q2 => ?_)
  refine R_callSi [.int a1, .int (0 : Int32), .int (255 : Int32)] [] C ml7_116 (kX7_in q2) (by rw [hR]; exact ⟨rfl, rfl, Nat.le_of_ble_eq_true rfl, Nat.le_of_ble_eq_true rfl, Nat.zero_le _, Nat.zero_le _⟩) rfl rfl (Nat.le_of_ble_eq_true rfl) dX7_key_5 ?_
  refine B_if_eq C dX7_key_8 ?_ ?_
  · refine R_iconst C (-1) dX7_key_20 (by decide) ?_
    exact R_iret C hr dX7_key_21
  · refine R_iload_n C 2 rfl dX7_key_11 ?_
    refine R_iconst C (0) dX7_key_12 (by decide) ?_
    refine R_iconst C (2) dX7_key_13 (by decide) ?_
    refine R_bd (fun r6 s4 q5 => ?_)
    refine R_callSi [.int a2, .int (0 : Int32), .int (2 : Int32)] [] C ml7_116 (kX7_in q5) (by rw [hR]; exact ⟨rfl, rfl, Nat.le_of_ble_eq_true rfl, Nat.le_of_ble_eq_true rfl, Nat.zero_le _, Nat.zero_le _⟩) rfl rfl (Nat.le_of_ble_eq_true rfl) dX7_key_14 ?_
    refine B_if_ne C dX7_key_17 ?_ ?_
    · refine R_bipush C (-2) dX7_key_22 (by decide) ?_
      refine R_istore_n (lv2 := [(3, .int (-2 : Int32)), (0, .ref (G.1 + a0)), (1, .int a1), (2, .int a2)]) C dX7_key_24 rfl (by decide) rfl ?_
      refine R_bipush C (-2) dX7_key_25 (by decide) ?_
      refine R_istore (lv2 := [(4, .int (-2 : Int32)), (3, .int (-2 : Int32)), (0, .ref (G.1 + a0)), (1, .int a1), (2, .int a2)]) C dX7_key_27 (by decide) rfl ?_
      refine R_iconst C (0) dX7_key_29 (by decide) ?_
      refine R_istore (lv2 := [(5, .int (0 : Int32)), (4, .int (-2 : Int32)), (3, .int (-2 : Int32)), (0, .ref (G.1 + a0)), (1, .int a1), (2, .int a2)]) C dX7_key_30 (by decide) rfl ?_
      refine R_loc (lv2 := [(0, .ref (G.1 + a0)), (1, .int a1), (2, .int a2), (3, .int (-2 : Int32)), (4, .int (-2 : Int32)), (5, .int (0 : Int32))]) [3, 4, 5, 2, 1, 0] rfl ?_
      refine R_loop (fun (a : (Int32 × Int32 × Int32) × Sg) => V κ G (QQ κ G E (some (.int r)) σ') E a.2 (false, 0, 0) 32 [(0, .ref (G.1 + a0)), (1, .int a1), (2, .int a2), (3, .int a.1.1), (4, .int a.1.2.1), (5, .int a.1.2.2)] []) (fun (o : (Int32 × Int32 × Int32)) (s : Sg) => V κ G (QQ κ G E (some (.int r)) σ') E s (false, 0, 0) 78 [(0, .ref (G.1 + a0)), (1, .int a1), (2, .int a2), (3, .int o.1), (4, .int o.2.1)] []) (((-2 : Int32), (-2 : Int32), (0 : Int32)), s4) (fun o25 s26 => ?_) (fun rec I14 a b12 s13 K11 => ?_)
      · refine R_iload_n C 2 rfl dX7_key_78 ?_
        refine R_bdK (fun (w : Int32) (s : Sg) => V κ G (QQ κ G E (some (.int r)) σ') E s (false, 0, 0) 101 [] [.int w]) (fun w27 s28 => ?_) (fun w27 s28 Kw27 => ?_)
        · exact R_iret C hr dX7_key_101
        · refine B_if_ne C dX7_key_79 ?_ ?_
          · refine R_iload_n C 2 rfl dX7_key_90 ?_
            refine R_iconst C (1) dX7_key_91 (by decide) ?_
            refine B_icmp_ne C dX7_key_92 ?_ ?_
            · refine R_iload C 4 rfl dX7_key_99 ?_
              refine R_loc (lv2 := []) [] rfl ?_
              exact R_end (fun (w : Int32) (s : Sg) => V κ G (QQ κ G E (some (.int r)) σ') E s (false, 0, 0) 101 [] [.int w]) Kw27
            · refine R_iload_n C 3 rfl dX7_key_95 ?_
              refine R_goto C dX7_key_96 ?_
              refine R_loc (lv2 := []) [] rfl ?_
              exact R_end (fun (w : Int32) (s : Sg) => V κ G (QQ κ G E (some (.int r)) σ') E s (false, 0, 0) 101 [] [.int w]) Kw27
          · refine R_aload_n C 0 rfl dX7_key_82 ?_
            refine R_iload_n C 1 rfl dX7_key_83 ?_
            refine R_bd (fun r31 s29 q30 => ?_)
            refine R_callVi [.int a1] [] C ml7_306 (kX7_oftenOf q30) (by rw [hR]; exact ⟨rfl, rfl, Nat.le_of_ble_eq_true rfl, Nat.le_of_ble_eq_true rfl, Nat.zero_le _, Nat.zero_le _⟩) ha0 rfl rfl (Nat.le_of_ble_eq_true rfl) dX7_key_84 ?_
            refine R_goto C dX7_key_87 ?_
            refine R_loc (lv2 := []) [] rfl ?_
            exact R_end (fun (w : Int32) (s : Sg) => V κ G (QQ κ G E (some (.int r)) σ') E s (false, 0, 0) 101 [] [.int w]) Kw27
      · obtain ⟨⟨v7, v8, v9⟩, s10⟩ := a
        show bX7_key_32 E a0 a1 (fun u0 u1 u2 t => rec ((u0, u1, u2), t)) v7 v8 v9 s10 = some (b12, s13) → V κ G (QQ κ G E (some (.int r)) σ') E s10 (false, 0, 0) 32 [(0, .ref (G.1 + a0)), (1, .int a1), (2, .int a2), (3, .int v7), (4, .int v8), (5, .int v9)] []
        unfold bX7_key_32
        refine R_iload C 5 rfl dX7_key_32 ?_
        refine R_aload_n C 0 rfl dX7_key_34 ?_
        refine R_bd (fun r17 s15 q16 => ?_)
        refine R_callVi [] [.int v9] C ml7_93 (kX7_many q16) (by rw [hR]; exact ⟨rfl, rfl, Nat.le_of_ble_eq_true rfl, Nat.le_of_ble_eq_true rfl, Nat.zero_le _, Nat.zero_le _⟩) ha0 rfl rfl (Nat.le_of_ble_eq_true rfl) dX7_key_35 ?_
        refine B_icmp_ge C dX7_key_38 ?_ ?_
        · refine R_loc (lv2 := [(0, .ref (G.1 + a0)), (1, .int a1), (2, .int a2), (3, .int v7), (4, .int v8)]) [0, 1, 2, 3, 4] rfl ?_
          exact R_end (fun (o : (Int32 × Int32 × Int32)) (s : Sg) => V κ G (QQ κ G E (some (.int r)) σ') E s (false, 0, 0) 78 [(0, .ref (G.1 + a0)), (1, .int a1), (2, .int a2), (3, .int o.1), (4, .int o.2.1)] []) K11
        · refine R_aload_n C 0 rfl dX7_key_41 ?_
          refine R_dr (fun x18 rx18 cx18 => ?_)
          refine R_getr C fl7_9 rfl ha0 rx18 dX7_key_42 ?_
          refine R_bipush C (26) dX7_key_45 (by decide) ?_
          refine R_iload C 5 rfl dX7_key_47 ?_
          refine R_iadd C dX7_key_49 ?_
          refine R_ck (fun h19 => ?_)
          refine R_iald C cx18 h19 dX7_key_50 ?_
          refine R_iload_n C 1 rfl dX7_key_51 ?_
          refine R_bdK (fun (w : Int32 × Int32) (s : Sg) => V κ G (QQ κ G E (some (.int r)) σ') E s (false, 0, 0) 72 [(0, .ref (G.1 + a0)), (1, .int a1), (2, .int a2), (5, .int v9), (3, .int w.1), (4, .int w.2)] []) (fun w20 s21 => ?_) (fun w20 s21 Kw20 => ?_)
          · refine S_iinc (fun v24 => [(5, .int v24), (0, .ref (G.1 + a0)), (1, .int a1), (2, .int a2), (3, .int w20.1), (4, .int w20.2)]) 3 C dX7_key_72 rfl (by decide) (by decide) (fun _ => rfl) (fun v24 => ?_)
            refine R_goto C dX7_key_75 ?_
            refine R_loc (lv2 := [(0, .ref (G.1 + a0)), (1, .int a1), (2, .int a2), (3, .int w20.1), (4, .int w20.2), (5, .int v24)]) [1, 2, 3, 4, 5, 0] rfl ?_
            exact I14 ((w20.1, w20.2, v24), s21) b12 s13 K11
          · refine B_icmp_ne C dX7_key_52 ?_ ?_
            · refine R_loc (lv2 := [(0, .ref (G.1 + a0)), (1, .int a1), (2, .int a2), (5, .int v9), (3, .int v7), (4, .int v8)]) [0, 1, 2, 5, 3, 4] rfl ?_
              exact R_end (fun (w : Int32 × Int32) (s : Sg) => V κ G (QQ κ G E (some (.int r)) σ') E s (false, 0, 0) 72 [(0, .ref (G.1 + a0)), (1, .int a1), (2, .int a2), (5, .int v9), (3, .int w.1), (4, .int w.2)] []) Kw20
            · refine R_iload_n C 3 rfl dX7_key_55 ?_
              refine R_bipush C (-2) dX7_key_56 (by decide) ?_
              refine R_bdK (fun (w : Int32) (s : Sg) => V κ G (QQ κ G E (some (.int r)) σ') E s (false, 0, 0) 67 [(0, .ref (G.1 + a0)), (1, .int a1), (2, .int a2), (5, .int v9)] [.int w]) (fun w22 s23 => ?_) (fun w22 s23 Kw22 => ?_)
              · refine R_istore_n (lv2 := [(3, .int w22), (0, .ref (G.1 + a0)), (1, .int a1), (2, .int a2), (5, .int v9)]) C dX7_key_67 rfl (by decide) rfl ?_
                refine R_iload C 4 rfl dX7_key_68 ?_
                refine R_istore (lv2 := [(4, .int v9), (3, .int w22), (0, .ref (G.1 + a0)), (1, .int a1), (2, .int a2), (5, .int v9)]) C dX7_key_70 (by decide) rfl ?_
                refine R_loc (lv2 := [(0, .ref (G.1 + a0)), (1, .int a1), (2, .int a2), (5, .int v9), (3, .int w22), (4, .int v9)]) [2, 3, 4, 5, 1, 0] rfl ?_
                exact R_end (fun (w : Int32 × Int32) (s : Sg) => V κ G (QQ κ G E (some (.int r)) σ') E s (false, 0, 0) 72 [(0, .ref (G.1 + a0)), (1, .int a1), (2, .int a2), (5, .int v9), (3, .int w.1), (4, .int w.2)] []) Kw20
              · refine B_icmp_ne C dX7_key_58 ?_ ?_
                · refine R_iload_n C 3 rfl dX7_key_66 ?_
                  refine R_loc (lv2 := [(0, .ref (G.1 + a0)), (1, .int a1), (2, .int a2), (5, .int v9)]) [0, 1, 2, 5] rfl ?_
                  exact R_end (fun (w : Int32) (s : Sg) => V κ G (QQ κ G E (some (.int r)) σ') E s (false, 0, 0) 67 [(0, .ref (G.1 + a0)), (1, .int a1), (2, .int a2), (5, .int v9)] [.int w]) Kw22
                · refine R_iload C 5 rfl dX7_key_61 ?_
                  refine R_goto C dX7_key_63 ?_
                  refine R_loc (lv2 := [(0, .ref (G.1 + a0)), (1, .int a1), (2, .int a2), (5, .int v9)]) [0, 1, 2, 5] rfl ?_
                  exact R_end (fun (w : Int32) (s : Sg) => V κ G (QQ κ G E (some (.int r)) σ') E s (false, 0, 0) 67 [(0, .ref (G.1 + a0)), (1, .int a1), (2, .int a2), (5, .int v9)] [.int w]) Kw22
    · refine R_iconst C (-1) dX7_key_20 (by decide) ?_
      exact R_iret C hr dX7_key_21
theorem dX7_keys_0 : dk cX7_keys 0 1 (.iload_n 1) 1 := by unfold dk; decide +kernel
theorem dX7_keys_1 : dk cX7_keys 1 2 (.iconst 0) 1 := by unfold dk; decide +kernel
theorem dX7_keys_2 : dk cX7_keys 2 3 (.iconst 2) 1 := by unfold dk; decide +kernel
theorem dX7_keys_3 : dk cX7_keys 3 6 (.invokestatic 116) 3 := by unfold dk; decide +kernel
theorem dX7_keys_11 : dk cX7_keys 11 12 (.iconst 0) 1 := by unfold dk; decide +kernel
theorem dX7_keys_12 : dk cX7_keys 12 13 (.istore_n 2) 1 := by unfold dk; decide +kernel
theorem dX7_keys_13 : dk cX7_keys 13 14 (.iconst (-1)) 1 := by unfold dk; decide +kernel
theorem dX7_keys_14 : dk cX7_keys 14 15 (.istore_n 3) 1 := by unfold dk; decide +kernel
theorem dX7_keys_15 : dk cX7_keys 15 16 (.iconst 0) 1 := by unfold dk; decide +kernel
theorem dX7_keys_16 : dk cX7_keys 16 18 (.istore 4) 2 := by unfold dk; decide +kernel
theorem dX7_keys_18 : dk cX7_keys 18 19 (.iconst 0) 1 := by unfold dk; decide +kernel
theorem dX7_keys_19 : dk cX7_keys 19 21 (.istore 5) 2 := by unfold dk; decide +kernel
theorem dX7_keys_21 : dk cX7_keys 21 23 (.iload 5) 2 := by unfold dk; decide +kernel
theorem dX7_keys_23 : dk cX7_keys 23 24 (.aload_n 0) 1 := by unfold dk; decide +kernel
theorem dX7_keys_24 : dk cX7_keys 24 27 (.invokevirtual 93) 3 := by unfold dk; decide +kernel
theorem dX7_keys_30 : dk cX7_keys 30 31 (.aload_n 0) 1 := by unfold dk; decide +kernel
theorem dX7_keys_31 : dk cX7_keys 31 34 (.getfield 9) 3 := by unfold dk; decide +kernel
theorem dX7_keys_34 : dk cX7_keys 34 36 (.bipush 26) 2 := by unfold dk; decide +kernel
theorem dX7_keys_36 : dk cX7_keys 36 38 (.iload 5) 2 := by unfold dk; decide +kernel
theorem dX7_keys_38 : dk cX7_keys 38 39 (.iadd) 1 := by unfold dk; decide +kernel
theorem dX7_keys_39 : dk cX7_keys 39 40 (.iaload) 1 := by unfold dk; decide +kernel
theorem dX7_keys_40 : dk cX7_keys 40 42 (.istore 6) 2 := by unfold dk; decide +kernel
theorem dX7_keys_42 : dk cX7_keys 42 43 (.iconst 1) 1 := by unfold dk; decide +kernel
theorem dX7_keys_43 : dk cX7_keys 43 45 (.istore 7) 2 := by unfold dk; decide +kernel
theorem dX7_keys_45 : dk cX7_keys 45 46 (.iconst 0) 1 := by unfold dk; decide +kernel
theorem dX7_keys_46 : dk cX7_keys 46 48 (.istore 8) 2 := by unfold dk; decide +kernel
theorem dX7_keys_48 : dk cX7_keys 48 50 (.iload 8) 2 := by unfold dk; decide +kernel
theorem dX7_keys_50 : dk cX7_keys 50 52 (.iload 5) 2 := by unfold dk; decide +kernel
theorem dX7_keys_55 : dk cX7_keys 55 57 (.iload 7) 2 := by unfold dk; decide +kernel
theorem dX7_keys_57 : bk cX7_keys 57 60 79 (.ifCond .eq 22) (22) := by unfold bk; decide +kernel
theorem dX7_keys_79 : dk cX7_keys 79 80 (.iconst 0) 1 := by unfold dk; decide +kernel
theorem dX7_keys_60 : dk cX7_keys 60 61 (.aload_n 0) 1 := by unfold dk; decide +kernel
theorem dX7_keys_61 : dk cX7_keys 61 64 (.getfield 9) 3 := by unfold dk; decide +kernel
theorem dX7_keys_64 : dk cX7_keys 64 66 (.bipush 26) 2 := by unfold dk; decide +kernel
theorem dX7_keys_66 : dk cX7_keys 66 68 (.iload 8) 2 := by unfold dk; decide +kernel
theorem dX7_keys_68 : dk cX7_keys 68 69 (.iadd) 1 := by unfold dk; decide +kernel
theorem dX7_keys_69 : dk cX7_keys 69 70 (.iaload) 1 := by unfold dk; decide +kernel
theorem dX7_keys_70 : dk cX7_keys 70 72 (.iload 6) 2 := by unfold dk; decide +kernel
theorem dX7_keys_75 : dk cX7_keys 75 76 (.iconst 1) 1 := by unfold dk; decide +kernel
theorem dX7_keys_76 : bk cX7_keys 76 79 80 (.goto 4) (4) := by unfold bk; decide +kernel
theorem dX7_keys_72 : bk cX7_keys 72 75 79 (.if_icmp .eq 7) (7) := by unfold bk; decide +kernel
theorem dX7_keys_80 : dk cX7_keys 80 82 (.istore 7) 2 := by unfold dk; decide +kernel
theorem dX7_keys_82 : dk cX7_keys 82 85 (.iinc 8 1) 3 := by unfold dk; decide +kernel
theorem dX7_keys_85 : bk cX7_keys 85 88 48 (.goto (-37)) (-37) := by unfold bk; decide +kernel
theorem dX7_keys_52 : bk cX7_keys 52 55 88 (.if_icmp .ge 36) (36) := by unfold bk; decide +kernel
theorem dX7_keys_88 : dk cX7_keys 88 90 (.iload 7) 2 := by unfold dk; decide +kernel
theorem dX7_keys_90 : bk cX7_keys 90 93 127 (.ifCond .eq 37) (37) := by unfold bk; decide +kernel
theorem dX7_keys_93 : dk cX7_keys 93 96 (.iinc 2 1) 3 := by unfold dk; decide +kernel
theorem dX7_keys_96 : dk cX7_keys 96 97 (.aload_n 0) 1 := by unfold dk; decide +kernel
theorem dX7_keys_97 : dk cX7_keys 97 99 (.iload 6) 2 := by unfold dk; decide +kernel
theorem dX7_keys_99 : dk cX7_keys 99 102 (.invokevirtual 306) 3 := by unfold dk; decide +kernel
theorem dX7_keys_102 : dk cX7_keys 102 104 (.istore 8) 2 := by unfold dk; decide +kernel
theorem dX7_keys_104 : dk cX7_keys 104 106 (.iload 8) 2 := by unfold dk; decide +kernel
theorem dX7_keys_106 : dk cX7_keys 106 108 (.iload 4) 2 := by unfold dk; decide +kernel
theorem dX7_keys_108 : bk cX7_keys 108 111 116 (.if_icmp .le 8) (8) := by unfold bk; decide +kernel
theorem dX7_keys_116 : dk cX7_keys 116 117 (.iload_n 3) 1 := by unfold dk; decide +kernel
theorem dX7_keys_111 : dk cX7_keys 111 113 (.iload 6) 2 := by unfold dk; decide +kernel
theorem dX7_keys_113 : bk cX7_keys 113 116 117 (.goto 4) (4) := by unfold bk; decide +kernel
theorem dX7_keys_117 : dk cX7_keys 117 118 (.istore_n 3) 1 := by unfold dk; decide +kernel
theorem dX7_keys_118 : dk cX7_keys 118 120 (.iload 4) 2 := by unfold dk; decide +kernel
theorem dX7_keys_120 : dk cX7_keys 120 122 (.iload 8) 2 := by unfold dk; decide +kernel
theorem dX7_keys_122 : dk cX7_keys 122 125 (.invokestatic 309) 3 := by unfold dk; decide +kernel
theorem dX7_keys_125 : dk cX7_keys 125 127 (.istore 4) 2 := by unfold dk; decide +kernel
theorem dX7_keys_127 : dk cX7_keys 127 130 (.iinc 5 1) 3 := by unfold dk; decide +kernel
theorem dX7_keys_130 : bk cX7_keys 130 133 21 (.goto (-109)) (-109) := by unfold bk; decide +kernel
theorem dX7_keys_27 : bk cX7_keys 27 30 133 (.if_icmp .ge 106) (106) := by unfold bk; decide +kernel
theorem dX7_keys_133 : dk cX7_keys 133 134 (.iload_n 1) 1 := by unfold dk; decide +kernel
theorem dX7_keys_134 : bk cX7_keys 134 137 141 (.ifCond .ne 7) (7) := by unfold bk; decide +kernel
theorem dX7_keys_141 : dk cX7_keys 141 142 (.iload_n 1) 1 := by unfold dk; decide +kernel
theorem dX7_keys_142 : dk cX7_keys 142 143 (.iconst 1) 1 := by unfold dk; decide +kernel
theorem dX7_keys_150 : dk cX7_keys 150 152 (.iload 4) 2 := by unfold dk; decide +kernel
theorem dX7_keys_146 : dk cX7_keys 146 147 (.iload_n 3) 1 := by unfold dk; decide +kernel
theorem dX7_keys_147 : bk cX7_keys 147 150 152 (.goto 5) (5) := by unfold bk; decide +kernel
theorem dX7_keys_143 : bk cX7_keys 143 146 150 (.if_icmp .ne 7) (7) := by unfold bk; decide +kernel
theorem dX7_keys_137 : dk cX7_keys 137 138 (.iload_n 2) 1 := by unfold dk; decide +kernel
theorem dX7_keys_138 : bk cX7_keys 138 141 152 (.goto 14) (14) := by unfold bk; decide +kernel
theorem dX7_keys_152 : dk cX7_keys 152 153 (.ireturn) 1 := by unfold dk; decide +kernel
theorem dX7_keys_9 : dk cX7_keys 9 10 (.iconst (-1)) 1 := by unfold dk; decide +kernel
theorem dX7_keys_10 : dk cX7_keys 10 11 (.ireturn) 1 := by unfold dk; decide +kernel
theorem dX7_keys_6 : bk cX7_keys 6 9 11 (.ifCond .ne 5) (5) := by unfold bk; decide +kernel
set_option maxHeartbeats 4000000 in
set_option maxRecDepth 100000 in
theorem kX7_keys {l : Launch} {G : Gl} {E : En} {a0 : Nat} {a1 : Int32} {σ σ' : Sg} {r : Int32} : fX7_keys E a0 a1 σ = some (r, σ') → CT l yX7_keys cX7_keys 9 (some .int) ({ frames := 2, cells := 0, slots := 0, locals := 43 } : Room) [.ref (G.1 + a0), .int a1] G E σ (some (.int r)) σ' := by
  intro h
  refine CT_of (lv0 := [(0, .ref (G.1 + a0)), (1, .int a1)]) (by decide) (Nat.le_of_ble_eq_true rfl) rfl (fun κ hl hR hr C => ?_)
  have C : Cx κ G cX7_keys RX7 9 := C
  revert h
  unfold fX7_keys
  refine R_tk (fun ha0 => ?_)
  refine R_iload_n C 1 rfl dX7_keys_0 ?_
  refine R_iconst C (0) dX7_keys_1 (by decide) ?_
  refine R_iconst C (2) dX7_keys_2 (by decide) ?_
  refine R_bd (fun r3 s1 q2 => ?_)
  refine R_callSi [.int a1, .int (0 : Int32), .int (2 : Int32)] [] C ml7_116 (kX7_in q2) (by rw [hR]; exact ⟨rfl, rfl, Nat.le_of_ble_eq_true rfl, Nat.le_of_ble_eq_true rfl, Nat.zero_le _, Nat.zero_le _⟩) rfl rfl (Nat.le_of_ble_eq_true rfl) dX7_keys_3 ?_
  refine B_if_ne C dX7_keys_6 ?_ ?_
  · refine R_iconst C (0) dX7_keys_11 (by decide) ?_
    refine R_istore_n (lv2 := [(2, .int (0 : Int32)), (0, .ref (G.1 + a0)), (1, .int a1)]) C dX7_keys_12 rfl (by decide) rfl ?_
    refine R_iconst C (-1) dX7_keys_13 (by decide) ?_
    refine R_istore_n (lv2 := [(3, .int (-1 : Int32)), (2, .int (0 : Int32)), (0, .ref (G.1 + a0)), (1, .int a1)]) C dX7_keys_14 rfl (by decide) rfl ?_
    refine R_iconst C (0) dX7_keys_15 (by decide) ?_
    refine R_istore (lv2 := [(4, .int (0 : Int32)), (3, .int (-1 : Int32)), (2, .int (0 : Int32)), (0, .ref (G.1 + a0)), (1, .int a1)]) C dX7_keys_16 (by decide) rfl ?_
    refine R_iconst C (0) dX7_keys_18 (by decide) ?_
    refine R_istore (lv2 := [(5, .int (0 : Int32)), (4, .int (0 : Int32)), (3, .int (-1 : Int32)), (2, .int (0 : Int32)), (0, .ref (G.1 + a0)), (1, .int a1)]) C dX7_keys_19 (by decide) rfl ?_
    refine R_loc (lv2 := [(0, .ref (G.1 + a0)), (1, .int a1), (2, .int (0 : Int32)), (3, .int (-1 : Int32)), (4, .int (0 : Int32)), (5, .int (0 : Int32))]) [4, 5, 3, 2, 1, 0] rfl ?_
    refine R_loop (fun (a : (Int32 × Int32 × Int32 × Int32) × Sg) => V κ G (QQ κ G E (some (.int r)) σ') E a.2 (false, 0, 0) 21 [(0, .ref (G.1 + a0)), (1, .int a1), (2, .int a.1.1), (3, .int a.1.2.1), (4, .int a.1.2.2.1), (5, .int a.1.2.2.2)] []) (fun (o : (Int32 × Int32 × Int32 × Int32)) (s : Sg) => V κ G (QQ κ G E (some (.int r)) σ') E s (false, 0, 0) 133 [(1, .int a1), (2, .int o.1), (3, .int o.2.1), (4, .int o.2.2.1)] []) (((0 : Int32), (-1 : Int32), (0 : Int32), (0 : Int32)), s1) (fun o42 s43 => ?_) (fun rec I12 a b10 s11 K9 => ?_)
    · refine R_iload_n C 0 rfl dX7_keys_133 ?_
      refine R_bdK (fun (w : Int32) (s : Sg) => V κ G (QQ κ G E (some (.int r)) σ') E s (false, 0, 0) 152 [] [.int w]) (fun w44 s45 => ?_) (fun w44 s45 Kw44 => ?_)
      · exact R_iret C hr dX7_keys_152
      · refine B_if_ne C dX7_keys_134 ?_ ?_
        · refine R_iload_n C 0 rfl dX7_keys_141 ?_
          refine R_iconst C (1) dX7_keys_142 (by decide) ?_
          refine B_icmp_ne C dX7_keys_143 ?_ ?_
          · refine R_iload C 3 rfl dX7_keys_150 ?_
            refine R_loc (lv2 := []) [] rfl ?_
            exact R_end (fun (w : Int32) (s : Sg) => V κ G (QQ κ G E (some (.int r)) σ') E s (false, 0, 0) 152 [] [.int w]) Kw44
          · refine R_iload_n C 2 rfl dX7_keys_146 ?_
            refine R_goto C dX7_keys_147 ?_
            refine R_loc (lv2 := []) [] rfl ?_
            exact R_end (fun (w : Int32) (s : Sg) => V κ G (QQ κ G E (some (.int r)) σ') E s (false, 0, 0) 152 [] [.int w]) Kw44
        · refine R_iload_n C 1 rfl dX7_keys_137 ?_
          refine R_goto C dX7_keys_138 ?_
          refine R_loc (lv2 := []) [] rfl ?_
          exact R_end (fun (w : Int32) (s : Sg) => V κ G (QQ κ G E (some (.int r)) σ') E s (false, 0, 0) 152 [] [.int w]) Kw44
    · obtain ⟨⟨v4, v5, v6, v7⟩, s8⟩ := a
      show bX7_keys_21 E a0 (fun u0 u1 u2 u3 t => rec ((u0, u1, u2, u3), t)) v4 v5 v6 v7 s8 = some (b10, s11) → V κ G (QQ κ G E (some (.int r)) σ') E s8 (false, 0, 0) 21 [(0, .ref (G.1 + a0)), (1, .int a1), (2, .int v4), (3, .int v5), (4, .int v6), (5, .int v7)] []
      unfold bX7_keys_21
      refine R_iload C 5 rfl dX7_keys_21 ?_
      refine R_aload_n C 0 rfl dX7_keys_23 ?_
      refine R_bd (fun r15 s13 q14 => ?_)
      refine R_callVi [] [.int v7] C ml7_93 (kX7_many q14) (by rw [hR]; exact ⟨rfl, rfl, Nat.le_of_ble_eq_true rfl, Nat.le_of_ble_eq_true rfl, Nat.zero_le _, Nat.zero_le _⟩) ha0 rfl rfl (Nat.le_of_ble_eq_true rfl) dX7_keys_24 ?_
      refine B_icmp_ge C dX7_keys_27 ?_ ?_
      · refine R_loc (lv2 := [(1, .int a1), (2, .int v4), (3, .int v5), (4, .int v6)]) [1, 2, 3, 4] rfl ?_
        exact R_end (fun (o : (Int32 × Int32 × Int32 × Int32)) (s : Sg) => V κ G (QQ κ G E (some (.int r)) σ') E s (false, 0, 0) 133 [(1, .int a1), (2, .int o.1), (3, .int o.2.1), (4, .int o.2.2.1)] []) K9
      · refine R_aload_n C 0 rfl dX7_keys_30 ?_
        refine R_dr (fun x16 rx16 cx16 => ?_)
        refine R_getr C fl7_9 rfl ha0 rx16 dX7_keys_31 ?_
        refine R_bipush C (26) dX7_keys_34 (by decide) ?_
        refine R_iload C 5 rfl dX7_keys_36 ?_
        refine R_iadd C dX7_keys_38 ?_
        refine R_ck (fun h17 => ?_)
        refine R_iald C cx16 h17 dX7_keys_39 ?_
        refine S_istore C dX7_keys_40 (fun v18 => [(6, .int v18), (0, .ref (G.1 + a0)), (1, .int a1), (2, .int v4), (3, .int v5), (4, .int v6), (5, .int v7)]) (by decide) (fun _ => rfl) (fun v18 => ?_)
        refine R_iconst C (1) dX7_keys_42 (by decide) ?_
        refine R_istore (lv2 := [(7, .int (1 : Int32)), (6, .int v18), (0, .ref (G.1 + a0)), (1, .int a1), (2, .int v4), (3, .int v5), (4, .int v6), (5, .int v7)]) C dX7_keys_43 (by decide) rfl ?_
        refine R_iconst C (0) dX7_keys_45 (by decide) ?_
        refine R_istore (lv2 := [(8, .int (0 : Int32)), (7, .int (1 : Int32)), (6, .int v18), (0, .ref (G.1 + a0)), (1, .int a1), (2, .int v4), (3, .int v5), (4, .int v6), (5, .int v7)]) C dX7_keys_46 (by decide) rfl ?_
        refine R_loc (lv2 := [(6, .int v18), (0, .ref (G.1 + a0)), (1, .int a1), (2, .int v4), (3, .int v5), (4, .int v6), (5, .int v7), (7, .int (1 : Int32)), (8, .int (0 : Int32))]) [2, 3, 4, 5, 6, 7, 8, 1, 0] rfl ?_
        refine R_loop (fun (a : (Int32 × Int32) × Sg) => V κ G (QQ κ G E (some (.int r)) σ') E a.2 (false, 0, 0) 48 [(6, .int v18), (0, .ref (G.1 + a0)), (1, .int a1), (2, .int v4), (3, .int v5), (4, .int v6), (5, .int v7), (7, .int a.1.1), (8, .int a.1.2)] []) (fun (o : (Int32 × Int32)) (s : Sg) => V κ G (QQ κ G E (some (.int r)) σ') E s (false, 0, 0) 88 [(6, .int v18), (0, .ref (G.1 + a0)), (1, .int a1), (2, .int v4), (3, .int v5), (4, .int v6), (5, .int v7), (7, .int o.1)] []) (((1 : Int32), (0 : Int32)), s13) (fun o30 s31 => ?_) (fun rec I25 a b23 s24 K22 => ?_)
        · refine R_iload C 7 rfl dX7_keys_88 ?_
          refine R_bdK (fun (w : Int32 × Int32 × Int32) (s : Sg) => V κ G (QQ κ G E (some (.int r)) σ') E s (false, 0, 0) 127 [(0, .ref (G.1 + a0)), (1, .int a1), (5, .int v7), (2, .int w.1), (3, .int w.2.1), (4, .int w.2.2)] []) (fun w32 s33 => ?_) (fun w32 s33 Kw32 => ?_)
          · refine S_iinc (fun v41 => [(5, .int v41), (0, .ref (G.1 + a0)), (1, .int a1), (2, .int w32.1), (3, .int w32.2.1), (4, .int w32.2.2)]) 2 C dX7_keys_127 rfl (by decide) (by decide) (fun _ => rfl) (fun v41 => ?_)
            refine R_goto C dX7_keys_130 ?_
            refine R_loc (lv2 := [(0, .ref (G.1 + a0)), (1, .int a1), (2, .int w32.1), (3, .int w32.2.1), (4, .int w32.2.2), (5, .int v41)]) [1, 2, 3, 4, 5, 0] rfl ?_
            exact I12 ((w32.1, w32.2.1, w32.2.2, v41), s33) b10 s11 K9
          · refine B_if_eq C dX7_keys_90 ?_ ?_
            · refine R_loc (lv2 := [(0, .ref (G.1 + a0)), (1, .int a1), (5, .int v7), (2, .int v4), (3, .int v5), (4, .int v6)]) [1, 2, 6, 3, 4, 5] rfl ?_
              exact R_end (fun (w : Int32 × Int32 × Int32) (s : Sg) => V κ G (QQ κ G E (some (.int r)) σ') E s (false, 0, 0) 127 [(0, .ref (G.1 + a0)), (1, .int a1), (5, .int v7), (2, .int w.1), (3, .int w.2.1), (4, .int w.2.2)] []) Kw32
            · refine S_iinc (fun v34 => [(2, .int v34), (6, .int v18), (0, .ref (G.1 + a0)), (1, .int a1), (3, .int v5), (4, .int v6), (5, .int v7), (7, .int o30.1)]) 3 C dX7_keys_93 rfl (by decide) (by decide) (fun _ => rfl) (fun v34 => ?_)
              refine R_aload_n C 2 rfl dX7_keys_96 ?_
              refine R_iload C 1 rfl dX7_keys_97 ?_
              refine R_bd (fun r37 s35 q36 => ?_)
              refine R_callVi [.int v18] [] C ml7_306 (kX7_oftenOf q36) (by rw [hR]; exact ⟨rfl, rfl, Nat.le_of_ble_eq_true rfl, Nat.le_of_ble_eq_true rfl, Nat.zero_le _, Nat.zero_le _⟩) ha0 rfl rfl (Nat.le_of_ble_eq_true rfl) dX7_keys_99 ?_
              refine R_istore (lv2 := [(8, .int r37), (2, .int v34), (6, .int v18), (0, .ref (G.1 + a0)), (1, .int a1), (3, .int v5), (4, .int v6), (5, .int v7), (7, .int o30.1)]) C dX7_keys_102 (by decide) rfl ?_
              refine R_iload C 0 rfl dX7_keys_104 ?_
              refine R_iload C 6 rfl dX7_keys_106 ?_
              refine R_bdK (fun (w : Int32) (s : Sg) => V κ G (QQ κ G E (some (.int r)) σ') E s (false, 0, 0) 117 [(8, .int r37), (2, .int v34), (0, .ref (G.1 + a0)), (1, .int a1), (4, .int v6), (5, .int v7)] [.int w]) (fun w38 s39 => ?_) (fun w38 s39 Kw38 => ?_)
              · refine R_istore_n (lv2 := [(3, .int w38), (8, .int r37), (2, .int v34), (0, .ref (G.1 + a0)), (1, .int a1), (4, .int v6), (5, .int v7)]) C dX7_keys_117 rfl (by decide) rfl ?_
                refine R_iload C 5 rfl dX7_keys_118 ?_
                refine R_iload C 1 rfl dX7_keys_120 ?_
                refine R_mmax C jd7_309 (by rw [hR]; exact ⟨Nat.le_of_ble_eq_true rfl, Nat.le_of_ble_eq_true rfl, Nat.zero_le _, Nat.zero_le _⟩) dX7_keys_122 ?_
                refine S_istore C dX7_keys_125 (fun v40 => [(4, .int v40), (3, .int w38), (8, .int r37), (2, .int v34), (0, .ref (G.1 + a0)), (1, .int a1), (5, .int v7)]) (by decide) (fun _ => rfl) (fun v40 => ?_)
                refine R_loc (lv2 := [(0, .ref (G.1 + a0)), (1, .int a1), (5, .int v7), (2, .int v34), (3, .int w38), (4, .int v40)]) [4, 5, 6, 3, 1, 0] rfl ?_
                exact R_end (fun (w : Int32 × Int32 × Int32) (s : Sg) => V κ G (QQ κ G E (some (.int r)) σ') E s (false, 0, 0) 127 [(0, .ref (G.1 + a0)), (1, .int a1), (5, .int v7), (2, .int w.1), (3, .int w.2.1), (4, .int w.2.2)] []) Kw32
              · refine B_icmp_le C dX7_keys_108 ?_ ?_
                · refine R_iload_n C 5 rfl dX7_keys_116 ?_
                  refine R_loc (lv2 := [(8, .int r37), (2, .int v34), (0, .ref (G.1 + a0)), (1, .int a1), (4, .int v6), (5, .int v7)]) [0, 1, 3, 4, 6, 7] rfl ?_
                  exact R_end (fun (w : Int32) (s : Sg) => V κ G (QQ κ G E (some (.int r)) σ') E s (false, 0, 0) 117 [(8, .int r37), (2, .int v34), (0, .ref (G.1 + a0)), (1, .int a1), (4, .int v6), (5, .int v7)] [.int w]) Kw38
                · refine R_iload C 2 rfl dX7_keys_111 ?_
                  refine R_goto C dX7_keys_113 ?_
                  refine R_loc (lv2 := [(8, .int r37), (2, .int v34), (0, .ref (G.1 + a0)), (1, .int a1), (4, .int v6), (5, .int v7)]) [0, 1, 3, 4, 6, 7] rfl ?_
                  exact R_end (fun (w : Int32) (s : Sg) => V κ G (QQ κ G E (some (.int r)) σ') E s (false, 0, 0) 117 [(8, .int r37), (2, .int v34), (0, .ref (G.1 + a0)), (1, .int a1), (4, .int v6), (5, .int v7)] [.int w]) Kw38
        · obtain ⟨⟨v19, v20⟩, s21⟩ := a
          show bX7_keys_48 E v7 x16 v18 (fun u0 u1 t => rec ((u0, u1), t)) v19 v20 s21 = some (b23, s24) → V κ G (QQ κ G E (some (.int r)) σ') E s21 (false, 0, 0) 48 [(6, .int v18), (0, .ref (G.1 + a0)), (1, .int a1), (2, .int v4), (3, .int v5), (4, .int v6), (5, .int v7), (7, .int v19), (8, .int v20)] []
          unfold bX7_keys_48
          refine R_iload C 8 rfl dX7_keys_48 ?_
          refine R_iload C 6 rfl dX7_keys_50 ?_
          refine B_icmp_ge C dX7_keys_52 ?_ ?_
          · refine R_loc (lv2 := [(6, .int v18), (0, .ref (G.1 + a0)), (1, .int a1), (2, .int v4), (3, .int v5), (4, .int v6), (5, .int v7), (7, .int v19)]) [0, 1, 2, 3, 4, 5, 6, 7] rfl ?_
            exact R_end (fun (o : (Int32 × Int32)) (s : Sg) => V κ G (QQ κ G E (some (.int r)) σ') E s (false, 0, 0) 88 [(6, .int v18), (0, .ref (G.1 + a0)), (1, .int a1), (2, .int v4), (3, .int v5), (4, .int v6), (5, .int v7), (7, .int o.1)] []) K22
          · refine R_iload C 7 rfl dX7_keys_55 ?_
            refine R_bdK (fun (w : Int32) (s : Sg) => V κ G (QQ κ G E (some (.int r)) σ') E s (false, 0, 0) 80 [(6, .int v18), (0, .ref (G.1 + a0)), (1, .int a1), (2, .int v4), (3, .int v5), (4, .int v6), (5, .int v7), (8, .int v20)] [.int w]) (fun w26 s27 => ?_) (fun w26 s27 Kw26 => ?_)
            · refine R_istore (lv2 := [(7, .int w26), (6, .int v18), (0, .ref (G.1 + a0)), (1, .int a1), (2, .int v4), (3, .int v5), (4, .int v6), (5, .int v7), (8, .int v20)]) C dX7_keys_80 (by decide) rfl ?_
              refine S_iinc (fun v29 => [(8, .int v29), (7, .int w26), (6, .int v18), (0, .ref (G.1 + a0)), (1, .int a1), (2, .int v4), (3, .int v5), (4, .int v6), (5, .int v7)]) 8 C dX7_keys_82 rfl (by decide) (by decide) (fun _ => rfl) (fun v29 => ?_)
              refine R_goto C dX7_keys_85 ?_
              refine R_loc (lv2 := [(6, .int v18), (0, .ref (G.1 + a0)), (1, .int a1), (2, .int v4), (3, .int v5), (4, .int v6), (5, .int v7), (7, .int w26), (8, .int v29)]) [2, 3, 4, 5, 6, 7, 8, 1, 0] rfl ?_
              exact I25 ((w26, v29), s27) b23 s24 K22
            · refine B_if_eq C dX7_keys_57 ?_ ?_
              · refine R_iconst C (0) dX7_keys_79 (by decide) ?_
                refine R_loc (lv2 := [(6, .int v18), (0, .ref (G.1 + a0)), (1, .int a1), (2, .int v4), (3, .int v5), (4, .int v6), (5, .int v7), (8, .int v20)]) [0, 1, 2, 3, 4, 5, 6, 8] rfl ?_
                exact R_end (fun (w : Int32) (s : Sg) => V κ G (QQ κ G E (some (.int r)) σ') E s (false, 0, 0) 80 [(6, .int v18), (0, .ref (G.1 + a0)), (1, .int a1), (2, .int v4), (3, .int v5), (4, .int v6), (5, .int v7), (8, .int v20)] [.int w]) Kw26
              · refine R_aload_n C 1 rfl dX7_keys_60 ?_
                refine R_getr C fl7_9 rfl ha0 rx16 dX7_keys_61 ?_
                refine R_bipush C (26) dX7_keys_64 (by decide) ?_
                refine R_iload C 8 rfl dX7_keys_66 ?_
                refine R_iadd C dX7_keys_68 ?_
                refine R_ck (fun h28 => ?_)
                refine R_iald C cx16 h28 dX7_keys_69 ?_
                refine R_iload C 0 rfl dX7_keys_70 ?_
                refine B_icmp_eq C dX7_keys_72 ?_ ?_
                · refine R_iconst C (0) dX7_keys_79 (by decide) ?_
                  refine R_loc (lv2 := [(6, .int v18), (0, .ref (G.1 + a0)), (1, .int a1), (2, .int v4), (3, .int v5), (4, .int v6), (5, .int v7), (8, .int v20)]) [0, 1, 2, 3, 4, 5, 6, 8] rfl ?_
                  exact R_end (fun (w : Int32) (s : Sg) => V κ G (QQ κ G E (some (.int r)) σ') E s (false, 0, 0) 80 [(6, .int v18), (0, .ref (G.1 + a0)), (1, .int a1), (2, .int v4), (3, .int v5), (4, .int v6), (5, .int v7), (8, .int v20)] [.int w]) Kw26
                · refine R_iconst C (1) dX7_keys_75 (by decide) ?_
                  refine R_goto C dX7_keys_76 ?_
                  refine R_loc (lv2 := [(6, .int v18), (0, .ref (G.1 + a0)), (1, .int a1), (2, .int v4), (3, .int v5), (4, .int v6), (5, .int v7), (8, .int v20)]) [0, 1, 2, 3, 4, 5, 6, 8] rfl ?_
                  exact R_end (fun (w : Int32) (s : Sg) => V κ G (QQ κ G E (some (.int r)) σ') E s (false, 0, 0) 80 [(6, .int v18), (0, .ref (G.1 + a0)), (1, .int a1), (2, .int v4), (3, .int v5), (4, .int v6), (5, .int v7), (8, .int v20)] [.int w]) Kw26
  · refine R_iconst C (-1) dX7_keys_9 (by decide) ?_
    exact R_iret C hr dX7_keys_10
theorem dX7_inversions_0 : dk cX7_inversions 0 1 (.iconst 0) 1 := by unfold dk; decide +kernel
theorem dX7_inversions_1 : dk cX7_inversions 1 2 (.istore_n 1) 1 := by unfold dk; decide +kernel
theorem dX7_inversions_2 : dk cX7_inversions 2 3 (.iconst 0) 1 := by unfold dk; decide +kernel
theorem dX7_inversions_3 : dk cX7_inversions 3 4 (.istore_n 2) 1 := by unfold dk; decide +kernel
theorem dX7_inversions_4 : dk cX7_inversions 4 5 (.iload_n 2) 1 := by unfold dk; decide +kernel
theorem dX7_inversions_5 : dk cX7_inversions 5 6 (.aload_n 0) 1 := by unfold dk; decide +kernel
theorem dX7_inversions_6 : dk cX7_inversions 6 9 (.invokevirtual 93) 3 := by unfold dk; decide +kernel
theorem dX7_inversions_12 : dk cX7_inversions 12 13 (.iload_n 2) 1 := by unfold dk; decide +kernel
theorem dX7_inversions_13 : dk cX7_inversions 13 14 (.iconst 1) 1 := by unfold dk; decide +kernel
theorem dX7_inversions_14 : dk cX7_inversions 14 15 (.iadd) 1 := by unfold dk; decide +kernel
theorem dX7_inversions_15 : dk cX7_inversions 15 16 (.istore_n 3) 1 := by unfold dk; decide +kernel
theorem dX7_inversions_16 : dk cX7_inversions 16 17 (.iload_n 3) 1 := by unfold dk; decide +kernel
theorem dX7_inversions_17 : dk cX7_inversions 17 18 (.aload_n 0) 1 := by unfold dk; decide +kernel
theorem dX7_inversions_18 : dk cX7_inversions 18 21 (.invokevirtual 93) 3 := by unfold dk; decide +kernel
theorem dX7_inversions_24 : dk cX7_inversions 24 25 (.iload_n 1) 1 := by unfold dk; decide +kernel
theorem dX7_inversions_25 : dk cX7_inversions 25 26 (.aload_n 0) 1 := by unfold dk; decide +kernel
theorem dX7_inversions_26 : dk cX7_inversions 26 29 (.getfield 9) 3 := by unfold dk; decide +kernel
theorem dX7_inversions_29 : dk cX7_inversions 29 31 (.bipush 26) 2 := by unfold dk; decide +kernel
theorem dX7_inversions_31 : dk cX7_inversions 31 32 (.iload_n 2) 1 := by unfold dk; decide +kernel
theorem dX7_inversions_32 : dk cX7_inversions 32 33 (.iadd) 1 := by unfold dk; decide +kernel
theorem dX7_inversions_33 : dk cX7_inversions 33 34 (.iaload) 1 := by unfold dk; decide +kernel
theorem dX7_inversions_34 : dk cX7_inversions 34 35 (.aload_n 0) 1 := by unfold dk; decide +kernel
theorem dX7_inversions_35 : dk cX7_inversions 35 38 (.getfield 9) 3 := by unfold dk; decide +kernel
theorem dX7_inversions_38 : dk cX7_inversions 38 40 (.bipush 26) 2 := by unfold dk; decide +kernel
theorem dX7_inversions_40 : dk cX7_inversions 40 41 (.iload_n 3) 1 := by unfold dk; decide +kernel
theorem dX7_inversions_41 : dk cX7_inversions 41 42 (.iadd) 1 := by unfold dk; decide +kernel
theorem dX7_inversions_42 : dk cX7_inversions 42 43 (.iaload) 1 := by unfold dk; decide +kernel
theorem dX7_inversions_43 : bk cX7_inversions 43 46 50 (.if_icmp .le 7) (7) := by unfold bk; decide +kernel
theorem dX7_inversions_50 : dk cX7_inversions 50 51 (.iconst 0) 1 := by unfold dk; decide +kernel
theorem dX7_inversions_46 : dk cX7_inversions 46 47 (.iconst 1) 1 := by unfold dk; decide +kernel
theorem dX7_inversions_47 : bk cX7_inversions 47 50 51 (.goto 4) (4) := by unfold bk; decide +kernel
theorem dX7_inversions_51 : dk cX7_inversions 51 54 (.invokestatic 151) 3 := by unfold dk; decide +kernel
theorem dX7_inversions_54 : dk cX7_inversions 54 55 (.iadd) 1 := by unfold dk; decide +kernel
theorem dX7_inversions_55 : dk cX7_inversions 55 56 (.istore_n 1) 1 := by unfold dk; decide +kernel
theorem dX7_inversions_56 : dk cX7_inversions 56 59 (.iinc 3 1) 3 := by unfold dk; decide +kernel
theorem dX7_inversions_59 : bk cX7_inversions 59 62 16 (.goto (-43)) (-43) := by unfold bk; decide +kernel
theorem dX7_inversions_21 : bk cX7_inversions 21 24 62 (.if_icmp .ge 41) (41) := by unfold bk; decide +kernel
theorem dX7_inversions_62 : dk cX7_inversions 62 65 (.iinc 2 1) 3 := by unfold dk; decide +kernel
theorem dX7_inversions_65 : bk cX7_inversions 65 68 4 (.goto (-61)) (-61) := by unfold bk; decide +kernel
theorem dX7_inversions_9 : bk cX7_inversions 9 12 68 (.if_icmp .ge 59) (59) := by unfold bk; decide +kernel
theorem dX7_inversions_68 : dk cX7_inversions 68 69 (.iload_n 1) 1 := by unfold dk; decide +kernel
theorem dX7_inversions_69 : dk cX7_inversions 69 70 (.ireturn) 1 := by unfold dk; decide +kernel
set_option maxHeartbeats 4000000 in
set_option maxRecDepth 100000 in
theorem kX7_inversions {l : Launch} {G : Gl} {E : En} {a0 : Nat} {σ σ' : Sg} {r : Int32} : fX7_inversions E a0 σ = some (r, σ') → CT l yX7_inversions cX7_inversions 4 (some .int) ({ frames := 1, cells := 0, slots := 0, locals := 20 } : Room) [.ref (G.1 + a0)] G E σ (some (.int r)) σ' := by
  intro h
  refine CT_of (lv0 := [(0, .ref (G.1 + a0))]) (by decide) (Nat.le_of_ble_eq_true rfl) rfl (fun κ hl hR hr C => ?_)
  have C : Cx κ G cX7_inversions RX7 4 := C
  revert h
  unfold fX7_inversions
  refine R_tk (fun ha0 => ?_)
  refine R_iconst C (0) dX7_inversions_0 (by decide) ?_
  refine R_istore_n (lv2 := [(1, .int (0 : Int32)), (0, .ref (G.1 + a0))]) C dX7_inversions_1 rfl (by decide) rfl ?_
  refine R_iconst C (0) dX7_inversions_2 (by decide) ?_
  refine R_istore_n (lv2 := [(2, .int (0 : Int32)), (1, .int (0 : Int32)), (0, .ref (G.1 + a0))]) C dX7_inversions_3 rfl (by decide) rfl ?_
  refine R_loc (lv2 := [(0, .ref (G.1 + a0)), (1, .int (0 : Int32)), (2, .int (0 : Int32))]) [2, 1, 0] rfl ?_
  refine R_loop (fun (a : (Int32 × Int32) × Sg) => V κ G (QQ κ G E (some (.int r)) σ') E a.2 (false, 0, 0) 4 [(0, .ref (G.1 + a0)), (1, .int a.1.1), (2, .int a.1.2)] []) (fun (o : (Int32 × Int32)) (s : Sg) => V κ G (QQ κ G E (some (.int r)) σ') E s (false, 0, 0) 68 [(1, .int o.1)] []) (((0 : Int32), (0 : Int32)), σ) (fun o35 s36 => ?_) (fun rec I7 a b5 s6 K4 => ?_)
  · refine R_iload_n C 0 rfl dX7_inversions_68 ?_
    exact R_iret C hr dX7_inversions_69
  · obtain ⟨⟨v1, v2⟩, s3⟩ := a
    show bX7_inversions_4 E a0 (fun u0 u1 t => rec ((u0, u1), t)) v1 v2 s3 = some (b5, s6) → V κ G (QQ κ G E (some (.int r)) σ') E s3 (false, 0, 0) 4 [(0, .ref (G.1 + a0)), (1, .int v1), (2, .int v2)] []
    unfold bX7_inversions_4
    refine R_iload_n C 2 rfl dX7_inversions_4 ?_
    refine R_aload_n C 0 rfl dX7_inversions_5 ?_
    refine R_bd (fun r10 s8 q9 => ?_)
    refine R_callVi [] [.int v2] C ml7_93 (kX7_many q9) (by rw [hR]; exact ⟨rfl, rfl, Nat.le_of_ble_eq_true rfl, Nat.le_of_ble_eq_true rfl, Nat.zero_le _, Nat.zero_le _⟩) ha0 rfl rfl (Nat.le_of_ble_eq_true rfl) dX7_inversions_6 ?_
    refine B_icmp_ge C dX7_inversions_9 ?_ ?_
    · refine R_loc (lv2 := [(1, .int v1)]) [1] rfl ?_
      exact R_end (fun (o : (Int32 × Int32)) (s : Sg) => V κ G (QQ κ G E (some (.int r)) σ') E s (false, 0, 0) 68 [(1, .int o.1)] []) K4
    · refine R_iload_n C 2 rfl dX7_inversions_12 ?_
      refine R_iconst C (1) dX7_inversions_13 (by decide) ?_
      refine R_iadd C dX7_inversions_14 ?_
      refine S_istore_n C dX7_inversions_15 rfl (fun v11 => [(3, .int v11), (0, .ref (G.1 + a0)), (1, .int v1), (2, .int v2)]) (by decide) (fun _ => rfl) (fun v11 => ?_)
      refine R_loc (lv2 := [(0, .ref (G.1 + a0)), (2, .int v2), (1, .int v1), (3, .int v11)]) [1, 3, 2, 0] rfl ?_
      refine R_loop (fun (a : (Int32 × Int32) × Sg) => V κ G (QQ κ G E (some (.int r)) σ') E a.2 (false, 0, 0) 16 [(0, .ref (G.1 + a0)), (2, .int v2), (1, .int a.1.1), (3, .int a.1.2)] []) (fun (o : (Int32 × Int32)) (s : Sg) => V κ G (QQ κ G E (some (.int r)) σ') E s (false, 0, 0) 62 [(0, .ref (G.1 + a0)), (2, .int v2), (1, .int o.1)] []) ((v1, v11), s8) (fun o32 s33 => ?_) (fun rec I18 a b16 s17 K15 => ?_)
      · refine S_iinc (fun v34 => [(2, .int v34), (0, .ref (G.1 + a0)), (1, .int o32.1)]) 1 C dX7_inversions_62 rfl (by decide) (by decide) (fun _ => rfl) (fun v34 => ?_)
        refine R_goto C dX7_inversions_65 ?_
        refine R_loc (lv2 := [(0, .ref (G.1 + a0)), (1, .int o32.1), (2, .int v34)]) [1, 2, 0] rfl ?_
        exact I7 ((o32.1, v34), s33) b5 s6 K4
      · obtain ⟨⟨v12, v13⟩, s14⟩ := a
        show bX7_inversions_16 E a0 v2 (fun u0 u1 t => rec ((u0, u1), t)) v12 v13 s14 = some (b16, s17) → V κ G (QQ κ G E (some (.int r)) σ') E s14 (false, 0, 0) 16 [(0, .ref (G.1 + a0)), (2, .int v2), (1, .int v12), (3, .int v13)] []
        unfold bX7_inversions_16
        refine R_iload_n C 3 rfl dX7_inversions_16 ?_
        refine R_aload_n C 0 rfl dX7_inversions_17 ?_
        refine R_bd (fun r21 s19 q20 => ?_)
        refine R_callVi [] [.int v13] C ml7_93 (kX7_many q20) (by rw [hR]; exact ⟨rfl, rfl, Nat.le_of_ble_eq_true rfl, Nat.le_of_ble_eq_true rfl, Nat.zero_le _, Nat.zero_le _⟩) ha0 rfl rfl (Nat.le_of_ble_eq_true rfl) dX7_inversions_18 ?_
        refine B_icmp_ge C dX7_inversions_21 ?_ ?_
        · refine R_loc (lv2 := [(0, .ref (G.1 + a0)), (2, .int v2), (1, .int v12)]) [0, 1, 2] rfl ?_
          exact R_end (fun (o : (Int32 × Int32)) (s : Sg) => V κ G (QQ κ G E (some (.int r)) σ') E s (false, 0, 0) 62 [(0, .ref (G.1 + a0)), (2, .int v2), (1, .int o.1)] []) K15
        · refine R_iload_n C 2 rfl dX7_inversions_24 ?_
          refine R_aload_n C 0 rfl dX7_inversions_25 ?_
          refine R_dr (fun x22 rx22 cx22 => ?_)
          refine R_getr C fl7_9 rfl ha0 rx22 dX7_inversions_26 ?_
          refine R_bipush C (26) dX7_inversions_29 (by decide) ?_
          refine R_iload_n C 1 rfl dX7_inversions_31 ?_
          refine R_iadd C dX7_inversions_32 ?_
          refine R_ck (fun h23 => ?_)
          refine R_iald C cx22 h23 dX7_inversions_33 ?_
          refine R_aload_n C 0 rfl dX7_inversions_34 ?_
          refine R_getr C fl7_9 rfl ha0 rx22 dX7_inversions_35 ?_
          refine R_bipush C (26) dX7_inversions_38 (by decide) ?_
          refine R_iload_n C 3 rfl dX7_inversions_40 ?_
          refine R_iadd C dX7_inversions_41 ?_
          refine R_ck (fun h24 => ?_)
          refine R_iald C cx22 h24 dX7_inversions_42 ?_
          refine R_bdK (fun (w : Int32) (s : Sg) => V κ G (QQ κ G E (some (.int r)) σ') E s (false, 0, 0) 51 [(0, .ref (G.1 + a0)), (2, .int v2), (3, .int v13)] [.int w, .int v12]) (fun w25 s26 => ?_) (fun w25 s26 Kw25 => ?_)
          · refine R_bd (fun r29 s27 q28 => ?_)
            refine R_callSi [.int w25] [.int v12] C ml7_151 (kX7_truth q28) (by rw [hR]; exact ⟨rfl, rfl, Nat.le_of_ble_eq_true rfl, Nat.le_of_ble_eq_true rfl, Nat.zero_le _, Nat.zero_le _⟩) rfl rfl (Nat.le_of_ble_eq_true rfl) dX7_inversions_51 ?_
            refine R_iadd C dX7_inversions_54 ?_
            refine S_istore_n C dX7_inversions_55 rfl (fun v30 => [(1, .int v30), (0, .ref (G.1 + a0)), (2, .int v2), (3, .int v13)]) (by decide) (fun _ => rfl) (fun v30 => ?_)
            refine S_iinc (fun v31 => [(3, .int v31), (1, .int v30), (0, .ref (G.1 + a0)), (2, .int v2)]) 3 C dX7_inversions_56 rfl (by decide) (by decide) (fun _ => rfl) (fun v31 => ?_)
            refine R_goto C dX7_inversions_59 ?_
            refine R_loc (lv2 := [(0, .ref (G.1 + a0)), (2, .int v2), (1, .int v30), (3, .int v31)]) [2, 3, 1, 0] rfl ?_
            exact I18 ((v30, v31), s27) b16 s17 K15
          · refine B_icmp_le C dX7_inversions_43 ?_ ?_
            · refine R_iconst C (0) dX7_inversions_50 (by decide) ?_
              refine R_loc (lv2 := [(0, .ref (G.1 + a0)), (2, .int v2), (3, .int v13)]) [0, 1, 3] rfl ?_
              exact R_end (fun (w : Int32) (s : Sg) => V κ G (QQ κ G E (some (.int r)) σ') E s (false, 0, 0) 51 [(0, .ref (G.1 + a0)), (2, .int v2), (3, .int v13)] [.int w, .int v12]) Kw25
            · refine R_iconst C (1) dX7_inversions_46 (by decide) ?_
              refine R_goto C dX7_inversions_47 ?_
              refine R_loc (lv2 := [(0, .ref (G.1 + a0)), (2, .int v2), (3, .int v13)]) [0, 1, 3] rfl ?_
              exact R_end (fun (w : Int32) (s : Sg) => V κ G (QQ κ G E (some (.int r)) σ') E s (false, 0, 0) 51 [(0, .ref (G.1 + a0)), (2, .int v2), (3, .int v13)] [.int w, .int v12]) Kw25
theorem dX7_naturalRuns_0 : dk cX7_naturalRuns 0 1 (.aload_n 0) 1 := by unfold dk; decide +kernel
theorem dX7_naturalRuns_1 : dk cX7_naturalRuns 1 4 (.invokevirtual 93) 3 := by unfold dk; decide +kernel
theorem dX7_naturalRuns_4 : bk cX7_naturalRuns 4 7 11 (.ifCond .le 7) (7) := by unfold bk; decide +kernel
theorem dX7_naturalRuns_11 : dk cX7_naturalRuns 11 12 (.iconst 0) 1 := by unfold dk; decide +kernel
theorem dX7_naturalRuns_7 : dk cX7_naturalRuns 7 8 (.iconst 1) 1 := by unfold dk; decide +kernel
theorem dX7_naturalRuns_8 : bk cX7_naturalRuns 8 11 12 (.goto 4) (4) := by unfold bk; decide +kernel
theorem dX7_naturalRuns_12 : dk cX7_naturalRuns 12 15 (.invokestatic 151) 3 := by unfold dk; decide +kernel
theorem dX7_naturalRuns_15 : dk cX7_naturalRuns 15 16 (.istore_n 1) 1 := by unfold dk; decide +kernel
theorem dX7_naturalRuns_16 : dk cX7_naturalRuns 16 17 (.iconst 1) 1 := by unfold dk; decide +kernel
theorem dX7_naturalRuns_17 : dk cX7_naturalRuns 17 18 (.istore_n 2) 1 := by unfold dk; decide +kernel
theorem dX7_naturalRuns_18 : dk cX7_naturalRuns 18 19 (.iload_n 2) 1 := by unfold dk; decide +kernel
theorem dX7_naturalRuns_19 : dk cX7_naturalRuns 19 20 (.aload_n 0) 1 := by unfold dk; decide +kernel
theorem dX7_naturalRuns_20 : dk cX7_naturalRuns 20 23 (.invokevirtual 93) 3 := by unfold dk; decide +kernel
theorem dX7_naturalRuns_26 : dk cX7_naturalRuns 26 27 (.iload_n 1) 1 := by unfold dk; decide +kernel
theorem dX7_naturalRuns_27 : dk cX7_naturalRuns 27 28 (.aload_n 0) 1 := by unfold dk; decide +kernel
theorem dX7_naturalRuns_28 : dk cX7_naturalRuns 28 31 (.getfield 9) 3 := by unfold dk; decide +kernel
theorem dX7_naturalRuns_31 : dk cX7_naturalRuns 31 33 (.bipush 26) 2 := by unfold dk; decide +kernel
theorem dX7_naturalRuns_33 : dk cX7_naturalRuns 33 34 (.iload_n 2) 1 := by unfold dk; decide +kernel
theorem dX7_naturalRuns_34 : dk cX7_naturalRuns 34 35 (.iadd) 1 := by unfold dk; decide +kernel
theorem dX7_naturalRuns_35 : dk cX7_naturalRuns 35 36 (.iaload) 1 := by unfold dk; decide +kernel
theorem dX7_naturalRuns_36 : dk cX7_naturalRuns 36 37 (.aload_n 0) 1 := by unfold dk; decide +kernel
theorem dX7_naturalRuns_37 : dk cX7_naturalRuns 37 40 (.getfield 9) 3 := by unfold dk; decide +kernel
theorem dX7_naturalRuns_40 : dk cX7_naturalRuns 40 42 (.bipush 26) 2 := by unfold dk; decide +kernel
theorem dX7_naturalRuns_42 : dk cX7_naturalRuns 42 43 (.iload_n 2) 1 := by unfold dk; decide +kernel
theorem dX7_naturalRuns_43 : dk cX7_naturalRuns 43 44 (.iadd) 1 := by unfold dk; decide +kernel
theorem dX7_naturalRuns_44 : dk cX7_naturalRuns 44 45 (.iconst 1) 1 := by unfold dk; decide +kernel
theorem dX7_naturalRuns_45 : dk cX7_naturalRuns 45 46 (.isub) 1 := by unfold dk; decide +kernel
theorem dX7_naturalRuns_46 : dk cX7_naturalRuns 46 47 (.iaload) 1 := by unfold dk; decide +kernel
theorem dX7_naturalRuns_47 : bk cX7_naturalRuns 47 50 54 (.if_icmp .ge 7) (7) := by unfold bk; decide +kernel
theorem dX7_naturalRuns_54 : dk cX7_naturalRuns 54 55 (.iconst 0) 1 := by unfold dk; decide +kernel
theorem dX7_naturalRuns_50 : dk cX7_naturalRuns 50 51 (.iconst 1) 1 := by unfold dk; decide +kernel
theorem dX7_naturalRuns_51 : bk cX7_naturalRuns 51 54 55 (.goto 4) (4) := by unfold bk; decide +kernel
theorem dX7_naturalRuns_55 : dk cX7_naturalRuns 55 58 (.invokestatic 151) 3 := by unfold dk; decide +kernel
theorem dX7_naturalRuns_58 : dk cX7_naturalRuns 58 59 (.iadd) 1 := by unfold dk; decide +kernel
theorem dX7_naturalRuns_59 : dk cX7_naturalRuns 59 60 (.istore_n 1) 1 := by unfold dk; decide +kernel
theorem dX7_naturalRuns_60 : dk cX7_naturalRuns 60 63 (.iinc 2 1) 3 := by unfold dk; decide +kernel
theorem dX7_naturalRuns_63 : bk cX7_naturalRuns 63 66 18 (.goto (-45)) (-45) := by unfold bk; decide +kernel
theorem dX7_naturalRuns_23 : bk cX7_naturalRuns 23 26 66 (.if_icmp .ge 43) (43) := by unfold bk; decide +kernel
theorem dX7_naturalRuns_66 : dk cX7_naturalRuns 66 67 (.iload_n 1) 1 := by unfold dk; decide +kernel
theorem dX7_naturalRuns_67 : dk cX7_naturalRuns 67 68 (.ireturn) 1 := by unfold dk; decide +kernel
set_option maxHeartbeats 4000000 in
set_option maxRecDepth 100000 in
theorem kX7_naturalRuns {l : Launch} {G : Gl} {E : En} {a0 : Nat} {σ σ' : Sg} {r : Int32} : fX7_naturalRuns E a0 σ = some (r, σ') → CT l yX7_naturalRuns cX7_naturalRuns 3 (some .int) ({ frames := 1, cells := 0, slots := 0, locals := 20 } : Room) [.ref (G.1 + a0)] G E σ (some (.int r)) σ' := by
  intro h
  refine CT_of (lv0 := [(0, .ref (G.1 + a0))]) (by decide) (Nat.le_of_ble_eq_true rfl) rfl (fun κ hl hR hr C => ?_)
  have C : Cx κ G cX7_naturalRuns RX7 3 := C
  revert h
  unfold fX7_naturalRuns
  refine R_tk (fun ha0 => ?_)
  refine R_aload_n C 0 rfl dX7_naturalRuns_0 ?_
  refine R_bd (fun r3 s1 q2 => ?_)
  refine R_callVi [] [] C ml7_93 (kX7_many q2) (by rw [hR]; exact ⟨rfl, rfl, Nat.le_of_ble_eq_true rfl, Nat.le_of_ble_eq_true rfl, Nat.zero_le _, Nat.zero_le _⟩) ha0 rfl rfl (Nat.le_of_ble_eq_true rfl) dX7_naturalRuns_1 ?_
  refine R_bdK (fun (w : Int32) (s : Sg) => V κ G (QQ κ G E (some (.int r)) σ') E s (false, 0, 0) 12 [(0, .ref (G.1 + a0))] [.int w]) (fun w4 s5 => ?_) (fun w4 s5 Kw4 => ?_)
  · refine R_bd (fun r8 s6 q7 => ?_)
    refine R_callSi [.int w4] [] C ml7_151 (kX7_truth q7) (by rw [hR]; exact ⟨rfl, rfl, Nat.le_of_ble_eq_true rfl, Nat.le_of_ble_eq_true rfl, Nat.zero_le _, Nat.zero_le _⟩) rfl rfl (Nat.le_of_ble_eq_true rfl) dX7_naturalRuns_12 ?_
    refine R_istore_n (lv2 := [(1, .int r8), (0, .ref (G.1 + a0))]) C dX7_naturalRuns_15 rfl (by decide) rfl ?_
    refine R_iconst C (1) dX7_naturalRuns_16 (by decide) ?_
    refine R_istore_n (lv2 := [(2, .int (1 : Int32)), (1, .int r8), (0, .ref (G.1 + a0))]) C dX7_naturalRuns_17 rfl (by decide) rfl ?_
    refine R_loc (lv2 := [(0, .ref (G.1 + a0)), (1, .int r8), (2, .int (1 : Int32))]) [2, 1, 0] rfl ?_
    refine R_loop (fun (a : (Int32 × Int32) × Sg) => V κ G (QQ κ G E (some (.int r)) σ') E a.2 (false, 0, 0) 18 [(0, .ref (G.1 + a0)), (1, .int a.1.1), (2, .int a.1.2)] []) (fun (o : (Int32 × Int32)) (s : Sg) => V κ G (QQ κ G E (some (.int r)) σ') E s (false, 0, 0) 66 [(1, .int o.1)] []) ((r8, (1 : Int32)), s6) (fun o29 s30 => ?_) (fun rec I15 a b13 s14 K12 => ?_)
    · refine R_iload_n C 0 rfl dX7_naturalRuns_66 ?_
      exact R_iret C hr dX7_naturalRuns_67
    · obtain ⟨⟨v9, v10⟩, s11⟩ := a
      show bX7_naturalRuns_18 E a0 (fun u0 u1 t => rec ((u0, u1), t)) v9 v10 s11 = some (b13, s14) → V κ G (QQ κ G E (some (.int r)) σ') E s11 (false, 0, 0) 18 [(0, .ref (G.1 + a0)), (1, .int v9), (2, .int v10)] []
      unfold bX7_naturalRuns_18
      refine R_iload_n C 2 rfl dX7_naturalRuns_18 ?_
      refine R_aload_n C 0 rfl dX7_naturalRuns_19 ?_
      refine R_bd (fun r18 s16 q17 => ?_)
      refine R_callVi [] [.int v10] C ml7_93 (kX7_many q17) (by rw [hR]; exact ⟨rfl, rfl, Nat.le_of_ble_eq_true rfl, Nat.le_of_ble_eq_true rfl, Nat.zero_le _, Nat.zero_le _⟩) ha0 rfl rfl (Nat.le_of_ble_eq_true rfl) dX7_naturalRuns_20 ?_
      refine B_icmp_ge C dX7_naturalRuns_23 ?_ ?_
      · refine R_loc (lv2 := [(1, .int v9)]) [1] rfl ?_
        exact R_end (fun (o : (Int32 × Int32)) (s : Sg) => V κ G (QQ κ G E (some (.int r)) σ') E s (false, 0, 0) 66 [(1, .int o.1)] []) K12
      · refine R_iload_n C 1 rfl dX7_naturalRuns_26 ?_
        refine R_aload_n C 0 rfl dX7_naturalRuns_27 ?_
        refine R_dr (fun x19 rx19 cx19 => ?_)
        refine R_getr C fl7_9 rfl ha0 rx19 dX7_naturalRuns_28 ?_
        refine R_bipush C (26) dX7_naturalRuns_31 (by decide) ?_
        refine R_iload_n C 2 rfl dX7_naturalRuns_33 ?_
        refine R_iadd C dX7_naturalRuns_34 ?_
        refine R_ck (fun h20 => ?_)
        refine R_iald C cx19 h20 dX7_naturalRuns_35 ?_
        refine R_aload_n C 0 rfl dX7_naturalRuns_36 ?_
        refine R_getr C fl7_9 rfl ha0 rx19 dX7_naturalRuns_37 ?_
        refine R_bipush C (26) dX7_naturalRuns_40 (by decide) ?_
        refine R_iload_n C 2 rfl dX7_naturalRuns_42 ?_
        refine R_iadd C dX7_naturalRuns_43 ?_
        refine R_iconst C (1) dX7_naturalRuns_44 (by decide) ?_
        refine R_isub C dX7_naturalRuns_45 ?_
        refine R_ck (fun h21 => ?_)
        refine R_iald C cx19 h21 dX7_naturalRuns_46 ?_
        refine R_bdK (fun (w : Int32) (s : Sg) => V κ G (QQ κ G E (some (.int r)) σ') E s (false, 0, 0) 55 [(0, .ref (G.1 + a0)), (2, .int v10)] [.int w, .int v9]) (fun w22 s23 => ?_) (fun w22 s23 Kw22 => ?_)
        · refine R_bd (fun r26 s24 q25 => ?_)
          refine R_callSi [.int w22] [.int v9] C ml7_151 (kX7_truth q25) (by rw [hR]; exact ⟨rfl, rfl, Nat.le_of_ble_eq_true rfl, Nat.le_of_ble_eq_true rfl, Nat.zero_le _, Nat.zero_le _⟩) rfl rfl (Nat.le_of_ble_eq_true rfl) dX7_naturalRuns_55 ?_
          refine R_iadd C dX7_naturalRuns_58 ?_
          refine S_istore_n C dX7_naturalRuns_59 rfl (fun v27 => [(1, .int v27), (0, .ref (G.1 + a0)), (2, .int v10)]) (by decide) (fun _ => rfl) (fun v27 => ?_)
          refine S_iinc (fun v28 => [(2, .int v28), (1, .int v27), (0, .ref (G.1 + a0))]) 2 C dX7_naturalRuns_60 rfl (by decide) (by decide) (fun _ => rfl) (fun v28 => ?_)
          refine R_goto C dX7_naturalRuns_63 ?_
          refine R_loc (lv2 := [(0, .ref (G.1 + a0)), (1, .int v27), (2, .int v28)]) [2, 1, 0] rfl ?_
          exact I15 ((v27, v28), s24) b13 s14 K12
        · refine B_icmp_ge C dX7_naturalRuns_47 ?_ ?_
          · refine R_iconst C (0) dX7_naturalRuns_54 (by decide) ?_
            refine R_loc (lv2 := [(0, .ref (G.1 + a0)), (2, .int v10)]) [0, 2] rfl ?_
            exact R_end (fun (w : Int32) (s : Sg) => V κ G (QQ κ G E (some (.int r)) σ') E s (false, 0, 0) 55 [(0, .ref (G.1 + a0)), (2, .int v10)] [.int w, .int v9]) Kw22
          · refine R_iconst C (1) dX7_naturalRuns_50 (by decide) ?_
            refine R_goto C dX7_naturalRuns_51 ?_
            refine R_loc (lv2 := [(0, .ref (G.1 + a0)), (2, .int v10)]) [0, 2] rfl ?_
            exact R_end (fun (w : Int32) (s : Sg) => V κ G (QQ κ G E (some (.int r)) σ') E s (false, 0, 0) 55 [(0, .ref (G.1 + a0)), (2, .int v10)] [.int w, .int v9]) Kw22
  · refine B_if_le C dX7_naturalRuns_4 ?_ ?_
    · refine R_iconst C (0) dX7_naturalRuns_11 (by decide) ?_
      exact R_end (fun (w : Int32) (s : Sg) => V κ G (QQ κ G E (some (.int r)) σ') E s (false, 0, 0) 12 [(0, .ref (G.1 + a0))] [.int w]) Kw4
    · refine R_iconst C (1) dX7_naturalRuns_7 (by decide) ?_
      refine R_goto C dX7_naturalRuns_8 ?_
      exact R_end (fun (w : Int32) (s : Sg) => V κ G (QQ κ G E (some (.int r)) σ') E s (false, 0, 0) 12 [(0, .ref (G.1 + a0))] [.int w]) Kw4
theorem dX7_midst_0 : dk cX7_midst 0 1 (.iconst 0) 1 := by unfold dk; decide +kernel
theorem dX7_midst_1 : dk cX7_midst 1 2 (.istore_n 1) 1 := by unfold dk; decide +kernel
theorem dX7_midst_2 : dk cX7_midst 2 3 (.iload_n 1) 1 := by unfold dk; decide +kernel
theorem dX7_midst_3 : dk cX7_midst 3 4 (.aload_n 0) 1 := by unfold dk; decide +kernel
theorem dX7_midst_4 : dk cX7_midst 4 7 (.invokevirtual 93) 3 := by unfold dk; decide +kernel
theorem dX7_midst_10 : dk cX7_midst 10 11 (.iconst 0) 1 := by unfold dk; decide +kernel
theorem dX7_midst_11 : dk cX7_midst 11 12 (.istore_n 2) 1 := by unfold dk; decide +kernel
theorem dX7_midst_12 : dk cX7_midst 12 13 (.iconst 0) 1 := by unfold dk; decide +kernel
theorem dX7_midst_13 : dk cX7_midst 13 14 (.istore_n 3) 1 := by unfold dk; decide +kernel
theorem dX7_midst_14 : dk cX7_midst 14 15 (.iload_n 3) 1 := by unfold dk; decide +kernel
theorem dX7_midst_15 : dk cX7_midst 15 16 (.aload_n 0) 1 := by unfold dk; decide +kernel
theorem dX7_midst_16 : dk cX7_midst 16 19 (.invokevirtual 93) 3 := by unfold dk; decide +kernel
theorem dX7_midst_22 : dk cX7_midst 22 23 (.iload_n 2) 1 := by unfold dk; decide +kernel
theorem dX7_midst_23 : dk cX7_midst 23 24 (.aload_n 0) 1 := by unfold dk; decide +kernel
theorem dX7_midst_24 : dk cX7_midst 24 25 (.iload_n 3) 1 := by unfold dk; decide +kernel
theorem dX7_midst_25 : dk cX7_midst 25 26 (.iload_n 1) 1 := by unfold dk; decide +kernel
theorem dX7_midst_26 : dk cX7_midst 26 29 (.invokevirtual 131) 3 := by unfold dk; decide +kernel
theorem dX7_midst_29 : dk cX7_midst 29 32 (.invokestatic 151) 3 := by unfold dk; decide +kernel
theorem dX7_midst_32 : dk cX7_midst 32 33 (.iadd) 1 := by unfold dk; decide +kernel
theorem dX7_midst_33 : dk cX7_midst 33 34 (.istore_n 2) 1 := by unfold dk; decide +kernel
theorem dX7_midst_34 : dk cX7_midst 34 37 (.iinc 3 1) 3 := by unfold dk; decide +kernel
theorem dX7_midst_37 : bk cX7_midst 37 40 14 (.goto (-23)) (-23) := by unfold bk; decide +kernel
theorem dX7_midst_19 : bk cX7_midst 19 22 40 (.if_icmp .ge 21) (21) := by unfold bk; decide +kernel
theorem dX7_midst_40 : dk cX7_midst 40 41 (.iload_n 2) 1 := by unfold dk; decide +kernel
theorem dX7_midst_41 : dk cX7_midst 41 42 (.aload_n 0) 1 := by unfold dk; decide +kernel
theorem dX7_midst_42 : dk cX7_midst 42 45 (.invokevirtual 93) 3 := by unfold dk; decide +kernel
theorem dX7_midst_45 : dk cX7_midst 45 46 (.iconst 2) 1 := by unfold dk; decide +kernel
theorem dX7_midst_46 : dk cX7_midst 46 47 (.idiv) 1 := by unfold dk; decide +kernel
theorem dX7_midst_52 : dk cX7_midst 52 55 (.iinc 1 1) 3 := by unfold dk; decide +kernel
theorem dX7_midst_55 : bk cX7_midst 55 58 2 (.goto (-53)) (-53) := by unfold bk; decide +kernel
theorem dX7_midst_50 : dk cX7_midst 50 51 (.iload_n 1) 1 := by unfold dk; decide +kernel
theorem dX7_midst_51 : dk cX7_midst 51 52 (.ireturn) 1 := by unfold dk; decide +kernel
theorem dX7_midst_47 : bk cX7_midst 47 50 52 (.if_icmp .ne 5) (5) := by unfold bk; decide +kernel
theorem dX7_midst_7 : bk cX7_midst 7 10 58 (.if_icmp .ge 51) (51) := by unfold bk; decide +kernel
theorem dX7_midst_58 : dk cX7_midst 58 59 (.iconst (-1)) 1 := by unfold dk; decide +kernel
theorem dX7_midst_59 : dk cX7_midst 59 60 (.ireturn) 1 := by unfold dk; decide +kernel
set_option maxHeartbeats 4000000 in
set_option maxRecDepth 100000 in
theorem kX7_midst {l : Launch} {G : Gl} {E : En} {a0 : Nat} {σ σ' : Sg} {r : Int32} : fX7_midst E a0 σ = some (r, σ') → CT l yX7_midst cX7_midst 4 (some .int) ({ frames := 1, cells := 0, slots := 0, locals := 22 } : Room) [.ref (G.1 + a0)] G E σ (some (.int r)) σ' := by
  intro h
  refine CT_of (lv0 := [(0, .ref (G.1 + a0))]) (by decide) (Nat.le_of_ble_eq_true rfl) rfl (fun κ hl hR hr C => ?_)
  have C : Cx κ G cX7_midst RX7 4 := C
  revert h
  unfold fX7_midst
  refine R_tk (fun ha0 => ?_)
  refine R_iconst C (0) dX7_midst_0 (by decide) ?_
  refine R_istore_n (lv2 := [(1, .int (0 : Int32)), (0, .ref (G.1 + a0))]) C dX7_midst_1 rfl (by decide) rfl ?_
  refine R_loc (lv2 := [(0, .ref (G.1 + a0)), (1, .int (0 : Int32))]) [1, 0] rfl ?_
  refine R_loop (fun (a : (Int32) × Sg) => V κ G (QQ κ G E (some (.int r)) σ') E a.2 (false, 0, 0) 2 [(0, .ref (G.1 + a0)), (1, .int a.1)] []) (fun (o : ((Int32) ⊕ Int32)) (s : Sg) => sm o (fun o => V κ G (QQ κ G E (some (.int r)) σ') E s (false, 0, 0) 58 [] []) (fun rr => some (rr, s) = some (r, σ'))) ((0 : Int32), σ) (fun o34 s35 => ?_) (fun rec I6 a b4 s5 K3 => ?_)
  · rcases o34 with vo34 | ro34
    · refine R_sml ?_
      refine R_iconst C (-1) dX7_midst_58 (by decide) ?_
      exact R_iret C hr dX7_midst_59
    · exact fun h => h
  · obtain ⟨v1, s2⟩ := a
    show bX7_midst_2 E a0 (fun u0 t => rec (u0, t)) v1 s2 = some (b4, s5) → V κ G (QQ κ G E (some (.int r)) σ') E s2 (false, 0, 0) 2 [(0, .ref (G.1 + a0)), (1, .int v1)] []
    unfold bX7_midst_2
    refine R_iload_n C 1 rfl dX7_midst_2 ?_
    refine R_aload_n C 0 rfl dX7_midst_3 ?_
    refine R_bd (fun r9 s7 q8 => ?_)
    refine R_callVi [] [.int v1] C ml7_93 (kX7_many q8) (by rw [hR]; exact ⟨rfl, rfl, Nat.le_of_ble_eq_true rfl, Nat.le_of_ble_eq_true rfl, Nat.zero_le _, Nat.zero_le _⟩) ha0 rfl rfl (Nat.le_of_ble_eq_true rfl) dX7_midst_4 ?_
    refine B_icmp_ge C dX7_midst_7 ?_ ?_
    · refine R_loc (lv2 := []) [] rfl ?_
      exact R_inr (VX := (fun (o : ((Int32) ⊕ Int32)) (s : Sg) => sm o (fun o => V κ G (QQ κ G E (some (.int r)) σ') E s (false, 0, 0) 58 [] []) (fun rr => some (rr, s) = some (r, σ')))) (i := .inl) K3 (fun h => h)
    · refine R_iconst C (0) dX7_midst_10 (by decide) ?_
      refine R_istore_n (lv2 := [(2, .int (0 : Int32)), (0, .ref (G.1 + a0)), (1, .int v1)]) C dX7_midst_11 rfl (by decide) rfl ?_
      refine R_iconst C (0) dX7_midst_12 (by decide) ?_
      refine R_istore_n (lv2 := [(3, .int (0 : Int32)), (2, .int (0 : Int32)), (0, .ref (G.1 + a0)), (1, .int v1)]) C dX7_midst_13 rfl (by decide) rfl ?_
      refine R_loc (lv2 := [(0, .ref (G.1 + a0)), (1, .int v1), (2, .int (0 : Int32)), (3, .int (0 : Int32))]) [2, 3, 1, 0] rfl ?_
      refine R_loop (fun (a : (Int32 × Int32) × Sg) => V κ G (QQ κ G E (some (.int r)) σ') E a.2 (false, 0, 0) 14 [(0, .ref (G.1 + a0)), (1, .int v1), (2, .int a.1.1), (3, .int a.1.2)] []) (fun (o : (Int32 × Int32)) (s : Sg) => V κ G (QQ κ G E (some (.int r)) σ') E s (false, 0, 0) 40 [(0, .ref (G.1 + a0)), (1, .int v1), (2, .int o.1)] []) (((0 : Int32), (0 : Int32)), s7) (fun o28 s29 => ?_) (fun rec I16 a b14 s15 K13 => ?_)
      · refine R_iload_n C 2 rfl dX7_midst_40 ?_
        refine R_aload_n C 0 rfl dX7_midst_41 ?_
        refine R_bd (fun r32 s30 q31 => ?_)
        refine R_callVi [] [.int o28.1] C ml7_93 (kX7_many q31) (by rw [hR]; exact ⟨rfl, rfl, Nat.le_of_ble_eq_true rfl, Nat.le_of_ble_eq_true rfl, Nat.zero_le _, Nat.zero_le _⟩) ha0 rfl rfl (Nat.le_of_ble_eq_true rfl) dX7_midst_42 ?_
        refine R_iconst C (2) dX7_midst_45 (by decide) ?_
        refine R_idiv C dX7_midst_46 (by decide) ?_
        refine B_icmp_ne C dX7_midst_47 ?_ ?_
        · refine S_iinc (fun v33 => [(1, .int v33), (0, .ref (G.1 + a0)), (2, .int o28.1)]) 1 C dX7_midst_52 rfl (by decide) (by decide) (fun _ => rfl) (fun v33 => ?_)
          refine R_goto C dX7_midst_55 ?_
          refine R_loc (lv2 := [(0, .ref (G.1 + a0)), (1, .int v33)]) [1, 0] rfl ?_
          exact I6 (v33, s30) b4 s5 K3
        · refine R_iload_n C 1 rfl dX7_midst_50 ?_
          exact R_inr (VX := (fun (o : ((Int32) ⊕ Int32)) (s : Sg) => sm o (fun o => V κ G (QQ κ G E (some (.int r)) σ') E s (false, 0, 0) 58 [] []) (fun rr => some (rr, s) = some (r, σ')))) (i := .inr) K3 (R_iret C hr dX7_midst_51)
      · obtain ⟨⟨v10, v11⟩, s12⟩ := a
        show bX7_midst_14 E a0 v1 (fun u0 u1 t => rec ((u0, u1), t)) v10 v11 s12 = some (b14, s15) → V κ G (QQ κ G E (some (.int r)) σ') E s12 (false, 0, 0) 14 [(0, .ref (G.1 + a0)), (1, .int v1), (2, .int v10), (3, .int v11)] []
        unfold bX7_midst_14
        refine R_iload_n C 3 rfl dX7_midst_14 ?_
        refine R_aload_n C 0 rfl dX7_midst_15 ?_
        refine R_bd (fun r19 s17 q18 => ?_)
        refine R_callVi [] [.int v11] C ml7_93 (kX7_many q18) (by rw [hR]; exact ⟨rfl, rfl, Nat.le_of_ble_eq_true rfl, Nat.le_of_ble_eq_true rfl, Nat.zero_le _, Nat.zero_le _⟩) ha0 rfl rfl (Nat.le_of_ble_eq_true rfl) dX7_midst_16 ?_
        refine B_icmp_ge C dX7_midst_19 ?_ ?_
        · refine R_loc (lv2 := [(0, .ref (G.1 + a0)), (1, .int v1), (2, .int v10)]) [0, 1, 2] rfl ?_
          exact R_end (fun (o : (Int32 × Int32)) (s : Sg) => V κ G (QQ κ G E (some (.int r)) σ') E s (false, 0, 0) 40 [(0, .ref (G.1 + a0)), (1, .int v1), (2, .int o.1)] []) K13
        · refine R_iload_n C 2 rfl dX7_midst_22 ?_
          refine R_aload_n C 0 rfl dX7_midst_23 ?_
          refine R_iload_n C 3 rfl dX7_midst_24 ?_
          refine R_iload_n C 1 rfl dX7_midst_25 ?_
          refine R_bd (fun r22 s20 q21 => ?_)
          refine R_callVi [.int v11, .int v1] [.int v10] C ml7_131 (kX7_isLess q21) (by rw [hR]; exact ⟨rfl, rfl, Nat.le_of_ble_eq_true rfl, Nat.le_of_ble_eq_true rfl, Nat.zero_le _, Nat.zero_le _⟩) ha0 rfl rfl (Nat.le_of_ble_eq_true rfl) dX7_midst_26 ?_
          refine R_bd (fun r25 s23 q24 => ?_)
          refine R_callSi [.int r22] [.int v10] C ml7_151 (kX7_truth q24) (by rw [hR]; exact ⟨rfl, rfl, Nat.le_of_ble_eq_true rfl, Nat.le_of_ble_eq_true rfl, Nat.zero_le _, Nat.zero_le _⟩) rfl rfl (Nat.le_of_ble_eq_true rfl) dX7_midst_29 ?_
          refine R_iadd C dX7_midst_32 ?_
          refine S_istore_n C dX7_midst_33 rfl (fun v26 => [(2, .int v26), (0, .ref (G.1 + a0)), (1, .int v1), (3, .int v11)]) (by decide) (fun _ => rfl) (fun v26 => ?_)
          refine S_iinc (fun v27 => [(3, .int v27), (2, .int v26), (0, .ref (G.1 + a0)), (1, .int v1)]) 3 C dX7_midst_34 rfl (by decide) (by decide) (fun _ => rfl) (fun v27 => ?_)
          refine R_goto C dX7_midst_37 ?_
          refine R_loc (lv2 := [(0, .ref (G.1 + a0)), (1, .int v1), (2, .int v26), (3, .int v27)]) [2, 3, 1, 0] rfl ?_
          exact I16 ((v26, v27), s23) b14 s15 K13
theorem dX7_about_0 : dk cX7_about 0 1 (.iload_n 1) 1 := by unfold dk; decide +kernel
theorem dX7_about_1 : dk cX7_about 1 28 (.tableswitch 42 0 2 #[27, 32, 37]) 27 := by unfold dk; decide +kernel
theorem dX7_about_28 : dk cX7_about 28 29 (.aload_n 0) 1 := by unfold dk; decide +kernel
theorem dX7_about_29 : dk cX7_about 29 32 (.invokevirtual 312) 3 := by unfold dk; decide +kernel
theorem dX7_about_32 : dk cX7_about 32 33 (.ireturn) 1 := by unfold dk; decide +kernel
theorem dX7_about_33 : dk cX7_about 33 34 (.aload_n 0) 1 := by unfold dk; decide +kernel
theorem dX7_about_34 : dk cX7_about 34 37 (.invokevirtual 315) 3 := by unfold dk; decide +kernel
theorem dX7_about_37 : dk cX7_about 37 38 (.ireturn) 1 := by unfold dk; decide +kernel
theorem dX7_about_38 : dk cX7_about 38 39 (.aload_n 0) 1 := by unfold dk; decide +kernel
theorem dX7_about_39 : dk cX7_about 39 42 (.invokevirtual 318) 3 := by unfold dk; decide +kernel
theorem dX7_about_42 : dk cX7_about 42 43 (.ireturn) 1 := by unfold dk; decide +kernel
theorem dX7_about_43 : dk cX7_about 43 44 (.iconst (-1)) 1 := by unfold dk; decide +kernel
theorem dX7_about_44 : dk cX7_about 44 45 (.ireturn) 1 := by unfold dk; decide +kernel
set_option maxHeartbeats 4000000 in
set_option maxRecDepth 100000 in
theorem kX7_about {l : Launch} {G : Gl} {E : En} {a0 : Nat} {a1 : Int32} {σ σ' : Sg} {r : Int32} : fX7_about E a0 a1 σ = some (r, σ') → CT l yX7_about cX7_about 2 (some .int) ({ frames := 2, cells := 0, slots := 0, locals := 45 } : Room) [.ref (G.1 + a0), .int a1] G E σ (some (.int r)) σ' := by
  intro h
  refine CT_of (lv0 := [(0, .ref (G.1 + a0)), (1, .int a1)]) (by decide) (Nat.le_of_ble_eq_true rfl) rfl (fun κ hl hR hr C => ?_)
  have C : Cx κ G cX7_about RX7 2 := C
  revert h
  unfold fX7_about
  refine R_tk (fun ha0 => ?_)
  refine R_iload_n C 1 rfl dX7_about_0 ?_
  refine R_if (fun h1 => ?_) (fun h1 => ?_)
  · refine R_tsIn (off := 27) (t := 28) C dX7_about_1 h1 (by decide) ?_
    refine R_aload_n C 0 rfl dX7_about_28 ?_
    refine R_bd (fun r4 s2 q3 => ?_)
    refine R_callVi [] [] C ml7_312 (kX7_inversions q3) (by rw [hR]; exact ⟨rfl, rfl, Nat.le_of_ble_eq_true rfl, Nat.le_of_ble_eq_true rfl, Nat.zero_le _, Nat.zero_le _⟩) ha0 rfl rfl (Nat.le_of_ble_eq_true rfl) dX7_about_29 ?_
    exact R_iret C hr dX7_about_32
  refine R_if (fun h5 => ?_) (fun h5 => ?_)
  · refine R_tsIn (off := 32) (t := 33) C dX7_about_1 h5 (by decide) ?_
    refine R_aload_n C 0 rfl dX7_about_33 ?_
    refine R_bd (fun r8 s6 q7 => ?_)
    refine R_callVi [] [] C ml7_315 (kX7_naturalRuns q7) (by rw [hR]; exact ⟨rfl, rfl, Nat.le_of_ble_eq_true rfl, Nat.le_of_ble_eq_true rfl, Nat.zero_le _, Nat.zero_le _⟩) ha0 rfl rfl (Nat.le_of_ble_eq_true rfl) dX7_about_34 ?_
    exact R_iret C hr dX7_about_37
  refine R_if (fun h9 => ?_) (fun h9 => ?_)
  · refine R_tsIn (off := 37) (t := 38) C dX7_about_1 h9 (by decide) ?_
    refine R_aload_n C 0 rfl dX7_about_38 ?_
    refine R_bd (fun r12 s10 q11 => ?_)
    refine R_callVi [] [] C ml7_318 (kX7_midst q11) (by rw [hR]; exact ⟨rfl, rfl, Nat.le_of_ble_eq_true rfl, Nat.le_of_ble_eq_true rfl, Nat.zero_le _, Nat.zero_le _⟩) ha0 rfl rfl (Nat.le_of_ble_eq_true rfl) dX7_about_39 ?_
    exact R_iret C hr dX7_about_42
  · refine R_tsOut (t := 43) C dX7_about_1 (by have ah1 := lv_neT (a := 0) h1 (by decide); have ah5 := lv_neT (a := 1) h5 (by decide); have ah9 := lv_neT (a := 2) h9 (by decide); omega) (by decide) ?_
    refine R_iconst C (-1) dX7_about_43 (by decide) ?_
    exact R_iret C hr dX7_about_44
theorem dX7_laysWrites_0 : dk cX7_laysWrites 0 1 (.aload_n 0) 1 := by unfold dk; decide +kernel
theorem dX7_laysWrites_1 : dk cX7_laysWrites 1 4 (.invokevirtual 234) 3 := by unfold dk; decide +kernel
theorem dX7_laysWrites_4 : dk cX7_laysWrites 4 5 (.istore_n 1) 1 := by unfold dk; decide +kernel
theorem dX7_laysWrites_5 : dk cX7_laysWrites 5 6 (.iconst 0) 1 := by unfold dk; decide +kernel
theorem dX7_laysWrites_6 : dk cX7_laysWrites 6 7 (.istore_n 2) 1 := by unfold dk; decide +kernel
theorem dX7_laysWrites_7 : dk cX7_laysWrites 7 8 (.iconst 0) 1 := by unfold dk; decide +kernel
theorem dX7_laysWrites_8 : dk cX7_laysWrites 8 9 (.istore_n 3) 1 := by unfold dk; decide +kernel
theorem dX7_laysWrites_9 : dk cX7_laysWrites 9 10 (.iload_n 3) 1 := by unfold dk; decide +kernel
theorem dX7_laysWrites_10 : dk cX7_laysWrites 10 12 (.bipush 6) 2 := by unfold dk; decide +kernel
theorem dX7_laysWrites_15 : dk cX7_laysWrites 15 16 (.aload_n 0) 1 := by unfold dk; decide +kernel
theorem dX7_laysWrites_16 : dk cX7_laysWrites 16 19 (.getfield 72) 3 := by unfold dk; decide +kernel
theorem dX7_laysWrites_19 : dk cX7_laysWrites 19 20 (.iload_n 3) 1 := by unfold dk; decide +kernel
theorem dX7_laysWrites_20 : dk cX7_laysWrites 20 21 (.iconst 0) 1 := by unfold dk; decide +kernel
theorem dX7_laysWrites_21 : dk cX7_laysWrites 21 22 (.iastore) 1 := by unfold dk; decide +kernel
theorem dX7_laysWrites_22 : dk cX7_laysWrites 22 23 (.iconst 0) 1 := by unfold dk; decide +kernel
theorem dX7_laysWrites_23 : dk cX7_laysWrites 23 25 (.istore 4) 2 := by unfold dk; decide +kernel
theorem dX7_laysWrites_25 : dk cX7_laysWrites 25 26 (.aload_n 0) 1 := by unfold dk; decide +kernel
theorem dX7_laysWrites_26 : dk cX7_laysWrites 26 29 (.getfield 45) 3 := by unfold dk; decide +kernel
theorem dX7_laysWrites_29 : dk cX7_laysWrites 29 30 (.iload_n 3) 1 := by unfold dk; decide +kernel
theorem dX7_laysWrites_30 : dk cX7_laysWrites 30 31 (.iaload) 1 := by unfold dk; decide +kernel
theorem dX7_laysWrites_31 : dk cX7_laysWrites 31 32 (.iconst (-1)) 1 := by unfold dk; decide +kernel
theorem dX7_laysWrites_35 : dk cX7_laysWrites 35 37 (.iload 4) 2 := by unfold dk; decide +kernel
theorem dX7_laysWrites_37 : dk cX7_laysWrites 37 38 (.aload_n 0) 1 := by unfold dk; decide +kernel
theorem dX7_laysWrites_38 : dk cX7_laysWrites 38 41 (.getfield 9) 3 := by unfold dk; decide +kernel
theorem dX7_laysWrites_41 : dk cX7_laysWrites 41 44 (.sipush 1927) 3 := by unfold dk; decide +kernel
theorem dX7_laysWrites_44 : dk cX7_laysWrites 44 45 (.aload_n 0) 1 := by unfold dk; decide +kernel
theorem dX7_laysWrites_45 : dk cX7_laysWrites 45 48 (.getfield 45) 3 := by unfold dk; decide +kernel
theorem dX7_laysWrites_48 : dk cX7_laysWrites 48 49 (.iload_n 3) 1 := by unfold dk; decide +kernel
theorem dX7_laysWrites_49 : dk cX7_laysWrites 49 50 (.iaload) 1 := by unfold dk; decide +kernel
theorem dX7_laysWrites_50 : dk cX7_laysWrites 50 51 (.iadd) 1 := by unfold dk; decide +kernel
theorem dX7_laysWrites_51 : dk cX7_laysWrites 51 52 (.iaload) 1 := by unfold dk; decide +kernel
theorem dX7_laysWrites_55 : dk cX7_laysWrites 55 56 (.aload_n 0) 1 := by unfold dk; decide +kernel
theorem dX7_laysWrites_56 : dk cX7_laysWrites 56 59 (.getfield 9) 3 := by unfold dk; decide +kernel
theorem dX7_laysWrites_59 : dk cX7_laysWrites 59 62 (.sipush 7527) 3 := by unfold dk; decide +kernel
theorem dX7_laysWrites_62 : dk cX7_laysWrites 62 63 (.aload_n 0) 1 := by unfold dk; decide +kernel
theorem dX7_laysWrites_63 : dk cX7_laysWrites 63 66 (.getfield 9) 3 := by unfold dk; decide +kernel
theorem dX7_laysWrites_66 : dk cX7_laysWrites 66 69 (.sipush 1227) 3 := by unfold dk; decide +kernel
theorem dX7_laysWrites_69 : dk cX7_laysWrites 69 70 (.aload_n 0) 1 := by unfold dk; decide +kernel
theorem dX7_laysWrites_70 : dk cX7_laysWrites 70 73 (.getfield 45) 3 := by unfold dk; decide +kernel
theorem dX7_laysWrites_73 : dk cX7_laysWrites 73 74 (.iload_n 3) 1 := by unfold dk; decide +kernel
theorem dX7_laysWrites_74 : dk cX7_laysWrites 74 75 (.iaload) 1 := by unfold dk; decide +kernel
theorem dX7_laysWrites_75 : dk cX7_laysWrites 75 76 (.iadd) 1 := by unfold dk; decide +kernel
theorem dX7_laysWrites_76 : dk cX7_laysWrites 76 77 (.iaload) 1 := by unfold dk; decide +kernel
theorem dX7_laysWrites_77 : dk cX7_laysWrites 77 78 (.iadd) 1 := by unfold dk; decide +kernel
theorem dX7_laysWrites_78 : dk cX7_laysWrites 78 80 (.iload 4) 2 := by unfold dk; decide +kernel
theorem dX7_laysWrites_80 : dk cX7_laysWrites 80 81 (.iadd) 1 := by unfold dk; decide +kernel
theorem dX7_laysWrites_81 : dk cX7_laysWrites 81 82 (.iaload) 1 := by unfold dk; decide +kernel
theorem dX7_laysWrites_82 : dk cX7_laysWrites 82 84 (.istore 5) 2 := by unfold dk; decide +kernel
theorem dX7_laysWrites_84 : dk cX7_laysWrites 84 85 (.iload_n 2) 1 := by unfold dk; decide +kernel
theorem dX7_laysWrites_85 : dk cX7_laysWrites 85 87 (.istore 6) 2 := by unfold dk; decide +kernel
theorem dX7_laysWrites_87 : dk cX7_laysWrites 87 89 (.iload 6) 2 := by unfold dk; decide +kernel
theorem dX7_laysWrites_92 : dk cX7_laysWrites 92 93 (.aload_n 0) 1 := by unfold dk; decide +kernel
theorem dX7_laysWrites_93 : dk cX7_laysWrites 93 95 (.iload 5) 2 := by unfold dk; decide +kernel
theorem dX7_laysWrites_95 : dk cX7_laysWrites 95 96 (.aload_n 0) 1 := by unfold dk; decide +kernel
theorem dX7_laysWrites_96 : dk cX7_laysWrites 96 99 (.getfield 66) 3 := by unfold dk; decide +kernel
theorem dX7_laysWrites_99 : dk cX7_laysWrites 99 101 (.iload 6) 2 := by unfold dk; decide +kernel
theorem dX7_laysWrites_101 : dk cX7_laysWrites 101 102 (.iconst 1) 1 := by unfold dk; decide +kernel
theorem dX7_laysWrites_102 : dk cX7_laysWrites 102 103 (.isub) 1 := by unfold dk; decide +kernel
theorem dX7_laysWrites_103 : dk cX7_laysWrites 103 104 (.iaload) 1 := by unfold dk; decide +kernel
theorem dX7_laysWrites_104 : dk cX7_laysWrites 104 107 (.invokevirtual 131) 3 := by unfold dk; decide +kernel
theorem dX7_laysWrites_107 : dk cX7_laysWrites 107 108 (.iload_n 1) 1 := by unfold dk; decide +kernel
theorem dX7_laysWrites_111 : dk cX7_laysWrites 111 112 (.aload_n 0) 1 := by unfold dk; decide +kernel
theorem dX7_laysWrites_112 : dk cX7_laysWrites 112 115 (.getfield 66) 3 := by unfold dk; decide +kernel
theorem dX7_laysWrites_115 : dk cX7_laysWrites 115 117 (.iload 6) 2 := by unfold dk; decide +kernel
theorem dX7_laysWrites_117 : dk cX7_laysWrites 117 118 (.aload_n 0) 1 := by unfold dk; decide +kernel
theorem dX7_laysWrites_118 : dk cX7_laysWrites 118 121 (.getfield 66) 3 := by unfold dk; decide +kernel
theorem dX7_laysWrites_121 : dk cX7_laysWrites 121 123 (.iload 6) 2 := by unfold dk; decide +kernel
theorem dX7_laysWrites_123 : dk cX7_laysWrites 123 124 (.iconst 1) 1 := by unfold dk; decide +kernel
theorem dX7_laysWrites_124 : dk cX7_laysWrites 124 125 (.isub) 1 := by unfold dk; decide +kernel
theorem dX7_laysWrites_125 : dk cX7_laysWrites 125 126 (.iaload) 1 := by unfold dk; decide +kernel
theorem dX7_laysWrites_126 : dk cX7_laysWrites 126 127 (.iastore) 1 := by unfold dk; decide +kernel
theorem dX7_laysWrites_127 : dk cX7_laysWrites 127 128 (.aload_n 0) 1 := by unfold dk; decide +kernel
theorem dX7_laysWrites_128 : dk cX7_laysWrites 128 131 (.getfield 69) 3 := by unfold dk; decide +kernel
theorem dX7_laysWrites_131 : dk cX7_laysWrites 131 133 (.iload 6) 2 := by unfold dk; decide +kernel
theorem dX7_laysWrites_133 : dk cX7_laysWrites 133 134 (.aload_n 0) 1 := by unfold dk; decide +kernel
theorem dX7_laysWrites_134 : dk cX7_laysWrites 134 137 (.getfield 69) 3 := by unfold dk; decide +kernel
theorem dX7_laysWrites_137 : dk cX7_laysWrites 137 139 (.iload 6) 2 := by unfold dk; decide +kernel
theorem dX7_laysWrites_139 : dk cX7_laysWrites 139 140 (.iconst 1) 1 := by unfold dk; decide +kernel
theorem dX7_laysWrites_140 : dk cX7_laysWrites 140 141 (.isub) 1 := by unfold dk; decide +kernel
theorem dX7_laysWrites_141 : dk cX7_laysWrites 141 142 (.iaload) 1 := by unfold dk; decide +kernel
theorem dX7_laysWrites_142 : dk cX7_laysWrites 142 143 (.iastore) 1 := by unfold dk; decide +kernel
theorem dX7_laysWrites_143 : dk cX7_laysWrites 143 146 (.iinc 6 (-1)) 3 := by unfold dk; decide +kernel
theorem dX7_laysWrites_146 : bk cX7_laysWrites 146 149 87 (.goto (-59)) (-59) := by unfold bk; decide +kernel
theorem dX7_laysWrites_108 : bk cX7_laysWrites 108 111 149 (.if_icmp .ne 41) (41) := by unfold bk; decide +kernel
theorem dX7_laysWrites_89 : bk cX7_laysWrites 89 92 149 (.ifCond .le 60) (60) := by unfold bk; decide +kernel
theorem dX7_laysWrites_149 : dk cX7_laysWrites 149 150 (.aload_n 0) 1 := by unfold dk; decide +kernel
theorem dX7_laysWrites_150 : dk cX7_laysWrites 150 153 (.getfield 66) 3 := by unfold dk; decide +kernel
theorem dX7_laysWrites_153 : dk cX7_laysWrites 153 155 (.iload 6) 2 := by unfold dk; decide +kernel
theorem dX7_laysWrites_155 : dk cX7_laysWrites 155 157 (.iload 5) 2 := by unfold dk; decide +kernel
theorem dX7_laysWrites_157 : dk cX7_laysWrites 157 158 (.iastore) 1 := by unfold dk; decide +kernel
theorem dX7_laysWrites_158 : dk cX7_laysWrites 158 159 (.aload_n 0) 1 := by unfold dk; decide +kernel
theorem dX7_laysWrites_159 : dk cX7_laysWrites 159 162 (.getfield 69) 3 := by unfold dk; decide +kernel
theorem dX7_laysWrites_162 : dk cX7_laysWrites 162 164 (.iload 6) 2 := by unfold dk; decide +kernel
theorem dX7_laysWrites_164 : dk cX7_laysWrites 164 165 (.iload_n 3) 1 := by unfold dk; decide +kernel
theorem dX7_laysWrites_165 : dk cX7_laysWrites 165 166 (.iastore) 1 := by unfold dk; decide +kernel
theorem dX7_laysWrites_166 : dk cX7_laysWrites 166 169 (.iinc 2 1) 3 := by unfold dk; decide +kernel
theorem dX7_laysWrites_169 : dk cX7_laysWrites 169 172 (.iinc 4 1) 3 := by unfold dk; decide +kernel
theorem dX7_laysWrites_172 : bk cX7_laysWrites 172 175 25 (.goto (-147)) (-147) := by unfold bk; decide +kernel
theorem dX7_laysWrites_52 : bk cX7_laysWrites 52 55 175 (.if_icmp .ge 123) (123) := by unfold bk; decide +kernel
theorem dX7_laysWrites_32 : bk cX7_laysWrites 32 35 175 (.if_icmp .eq 143) (143) := by unfold bk; decide +kernel
theorem dX7_laysWrites_175 : dk cX7_laysWrites 175 178 (.iinc 3 1) 3 := by unfold dk; decide +kernel
theorem dX7_laysWrites_178 : bk cX7_laysWrites 178 181 9 (.goto (-169)) (-169) := by unfold bk; decide +kernel
theorem dX7_laysWrites_12 : bk cX7_laysWrites 12 15 181 (.if_icmp .ge 169) (169) := by unfold bk; decide +kernel
theorem dX7_laysWrites_181 : dk cX7_laysWrites 181 182 (.iload_n 2) 1 := by unfold dk; decide +kernel
theorem dX7_laysWrites_182 : dk cX7_laysWrites 182 183 (.ireturn) 1 := by unfold dk; decide +kernel
set_option maxHeartbeats 4000000 in
set_option maxRecDepth 100000 in
theorem kX7_laysWrites {l : Launch} {G : Gl} {E : En} {a0 : Nat} {σ σ' : Sg} {r : Int32} : fX7_laysWrites E a0 σ = some (r, σ') → CT l yX7_laysWrites cX7_laysWrites 7 (some .int) ({ frames := 4, cells := 0, slots := 0, locals := 86 } : Room) [.ref (G.1 + a0)] G E σ (some (.int r)) σ' := by
  intro h
  refine CT_of (lv0 := [(0, .ref (G.1 + a0))]) (by decide) (Nat.le_of_ble_eq_true rfl) rfl (fun κ hl hR hr C => ?_)
  have C : Cx κ G cX7_laysWrites RX7 7 := C
  revert h
  unfold fX7_laysWrites
  refine R_tk (fun ha0 => ?_)
  refine R_aload_n C 0 rfl dX7_laysWrites_0 ?_
  refine R_bd (fun r3 s1 q2 => ?_)
  refine R_callVi [] [] C ml7_234 (kX7_laysTaken q2) (by rw [hR]; exact ⟨rfl, rfl, Nat.le_of_ble_eq_true rfl, Nat.le_of_ble_eq_true rfl, Nat.zero_le _, Nat.zero_le _⟩) ha0 rfl rfl (Nat.le_of_ble_eq_true rfl) dX7_laysWrites_1 ?_
  refine R_istore_n (lv2 := [(1, .int r3), (0, .ref (G.1 + a0))]) C dX7_laysWrites_4 rfl (by decide) rfl ?_
  refine R_iconst C (0) dX7_laysWrites_5 (by decide) ?_
  refine R_istore_n (lv2 := [(2, .int (0 : Int32)), (1, .int r3), (0, .ref (G.1 + a0))]) C dX7_laysWrites_6 rfl (by decide) rfl ?_
  refine R_iconst C (0) dX7_laysWrites_7 (by decide) ?_
  refine R_istore_n (lv2 := [(3, .int (0 : Int32)), (2, .int (0 : Int32)), (1, .int r3), (0, .ref (G.1 + a0))]) C dX7_laysWrites_8 rfl (by decide) rfl ?_
  refine R_loc (lv2 := [(1, .int r3), (0, .ref (G.1 + a0)), (2, .int (0 : Int32)), (3, .int (0 : Int32))]) [2, 3, 1, 0] rfl ?_
  refine R_loop (fun (a : (Int32 × Int32) × Sg) => V κ G (QQ κ G E (some (.int r)) σ') E a.2 (false, 0, 0) 9 [(1, .int r3), (0, .ref (G.1 + a0)), (2, .int a.1.1), (3, .int a.1.2)] []) (fun (o : (Int32 × Int32)) (s : Sg) => V κ G (QQ κ G E (some (.int r)) σ') E s (false, 0, 0) 181 [(2, .int o.1)] []) (((0 : Int32), (0 : Int32)), s1) (fun o62 s63 => ?_) (fun rec I10 a b8 s9 K7 => ?_)
  · refine R_iload_n C 0 rfl dX7_laysWrites_181 ?_
    exact R_iret C hr dX7_laysWrites_182
  · obtain ⟨⟨v4, v5⟩, s6⟩ := a
    show bX7_laysWrites_9 E a0 r3 (fun u0 u1 t => rec ((u0, u1), t)) v4 v5 s6 = some (b8, s9) → V κ G (QQ κ G E (some (.int r)) σ') E s6 (false, 0, 0) 9 [(1, .int r3), (0, .ref (G.1 + a0)), (2, .int v4), (3, .int v5)] []
    unfold bX7_laysWrites_9
    refine R_iload_n C 3 rfl dX7_laysWrites_9 ?_
    refine R_bipush C (6) dX7_laysWrites_10 (by decide) ?_
    refine B_icmp_ge C dX7_laysWrites_12 ?_ ?_
    · refine R_loc (lv2 := [(2, .int v4)]) [2] rfl ?_
      exact R_end (fun (o : (Int32 × Int32)) (s : Sg) => V κ G (QQ κ G E (some (.int r)) σ') E s (false, 0, 0) 181 [(2, .int o.1)] []) K7
    · refine R_aload_n C 1 rfl dX7_laysWrites_15 ?_
      refine R_dr (fun x11 rx11 cx11 => ?_)
      refine R_getr C fl7_72 rfl ha0 rx11 dX7_laysWrites_16 ?_
      refine R_iload_n C 3 rfl dX7_laysWrites_19 ?_
      refine R_iconst C (0) dX7_laysWrites_20 (by decide) ?_
      refine R_ck (fun h12 => ?_)
      refine S_iast C cx11 h12 dX7_laysWrites_21 (fun s13 => ?_)
      refine R_iconst C (0) dX7_laysWrites_22 (by decide) ?_
      refine R_istore (lv2 := [(4, .int (0 : Int32)), (1, .int r3), (0, .ref (G.1 + a0)), (2, .int v4), (3, .int v5)]) C dX7_laysWrites_23 (by decide) rfl ?_
      refine R_loc (lv2 := [(1, .int r3), (0, .ref (G.1 + a0)), (3, .int v5), (2, .int v4), (4, .int (0 : Int32))]) [1, 2, 4, 3, 0] rfl ?_
      refine R_loop (fun (a : (Int32 × Int32) × Sg) => V κ G (QQ κ G E (some (.int r)) σ') E a.2 (false, 0, 0) 25 [(1, .int r3), (0, .ref (G.1 + a0)), (3, .int v5), (2, .int a.1.1), (4, .int a.1.2)] []) (fun (o : (Int32 × Int32)) (s : Sg) => V κ G (QQ κ G E (some (.int r)) σ') E s (false, 0, 0) 175 [(1, .int r3), (0, .ref (G.1 + a0)), (3, .int v5), (2, .int o.1)] []) ((v4, (0 : Int32)), s13) (fun o59 s60 => ?_) (fun rec I20 a b18 s19 K17 => ?_)
      · refine S_iinc (fun v61 => [(3, .int v61), (1, .int r3), (0, .ref (G.1 + a0)), (2, .int o59.1)]) 2 C dX7_laysWrites_175 rfl (by decide) (by decide) (fun _ => rfl) (fun v61 => ?_)
        refine R_goto C dX7_laysWrites_178 ?_
        refine R_loc (lv2 := [(1, .int r3), (0, .ref (G.1 + a0)), (2, .int o59.1), (3, .int v61)]) [1, 2, 3, 0] rfl ?_
        exact I10 ((o59.1, v61), s60) b8 s9 K7
      · obtain ⟨⟨v14, v15⟩, s16⟩ := a
        show bX7_laysWrites_25 E a0 v5 r3 (fun u0 u1 t => rec ((u0, u1), t)) v14 v15 s16 = some (b18, s19) → V κ G (QQ κ G E (some (.int r)) σ') E s16 (false, 0, 0) 25 [(1, .int r3), (0, .ref (G.1 + a0)), (3, .int v5), (2, .int v14), (4, .int v15)] []
        unfold bX7_laysWrites_25
        refine R_aload_n C 1 rfl dX7_laysWrites_25 ?_
        refine R_dr (fun x21 rx21 cx21 => ?_)
        refine R_getr C fl7_45 rfl ha0 rx21 dX7_laysWrites_26 ?_
        refine R_iload_n C 2 rfl dX7_laysWrites_29 ?_
        refine R_ck (fun h22 => ?_)
        refine R_iald C cx21 h22 dX7_laysWrites_30 ?_
        refine R_iconst C (-1) dX7_laysWrites_31 (by decide) ?_
        refine B_icmp_eq C dX7_laysWrites_32 ?_ ?_
        · refine R_loc (lv2 := [(1, .int r3), (0, .ref (G.1 + a0)), (3, .int v5), (2, .int v14)]) [0, 1, 2, 3] rfl ?_
          exact R_end (fun (o : (Int32 × Int32)) (s : Sg) => V κ G (QQ κ G E (some (.int r)) σ') E s (false, 0, 0) 175 [(1, .int r3), (0, .ref (G.1 + a0)), (3, .int v5), (2, .int o.1)] []) K17
        · refine R_iload C 4 rfl dX7_laysWrites_35 ?_
          refine R_aload_n C 1 rfl dX7_laysWrites_37 ?_
          refine R_dr (fun x23 rx23 cx23 => ?_)
          refine R_getr C fl7_9 rfl ha0 rx23 dX7_laysWrites_38 ?_
          refine R_sipush C (1927) dX7_laysWrites_41 (by decide) ?_
          refine R_aload_n C 1 rfl dX7_laysWrites_44 ?_
          refine R_getr C fl7_45 rfl ha0 rx21 dX7_laysWrites_45 ?_
          refine R_iload_n C 2 rfl dX7_laysWrites_48 ?_
          refine R_ck (fun h24 => ?_)
          refine R_iald C cx21 h24 dX7_laysWrites_49 ?_
          refine R_iadd C dX7_laysWrites_50 ?_
          refine R_ck (fun h25 => ?_)
          refine R_iald C cx23 h25 dX7_laysWrites_51 ?_
          refine B_icmp_ge C dX7_laysWrites_52 ?_ ?_
          · refine R_loc (lv2 := [(1, .int r3), (0, .ref (G.1 + a0)), (3, .int v5), (2, .int v14)]) [0, 1, 2, 3] rfl ?_
            exact R_end (fun (o : (Int32 × Int32)) (s : Sg) => V κ G (QQ κ G E (some (.int r)) σ') E s (false, 0, 0) 175 [(1, .int r3), (0, .ref (G.1 + a0)), (3, .int v5), (2, .int o.1)] []) K17
          · refine R_aload_n C 1 rfl dX7_laysWrites_55 ?_
            refine R_getr C fl7_9 rfl ha0 rx23 dX7_laysWrites_56 ?_
            refine R_sipush C (7527) dX7_laysWrites_59 (by decide) ?_
            refine R_aload_n C 1 rfl dX7_laysWrites_62 ?_
            refine R_getr C fl7_9 rfl ha0 rx23 dX7_laysWrites_63 ?_
            refine R_sipush C (1227) dX7_laysWrites_66 (by decide) ?_
            refine R_aload_n C 1 rfl dX7_laysWrites_69 ?_
            refine R_getr C fl7_45 rfl ha0 rx21 dX7_laysWrites_70 ?_
            refine R_iload_n C 2 rfl dX7_laysWrites_73 ?_
            refine R_ck (fun h26 => ?_)
            refine R_iald C cx21 h26 dX7_laysWrites_74 ?_
            refine R_iadd C dX7_laysWrites_75 ?_
            refine R_ck (fun h27 => ?_)
            refine R_iald C cx23 h27 dX7_laysWrites_76 ?_
            refine R_iadd C dX7_laysWrites_77 ?_
            refine R_iload C 4 rfl dX7_laysWrites_78 ?_
            refine R_iadd C dX7_laysWrites_80 ?_
            refine R_ck (fun h28 => ?_)
            refine R_iald C cx23 h28 dX7_laysWrites_81 ?_
            refine S_istore C dX7_laysWrites_82 (fun v29 => [(5, .int v29), (1, .int r3), (0, .ref (G.1 + a0)), (3, .int v5), (2, .int v14), (4, .int v15)]) (by decide) (fun _ => rfl) (fun v29 => ?_)
            refine R_iload_n C 4 rfl dX7_laysWrites_84 ?_
            refine R_istore (lv2 := [(6, .int v14), (5, .int v29), (1, .int r3), (0, .ref (G.1 + a0)), (3, .int v5), (2, .int v14), (4, .int v15)]) C dX7_laysWrites_85 (by decide) rfl ?_
            refine R_loc (lv2 := [(5, .int v29), (1, .int r3), (0, .ref (G.1 + a0)), (3, .int v5), (2, .int v14), (4, .int v15), (6, .int v14)]) [1, 2, 3, 4, 5, 6, 0] rfl ?_
            refine R_loop (fun (a : (Int32) × Sg) => V κ G (QQ κ G E (some (.int r)) σ') E a.2 (false, 0, 0) 87 [(5, .int v29), (1, .int r3), (0, .ref (G.1 + a0)), (3, .int v5), (2, .int v14), (4, .int v15), (6, .int a.1)] []) (fun (o : (Int32)) (s : Sg) => V κ G (QQ κ G E (some (.int r)) σ') E s (false, 0, 0) 149 [(5, .int v29), (1, .int r3), (0, .ref (G.1 + a0)), (3, .int v5), (2, .int v14), (4, .int v15), (6, .int o)] []) (v14, s16) (fun o49 s50 => ?_) (fun rec I35 a b33 s34 K32 => ?_)
            · refine R_aload_n C 2 rfl dX7_laysWrites_149 ?_
              refine R_dr (fun x51 rx51 cx51 => ?_)
              refine R_getr C fl7_66 rfl ha0 rx51 dX7_laysWrites_150 ?_
              refine R_iload C 6 rfl dX7_laysWrites_153 ?_
              refine R_iload C 0 rfl dX7_laysWrites_155 ?_
              refine R_ck (fun h52 => ?_)
              refine S_iast C cx51 h52 dX7_laysWrites_157 (fun s53 => ?_)
              refine R_aload_n C 2 rfl dX7_laysWrites_158 ?_
              refine R_dr (fun x54 rx54 cx54 => ?_)
              refine R_getr C fl7_69 rfl ha0 rx54 dX7_laysWrites_159 ?_
              refine R_iload C 6 rfl dX7_laysWrites_162 ?_
              refine R_iload_n C 3 rfl dX7_laysWrites_164 ?_
              refine R_ck (fun h55 => ?_)
              refine S_iast C cx54 h55 dX7_laysWrites_165 (fun s56 => ?_)
              refine S_iinc (fun v57 => [(2, .int v57), (5, .int v29), (1, .int r3), (0, .ref (G.1 + a0)), (3, .int v5), (4, .int v15), (6, .int o49)]) 4 C dX7_laysWrites_166 rfl (by decide) (by decide) (fun _ => rfl) (fun v57 => ?_)
              refine S_iinc (fun v58 => [(4, .int v58), (2, .int v57), (5, .int v29), (1, .int r3), (0, .ref (G.1 + a0)), (3, .int v5), (6, .int o49)]) 5 C dX7_laysWrites_169 rfl (by decide) (by decide) (fun _ => rfl) (fun v58 => ?_)
              refine R_goto C dX7_laysWrites_172 ?_
              refine R_loc (lv2 := [(1, .int r3), (0, .ref (G.1 + a0)), (3, .int v5), (2, .int v57), (4, .int v58)]) [3, 4, 5, 1, 0] rfl ?_
              exact I20 ((v57, v58), s56) b18 s19 K17
            · obtain ⟨v30, s31⟩ := a
              show bX7_laysWrites_87 E a0 v29 r3 (fun u0 t => rec (u0, t)) v30 s31 = some (b33, s34) → V κ G (QQ κ G E (some (.int r)) σ') E s31 (false, 0, 0) 87 [(5, .int v29), (1, .int r3), (0, .ref (G.1 + a0)), (3, .int v5), (2, .int v14), (4, .int v15), (6, .int v30)] []
              unfold bX7_laysWrites_87
              refine R_iload C 6 rfl dX7_laysWrites_87 ?_
              refine B_if_le C dX7_laysWrites_89 ?_ ?_
              · exact R_end (fun (o : (Int32)) (s : Sg) => V κ G (QQ κ G E (some (.int r)) σ') E s (false, 0, 0) 149 [(5, .int v29), (1, .int r3), (0, .ref (G.1 + a0)), (3, .int v5), (2, .int v14), (4, .int v15), (6, .int o)] []) K32
              · refine R_aload_n C 2 rfl dX7_laysWrites_92 ?_
                refine R_iload C 0 rfl dX7_laysWrites_93 ?_
                refine R_aload_n C 2 rfl dX7_laysWrites_95 ?_
                refine R_dr (fun x36 rx36 cx36 => ?_)
                refine R_getr C fl7_66 rfl ha0 rx36 dX7_laysWrites_96 ?_
                refine R_iload C 6 rfl dX7_laysWrites_99 ?_
                refine R_iconst C (1) dX7_laysWrites_101 (by decide) ?_
                refine R_isub C dX7_laysWrites_102 ?_
                refine R_ck (fun h37 => ?_)
                refine R_iald C cx36 h37 dX7_laysWrites_103 ?_
                refine R_bd (fun r40 s38 q39 => ?_)
                refine R_callVi [.int v29, .int (gi s31 x36 (v30 - (1 : Int32)).toNatClampNeg)] [] C ml7_131 (kX7_isLess q39) (by rw [hR]; exact ⟨rfl, rfl, Nat.le_of_ble_eq_true rfl, Nat.le_of_ble_eq_true rfl, Nat.zero_le _, Nat.zero_le _⟩) ha0 rfl rfl (Nat.le_of_ble_eq_true rfl) dX7_laysWrites_104 ?_
                refine R_iload_n C 1 rfl dX7_laysWrites_107 ?_
                refine B_icmp_ne C dX7_laysWrites_108 ?_ ?_
                · exact R_end (fun (o : (Int32)) (s : Sg) => V κ G (QQ κ G E (some (.int r)) σ') E s (false, 0, 0) 149 [(5, .int v29), (1, .int r3), (0, .ref (G.1 + a0)), (3, .int v5), (2, .int v14), (4, .int v15), (6, .int o)] []) K32
                · refine R_aload_n C 2 rfl dX7_laysWrites_111 ?_
                  refine R_getr C fl7_66 rfl ha0 rx36 dX7_laysWrites_112 ?_
                  refine R_iload C 6 rfl dX7_laysWrites_115 ?_
                  refine R_aload_n C 2 rfl dX7_laysWrites_117 ?_
                  refine R_getr C fl7_66 rfl ha0 rx36 dX7_laysWrites_118 ?_
                  refine R_iload C 6 rfl dX7_laysWrites_121 ?_
                  refine R_iconst C (1) dX7_laysWrites_123 (by decide) ?_
                  refine R_isub C dX7_laysWrites_124 ?_
                  refine R_ck (fun h41 => ?_)
                  refine R_iald C cx36 h41 dX7_laysWrites_125 ?_
                  refine R_ck (fun h42 => ?_)
                  refine S_iast C cx36 h42 dX7_laysWrites_126 (fun s43 => ?_)
                  refine R_aload_n C 2 rfl dX7_laysWrites_127 ?_
                  refine R_dr (fun x44 rx44 cx44 => ?_)
                  refine R_getr C fl7_69 rfl ha0 rx44 dX7_laysWrites_128 ?_
                  refine R_iload C 6 rfl dX7_laysWrites_131 ?_
                  refine R_aload_n C 2 rfl dX7_laysWrites_133 ?_
                  refine R_getr C fl7_69 rfl ha0 rx44 dX7_laysWrites_134 ?_
                  refine R_iload C 6 rfl dX7_laysWrites_137 ?_
                  refine R_iconst C (1) dX7_laysWrites_139 (by decide) ?_
                  refine R_isub C dX7_laysWrites_140 ?_
                  refine R_ck (fun h45 => ?_)
                  refine R_iald C cx44 h45 dX7_laysWrites_141 ?_
                  refine R_ck (fun h46 => ?_)
                  refine S_iast C cx44 h46 dX7_laysWrites_142 (fun s47 => ?_)
                  refine S_iinc (fun v48 => [(6, .int v48), (5, .int v29), (1, .int r3), (0, .ref (G.1 + a0)), (3, .int v5), (2, .int v14), (4, .int v15)]) 6 C dX7_laysWrites_143 rfl (by decide) (by decide) (fun _ => rfl) (fun v48 => ?_)
                  refine R_goto C dX7_laysWrites_146 ?_
                  refine R_loc (lv2 := [(5, .int v29), (1, .int r3), (0, .ref (G.1 + a0)), (3, .int v5), (2, .int v14), (4, .int v15), (6, .int v48)]) [1, 2, 3, 4, 5, 6, 0] rfl ?_
                  exact I35 (v48, s47) b33 s34 K32
theorem dX7_forecast_0 : dk cX7_forecast 0 1 (.iload_n 1) 1 := by unfold dk; decide +kernel
theorem dX7_forecast_1 : dk cX7_forecast 1 2 (.iconst 1) 1 := by unfold dk; decide +kernel
theorem dX7_forecast_2 : dk cX7_forecast 2 4 (.bipush 16) 2 := by unfold dk; decide +kernel
theorem dX7_forecast_4 : dk cX7_forecast 4 7 (.invokestatic 116) 3 := by unfold dk; decide +kernel
theorem dX7_forecast_26 : dk cX7_forecast 26 27 (.iconst (-1)) 1 := by unfold dk; decide +kernel
theorem dX7_forecast_27 : dk cX7_forecast 27 28 (.ireturn) 1 := by unfold dk; decide +kernel
theorem dX7_forecast_10 : dk cX7_forecast 10 11 (.iload_n 2) 1 := by unfold dk; decide +kernel
theorem dX7_forecast_11 : dk cX7_forecast 11 12 (.iconst (-1)) 1 := by unfold dk; decide +kernel
theorem dX7_forecast_15 : dk cX7_forecast 15 16 (.aload_n 0) 1 := by unfold dk; decide +kernel
theorem dX7_forecast_16 : dk cX7_forecast 16 19 (.getfield 9) 3 := by unfold dk; decide +kernel
theorem dX7_forecast_19 : dk cX7_forecast 19 21 (.bipush 7) 2 := by unfold dk; decide +kernel
theorem dX7_forecast_21 : dk cX7_forecast 21 22 (.iaload) 1 := by unfold dk; decide +kernel
theorem dX7_forecast_22 : dk cX7_forecast 22 23 (.iconst 2) 1 := by unfold dk; decide +kernel
theorem dX7_forecast_28 : dk cX7_forecast 28 29 (.aload_n 0) 1 := by unfold dk; decide +kernel
theorem dX7_forecast_29 : dk cX7_forecast 29 32 (.invokevirtual 321) 3 := by unfold dk; decide +kernel
theorem dX7_forecast_32 : dk cX7_forecast 32 33 (.istore_n 3) 1 := by unfold dk; decide +kernel
theorem dX7_forecast_33 : dk cX7_forecast 33 34 (.iconst 0) 1 := by unfold dk; decide +kernel
theorem dX7_forecast_34 : dk cX7_forecast 34 36 (.istore 4) 2 := by unfold dk; decide +kernel
theorem dX7_forecast_36 : dk cX7_forecast 36 37 (.iconst 0) 1 := by unfold dk; decide +kernel
theorem dX7_forecast_37 : dk cX7_forecast 37 39 (.istore 5) 2 := by unfold dk; decide +kernel
theorem dX7_forecast_39 : dk cX7_forecast 39 41 (.iload 5) 2 := by unfold dk; decide +kernel
theorem dX7_forecast_41 : dk cX7_forecast 41 42 (.iload_n 3) 1 := by unfold dk; decide +kernel
theorem dX7_forecast_45 : dk cX7_forecast 45 46 (.aload_n 0) 1 := by unfold dk; decide +kernel
theorem dX7_forecast_46 : dk cX7_forecast 46 49 (.getfield 69) 3 := by unfold dk; decide +kernel
theorem dX7_forecast_49 : dk cX7_forecast 49 51 (.iload 5) 2 := by unfold dk; decide +kernel
theorem dX7_forecast_51 : dk cX7_forecast 51 52 (.iaload) 1 := by unfold dk; decide +kernel
theorem dX7_forecast_52 : dk cX7_forecast 52 54 (.istore 6) 2 := by unfold dk; decide +kernel
theorem dX7_forecast_54 : dk cX7_forecast 54 55 (.aload_n 0) 1 := by unfold dk; decide +kernel
theorem dX7_forecast_55 : dk cX7_forecast 55 58 (.getfield 72) 3 := by unfold dk; decide +kernel
theorem dX7_forecast_58 : dk cX7_forecast 58 60 (.iload 6) 2 := by unfold dk; decide +kernel
theorem dX7_forecast_60 : dk cX7_forecast 60 61 (.dup2) 1 := by unfold dk; decide +kernel
theorem dX7_forecast_61 : dk cX7_forecast 61 62 (.iaload) 1 := by unfold dk; decide +kernel
theorem dX7_forecast_62 : dk cX7_forecast 62 63 (.iconst 1) 1 := by unfold dk; decide +kernel
theorem dX7_forecast_63 : dk cX7_forecast 63 64 (.iadd) 1 := by unfold dk; decide +kernel
theorem dX7_forecast_64 : dk cX7_forecast 64 65 (.iastore) 1 := by unfold dk; decide +kernel
theorem dX7_forecast_65 : dk cX7_forecast 65 66 (.aload_n 0) 1 := by unfold dk; decide +kernel
theorem dX7_forecast_66 : dk cX7_forecast 66 69 (.getfield 72) 3 := by unfold dk; decide +kernel
theorem dX7_forecast_69 : dk cX7_forecast 69 71 (.iload 6) 2 := by unfold dk; decide +kernel
theorem dX7_forecast_71 : dk cX7_forecast 71 72 (.iaload) 1 := by unfold dk; decide +kernel
theorem dX7_forecast_72 : dk cX7_forecast 72 73 (.iload_n 1) 1 := by unfold dk; decide +kernel
theorem dX7_forecast_73 : dk cX7_forecast 73 74 (.irem) 1 := by unfold dk; decide +kernel
theorem dX7_forecast_115 : dk cX7_forecast 115 118 (.iinc 5 1) 3 := by unfold dk; decide +kernel
theorem dX7_forecast_118 : bk cX7_forecast 118 121 39 (.goto (-79)) (-79) := by unfold bk; decide +kernel
theorem dX7_forecast_77 : dk cX7_forecast 77 78 (.aload_n 0) 1 := by unfold dk; decide +kernel
theorem dX7_forecast_78 : dk cX7_forecast 78 81 (.getfield 72) 3 := by unfold dk; decide +kernel
theorem dX7_forecast_81 : dk cX7_forecast 81 83 (.iload 6) 2 := by unfold dk; decide +kernel
theorem dX7_forecast_83 : dk cX7_forecast 83 84 (.iaload) 1 := by unfold dk; decide +kernel
theorem dX7_forecast_84 : dk cX7_forecast 84 85 (.aload_n 0) 1 := by unfold dk; decide +kernel
theorem dX7_forecast_85 : dk cX7_forecast 85 88 (.getfield 9) 3 := by unfold dk; decide +kernel
theorem dX7_forecast_88 : dk cX7_forecast 88 91 (.sipush 1927) 3 := by unfold dk; decide +kernel
theorem dX7_forecast_91 : dk cX7_forecast 91 92 (.aload_n 0) 1 := by unfold dk; decide +kernel
theorem dX7_forecast_92 : dk cX7_forecast 92 95 (.getfield 45) 3 := by unfold dk; decide +kernel
theorem dX7_forecast_95 : dk cX7_forecast 95 97 (.iload 6) 2 := by unfold dk; decide +kernel
theorem dX7_forecast_97 : dk cX7_forecast 97 98 (.iaload) 1 := by unfold dk; decide +kernel
theorem dX7_forecast_98 : dk cX7_forecast 98 99 (.iadd) 1 := by unfold dk; decide +kernel
theorem dX7_forecast_99 : dk cX7_forecast 99 100 (.iaload) 1 := by unfold dk; decide +kernel
theorem dX7_forecast_103 : dk cX7_forecast 103 105 (.iload 4) 2 := by unfold dk; decide +kernel
theorem dX7_forecast_105 : dk cX7_forecast 105 106 (.iload_n 2) 1 := by unfold dk; decide +kernel
theorem dX7_forecast_112 : dk cX7_forecast 112 115 (.iinc 4 1) 3 := by unfold dk; decide +kernel
theorem dX7_forecast_109 : dk cX7_forecast 109 111 (.iload 6) 2 := by unfold dk; decide +kernel
theorem dX7_forecast_111 : dk cX7_forecast 111 112 (.ireturn) 1 := by unfold dk; decide +kernel
theorem dX7_forecast_106 : bk cX7_forecast 106 109 112 (.if_icmp .ne 6) (6) := by unfold bk; decide +kernel
theorem dX7_forecast_100 : bk cX7_forecast 100 103 115 (.if_icmp .ge 15) (15) := by unfold bk; decide +kernel
theorem dX7_forecast_74 : bk cX7_forecast 74 77 115 (.ifCond .ne 41) (41) := by unfold bk; decide +kernel
theorem dX7_forecast_42 : bk cX7_forecast 42 45 121 (.if_icmp .ge 79) (79) := by unfold bk; decide +kernel
theorem dX7_forecast_121 : dk cX7_forecast 121 122 (.iload_n 2) 1 := by unfold dk; decide +kernel
theorem dX7_forecast_122 : dk cX7_forecast 122 123 (.iconst (-1)) 1 := by unfold dk; decide +kernel
theorem dX7_forecast_123 : bk cX7_forecast 123 126 131 (.if_icmp .ne 8) (8) := by unfold bk; decide +kernel
theorem dX7_forecast_131 : dk cX7_forecast 131 133 (.bipush (-2)) 2 := by unfold dk; decide +kernel
theorem dX7_forecast_126 : dk cX7_forecast 126 128 (.iload 4) 2 := by unfold dk; decide +kernel
theorem dX7_forecast_128 : bk cX7_forecast 128 131 133 (.goto 5) (5) := by unfold bk; decide +kernel
theorem dX7_forecast_133 : dk cX7_forecast 133 134 (.ireturn) 1 := by unfold dk; decide +kernel
theorem dX7_forecast_23 : bk cX7_forecast 23 26 28 (.if_icmp .eq 5) (5) := by unfold bk; decide +kernel
theorem dX7_forecast_12 : bk cX7_forecast 12 15 26 (.if_icmp .lt 14) (14) := by unfold bk; decide +kernel
theorem dX7_forecast_7 : bk cX7_forecast 7 10 26 (.ifCond .eq 19) (19) := by unfold bk; decide +kernel
set_option maxHeartbeats 4000000 in
set_option maxRecDepth 100000 in
theorem kX7_forecast {l : Launch} {G : Gl} {E : En} {a0 : Nat} {a1 : Int32} {a2 : Int32} {σ σ' : Sg} {r : Int32} : fX7_forecast E a0 a1 a2 σ = some (r, σ') → CT l yX7_forecast cX7_forecast 7 (some .int) ({ frames := 5, cells := 0, slots := 0, locals := 112 } : Room) [.ref (G.1 + a0), .int a1, .int a2] G E σ (some (.int r)) σ' := by
  intro h
  refine CT_of (lv0 := [(0, .ref (G.1 + a0)), (1, .int a1), (2, .int a2)]) (by decide) (Nat.le_of_ble_eq_true rfl) rfl (fun κ hl hR hr C => ?_)
  have C : Cx κ G cX7_forecast RX7 7 := C
  revert h
  unfold fX7_forecast
  refine R_tk (fun ha0 => ?_)
  refine R_iload_n C 1 rfl dX7_forecast_0 ?_
  refine R_iconst C (1) dX7_forecast_1 (by decide) ?_
  refine R_bipush C (16) dX7_forecast_2 (by decide) ?_
  refine R_bd (fun r3 s1 q2 => ?_)
  refine R_callSi [.int a1, .int (1 : Int32), .int (16 : Int32)] [] C ml7_116 (kX7_in q2) (by rw [hR]; exact ⟨rfl, rfl, Nat.le_of_ble_eq_true rfl, Nat.le_of_ble_eq_true rfl, Nat.zero_le _, Nat.zero_le _⟩) rfl rfl (Nat.le_of_ble_eq_true rfl) dX7_forecast_4 ?_
  refine B_if_eq C dX7_forecast_7 ?_ ?_
  · refine R_iconst C (-1) dX7_forecast_26 (by decide) ?_
    exact R_iret C hr dX7_forecast_27
  · refine R_iload_n C 2 rfl dX7_forecast_10 ?_
    refine R_iconst C (-1) dX7_forecast_11 (by decide) ?_
    refine B_icmp_lt C dX7_forecast_12 ?_ ?_
    · refine R_iconst C (-1) dX7_forecast_26 (by decide) ?_
      exact R_iret C hr dX7_forecast_27
    · refine R_aload_n C 0 rfl dX7_forecast_15 ?_
      refine R_dr (fun x4 rx4 cx4 => ?_)
      refine R_getr C fl7_9 rfl ha0 rx4 dX7_forecast_16 ?_
      refine R_bipush C (7) dX7_forecast_19 (by decide) ?_
      refine R_ck (fun h5 => ?_)
      refine R_iald C cx4 h5 dX7_forecast_21 ?_
      refine R_iconst C (2) dX7_forecast_22 (by decide) ?_
      refine B_icmp_eq C dX7_forecast_23 ?_ ?_
      · refine R_aload_n C 0 rfl dX7_forecast_28 ?_
        refine R_bd (fun r8 s6 q7 => ?_)
        refine R_callVi [] [] C ml7_321 (kX7_laysWrites q7) (by rw [hR]; exact ⟨rfl, rfl, Nat.le_of_ble_eq_true rfl, Nat.le_of_ble_eq_true rfl, Nat.zero_le _, Nat.zero_le _⟩) ha0 rfl rfl (Nat.le_of_ble_eq_true rfl) dX7_forecast_29 ?_
        refine R_istore_n (lv2 := [(3, .int r8), (0, .ref (G.1 + a0)), (1, .int a1), (2, .int a2)]) C dX7_forecast_32 rfl (by decide) rfl ?_
        refine R_iconst C (0) dX7_forecast_33 (by decide) ?_
        refine R_istore (lv2 := [(4, .int (0 : Int32)), (3, .int r8), (0, .ref (G.1 + a0)), (1, .int a1), (2, .int a2)]) C dX7_forecast_34 (by decide) rfl ?_
        refine R_iconst C (0) dX7_forecast_36 (by decide) ?_
        refine R_istore (lv2 := [(5, .int (0 : Int32)), (4, .int (0 : Int32)), (3, .int r8), (0, .ref (G.1 + a0)), (1, .int a1), (2, .int a2)]) C dX7_forecast_37 (by decide) rfl ?_
        refine R_loc (lv2 := [(3, .int r8), (0, .ref (G.1 + a0)), (1, .int a1), (2, .int a2), (4, .int (0 : Int32)), (5, .int (0 : Int32))]) [2, 3, 4, 5, 1, 0] rfl ?_
        refine R_loop (fun (a : (Int32 × Int32) × Sg) => V κ G (QQ κ G E (some (.int r)) σ') E a.2 (false, 0, 0) 39 [(3, .int r8), (0, .ref (G.1 + a0)), (1, .int a1), (2, .int a2), (4, .int a.1.1), (5, .int a.1.2)] []) (fun (o : ((Int32 × Int32) ⊕ Int32)) (s : Sg) => sm o (fun o => V κ G (QQ κ G E (some (.int r)) σ') E s (false, 0, 0) 121 [(2, .int a2), (4, .int o.1)] []) (fun rr => some (rr, s) = some (r, σ'))) (((0 : Int32), (0 : Int32)), s6) (fun o33 s34 => ?_) (fun rec I15 a b13 s14 K12 => ?_)
        · rcases o33 with vo33 | ro33
          · refine R_sml ?_
            refine R_iload_n C 0 rfl dX7_forecast_121 ?_
            refine R_iconst C (-1) dX7_forecast_122 (by decide) ?_
            refine R_bdK (fun (w : Int32) (s : Sg) => V κ G (QQ κ G E (some (.int r)) σ') E s (false, 0, 0) 133 [] [.int w]) (fun w35 s36 => ?_) (fun w35 s36 Kw35 => ?_)
            · exact R_iret C hr dX7_forecast_133
            · refine B_icmp_ne C dX7_forecast_123 ?_ ?_
              · refine R_bipush C (-2) dX7_forecast_131 (by decide) ?_
                refine R_loc (lv2 := []) [] rfl ?_
                exact R_end (fun (w : Int32) (s : Sg) => V κ G (QQ κ G E (some (.int r)) σ') E s (false, 0, 0) 133 [] [.int w]) Kw35
              · refine R_iload C 1 rfl dX7_forecast_126 ?_
                refine R_goto C dX7_forecast_128 ?_
                refine R_loc (lv2 := []) [] rfl ?_
                exact R_end (fun (w : Int32) (s : Sg) => V κ G (QQ κ G E (some (.int r)) σ') E s (false, 0, 0) 133 [] [.int w]) Kw35
          · exact fun h => h
        · obtain ⟨⟨v9, v10⟩, s11⟩ := a
          show bX7_forecast_39 E r8 a0 a1 x4 a2 (fun u0 u1 t => rec ((u0, u1), t)) v9 v10 s11 = some (b13, s14) → V κ G (QQ κ G E (some (.int r)) σ') E s11 (false, 0, 0) 39 [(3, .int r8), (0, .ref (G.1 + a0)), (1, .int a1), (2, .int a2), (4, .int v9), (5, .int v10)] []
          unfold bX7_forecast_39
          refine R_iload C 5 rfl dX7_forecast_39 ?_
          refine R_iload_n C 0 rfl dX7_forecast_41 ?_
          refine B_icmp_ge C dX7_forecast_42 ?_ ?_
          · refine R_loc (lv2 := [(2, .int a2), (4, .int v9)]) [3, 4] rfl ?_
            exact R_inr (VX := (fun (o : ((Int32 × Int32) ⊕ Int32)) (s : Sg) => sm o (fun o => V κ G (QQ κ G E (some (.int r)) σ') E s (false, 0, 0) 121 [(2, .int a2), (4, .int o.1)] []) (fun rr => some (rr, s) = some (r, σ')))) (i := .inl) K12 (fun h => h)
          · refine R_aload_n C 1 rfl dX7_forecast_45 ?_
            refine R_dr (fun x16 rx16 cx16 => ?_)
            refine R_getr C fl7_69 rfl ha0 rx16 dX7_forecast_46 ?_
            refine R_iload C 5 rfl dX7_forecast_49 ?_
            refine R_ck (fun h17 => ?_)
            refine R_iald C cx16 h17 dX7_forecast_51 ?_
            refine S_istore C dX7_forecast_52 (fun v18 => [(6, .int v18), (3, .int r8), (0, .ref (G.1 + a0)), (1, .int a1), (2, .int a2), (4, .int v9), (5, .int v10)]) (by decide) (fun _ => rfl) (fun v18 => ?_)
            refine R_aload_n C 2 rfl dX7_forecast_54 ?_
            refine R_dr (fun x19 rx19 cx19 => ?_)
            refine R_getr C fl7_72 rfl ha0 rx19 dX7_forecast_55 ?_
            refine R_iload C 0 rfl dX7_forecast_58 ?_
            refine R_dup2 C dX7_forecast_60 rfl rfl ?_
            refine R_ck (fun h20 => ?_)
            refine R_iald C cx19 h20 dX7_forecast_61 ?_
            refine R_iconst C (1) dX7_forecast_62 (by decide) ?_
            refine R_iadd C dX7_forecast_63 ?_
            refine R_ck (fun h21 => ?_)
            refine S_iast C cx19 h21 dX7_forecast_64 (fun s22 => ?_)
            refine R_aload_n C 2 rfl dX7_forecast_65 ?_
            refine R_getr C fl7_72 rfl ha0 rx19 dX7_forecast_66 ?_
            refine R_iload C 0 rfl dX7_forecast_69 ?_
            refine R_ck (fun h23 => ?_)
            refine R_iald C cx19 h23 dX7_forecast_71 ?_
            refine R_iload_n C 3 rfl dX7_forecast_72 ?_
            refine R_nz (fun h24 => ?_)
            refine R_irem C dX7_forecast_73 h24 ?_
            refine B_if_ne C dX7_forecast_74 ?_ ?_
            · refine S_iinc (fun v25 => [(5, .int v25), (6, .int v18), (3, .int r8), (0, .ref (G.1 + a0)), (1, .int a1), (2, .int a2), (4, .int v9)]) 6 C dX7_forecast_115 rfl (by decide) (by decide) (fun _ => rfl) (fun v25 => ?_)
              refine R_goto C dX7_forecast_118 ?_
              refine R_loc (lv2 := [(3, .int r8), (0, .ref (G.1 + a0)), (1, .int a1), (2, .int a2), (4, .int v9), (5, .int v25)]) [2, 3, 4, 5, 6, 0] rfl ?_
              exact I15 ((v9, v25), s22) b13 s14 K12
            · refine R_aload_n C 2 rfl dX7_forecast_77 ?_
              refine R_getr C fl7_72 rfl ha0 rx19 dX7_forecast_78 ?_
              refine R_iload C 0 rfl dX7_forecast_81 ?_
              refine R_ck (fun h26 => ?_)
              refine R_iald C cx19 h26 dX7_forecast_83 ?_
              refine R_aload_n C 2 rfl dX7_forecast_84 ?_
              refine R_getr C fl7_9 rfl ha0 rx4 dX7_forecast_85 ?_
              refine R_sipush C (1927) dX7_forecast_88 (by decide) ?_
              refine R_aload_n C 2 rfl dX7_forecast_91 ?_
              refine R_dr (fun x27 rx27 cx27 => ?_)
              refine R_getr C fl7_45 rfl ha0 rx27 dX7_forecast_92 ?_
              refine R_iload C 0 rfl dX7_forecast_95 ?_
              refine R_ck (fun h28 => ?_)
              refine R_iald C cx27 h28 dX7_forecast_97 ?_
              refine R_iadd C dX7_forecast_98 ?_
              refine R_ck (fun h29 => ?_)
              refine R_iald C cx4 h29 dX7_forecast_99 ?_
              refine B_icmp_ge C dX7_forecast_100 ?_ ?_
              · refine S_iinc (fun v30 => [(5, .int v30), (6, .int v18), (3, .int r8), (0, .ref (G.1 + a0)), (1, .int a1), (2, .int a2), (4, .int v9)]) 6 C dX7_forecast_115 rfl (by decide) (by decide) (fun _ => rfl) (fun v30 => ?_)
                refine R_goto C dX7_forecast_118 ?_
                refine R_loc (lv2 := [(3, .int r8), (0, .ref (G.1 + a0)), (1, .int a1), (2, .int a2), (4, .int v9), (5, .int v30)]) [2, 3, 4, 5, 6, 0] rfl ?_
                exact I15 ((v9, v30), s22) b13 s14 K12
              · refine R_iload C 5 rfl dX7_forecast_103 ?_
                refine R_iload_n C 4 rfl dX7_forecast_105 ?_
                refine B_icmp_ne C dX7_forecast_106 ?_ ?_
                · refine S_iinc (fun v31 => [(4, .int v31), (6, .int v18), (3, .int r8), (0, .ref (G.1 + a0)), (1, .int a1), (2, .int a2), (5, .int v10)]) 5 C dX7_forecast_112 rfl (by decide) (by decide) (fun _ => rfl) (fun v31 => ?_)
                  refine S_iinc (fun v32 => [(5, .int v32), (4, .int v31), (6, .int v18), (3, .int r8), (0, .ref (G.1 + a0)), (1, .int a1), (2, .int a2)]) 6 C dX7_forecast_115 rfl (by decide) (by decide) (fun _ => rfl) (fun v32 => ?_)
                  refine R_goto C dX7_forecast_118 ?_
                  refine R_loc (lv2 := [(3, .int r8), (0, .ref (G.1 + a0)), (1, .int a1), (2, .int a2), (4, .int v31), (5, .int v32)]) [3, 4, 5, 6, 1, 0] rfl ?_
                  exact I15 ((v31, v32), s22) b13 s14 K12
                · refine R_iload C 0 rfl dX7_forecast_109 ?_
                  exact R_inr (VX := (fun (o : ((Int32 × Int32) ⊕ Int32)) (s : Sg) => sm o (fun o => V κ G (QQ κ G E (some (.int r)) σ') E s (false, 0, 0) 121 [(2, .int a2), (4, .int o.1)] []) (fun rr => some (rr, s) = some (r, σ')))) (i := .inr) K12 (R_iret C hr dX7_forecast_111)
      · refine R_iconst C (-1) dX7_forecast_26 (by decide) ?_
        exact R_iret C hr dX7_forecast_27
theorem dX7_needs_0 : dk cX7_needs 0 1 (.iload_n 1) 1 := by unfold dk; decide +kernel
theorem dX7_needs_1 : dk cX7_needs 1 2 (.iconst 1) 1 := by unfold dk; decide +kernel
theorem dX7_needs_2 : dk cX7_needs 2 4 (.bipush 16) 2 := by unfold dk; decide +kernel
theorem dX7_needs_4 : dk cX7_needs 4 7 (.invokestatic 116) 3 := by unfold dk; decide +kernel
theorem dX7_needs_17 : dk cX7_needs 17 18 (.iconst (-1)) 1 := by unfold dk; decide +kernel
theorem dX7_needs_18 : dk cX7_needs 18 19 (.ireturn) 1 := by unfold dk; decide +kernel
theorem dX7_needs_10 : dk cX7_needs 10 11 (.aload_n 0) 1 := by unfold dk; decide +kernel
theorem dX7_needs_11 : dk cX7_needs 11 14 (.invokevirtual 255) 3 := by unfold dk; decide +kernel
theorem dX7_needs_19 : dk cX7_needs 19 20 (.aload_n 0) 1 := by unfold dk; decide +kernel
theorem dX7_needs_20 : dk cX7_needs 20 21 (.aload_n 0) 1 := by unfold dk; decide +kernel
theorem dX7_needs_21 : dk cX7_needs 21 24 (.getfield 13) 3 := by unfold dk; decide +kernel
theorem dX7_needs_24 : dk cX7_needs 24 25 (.iconst 0) 1 := by unfold dk; decide +kernel
theorem dX7_needs_25 : dk cX7_needs 25 28 (.invokevirtual 79) 3 := by unfold dk; decide +kernel
theorem dX7_needs_28 : dk cX7_needs 28 29 (.iconst 0) 1 := by unfold dk; decide +kernel
theorem dX7_needs_29 : dk cX7_needs 29 30 (.istore_n 2) 1 := by unfold dk; decide +kernel
theorem dX7_needs_30 : dk cX7_needs 30 31 (.aload_n 0) 1 := by unfold dk; decide +kernel
theorem dX7_needs_31 : dk cX7_needs 31 34 (.getfield 9) 3 := by unfold dk; decide +kernel
theorem dX7_needs_34 : dk cX7_needs 34 36 (.bipush 7) 2 := by unfold dk; decide +kernel
theorem dX7_needs_36 : dk cX7_needs 36 37 (.iaload) 1 := by unfold dk; decide +kernel
theorem dX7_needs_37 : dk cX7_needs 37 38 (.iconst 2) 1 := by unfold dk; decide +kernel
theorem dX7_needs_41 : dk cX7_needs 41 42 (.aload_n 0) 1 := by unfold dk; decide +kernel
theorem dX7_needs_42 : dk cX7_needs 42 45 (.invokevirtual 234) 3 := by unfold dk; decide +kernel
theorem dX7_needs_45 : dk cX7_needs 45 46 (.pop) 1 := by unfold dk; decide +kernel
theorem dX7_needs_46 : dk cX7_needs 46 47 (.iconst 0) 1 := by unfold dk; decide +kernel
theorem dX7_needs_47 : dk cX7_needs 47 48 (.istore_n 3) 1 := by unfold dk; decide +kernel
theorem dX7_needs_48 : dk cX7_needs 48 49 (.iload_n 3) 1 := by unfold dk; decide +kernel
theorem dX7_needs_49 : dk cX7_needs 49 51 (.bipush 6) 2 := by unfold dk; decide +kernel
theorem dX7_needs_54 : dk cX7_needs 54 55 (.iload_n 2) 1 := by unfold dk; decide +kernel
theorem dX7_needs_55 : dk cX7_needs 55 56 (.aload_n 0) 1 := by unfold dk; decide +kernel
theorem dX7_needs_56 : dk cX7_needs 56 59 (.getfield 45) 3 := by unfold dk; decide +kernel
theorem dX7_needs_59 : dk cX7_needs 59 60 (.iload_n 3) 1 := by unfold dk; decide +kernel
theorem dX7_needs_60 : dk cX7_needs 60 61 (.iaload) 1 := by unfold dk; decide +kernel
theorem dX7_needs_61 : dk cX7_needs 61 62 (.iconst (-1)) 1 := by unfold dk; decide +kernel
theorem dX7_needs_62 : bk cX7_needs 62 65 69 (.if_icmp .ne 7) (7) := by unfold bk; decide +kernel
theorem dX7_needs_69 : dk cX7_needs 69 70 (.aload_n 0) 1 := by unfold dk; decide +kernel
theorem dX7_needs_70 : dk cX7_needs 70 73 (.getfield 9) 3 := by unfold dk; decide +kernel
theorem dX7_needs_73 : dk cX7_needs 73 76 (.sipush 1927) 3 := by unfold dk; decide +kernel
theorem dX7_needs_76 : dk cX7_needs 76 77 (.aload_n 0) 1 := by unfold dk; decide +kernel
theorem dX7_needs_77 : dk cX7_needs 77 80 (.getfield 45) 3 := by unfold dk; decide +kernel
theorem dX7_needs_80 : dk cX7_needs 80 81 (.iload_n 3) 1 := by unfold dk; decide +kernel
theorem dX7_needs_81 : dk cX7_needs 81 82 (.iaload) 1 := by unfold dk; decide +kernel
theorem dX7_needs_82 : dk cX7_needs 82 83 (.iadd) 1 := by unfold dk; decide +kernel
theorem dX7_needs_83 : dk cX7_needs 83 84 (.iaload) 1 := by unfold dk; decide +kernel
theorem dX7_needs_84 : dk cX7_needs 84 85 (.iload_n 1) 1 := by unfold dk; decide +kernel
theorem dX7_needs_85 : dk cX7_needs 85 86 (.iadd) 1 := by unfold dk; decide +kernel
theorem dX7_needs_86 : dk cX7_needs 86 87 (.iconst 1) 1 := by unfold dk; decide +kernel
theorem dX7_needs_87 : dk cX7_needs 87 88 (.isub) 1 := by unfold dk; decide +kernel
theorem dX7_needs_88 : dk cX7_needs 88 89 (.iload_n 1) 1 := by unfold dk; decide +kernel
theorem dX7_needs_89 : dk cX7_needs 89 90 (.idiv) 1 := by unfold dk; decide +kernel
theorem dX7_needs_65 : dk cX7_needs 65 66 (.iconst 0) 1 := by unfold dk; decide +kernel
theorem dX7_needs_66 : bk cX7_needs 66 69 90 (.goto 24) (24) := by unfold bk; decide +kernel
theorem dX7_needs_90 : dk cX7_needs 90 91 (.iadd) 1 := by unfold dk; decide +kernel
theorem dX7_needs_91 : dk cX7_needs 91 92 (.istore_n 2) 1 := by unfold dk; decide +kernel
theorem dX7_needs_92 : dk cX7_needs 92 95 (.iinc 3 1) 3 := by unfold dk; decide +kernel
theorem dX7_needs_95 : bk cX7_needs 95 98 48 (.goto (-47)) (-47) := by unfold bk; decide +kernel
theorem dX7_needs_51 : bk cX7_needs 51 54 98 (.if_icmp .ge 47) (47) := by unfold bk; decide +kernel
theorem dX7_needs_98 : dk cX7_needs 98 99 (.aload_n 0) 1 := by unfold dk; decide +kernel
theorem dX7_needs_99 : dk cX7_needs 99 102 (.invokevirtual 261) 3 := by unfold dk; decide +kernel
theorem dX7_needs_102 : dk cX7_needs 102 103 (.pop) 1 := by unfold dk; decide +kernel
theorem dX7_needs_103 : bk cX7_needs 103 106 30 (.goto (-73)) (-73) := by unfold bk; decide +kernel
theorem dX7_needs_38 : bk cX7_needs 38 41 106 (.if_icmp .ne 68) (68) := by unfold bk; decide +kernel
theorem dX7_needs_106 : dk cX7_needs 106 107 (.aload_n 0) 1 := by unfold dk; decide +kernel
theorem dX7_needs_107 : dk cX7_needs 107 108 (.aload_n 0) 1 := by unfold dk; decide +kernel
theorem dX7_needs_108 : dk cX7_needs 108 111 (.getfield 13) 3 := by unfold dk; decide +kernel
theorem dX7_needs_111 : dk cX7_needs 111 112 (.iconst 0) 1 := by unfold dk; decide +kernel
theorem dX7_needs_112 : dk cX7_needs 112 115 (.invokevirtual 83) 3 := by unfold dk; decide +kernel
theorem dX7_needs_115 : dk cX7_needs 115 116 (.iload_n 2) 1 := by unfold dk; decide +kernel
theorem dX7_needs_116 : dk cX7_needs 116 117 (.ireturn) 1 := by unfold dk; decide +kernel
theorem dX7_needs_14 : bk cX7_needs 14 17 19 (.ifCond .ne 5) (5) := by unfold bk; decide +kernel
theorem dX7_needs_7 : bk cX7_needs 7 10 17 (.ifCond .eq 10) (10) := by unfold bk; decide +kernel
set_option maxHeartbeats 4000000 in
set_option maxRecDepth 100000 in
theorem kX7_needs {l : Launch} {G : Gl} {E : En} {a0 : Nat} {a1 : Int32} {σ σ' : Sg} {r : Int32} : fX7_needs E a0 a1 σ = some (r, σ') → CT l yX7_needs cX7_needs 4 (some .int) ({ frames := 5, cells := 0, slots := 0, locals := 113 } : Room) [.ref (G.1 + a0), .int a1] G E σ (some (.int r)) σ' := by
  intro h
  refine CT_of (lv0 := [(0, .ref (G.1 + a0)), (1, .int a1)]) (by decide) (Nat.le_of_ble_eq_true rfl) rfl (fun κ hl hR hr C => ?_)
  have C : Cx κ G cX7_needs RX7 4 := C
  revert h
  unfold fX7_needs
  refine R_tk (fun ha0 => ?_)
  refine R_iload_n C 1 rfl dX7_needs_0 ?_
  refine R_iconst C (1) dX7_needs_1 (by decide) ?_
  refine R_bipush C (16) dX7_needs_2 (by decide) ?_
  refine R_bd (fun r3 s1 q2 => ?_)
  refine R_callSi [.int a1, .int (1 : Int32), .int (16 : Int32)] [] C ml7_116 (kX7_in q2) (by rw [hR]; exact ⟨rfl, rfl, Nat.le_of_ble_eq_true rfl, Nat.le_of_ble_eq_true rfl, Nat.zero_le _, Nat.zero_le _⟩) rfl rfl (Nat.le_of_ble_eq_true rfl) dX7_needs_4 ?_
  refine B_if_eq C dX7_needs_7 ?_ ?_
  · refine R_iconst C (-1) dX7_needs_17 (by decide) ?_
    exact R_iret C hr dX7_needs_18
  · refine R_aload_n C 0 rfl dX7_needs_10 ?_
    refine R_bd (fun r6 s4 q5 => ?_)
    refine R_callVi [] [] C ml7_255 (kX7_isSpread q5) (by rw [hR]; exact ⟨rfl, rfl, Nat.le_of_ble_eq_true rfl, Nat.le_of_ble_eq_true rfl, Nat.zero_le _, Nat.zero_le _⟩) ha0 rfl rfl (Nat.le_of_ble_eq_true rfl) dX7_needs_11 ?_
    refine B_if_ne C dX7_needs_14 ?_ ?_
    · refine R_aload_n C 0 rfl dX7_needs_19 ?_
      refine R_aload_n C 0 rfl dX7_needs_20 ?_
      refine R_dr (fun x7 rx7 cx7 => ?_)
      refine R_getr C fl7_13 rfl ha0 rx7 dX7_needs_21 ?_
      refine R_iconst C (0) dX7_needs_24 (by decide) ?_
      refine R_bv (fun s8 q9 => ?_)
      refine R_callVv [.ref (G.1 + x7), .int (0 : Int32)] [] C ml7_79 (kX7_keepsIn q9) (by rw [hR]; exact ⟨rfl, rfl, Nat.le_of_ble_eq_true rfl, Nat.le_of_ble_eq_true rfl, Nat.zero_le _, Nat.zero_le _⟩) ha0 rfl rfl (Nat.le_of_ble_eq_true rfl) dX7_needs_25 ?_
      refine R_iconst C (0) dX7_needs_28 (by decide) ?_
      refine R_istore_n (lv2 := [(2, .int (0 : Int32)), (0, .ref (G.1 + a0)), (1, .int a1)]) C dX7_needs_29 rfl (by decide) rfl ?_
      refine R_loc (lv2 := [(0, .ref (G.1 + a0)), (1, .int a1), (2, .int (0 : Int32))]) [1, 2, 0] rfl ?_
      refine R_loop (fun (a : (Int32) × Sg) => V κ G (QQ κ G E (some (.int r)) σ') E a.2 (false, 0, 0) 30 [(0, .ref (G.1 + a0)), (1, .int a1), (2, .int a.1)] []) (fun (o : (Int32)) (s : Sg) => V κ G (QQ κ G E (some (.int r)) σ') E s (false, 0, 0) 106 [(0, .ref (G.1 + a0)), (2, .int o)] []) ((0 : Int32), s8) (fun o42 s43 => ?_) (fun rec I15 a b13 s14 K12 => ?_)
      · refine R_aload_n C 0 rfl dX7_needs_106 ?_
        refine R_aload_n C 0 rfl dX7_needs_107 ?_
        refine R_getr C fl7_13 rfl ha0 rx7 dX7_needs_108 ?_
        refine R_iconst C (0) dX7_needs_111 (by decide) ?_
        refine R_bv (fun s44 q45 => ?_)
        refine R_callVv [.ref (G.1 + x7), .int (0 : Int32)] [] C ml7_83 (kX7_laysFrom q45) (by rw [hR]; exact ⟨rfl, rfl, Nat.le_of_ble_eq_true rfl, Nat.le_of_ble_eq_true rfl, Nat.zero_le _, Nat.zero_le _⟩) ha0 rfl rfl (Nat.le_of_ble_eq_true rfl) dX7_needs_112 ?_
        refine R_iload_n C 1 rfl dX7_needs_115 ?_
        exact R_iret C hr dX7_needs_116
      · obtain ⟨v10, s11⟩ := a
        show bX7_needs_30 E a0 a1 (fun u0 t => rec (u0, t)) v10 s11 = some (b13, s14) → V κ G (QQ κ G E (some (.int r)) σ') E s11 (false, 0, 0) 30 [(0, .ref (G.1 + a0)), (1, .int a1), (2, .int v10)] []
        unfold bX7_needs_30
        refine R_aload_n C 0 rfl dX7_needs_30 ?_
        refine R_dr (fun x16 rx16 cx16 => ?_)
        refine R_getr C fl7_9 rfl ha0 rx16 dX7_needs_31 ?_
        refine R_bipush C (7) dX7_needs_34 (by decide) ?_
        refine R_ck (fun h17 => ?_)
        refine R_iald C cx16 h17 dX7_needs_36 ?_
        refine R_iconst C (2) dX7_needs_37 (by decide) ?_
        refine B_icmp_ne C dX7_needs_38 ?_ ?_
        · refine R_loc (lv2 := [(0, .ref (G.1 + a0)), (2, .int v10)]) [0, 2] rfl ?_
          exact R_end (fun (o : (Int32)) (s : Sg) => V κ G (QQ κ G E (some (.int r)) σ') E s (false, 0, 0) 106 [(0, .ref (G.1 + a0)), (2, .int o)] []) K12
        · refine R_aload_n C 0 rfl dX7_needs_41 ?_
          refine R_bd (fun r20 s18 q19 => ?_)
          refine R_callVi [] [] C ml7_234 (kX7_laysTaken q19) (by rw [hR]; exact ⟨rfl, rfl, Nat.le_of_ble_eq_true rfl, Nat.le_of_ble_eq_true rfl, Nat.zero_le _, Nat.zero_le _⟩) ha0 rfl rfl (Nat.le_of_ble_eq_true rfl) dX7_needs_42 ?_
          refine R_pop C dX7_needs_45 rfl ?_
          refine R_iconst C (0) dX7_needs_46 (by decide) ?_
          refine R_istore_n (lv2 := [(3, .int (0 : Int32)), (0, .ref (G.1 + a0)), (1, .int a1), (2, .int v10)]) C dX7_needs_47 rfl (by decide) rfl ?_
          refine R_loc (lv2 := [(0, .ref (G.1 + a0)), (1, .int a1), (2, .int v10), (3, .int (0 : Int32))]) [1, 2, 3, 0] rfl ?_
          refine R_loop (fun (a : (Int32 × Int32) × Sg) => V κ G (QQ κ G E (some (.int r)) σ') E a.2 (false, 0, 0) 48 [(0, .ref (G.1 + a0)), (1, .int a1), (2, .int a.1.1), (3, .int a.1.2)] []) (fun (o : (Int32 × Int32)) (s : Sg) => V κ G (QQ κ G E (some (.int r)) σ') E s (false, 0, 0) 98 [(0, .ref (G.1 + a0)), (1, .int a1), (2, .int o.1)] []) ((v10, (0 : Int32)), s18) (fun o37 s38 => ?_) (fun rec I27 a b25 s26 K24 => ?_)
          · refine R_aload_n C 0 rfl dX7_needs_98 ?_
            refine R_bd (fun r41 s39 q40 => ?_)
            refine R_callVi [] [] C ml7_261 (kX7_steps q40) (by rw [hR]; exact ⟨rfl, rfl, Nat.le_of_ble_eq_true rfl, Nat.le_of_ble_eq_true rfl, Nat.zero_le _, Nat.zero_le _⟩) ha0 rfl rfl (Nat.le_of_ble_eq_true rfl) dX7_needs_99 ?_
            refine R_pop C dX7_needs_102 rfl ?_
            refine R_goto C dX7_needs_103 ?_
            exact I15 (o37.1, s39) b13 s14 K12
          · obtain ⟨⟨v21, v22⟩, s23⟩ := a
            show bX7_needs_48 E a0 x16 a1 (fun u0 u1 t => rec ((u0, u1), t)) v21 v22 s23 = some (b25, s26) → V κ G (QQ κ G E (some (.int r)) σ') E s23 (false, 0, 0) 48 [(0, .ref (G.1 + a0)), (1, .int a1), (2, .int v21), (3, .int v22)] []
            unfold bX7_needs_48
            refine R_iload_n C 3 rfl dX7_needs_48 ?_
            refine R_bipush C (6) dX7_needs_49 (by decide) ?_
            refine B_icmp_ge C dX7_needs_51 ?_ ?_
            · refine R_loc (lv2 := [(0, .ref (G.1 + a0)), (1, .int a1), (2, .int v21)]) [0, 1, 2] rfl ?_
              exact R_end (fun (o : (Int32 × Int32)) (s : Sg) => V κ G (QQ κ G E (some (.int r)) σ') E s (false, 0, 0) 98 [(0, .ref (G.1 + a0)), (1, .int a1), (2, .int o.1)] []) K24
            · refine R_iload_n C 2 rfl dX7_needs_54 ?_
              refine R_aload_n C 0 rfl dX7_needs_55 ?_
              refine R_dr (fun x28 rx28 cx28 => ?_)
              refine R_getr C fl7_45 rfl ha0 rx28 dX7_needs_56 ?_
              refine R_iload_n C 3 rfl dX7_needs_59 ?_
              refine R_ck (fun h29 => ?_)
              refine R_iald C cx28 h29 dX7_needs_60 ?_
              refine R_iconst C (-1) dX7_needs_61 (by decide) ?_
              refine R_bdK (fun (w : Int32) (s : Sg) => V κ G (QQ κ G E (some (.int r)) σ') E s (false, 0, 0) 90 [(0, .ref (G.1 + a0)), (1, .int a1), (3, .int v22)] [.int w, .int v21]) (fun w30 s31 => ?_) (fun w30 s31 Kw30 => ?_)
              · refine R_iadd C dX7_needs_90 ?_
                refine S_istore_n C dX7_needs_91 rfl (fun v35 => [(2, .int v35), (0, .ref (G.1 + a0)), (1, .int a1), (3, .int v22)]) (by decide) (fun _ => rfl) (fun v35 => ?_)
                refine S_iinc (fun v36 => [(3, .int v36), (2, .int v35), (0, .ref (G.1 + a0)), (1, .int a1)]) 3 C dX7_needs_92 rfl (by decide) (by decide) (fun _ => rfl) (fun v36 => ?_)
                refine R_goto C dX7_needs_95 ?_
                refine R_loc (lv2 := [(0, .ref (G.1 + a0)), (1, .int a1), (2, .int v35), (3, .int v36)]) [2, 3, 1, 0] rfl ?_
                exact I27 ((v35, v36), s31) b25 s26 K24
              · refine B_icmp_ne C dX7_needs_62 ?_ ?_
                · refine R_aload_n C 0 rfl dX7_needs_69 ?_
                  refine R_getr C fl7_9 rfl ha0 rx16 dX7_needs_70 ?_
                  refine R_sipush C (1927) dX7_needs_73 (by decide) ?_
                  refine R_aload_n C 0 rfl dX7_needs_76 ?_
                  refine R_getr C fl7_45 rfl ha0 rx28 dX7_needs_77 ?_
                  refine R_iload_n C 3 rfl dX7_needs_80 ?_
                  refine R_ck (fun h32 => ?_)
                  refine R_iald C cx28 h32 dX7_needs_81 ?_
                  refine R_iadd C dX7_needs_82 ?_
                  refine R_ck (fun h33 => ?_)
                  refine R_iald C cx16 h33 dX7_needs_83 ?_
                  refine R_iload_n C 1 rfl dX7_needs_84 ?_
                  refine R_iadd C dX7_needs_85 ?_
                  refine R_iconst C (1) dX7_needs_86 (by decide) ?_
                  refine R_isub C dX7_needs_87 ?_
                  refine R_iload_n C 1 rfl dX7_needs_88 ?_
                  refine R_nz (fun h34 => ?_)
                  refine R_idiv C dX7_needs_89 h34 ?_
                  refine R_loc (lv2 := [(0, .ref (G.1 + a0)), (1, .int a1), (3, .int v22)]) [0, 1, 3] rfl ?_
                  exact R_end (fun (w : Int32) (s : Sg) => V κ G (QQ κ G E (some (.int r)) σ') E s (false, 0, 0) 90 [(0, .ref (G.1 + a0)), (1, .int a1), (3, .int v22)] [.int w, .int v21]) Kw30
                · refine R_iconst C (0) dX7_needs_65 (by decide) ?_
                  refine R_goto C dX7_needs_66 ?_
                  refine R_loc (lv2 := [(0, .ref (G.1 + a0)), (1, .int a1), (3, .int v22)]) [0, 1, 3] rfl ?_
                  exact R_end (fun (w : Int32) (s : Sg) => V κ G (QQ κ G E (some (.int r)) σ') E s (false, 0, 0) 90 [(0, .ref (G.1 + a0)), (1, .int a1), (3, .int v22)] [.int w, .int v21]) Kw30
    · refine R_iconst C (-1) dX7_needs_17 (by decide) ?_
      exact R_iret C hr dX7_needs_18
theorem dX7_keep_0 : dk cX7_keep 0 1 (.iload_n 1) 1 := by unfold dk; decide +kernel
theorem dX7_keep_1 : dk cX7_keep 1 2 (.iconst 0) 1 := by unfold dk; decide +kernel
theorem dX7_keep_2 : dk cX7_keep 2 3 (.iconst 1) 1 := by unfold dk; decide +kernel
theorem dX7_keep_3 : dk cX7_keep 3 6 (.invokestatic 116) 3 := by unfold dk; decide +kernel
theorem dX7_keep_11 : dk cX7_keep 11 12 (.aload_n 0) 1 := by unfold dk; decide +kernel
theorem dX7_keep_12 : dk cX7_keep 12 13 (.aload_n 0) 1 := by unfold dk; decide +kernel
theorem dX7_keep_13 : dk cX7_keep 13 16 (.getfield 20) 3 := by unfold dk; decide +kernel
theorem dX7_keep_16 : dk cX7_keep 16 19 (.sipush 7827) 3 := by unfold dk; decide +kernel
theorem dX7_keep_19 : dk cX7_keep 19 20 (.iload_n 1) 1 := by unfold dk; decide +kernel
theorem dX7_keep_20 : dk cX7_keep 20 21 (.imul) 1 := by unfold dk; decide +kernel
theorem dX7_keep_21 : dk cX7_keep 21 24 (.invokevirtual 79) 3 := by unfold dk; decide +kernel
theorem dX7_keep_24 : dk cX7_keep 24 25 (.aload_n 0) 1 := by unfold dk; decide +kernel
theorem dX7_keep_25 : dk cX7_keep 25 26 (.dup) 1 := by unfold dk; decide +kernel
theorem dX7_keep_26 : dk cX7_keep 26 29 (.getfield 324) 3 := by unfold dk; decide +kernel
theorem dX7_keep_29 : dk cX7_keep 29 30 (.iconst 1) 1 := by unfold dk; decide +kernel
theorem dX7_keep_30 : dk cX7_keep 30 31 (.iload_n 1) 1 := by unfold dk; decide +kernel
theorem dX7_keep_31 : dk cX7_keep 31 32 (.ishl) 1 := by unfold dk; decide +kernel
theorem dX7_keep_32 : dk cX7_keep 32 33 (.ior) 1 := by unfold dk; decide +kernel
theorem dX7_keep_33 : dk cX7_keep 33 36 (.putfield 324) 3 := by unfold dk; decide +kernel
theorem dX7_keep_36 : dk cX7_keep 36 37 (.aload_n 0) 1 := by unfold dk; decide +kernel
theorem dX7_keep_37 : dk cX7_keep 37 40 (.invokevirtual 93) 3 := by unfold dk; decide +kernel
theorem dX7_keep_40 : dk cX7_keep 40 41 (.ireturn) 1 := by unfold dk; decide +kernel
theorem dX7_keep_9 : dk cX7_keep 9 10 (.iconst (-1)) 1 := by unfold dk; decide +kernel
theorem dX7_keep_10 : dk cX7_keep 10 11 (.ireturn) 1 := by unfold dk; decide +kernel
theorem dX7_keep_6 : bk cX7_keep 6 9 11 (.ifCond .ne 5) (5) := by unfold bk; decide +kernel
set_option maxHeartbeats 4000000 in
set_option maxRecDepth 100000 in
theorem kX7_keep {l : Launch} {G : Gl} {E : En} {a0 : Nat} {a1 : Int32} {σ σ' : Sg} {r : Int32} : fX7_keep E a0 a1 σ = some (r, σ') → CT l yX7_keep cX7_keep 2 (some .int) ({ frames := 1, cells := 0, slots := 0, locals := 23 } : Room) [.ref (G.1 + a0), .int a1] G E σ (some (.int r)) σ' := by
  intro h
  refine CT_of (lv0 := [(0, .ref (G.1 + a0)), (1, .int a1)]) (by decide) (Nat.le_of_ble_eq_true rfl) rfl (fun κ hl hR hr C => ?_)
  have C : Cx κ G cX7_keep RX7 2 := C
  revert h
  unfold fX7_keep
  refine R_tk (fun ha0 => ?_)
  refine R_iload_n C 1 rfl dX7_keep_0 ?_
  refine R_iconst C (0) dX7_keep_1 (by decide) ?_
  refine R_iconst C (1) dX7_keep_2 (by decide) ?_
  refine R_bd (fun r3 s1 q2 => ?_)
  refine R_callSi [.int a1, .int (0 : Int32), .int (1 : Int32)] [] C ml7_116 (kX7_in q2) (by rw [hR]; exact ⟨rfl, rfl, Nat.le_of_ble_eq_true rfl, Nat.le_of_ble_eq_true rfl, Nat.zero_le _, Nat.zero_le _⟩) rfl rfl (Nat.le_of_ble_eq_true rfl) dX7_keep_3 ?_
  refine B_if_ne C dX7_keep_6 ?_ ?_
  · refine R_aload_n C 0 rfl dX7_keep_11 ?_
    refine R_aload_n C 0 rfl dX7_keep_12 ?_
    refine R_dr (fun x4 rx4 cx4 => ?_)
    refine R_getr C fl7_20 rfl ha0 rx4 dX7_keep_13 ?_
    refine R_sipush C (7827) dX7_keep_16 (by decide) ?_
    refine R_iload_n C 1 rfl dX7_keep_19 ?_
    refine R_imul C dX7_keep_20 ?_
    refine R_bv (fun s5 q6 => ?_)
    refine R_callVv [.ref (G.1 + x4), .int ((7827 : Int32) * a1)] [] C ml7_79 (kX7_keepsIn q6) (by rw [hR]; exact ⟨rfl, rfl, Nat.le_of_ble_eq_true rfl, Nat.le_of_ble_eq_true rfl, Nat.zero_le _, Nat.zero_le _⟩) ha0 rfl rfl (Nat.le_of_ble_eq_true rfl) dX7_keep_21 ?_
    refine R_aload_n C 0 rfl dX7_keep_24 ?_
    refine R_dup C dX7_keep_25 rfl ?_
    refine R_geti C fl7_324 rfl ha0 dX7_keep_26 ?_
    refine R_iconst C (1) dX7_keep_29 (by decide) ?_
    refine R_iload_n C 1 rfl dX7_keep_30 ?_
    refine R_ishl C dX7_keep_31 ?_
    refine R_ior C dX7_keep_32 ?_
    refine S_puti C fl7_324 rfl ha0 rfl rfl dX7_keep_33 (fun s7 => ?_)
    refine R_aload_n C 0 rfl dX7_keep_36 ?_
    refine R_bd (fun r10 s8 q9 => ?_)
    refine R_callVi [] [] C ml7_93 (kX7_many q9) (by rw [hR]; exact ⟨rfl, rfl, Nat.le_of_ble_eq_true rfl, Nat.le_of_ble_eq_true rfl, Nat.zero_le _, Nat.zero_le _⟩) ha0 rfl rfl (Nat.le_of_ble_eq_true rfl) dX7_keep_37 ?_
    exact R_iret C hr dX7_keep_40
  · refine R_iconst C (-1) dX7_keep_9 (by decide) ?_
    exact R_iret C hr dX7_keep_10
theorem dX7_back_0 : dk cX7_back 0 1 (.iload_n 1) 1 := by unfold dk; decide +kernel
theorem dX7_back_1 : dk cX7_back 1 2 (.iconst 0) 1 := by unfold dk; decide +kernel
theorem dX7_back_2 : dk cX7_back 2 3 (.iconst 1) 1 := by unfold dk; decide +kernel
theorem dX7_back_3 : dk cX7_back 3 6 (.invokestatic 116) 3 := by unfold dk; decide +kernel
theorem dX7_back_11 : dk cX7_back 11 12 (.aload_n 0) 1 := by unfold dk; decide +kernel
theorem dX7_back_12 : dk cX7_back 12 15 (.getfield 324) 3 := by unfold dk; decide +kernel
theorem dX7_back_15 : dk cX7_back 15 16 (.iload_n 1) 1 := by unfold dk; decide +kernel
theorem dX7_back_16 : dk cX7_back 16 17 (.ishr) 1 := by unfold dk; decide +kernel
theorem dX7_back_17 : dk cX7_back 17 18 (.iconst 1) 1 := by unfold dk; decide +kernel
theorem dX7_back_18 : dk cX7_back 18 19 (.iand) 1 := by unfold dk; decide +kernel
theorem dX7_back_25 : dk cX7_back 25 26 (.aload_n 0) 1 := by unfold dk; decide +kernel
theorem dX7_back_26 : dk cX7_back 26 29 (.getfield 9) 3 := by unfold dk; decide +kernel
theorem dX7_back_29 : dk cX7_back 29 31 (.bipush 8) 2 := by unfold dk; decide +kernel
theorem dX7_back_31 : dk cX7_back 31 32 (.iaload) 1 := by unfold dk; decide +kernel
theorem dX7_back_32 : dk cX7_back 32 33 (.istore_n 2) 1 := by unfold dk; decide +kernel
theorem dX7_back_33 : dk cX7_back 33 34 (.aload_n 0) 1 := by unfold dk; decide +kernel
theorem dX7_back_34 : dk cX7_back 34 35 (.aload_n 0) 1 := by unfold dk; decide +kernel
theorem dX7_back_35 : dk cX7_back 35 38 (.getfield 20) 3 := by unfold dk; decide +kernel
theorem dX7_back_38 : dk cX7_back 38 41 (.sipush 7827) 3 := by unfold dk; decide +kernel
theorem dX7_back_41 : dk cX7_back 41 42 (.iload_n 1) 1 := by unfold dk; decide +kernel
theorem dX7_back_42 : dk cX7_back 42 43 (.imul) 1 := by unfold dk; decide +kernel
theorem dX7_back_43 : dk cX7_back 43 46 (.invokevirtual 83) 3 := by unfold dk; decide +kernel
theorem dX7_back_46 : dk cX7_back 46 47 (.aload_n 0) 1 := by unfold dk; decide +kernel
theorem dX7_back_47 : dk cX7_back 47 50 (.getfield 9) 3 := by unfold dk; decide +kernel
theorem dX7_back_50 : dk cX7_back 50 52 (.bipush 8) 2 := by unfold dk; decide +kernel
theorem dX7_back_52 : dk cX7_back 52 53 (.iload_n 2) 1 := by unfold dk; decide +kernel
theorem dX7_back_53 : dk cX7_back 53 54 (.iastore) 1 := by unfold dk; decide +kernel
theorem dX7_back_54 : dk cX7_back 54 55 (.aload_n 0) 1 := by unfold dk; decide +kernel
theorem dX7_back_55 : dk cX7_back 55 56 (.iconst 0) 1 := by unfold dk; decide +kernel
theorem dX7_back_56 : dk cX7_back 56 59 (.putfield 75) 3 := by unfold dk; decide +kernel
theorem dX7_back_59 : dk cX7_back 59 60 (.aload_n 0) 1 := by unfold dk; decide +kernel
theorem dX7_back_60 : dk cX7_back 60 63 (.invokevirtual 93) 3 := by unfold dk; decide +kernel
theorem dX7_back_63 : dk cX7_back 63 64 (.ireturn) 1 := by unfold dk; decide +kernel
theorem dX7_back_22 : dk cX7_back 22 24 (.bipush (-2)) 2 := by unfold dk; decide +kernel
theorem dX7_back_24 : dk cX7_back 24 25 (.ireturn) 1 := by unfold dk; decide +kernel
theorem dX7_back_19 : bk cX7_back 19 22 25 (.ifCond .ne 6) (6) := by unfold bk; decide +kernel
theorem dX7_back_9 : dk cX7_back 9 10 (.iconst (-1)) 1 := by unfold dk; decide +kernel
theorem dX7_back_10 : dk cX7_back 10 11 (.ireturn) 1 := by unfold dk; decide +kernel
theorem dX7_back_6 : bk cX7_back 6 9 11 (.ifCond .ne 5) (5) := by unfold bk; decide +kernel
set_option maxHeartbeats 4000000 in
set_option maxRecDepth 100000 in
theorem kX7_back {l : Launch} {G : Gl} {E : En} {a0 : Nat} {a1 : Int32} {σ σ' : Sg} {r : Int32} : fX7_back E a0 a1 σ = some (r, σ') → CT l yX7_back cX7_back 3 (some .int) ({ frames := 1, cells := 0, slots := 0, locals := 23 } : Room) [.ref (G.1 + a0), .int a1] G E σ (some (.int r)) σ' := by
  intro h
  refine CT_of (lv0 := [(0, .ref (G.1 + a0)), (1, .int a1)]) (by decide) (Nat.le_of_ble_eq_true rfl) rfl (fun κ hl hR hr C => ?_)
  have C : Cx κ G cX7_back RX7 3 := C
  revert h
  unfold fX7_back
  refine R_tk (fun ha0 => ?_)
  refine R_iload_n C 1 rfl dX7_back_0 ?_
  refine R_iconst C (0) dX7_back_1 (by decide) ?_
  refine R_iconst C (1) dX7_back_2 (by decide) ?_
  refine R_bd (fun r3 s1 q2 => ?_)
  refine R_callSi [.int a1, .int (0 : Int32), .int (1 : Int32)] [] C ml7_116 (kX7_in q2) (by rw [hR]; exact ⟨rfl, rfl, Nat.le_of_ble_eq_true rfl, Nat.le_of_ble_eq_true rfl, Nat.zero_le _, Nat.zero_le _⟩) rfl rfl (Nat.le_of_ble_eq_true rfl) dX7_back_3 ?_
  refine B_if_ne C dX7_back_6 ?_ ?_
  · refine R_aload_n C 0 rfl dX7_back_11 ?_
    refine R_geti C fl7_324 rfl ha0 dX7_back_12 ?_
    refine R_iload_n C 1 rfl dX7_back_15 ?_
    refine R_ishr C dX7_back_16 ?_
    refine R_iconst C (1) dX7_back_17 (by decide) ?_
    refine R_iand C dX7_back_18 ?_
    refine B_if_ne C dX7_back_19 ?_ ?_
    · refine R_aload_n C 0 rfl dX7_back_25 ?_
      refine R_dr (fun x4 rx4 cx4 => ?_)
      refine R_getr C fl7_9 rfl ha0 rx4 dX7_back_26 ?_
      refine R_bipush C (8) dX7_back_29 (by decide) ?_
      refine R_ck (fun h5 => ?_)
      refine R_iald C cx4 h5 dX7_back_31 ?_
      refine S_istore_n C dX7_back_32 rfl (fun v6 => [(2, .int v6), (0, .ref (G.1 + a0)), (1, .int a1)]) (by decide) (fun _ => rfl) (fun v6 => ?_)
      refine R_aload_n C 1 rfl dX7_back_33 ?_
      refine R_aload_n C 1 rfl dX7_back_34 ?_
      refine R_dr (fun x7 rx7 cx7 => ?_)
      refine R_getr C fl7_20 rfl ha0 rx7 dX7_back_35 ?_
      refine R_sipush C (7827) dX7_back_38 (by decide) ?_
      refine R_iload_n C 2 rfl dX7_back_41 ?_
      refine R_imul C dX7_back_42 ?_
      refine R_bv (fun s8 q9 => ?_)
      refine R_callVv [.ref (G.1 + x7), .int ((7827 : Int32) * a1)] [] C ml7_83 (kX7_laysFrom q9) (by rw [hR]; exact ⟨rfl, rfl, Nat.le_of_ble_eq_true rfl, Nat.le_of_ble_eq_true rfl, Nat.zero_le _, Nat.zero_le _⟩) ha0 rfl rfl (Nat.le_of_ble_eq_true rfl) dX7_back_43 ?_
      refine R_aload_n C 1 rfl dX7_back_46 ?_
      refine R_getr C fl7_9 rfl ha0 rx4 dX7_back_47 ?_
      refine R_bipush C (8) dX7_back_50 (by decide) ?_
      refine R_iload_n C 0 rfl dX7_back_52 ?_
      refine R_ck (fun h10 => ?_)
      refine S_iast C cx4 h10 dX7_back_53 (fun s11 => ?_)
      refine R_aload_n C 1 rfl dX7_back_54 ?_
      refine R_iconst C (0) dX7_back_55 (by decide) ?_
      refine S_puti C fl7_75 rfl ha0 rfl rfl dX7_back_56 (fun s12 => ?_)
      refine R_aload_n C 1 rfl dX7_back_59 ?_
      refine R_bd (fun r15 s13 q14 => ?_)
      refine R_callVi [] [] C ml7_93 (kX7_many q14) (by rw [hR]; exact ⟨rfl, rfl, Nat.le_of_ble_eq_true rfl, Nat.le_of_ble_eq_true rfl, Nat.zero_le _, Nat.zero_le _⟩) ha0 rfl rfl (Nat.le_of_ble_eq_true rfl) dX7_back_60 ?_
      exact R_iret C hr dX7_back_63
    · refine R_bipush C (-2) dX7_back_22 (by decide) ?_
      exact R_iret C hr dX7_back_24
  · refine R_iconst C (-1) dX7_back_9 (by decide) ?_
    exact R_iret C hr dX7_back_10
theorem dX7_count_0 : dk cX7_count 0 1 (.iload_n 1) 1 := by unfold dk; decide +kernel
theorem dX7_count_1 : dk cX7_count 1 80 (.tableswitch 175 0 15 #[79, 84, 106, 106, 106, 106, 106, 117, 125, 125, 125, 125, 149, 154, 162, 167]) 79 := by unfold dk; decide +kernel
theorem dX7_count_80 : dk cX7_count 80 81 (.aload_n 0) 1 := by unfold dk; decide +kernel
theorem dX7_count_81 : dk cX7_count 81 84 (.invokevirtual 93) 3 := by unfold dk; decide +kernel
theorem dX7_count_84 : dk cX7_count 84 85 (.ireturn) 1 := by unfold dk; decide +kernel
theorem dX7_count_85 : dk cX7_count 85 86 (.aload_n 0) 1 := by unfold dk; decide +kernel
theorem dX7_count_86 : dk cX7_count 86 89 (.getfield 9) 3 := by unfold dk; decide +kernel
theorem dX7_count_89 : dk cX7_count 89 91 (.bipush 7) 2 := by unfold dk; decide +kernel
theorem dX7_count_91 : dk cX7_count 91 92 (.iaload) 1 := by unfold dk; decide +kernel
theorem dX7_count_92 : bk cX7_count 92 95 105 (.ifCond .le 13) (13) := by unfold bk; decide +kernel
theorem dX7_count_105 : dk cX7_count 105 106 (.iconst 0) 1 := by unfold dk; decide +kernel
theorem dX7_count_95 : dk cX7_count 95 96 (.aload_n 0) 1 := by unfold dk; decide +kernel
theorem dX7_count_96 : dk cX7_count 96 99 (.getfield 9) 3 := by unfold dk; decide +kernel
theorem dX7_count_99 : dk cX7_count 99 101 (.bipush 14) 2 := by unfold dk; decide +kernel
theorem dX7_count_101 : dk cX7_count 101 102 (.iaload) 1 := by unfold dk; decide +kernel
theorem dX7_count_102 : bk cX7_count 102 105 106 (.goto 4) (4) := by unfold bk; decide +kernel
theorem dX7_count_106 : dk cX7_count 106 107 (.ireturn) 1 := by unfold dk; decide +kernel
theorem dX7_count_107 : dk cX7_count 107 108 (.aload_n 0) 1 := by unfold dk; decide +kernel
theorem dX7_count_108 : dk cX7_count 108 111 (.getfield 9) 3 := by unfold dk; decide +kernel
theorem dX7_count_111 : dk cX7_count 111 112 (.iconst 1) 1 := by unfold dk; decide +kernel
theorem dX7_count_112 : dk cX7_count 112 113 (.iload_n 1) 1 := by unfold dk; decide +kernel
theorem dX7_count_113 : dk cX7_count 113 114 (.iadd) 1 := by unfold dk; decide +kernel
theorem dX7_count_114 : dk cX7_count 114 115 (.iconst 2) 1 := by unfold dk; decide +kernel
theorem dX7_count_115 : dk cX7_count 115 116 (.isub) 1 := by unfold dk; decide +kernel
theorem dX7_count_116 : dk cX7_count 116 117 (.iaload) 1 := by unfold dk; decide +kernel
theorem dX7_count_117 : dk cX7_count 117 118 (.ireturn) 1 := by unfold dk; decide +kernel
theorem dX7_count_118 : dk cX7_count 118 119 (.aload_n 0) 1 := by unfold dk; decide +kernel
theorem dX7_count_119 : dk cX7_count 119 122 (.getfield 9) 3 := by unfold dk; decide +kernel
theorem dX7_count_122 : dk cX7_count 122 124 (.bipush 7) 2 := by unfold dk; decide +kernel
theorem dX7_count_124 : dk cX7_count 124 125 (.iaload) 1 := by unfold dk; decide +kernel
theorem dX7_count_125 : dk cX7_count 125 126 (.ireturn) 1 := by unfold dk; decide +kernel
theorem dX7_count_126 : dk cX7_count 126 127 (.aload_n 0) 1 := by unfold dk; decide +kernel
theorem dX7_count_127 : dk cX7_count 127 130 (.invokevirtual 255) 3 := by unfold dk; decide +kernel
theorem dX7_count_130 : bk cX7_count 130 133 148 (.ifCond .eq 18) (18) := by unfold bk; decide +kernel
theorem dX7_count_148 : dk cX7_count 148 149 (.iconst 0) 1 := by unfold dk; decide +kernel
theorem dX7_count_133 : dk cX7_count 133 134 (.aload_n 0) 1 := by unfold dk; decide +kernel
theorem dX7_count_134 : dk cX7_count 134 137 (.getfield 9) 3 := by unfold dk; decide +kernel
theorem dX7_count_137 : dk cX7_count 137 139 (.bipush 9) 2 := by unfold dk; decide +kernel
theorem dX7_count_139 : dk cX7_count 139 140 (.iload_n 1) 1 := by unfold dk; decide +kernel
theorem dX7_count_140 : dk cX7_count 140 141 (.iadd) 1 := by unfold dk; decide +kernel
theorem dX7_count_141 : dk cX7_count 141 143 (.bipush 8) 2 := by unfold dk; decide +kernel
theorem dX7_count_143 : dk cX7_count 143 144 (.isub) 1 := by unfold dk; decide +kernel
theorem dX7_count_144 : dk cX7_count 144 145 (.iaload) 1 := by unfold dk; decide +kernel
theorem dX7_count_145 : bk cX7_count 145 148 149 (.goto 4) (4) := by unfold bk; decide +kernel
theorem dX7_count_149 : dk cX7_count 149 150 (.ireturn) 1 := by unfold dk; decide +kernel
theorem dX7_count_150 : dk cX7_count 150 151 (.aload_n 0) 1 := by unfold dk; decide +kernel
theorem dX7_count_151 : dk cX7_count 151 154 (.getfield 75) 3 := by unfold dk; decide +kernel
theorem dX7_count_154 : dk cX7_count 154 155 (.ireturn) 1 := by unfold dk; decide +kernel
theorem dX7_count_155 : dk cX7_count 155 156 (.aload_n 0) 1 := by unfold dk; decide +kernel
theorem dX7_count_156 : dk cX7_count 156 159 (.getfield 9) 3 := by unfold dk; decide +kernel
theorem dX7_count_159 : dk cX7_count 159 161 (.bipush 8) 2 := by unfold dk; decide +kernel
theorem dX7_count_161 : dk cX7_count 161 162 (.iaload) 1 := by unfold dk; decide +kernel
theorem dX7_count_162 : dk cX7_count 162 163 (.ireturn) 1 := by unfold dk; decide +kernel
theorem dX7_count_163 : dk cX7_count 163 164 (.aload_n 0) 1 := by unfold dk; decide +kernel
theorem dX7_count_164 : dk cX7_count 164 167 (.getfield 86) 3 := by unfold dk; decide +kernel
theorem dX7_count_167 : dk cX7_count 167 168 (.ireturn) 1 := by unfold dk; decide +kernel
theorem dX7_count_168 : dk cX7_count 168 169 (.aload_n 0) 1 := by unfold dk; decide +kernel
theorem dX7_count_169 : dk cX7_count 169 172 (.getfield 9) 3 := by unfold dk; decide +kernel
theorem dX7_count_172 : dk cX7_count 172 174 (.bipush 6) 2 := by unfold dk; decide +kernel
theorem dX7_count_174 : dk cX7_count 174 175 (.iaload) 1 := by unfold dk; decide +kernel
theorem dX7_count_175 : dk cX7_count 175 176 (.ireturn) 1 := by unfold dk; decide +kernel
theorem dX7_count_176 : dk cX7_count 176 177 (.iconst (-1)) 1 := by unfold dk; decide +kernel
theorem dX7_count_177 : dk cX7_count 177 178 (.ireturn) 1 := by unfold dk; decide +kernel
set_option maxHeartbeats 4000000 in
set_option maxRecDepth 100000 in
theorem kX7_count {l : Launch} {G : Gl} {E : En} {a0 : Nat} {a1 : Int32} {σ σ' : Sg} {r : Int32} : fX7_count E a0 a1 σ = some (r, σ') → CT l yX7_count cX7_count 2 (some .int) ({ frames := 1, cells := 0, slots := 0, locals := 20 } : Room) [.ref (G.1 + a0), .int a1] G E σ (some (.int r)) σ' := by
  intro h
  refine CT_of (lv0 := [(0, .ref (G.1 + a0)), (1, .int a1)]) (by decide) (Nat.le_of_ble_eq_true rfl) rfl (fun κ hl hR hr C => ?_)
  have C : Cx κ G cX7_count RX7 2 := C
  revert h
  unfold fX7_count
  refine R_tk (fun ha0 => ?_)
  refine R_iload_n C 1 rfl dX7_count_0 ?_
  refine R_if (fun h1 => ?_) (fun h1 => ?_)
  · refine R_tsIn (off := 79) (t := 80) C dX7_count_1 h1 (by decide) ?_
    refine R_aload_n C 0 rfl dX7_count_80 ?_
    refine R_bd (fun r4 s2 q3 => ?_)
    refine R_callVi [] [] C ml7_93 (kX7_many q3) (by rw [hR]; exact ⟨rfl, rfl, Nat.le_of_ble_eq_true rfl, Nat.le_of_ble_eq_true rfl, Nat.zero_le _, Nat.zero_le _⟩) ha0 rfl rfl (Nat.le_of_ble_eq_true rfl) dX7_count_81 ?_
    exact R_iret C hr dX7_count_84
  refine R_if (fun h5 => ?_) (fun h5 => ?_)
  · refine R_tsIn (off := 84) (t := 85) C dX7_count_1 h5 (by decide) ?_
    refine R_aload_n C 0 rfl dX7_count_85 ?_
    refine R_dr (fun x6 rx6 cx6 => ?_)
    refine R_getr C fl7_9 rfl ha0 rx6 dX7_count_86 ?_
    refine R_bipush C (7) dX7_count_89 (by decide) ?_
    refine R_ck (fun h7 => ?_)
    refine R_iald C cx6 h7 dX7_count_91 ?_
    refine R_bdK (fun (w : Int32) (s : Sg) => V κ G (QQ κ G E (some (.int r)) σ') E s (false, 0, 0) 106 [] [.int w]) (fun w8 s9 => ?_) (fun w8 s9 Kw8 => ?_)
    · exact R_iret C hr dX7_count_106
    · refine B_if_le C dX7_count_92 ?_ ?_
      · refine R_iconst C (0) dX7_count_105 (by decide) ?_
        refine R_loc (lv2 := []) [] rfl ?_
        exact R_end (fun (w : Int32) (s : Sg) => V κ G (QQ κ G E (some (.int r)) σ') E s (false, 0, 0) 106 [] [.int w]) Kw8
      · refine R_aload_n C 0 rfl dX7_count_95 ?_
        refine R_getr C fl7_9 rfl ha0 rx6 dX7_count_96 ?_
        refine R_bipush C (14) dX7_count_99 (by decide) ?_
        refine R_ck (fun h10 => ?_)
        refine R_iald C cx6 h10 dX7_count_101 ?_
        refine R_goto C dX7_count_102 ?_
        refine R_loc (lv2 := []) [] rfl ?_
        exact R_end (fun (w : Int32) (s : Sg) => V κ G (QQ κ G E (some (.int r)) σ') E s (false, 0, 0) 106 [] [.int w]) Kw8
  refine R_if (fun h11 => ?_) (fun h11 => ?_)
  · refine R_tsIn (off := 106) (t := 107) C dX7_count_1 h11 (by decide) ?_
    refine R_aload_n C 0 rfl dX7_count_107 ?_
    refine R_dr (fun x12 rx12 cx12 => ?_)
    refine R_getr C fl7_9 rfl ha0 rx12 dX7_count_108 ?_
    refine R_iconst C (1) dX7_count_111 (by decide) ?_
    refine R_iload_n C 1 rfl dX7_count_112 ?_
    refine R_iadd C dX7_count_113 ?_
    refine R_iconst C (2) dX7_count_114 (by decide) ?_
    refine R_isub C dX7_count_115 ?_
    refine R_ck (fun h13 => ?_)
    refine R_iald C cx12 h13 dX7_count_116 ?_
    exact R_iret C hr dX7_count_117
  refine R_if (fun h14 => ?_) (fun h14 => ?_)
  · refine R_tsIn (off := 106) (t := 107) C dX7_count_1 h14 (by decide) ?_
    refine R_aload_n C 0 rfl dX7_count_107 ?_
    refine R_dr (fun x15 rx15 cx15 => ?_)
    refine R_getr C fl7_9 rfl ha0 rx15 dX7_count_108 ?_
    refine R_iconst C (1) dX7_count_111 (by decide) ?_
    refine R_iload_n C 1 rfl dX7_count_112 ?_
    refine R_iadd C dX7_count_113 ?_
    refine R_iconst C (2) dX7_count_114 (by decide) ?_
    refine R_isub C dX7_count_115 ?_
    refine R_ck (fun h16 => ?_)
    refine R_iald C cx15 h16 dX7_count_116 ?_
    exact R_iret C hr dX7_count_117
  refine R_if (fun h17 => ?_) (fun h17 => ?_)
  · refine R_tsIn (off := 106) (t := 107) C dX7_count_1 h17 (by decide) ?_
    refine R_aload_n C 0 rfl dX7_count_107 ?_
    refine R_dr (fun x18 rx18 cx18 => ?_)
    refine R_getr C fl7_9 rfl ha0 rx18 dX7_count_108 ?_
    refine R_iconst C (1) dX7_count_111 (by decide) ?_
    refine R_iload_n C 1 rfl dX7_count_112 ?_
    refine R_iadd C dX7_count_113 ?_
    refine R_iconst C (2) dX7_count_114 (by decide) ?_
    refine R_isub C dX7_count_115 ?_
    refine R_ck (fun h19 => ?_)
    refine R_iald C cx18 h19 dX7_count_116 ?_
    exact R_iret C hr dX7_count_117
  refine R_if (fun h20 => ?_) (fun h20 => ?_)
  · refine R_tsIn (off := 106) (t := 107) C dX7_count_1 h20 (by decide) ?_
    refine R_aload_n C 0 rfl dX7_count_107 ?_
    refine R_dr (fun x21 rx21 cx21 => ?_)
    refine R_getr C fl7_9 rfl ha0 rx21 dX7_count_108 ?_
    refine R_iconst C (1) dX7_count_111 (by decide) ?_
    refine R_iload_n C 1 rfl dX7_count_112 ?_
    refine R_iadd C dX7_count_113 ?_
    refine R_iconst C (2) dX7_count_114 (by decide) ?_
    refine R_isub C dX7_count_115 ?_
    refine R_ck (fun h22 => ?_)
    refine R_iald C cx21 h22 dX7_count_116 ?_
    exact R_iret C hr dX7_count_117
  refine R_if (fun h23 => ?_) (fun h23 => ?_)
  · refine R_tsIn (off := 106) (t := 107) C dX7_count_1 h23 (by decide) ?_
    refine R_aload_n C 0 rfl dX7_count_107 ?_
    refine R_dr (fun x24 rx24 cx24 => ?_)
    refine R_getr C fl7_9 rfl ha0 rx24 dX7_count_108 ?_
    refine R_iconst C (1) dX7_count_111 (by decide) ?_
    refine R_iload_n C 1 rfl dX7_count_112 ?_
    refine R_iadd C dX7_count_113 ?_
    refine R_iconst C (2) dX7_count_114 (by decide) ?_
    refine R_isub C dX7_count_115 ?_
    refine R_ck (fun h25 => ?_)
    refine R_iald C cx24 h25 dX7_count_116 ?_
    exact R_iret C hr dX7_count_117
  refine R_if (fun h26 => ?_) (fun h26 => ?_)
  · refine R_tsIn (off := 117) (t := 118) C dX7_count_1 h26 (by decide) ?_
    refine R_aload_n C 0 rfl dX7_count_118 ?_
    refine R_dr (fun x27 rx27 cx27 => ?_)
    refine R_getr C fl7_9 rfl ha0 rx27 dX7_count_119 ?_
    refine R_bipush C (7) dX7_count_122 (by decide) ?_
    refine R_ck (fun h28 => ?_)
    refine R_iald C cx27 h28 dX7_count_124 ?_
    exact R_iret C hr dX7_count_125
  refine R_if (fun h29 => ?_) (fun h29 => ?_)
  · refine R_tsIn (off := 125) (t := 126) C dX7_count_1 h29 (by decide) ?_
    refine R_aload_n C 0 rfl dX7_count_126 ?_
    refine R_bd (fun r32 s30 q31 => ?_)
    refine R_callVi [] [] C ml7_255 (kX7_isSpread q31) (by rw [hR]; exact ⟨rfl, rfl, Nat.le_of_ble_eq_true rfl, Nat.le_of_ble_eq_true rfl, Nat.zero_le _, Nat.zero_le _⟩) ha0 rfl rfl (Nat.le_of_ble_eq_true rfl) dX7_count_127 ?_
    refine R_bdK (fun (w : Int32) (s : Sg) => V κ G (QQ κ G E (some (.int r)) σ') E s (false, 0, 0) 149 [] [.int w]) (fun w33 s34 => ?_) (fun w33 s34 Kw33 => ?_)
    · exact R_iret C hr dX7_count_149
    · refine B_if_eq C dX7_count_130 ?_ ?_
      · refine R_iconst C (0) dX7_count_148 (by decide) ?_
        refine R_loc (lv2 := []) [] rfl ?_
        exact R_end (fun (w : Int32) (s : Sg) => V κ G (QQ κ G E (some (.int r)) σ') E s (false, 0, 0) 149 [] [.int w]) Kw33
      · refine R_aload_n C 0 rfl dX7_count_133 ?_
        refine R_dr (fun x35 rx35 cx35 => ?_)
        refine R_getr C fl7_9 rfl ha0 rx35 dX7_count_134 ?_
        refine R_bipush C (9) dX7_count_137 (by decide) ?_
        refine R_iload_n C 1 rfl dX7_count_139 ?_
        refine R_iadd C dX7_count_140 ?_
        refine R_bipush C (8) dX7_count_141 (by decide) ?_
        refine R_isub C dX7_count_143 ?_
        refine R_ck (fun h36 => ?_)
        refine R_iald C cx35 h36 dX7_count_144 ?_
        refine R_goto C dX7_count_145 ?_
        refine R_loc (lv2 := []) [] rfl ?_
        exact R_end (fun (w : Int32) (s : Sg) => V κ G (QQ κ G E (some (.int r)) σ') E s (false, 0, 0) 149 [] [.int w]) Kw33
  refine R_if (fun h37 => ?_) (fun h37 => ?_)
  · refine R_tsIn (off := 125) (t := 126) C dX7_count_1 h37 (by decide) ?_
    refine R_aload_n C 0 rfl dX7_count_126 ?_
    refine R_bd (fun r40 s38 q39 => ?_)
    refine R_callVi [] [] C ml7_255 (kX7_isSpread q39) (by rw [hR]; exact ⟨rfl, rfl, Nat.le_of_ble_eq_true rfl, Nat.le_of_ble_eq_true rfl, Nat.zero_le _, Nat.zero_le _⟩) ha0 rfl rfl (Nat.le_of_ble_eq_true rfl) dX7_count_127 ?_
    refine R_bdK (fun (w : Int32) (s : Sg) => V κ G (QQ κ G E (some (.int r)) σ') E s (false, 0, 0) 149 [] [.int w]) (fun w41 s42 => ?_) (fun w41 s42 Kw41 => ?_)
    · exact R_iret C hr dX7_count_149
    · refine B_if_eq C dX7_count_130 ?_ ?_
      · refine R_iconst C (0) dX7_count_148 (by decide) ?_
        refine R_loc (lv2 := []) [] rfl ?_
        exact R_end (fun (w : Int32) (s : Sg) => V κ G (QQ κ G E (some (.int r)) σ') E s (false, 0, 0) 149 [] [.int w]) Kw41
      · refine R_aload_n C 0 rfl dX7_count_133 ?_
        refine R_dr (fun x43 rx43 cx43 => ?_)
        refine R_getr C fl7_9 rfl ha0 rx43 dX7_count_134 ?_
        refine R_bipush C (9) dX7_count_137 (by decide) ?_
        refine R_iload_n C 1 rfl dX7_count_139 ?_
        refine R_iadd C dX7_count_140 ?_
        refine R_bipush C (8) dX7_count_141 (by decide) ?_
        refine R_isub C dX7_count_143 ?_
        refine R_ck (fun h44 => ?_)
        refine R_iald C cx43 h44 dX7_count_144 ?_
        refine R_goto C dX7_count_145 ?_
        refine R_loc (lv2 := []) [] rfl ?_
        exact R_end (fun (w : Int32) (s : Sg) => V κ G (QQ κ G E (some (.int r)) σ') E s (false, 0, 0) 149 [] [.int w]) Kw41
  refine R_if (fun h45 => ?_) (fun h45 => ?_)
  · refine R_tsIn (off := 125) (t := 126) C dX7_count_1 h45 (by decide) ?_
    refine R_aload_n C 0 rfl dX7_count_126 ?_
    refine R_bd (fun r48 s46 q47 => ?_)
    refine R_callVi [] [] C ml7_255 (kX7_isSpread q47) (by rw [hR]; exact ⟨rfl, rfl, Nat.le_of_ble_eq_true rfl, Nat.le_of_ble_eq_true rfl, Nat.zero_le _, Nat.zero_le _⟩) ha0 rfl rfl (Nat.le_of_ble_eq_true rfl) dX7_count_127 ?_
    refine R_bdK (fun (w : Int32) (s : Sg) => V κ G (QQ κ G E (some (.int r)) σ') E s (false, 0, 0) 149 [] [.int w]) (fun w49 s50 => ?_) (fun w49 s50 Kw49 => ?_)
    · exact R_iret C hr dX7_count_149
    · refine B_if_eq C dX7_count_130 ?_ ?_
      · refine R_iconst C (0) dX7_count_148 (by decide) ?_
        refine R_loc (lv2 := []) [] rfl ?_
        exact R_end (fun (w : Int32) (s : Sg) => V κ G (QQ κ G E (some (.int r)) σ') E s (false, 0, 0) 149 [] [.int w]) Kw49
      · refine R_aload_n C 0 rfl dX7_count_133 ?_
        refine R_dr (fun x51 rx51 cx51 => ?_)
        refine R_getr C fl7_9 rfl ha0 rx51 dX7_count_134 ?_
        refine R_bipush C (9) dX7_count_137 (by decide) ?_
        refine R_iload_n C 1 rfl dX7_count_139 ?_
        refine R_iadd C dX7_count_140 ?_
        refine R_bipush C (8) dX7_count_141 (by decide) ?_
        refine R_isub C dX7_count_143 ?_
        refine R_ck (fun h52 => ?_)
        refine R_iald C cx51 h52 dX7_count_144 ?_
        refine R_goto C dX7_count_145 ?_
        refine R_loc (lv2 := []) [] rfl ?_
        exact R_end (fun (w : Int32) (s : Sg) => V κ G (QQ κ G E (some (.int r)) σ') E s (false, 0, 0) 149 [] [.int w]) Kw49
  refine R_if (fun h53 => ?_) (fun h53 => ?_)
  · refine R_tsIn (off := 125) (t := 126) C dX7_count_1 h53 (by decide) ?_
    refine R_aload_n C 0 rfl dX7_count_126 ?_
    refine R_bd (fun r56 s54 q55 => ?_)
    refine R_callVi [] [] C ml7_255 (kX7_isSpread q55) (by rw [hR]; exact ⟨rfl, rfl, Nat.le_of_ble_eq_true rfl, Nat.le_of_ble_eq_true rfl, Nat.zero_le _, Nat.zero_le _⟩) ha0 rfl rfl (Nat.le_of_ble_eq_true rfl) dX7_count_127 ?_
    refine R_bdK (fun (w : Int32) (s : Sg) => V κ G (QQ κ G E (some (.int r)) σ') E s (false, 0, 0) 149 [] [.int w]) (fun w57 s58 => ?_) (fun w57 s58 Kw57 => ?_)
    · exact R_iret C hr dX7_count_149
    · refine B_if_eq C dX7_count_130 ?_ ?_
      · refine R_iconst C (0) dX7_count_148 (by decide) ?_
        refine R_loc (lv2 := []) [] rfl ?_
        exact R_end (fun (w : Int32) (s : Sg) => V κ G (QQ κ G E (some (.int r)) σ') E s (false, 0, 0) 149 [] [.int w]) Kw57
      · refine R_aload_n C 0 rfl dX7_count_133 ?_
        refine R_dr (fun x59 rx59 cx59 => ?_)
        refine R_getr C fl7_9 rfl ha0 rx59 dX7_count_134 ?_
        refine R_bipush C (9) dX7_count_137 (by decide) ?_
        refine R_iload_n C 1 rfl dX7_count_139 ?_
        refine R_iadd C dX7_count_140 ?_
        refine R_bipush C (8) dX7_count_141 (by decide) ?_
        refine R_isub C dX7_count_143 ?_
        refine R_ck (fun h60 => ?_)
        refine R_iald C cx59 h60 dX7_count_144 ?_
        refine R_goto C dX7_count_145 ?_
        refine R_loc (lv2 := []) [] rfl ?_
        exact R_end (fun (w : Int32) (s : Sg) => V κ G (QQ κ G E (some (.int r)) σ') E s (false, 0, 0) 149 [] [.int w]) Kw57
  refine R_if (fun h61 => ?_) (fun h61 => ?_)
  · refine R_tsIn (off := 149) (t := 150) C dX7_count_1 h61 (by decide) ?_
    refine R_aload_n C 0 rfl dX7_count_150 ?_
    refine R_geti C fl7_75 rfl ha0 dX7_count_151 ?_
    exact R_iret C hr dX7_count_154
  refine R_if (fun h62 => ?_) (fun h62 => ?_)
  · refine R_tsIn (off := 154) (t := 155) C dX7_count_1 h62 (by decide) ?_
    refine R_aload_n C 0 rfl dX7_count_155 ?_
    refine R_dr (fun x63 rx63 cx63 => ?_)
    refine R_getr C fl7_9 rfl ha0 rx63 dX7_count_156 ?_
    refine R_bipush C (8) dX7_count_159 (by decide) ?_
    refine R_ck (fun h64 => ?_)
    refine R_iald C cx63 h64 dX7_count_161 ?_
    exact R_iret C hr dX7_count_162
  refine R_if (fun h65 => ?_) (fun h65 => ?_)
  · refine R_tsIn (off := 162) (t := 163) C dX7_count_1 h65 (by decide) ?_
    refine R_aload_n C 0 rfl dX7_count_163 ?_
    refine R_geti C fl7_86 rfl ha0 dX7_count_164 ?_
    exact R_iret C hr dX7_count_167
  refine R_if (fun h66 => ?_) (fun h66 => ?_)
  · refine R_tsIn (off := 167) (t := 168) C dX7_count_1 h66 (by decide) ?_
    refine R_aload_n C 0 rfl dX7_count_168 ?_
    refine R_dr (fun x67 rx67 cx67 => ?_)
    refine R_getr C fl7_9 rfl ha0 rx67 dX7_count_169 ?_
    refine R_bipush C (6) dX7_count_172 (by decide) ?_
    refine R_ck (fun h68 => ?_)
    refine R_iald C cx67 h68 dX7_count_174 ?_
    exact R_iret C hr dX7_count_175
  · refine R_tsOut (t := 176) C dX7_count_1 (by have ah1 := lv_neT (a := 0) h1 (by decide); have ah5 := lv_neT (a := 1) h5 (by decide); have ah11 := lv_neT (a := 2) h11 (by decide); have ah14 := lv_neT (a := 3) h14 (by decide); have ah17 := lv_neT (a := 4) h17 (by decide); have ah20 := lv_neT (a := 5) h20 (by decide); have ah23 := lv_neT (a := 6) h23 (by decide); have ah26 := lv_neT (a := 7) h26 (by decide); have ah29 := lv_neT (a := 8) h29 (by decide); have ah37 := lv_neT (a := 9) h37 (by decide); have ah45 := lv_neT (a := 10) h45 (by decide); have ah53 := lv_neT (a := 11) h53 (by decide); have ah61 := lv_neT (a := 12) h61 (by decide); have ah62 := lv_neT (a := 13) h62 (by decide); have ah65 := lv_neT (a := 14) h65 (by decide); have ah66 := lv_neT (a := 15) h66 (by decide); omega) (by decide) ?_
    refine R_iconst C (-1) dX7_count_176 (by decide) ?_
    exact R_iret C hr dX7_count_177
