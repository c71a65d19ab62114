theorem dX6_isTape_0 : dk cX6_isTape 0 1 (.aload_n 0) 1 := by unfold dk; decide +kernel
theorem dX6_isTape_1 : dk cX6_isTape 1 4 (.getfield 16) 3 := by unfold dk; decide +kernel
theorem dX6_isTape_4 : dk cX6_isTape 4 7 (.getfield 79) 3 := by unfold dk; decide +kernel
theorem dX6_isTape_7 : dk cX6_isTape 7 8 (.iconst 2) 1 := by unfold dk; decide +kernel
theorem dX6_isTape_8 : bk cX6_isTape 8 11 33 (.if_icmp .lt 25) (25) := by unfold bk; decide +kernel
theorem dX6_isTape_33 : dk cX6_isTape 33 34 (.iconst 0) 1 := by unfold dk; decide +kernel
theorem dX6_isTape_11 : dk cX6_isTape 11 12 (.iload_n 1) 1 := by unfold dk; decide +kernel
theorem dX6_isTape_15 : dk cX6_isTape 15 16 (.iload_n 1) 1 := by unfold dk; decide +kernel
theorem dX6_isTape_16 : dk cX6_isTape 16 17 (.aload_n 0) 1 := by unfold dk; decide +kernel
theorem dX6_isTape_17 : dk cX6_isTape 17 20 (.getfield 16) 3 := by unfold dk; decide +kernel
theorem dX6_isTape_20 : dk cX6_isTape 20 23 (.getfield 129) 3 := by unfold dk; decide +kernel
theorem dX6_isTape_23 : dk cX6_isTape 23 26 (.getfield 183) 3 := by unfold dk; decide +kernel
theorem dX6_isTape_29 : dk cX6_isTape 29 30 (.iconst 1) 1 := by unfold dk; decide +kernel
theorem dX6_isTape_30 : bk cX6_isTape 30 33 34 (.goto 4) (4) := by unfold bk; decide +kernel
theorem dX6_isTape_26 : bk cX6_isTape 26 29 33 (.if_icmp .ge 7) (7) := by unfold bk; decide +kernel
theorem dX6_isTape_12 : bk cX6_isTape 12 15 33 (.ifCond .lt 21) (21) := by unfold bk; decide +kernel
theorem dX6_isTape_34 : dk cX6_isTape 34 35 (.ireturn) 1 := by unfold dk; decide +kernel
set_option maxHeartbeats 4000000 in
set_option maxRecDepth 100000 in
theorem kX6_isTape {l : Launch} {G : Gl} {E : En} {a0 : Nat} {a1 : Int32} {σ σ' : Sg} {r : Int32} : fX6_isTape E a0 a1 σ = some (r, σ') → CT l yX6_isTape cX6_isTape 2 (some .boolean) ({ frames := 0, cells := 0, slots := 0, locals := 0 } : Room) [.ref (G.1 + a0), .int a1] G E σ (some (.int r)) σ' := by
  intro h
  refine CT_of (lv0 := [(0, .ref (G.1 + a0)), (1, .int a1)]) (by decide) (Nat.le_of_ble_eq_true rfl) rfl (fun κ hl hR hr C => ?_)
  have C : Cx κ G cX6_isTape RX6 2 := C
  revert h
  unfold fX6_isTape
  refine R_tk (fun ha0 => ?_)
  refine R_aload_n C 0 rfl dX6_isTape_0 ?_
  refine R_dr (fun x1 rx1 cx1 => ?_)
  refine R_getr C fl6_16 rfl ha0 rx1 dX6_isTape_1 ?_
  refine R_geti C fl6_79 rfl cx1 dX6_isTape_4 ?_
  refine R_iconst C (2) dX6_isTape_7 (by decide) ?_
  refine R_bdK (fun (w : Int32) (s : Sg) => V κ G (QQ κ G E (some (.int r)) σ') E s (false, 0, 0) 34 [] [.int w]) (fun w2 s3 => ?_) (fun w2 s3 Kw2 => ?_)
  · refine R_kb (fun h5 => ?_)
    exact R_zret C hr h5 dX6_isTape_34
  · refine B_icmp_lt C dX6_isTape_8 ?_ ?_
    · refine R_iconst C (0) dX6_isTape_33 (by decide) ?_
      refine R_loc (lv2 := []) [] rfl ?_
      exact R_end (fun (w : Int32) (s : Sg) => V κ G (QQ κ G E (some (.int r)) σ') E s (false, 0, 0) 34 [] [.int w]) Kw2
    · refine R_iload_n C 1 rfl dX6_isTape_11 ?_
      refine B_if_lt C dX6_isTape_12 ?_ ?_
      · refine R_iconst C (0) dX6_isTape_33 (by decide) ?_
        refine R_loc (lv2 := []) [] rfl ?_
        exact R_end (fun (w : Int32) (s : Sg) => V κ G (QQ κ G E (some (.int r)) σ') E s (false, 0, 0) 34 [] [.int w]) Kw2
      · refine R_iload_n C 1 rfl dX6_isTape_15 ?_
        refine R_aload_n C 0 rfl dX6_isTape_16 ?_
        refine R_getr C fl6_16 rfl ha0 rx1 dX6_isTape_17 ?_
        refine R_dr (fun x4 rx4 cx4 => ?_)
        refine R_getr C fl6_129 rfl cx1 rx4 dX6_isTape_20 ?_
        refine R_geti C fl6_183 rfl cx4 dX6_isTape_23 ?_
        refine B_icmp_ge C dX6_isTape_26 ?_ ?_
        · refine R_iconst C (0) dX6_isTape_33 (by decide) ?_
          refine R_loc (lv2 := []) [] rfl ?_
          exact R_end (fun (w : Int32) (s : Sg) => V κ G (QQ κ G E (some (.int r)) σ') E s (false, 0, 0) 34 [] [.int w]) Kw2
        · refine R_iconst C (1) dX6_isTape_29 (by decide) ?_
          refine R_goto C dX6_isTape_30 ?_
          refine R_loc (lv2 := []) [] rfl ?_
          exact R_end (fun (w : Int32) (s : Sg) => V κ G (QQ κ G E (some (.int r)) σ') E s (false, 0, 0) 34 [] [.int w]) Kw2
theorem dX6_tape_0 : dk cX6_tape 0 1 (.aload_n 0) 1 := by unfold dk; decide +kernel
theorem dX6_tape_1 : dk cX6_tape 1 2 (.iload_n 1) 1 := by unfold dk; decide +kernel
theorem dX6_tape_2 : dk cX6_tape 2 5 (.invokevirtual 163) 3 := by unfold dk; decide +kernel
theorem dX6_tape_10 : dk cX6_tape 10 11 (.aload_n 0) 1 := by unfold dk; decide +kernel
theorem dX6_tape_11 : dk cX6_tape 11 14 (.getfield 16) 3 := by unfold dk; decide +kernel
theorem dX6_tape_14 : dk cX6_tape 14 17 (.getfield 129) 3 := by unfold dk; decide +kernel
theorem dX6_tape_17 : dk cX6_tape 17 18 (.astore_n 3) 1 := by unfold dk; decide +kernel
theorem dX6_tape_18 : dk cX6_tape 18 19 (.iload_n 2) 1 := by unfold dk; decide +kernel
theorem dX6_tape_19 : dk cX6_tape 19 48 (.tableswitch 69 0 3 #[29, 39, 49, 55]) 29 := by unfold dk; decide +kernel
theorem dX6_tape_48 : dk cX6_tape 48 49 (.aload_n 3) 1 := by unfold dk; decide +kernel
theorem dX6_tape_49 : dk cX6_tape 49 52 (.getfield 166) 3 := by unfold dk; decide +kernel
theorem dX6_tape_52 : dk cX6_tape 52 53 (.iload_n 1) 1 := by unfold dk; decide +kernel
theorem dX6_tape_53 : dk cX6_tape 53 54 (.aaload) 1 := by unfold dk; decide +kernel
theorem dX6_tape_54 : dk cX6_tape 54 57 (.invokevirtual 170) 3 := by unfold dk; decide +kernel
theorem dX6_tape_57 : dk cX6_tape 57 58 (.ireturn) 1 := by unfold dk; decide +kernel
theorem dX6_tape_58 : dk cX6_tape 58 59 (.aload_n 3) 1 := by unfold dk; decide +kernel
theorem dX6_tape_59 : dk cX6_tape 59 62 (.getfield 166) 3 := by unfold dk; decide +kernel
theorem dX6_tape_62 : dk cX6_tape 62 63 (.iload_n 1) 1 := by unfold dk; decide +kernel
theorem dX6_tape_63 : dk cX6_tape 63 64 (.aaload) 1 := by unfold dk; decide +kernel
theorem dX6_tape_64 : dk cX6_tape 64 67 (.invokevirtual 174) 3 := by unfold dk; decide +kernel
theorem dX6_tape_67 : dk cX6_tape 67 68 (.ireturn) 1 := by unfold dk; decide +kernel
theorem dX6_tape_68 : dk cX6_tape 68 69 (.aload_n 3) 1 := by unfold dk; decide +kernel
theorem dX6_tape_69 : dk cX6_tape 69 70 (.iload_n 1) 1 := by unfold dk; decide +kernel
theorem dX6_tape_70 : dk cX6_tape 70 73 (.invokevirtual 177) 3 := by unfold dk; decide +kernel
theorem dX6_tape_73 : dk cX6_tape 73 74 (.ireturn) 1 := by unfold dk; decide +kernel
theorem dX6_tape_74 : dk cX6_tape 74 75 (.aload_n 3) 1 := by unfold dk; decide +kernel
theorem dX6_tape_75 : dk cX6_tape 75 78 (.getfield 180) 3 := by unfold dk; decide +kernel
theorem dX6_tape_78 : dk cX6_tape 78 79 (.iload_n 1) 1 := by unfold dk; decide +kernel
theorem dX6_tape_79 : bk cX6_tape 79 82 86 (.if_icmp .ne 7) (7) := by unfold bk; decide +kernel
theorem dX6_tape_86 : dk cX6_tape 86 87 (.iconst 0) 1 := by unfold dk; decide +kernel
theorem dX6_tape_82 : dk cX6_tape 82 83 (.iconst 1) 1 := by unfold dk; decide +kernel
theorem dX6_tape_83 : bk cX6_tape 83 86 87 (.goto 4) (4) := by unfold bk; decide +kernel
theorem dX6_tape_87 : dk cX6_tape 87 88 (.ireturn) 1 := by unfold dk; decide +kernel
theorem dX6_tape_88 : dk cX6_tape 88 89 (.iconst (-1)) 1 := by unfold dk; decide +kernel
theorem dX6_tape_89 : dk cX6_tape 89 90 (.ireturn) 1 := by unfold dk; decide +kernel
theorem dX6_tape_8 : dk cX6_tape 8 9 (.iconst (-1)) 1 := by unfold dk; decide +kernel
theorem dX6_tape_9 : dk cX6_tape 9 10 (.ireturn) 1 := by unfold dk; decide +kernel
theorem dX6_tape_5 : bk cX6_tape 5 8 10 (.ifCond .ne 5) (5) := by unfold bk; decide +kernel
set_option maxHeartbeats 4000000 in
set_option maxRecDepth 100000 in
theorem kX6_tape {l : Launch} {G : Gl} {E : En} {a0 : Nat} {a1 : Int32} {a2 : Int32} {σ σ' : Sg} {r : Int32} : fX6_tape E a0 a1 a2 σ = some (r, σ') → CT l yX6_tape cX6_tape 4 (some .int) ({ frames := 3, cells := 0, slots := 0, locals := 65 } : Room) [.ref (G.1 + a0), .int a1, .int a2] G E σ (some (.int r)) σ' := by
  intro h
  refine CT_of (lv0 := [(0, .ref (G.1 + a0)), (1, .int a1), (2, .int a2)]) (by decide) (Nat.le_of_ble_eq_true rfl) rfl (fun κ hl hR hr C => ?_)
  have C : Cx κ G cX6_tape RX6 4 := C
  revert h
  unfold fX6_tape
  refine R_tk (fun ha0 => ?_)
  refine R_aload_n C 0 rfl dX6_tape_0 ?_
  refine R_iload_n C 1 rfl dX6_tape_1 ?_
  refine R_bd (fun r3 s1 q2 => ?_)
  refine R_callVi [.int a1] [] C ml6_163 (kX6_isTape q2) (by rw [hR]; exact ⟨rfl, rfl, Nat.le_of_ble_eq_true rfl, Nat.le_of_ble_eq_true rfl, Nat.zero_le _, Nat.zero_le _⟩) ha0 rfl rfl (Nat.le_of_ble_eq_true rfl) dX6_tape_2 ?_
  refine B_if_ne C dX6_tape_5 ?_ ?_
  · refine R_aload_n C 0 rfl dX6_tape_10 ?_
    refine R_dr (fun x4 rx4 cx4 => ?_)
    refine R_getr C fl6_16 rfl ha0 rx4 dX6_tape_11 ?_
    refine R_dr (fun x5 rx5 cx5 => ?_)
    refine R_getr C fl6_129 rfl cx4 rx5 dX6_tape_14 ?_
    refine R_astore_n (lv2 := [(3, .ref (G.1 + x5)), (0, .ref (G.1 + a0)), (1, .int a1), (2, .int a2)]) C dX6_tape_17 rfl (by decide) rfl ?_
    refine R_iload_n C 3 rfl dX6_tape_18 ?_
    refine R_if (fun h6 => ?_) (fun h6 => ?_)
    · refine R_tsIn (off := 29) (t := 48) C dX6_tape_19 h6 (by decide) ?_
      refine R_aload_n C 0 rfl dX6_tape_48 ?_
      refine R_dr (fun x7 rx7 cx7 => ?_)
      refine R_getr C fl6_166 rfl cx5 rx7 dX6_tape_49 ?_
      refine R_iload_n C 2 rfl dX6_tape_52 ?_
      refine R_ck (fun h8 => ?_)
      refine R_dr (fun x9 rx9 cx9 => ?_)
      refine R_aald4 C cx7 h8 rx9 dX6_tape_53 ?_
      refine R_bd (fun r12 s10 q11 => ?_)
      refine R_callVi [] [] C ml6_170 (kX5_size q11) (by rw [hR]; exact ⟨rfl, rfl, Nat.le_of_ble_eq_true rfl, Nat.le_of_ble_eq_true rfl, Nat.zero_le _, Nat.zero_le _⟩) cx9 rfl rfl (Nat.le_of_ble_eq_true rfl) dX6_tape_54 ?_
      exact R_iret C hr dX6_tape_57
    refine R_if (fun h13 => ?_) (fun h13 => ?_)
    · refine R_tsIn (off := 39) (t := 58) C dX6_tape_19 h13 (by decide) ?_
      refine R_aload_n C 0 rfl dX6_tape_58 ?_
      refine R_dr (fun x14 rx14 cx14 => ?_)
      refine R_getr C fl6_166 rfl cx5 rx14 dX6_tape_59 ?_
      refine R_iload_n C 2 rfl dX6_tape_62 ?_
      refine R_ck (fun h15 => ?_)
      refine R_dr (fun x16 rx16 cx16 => ?_)
      refine R_aald4 C cx14 h15 rx16 dX6_tape_63 ?_
      refine R_bd (fun r19 s17 q18 => ?_)
      refine R_callVi [] [] C ml6_174 (kX5_dummies q18) (by rw [hR]; exact ⟨rfl, rfl, Nat.le_of_ble_eq_true rfl, Nat.le_of_ble_eq_true rfl, Nat.zero_le _, Nat.zero_le _⟩) cx16 rfl rfl (Nat.le_of_ble_eq_true rfl) dX6_tape_64 ?_
      exact R_iret C hr dX6_tape_67
    refine R_if (fun h20 => ?_) (fun h20 => ?_)
    · refine R_tsIn (off := 49) (t := 68) C dX6_tape_19 h20 (by decide) ?_
      refine R_aload_n C 0 rfl dX6_tape_68 ?_
      refine R_iload_n C 2 rfl dX6_tape_69 ?_
      refine R_bd (fun r23 s21 q22 => ?_)
      refine R_callVi [.int a1] [] C ml6_177 (kX1_recordsOn q22) (by rw [hR]; exact ⟨rfl, rfl, Nat.le_of_ble_eq_true rfl, Nat.le_of_ble_eq_true rfl, Nat.zero_le _, Nat.zero_le _⟩) cx5 rfl rfl (Nat.le_of_ble_eq_true rfl) dX6_tape_70 ?_
      exact R_iret C hr dX6_tape_73
    refine R_if (fun h24 => ?_) (fun h24 => ?_)
    · refine R_tsIn (off := 55) (t := 74) C dX6_tape_19 h24 (by decide) ?_
      refine R_aload_n C 0 rfl dX6_tape_74 ?_
      refine R_geti C fl6_180 rfl cx5 dX6_tape_75 ?_
      refine R_iload_n C 2 rfl dX6_tape_78 ?_
      refine R_bdK (fun (w : Int32) (s : Sg) => V κ G (QQ κ G E (some (.int r)) σ') E s (false, 0, 0) 87 [] [.int w]) (fun w25 s26 => ?_) (fun w25 s26 Kw25 => ?_)
      · exact R_iret C hr dX6_tape_87
      · refine B_icmp_ne C dX6_tape_79 ?_ ?_
        · refine R_iconst C (0) dX6_tape_86 (by decide) ?_
          refine R_loc (lv2 := []) [] rfl ?_
          exact R_end (fun (w : Int32) (s : Sg) => V κ G (QQ κ G E (some (.int r)) σ') E s (false, 0, 0) 87 [] [.int w]) Kw25
        · refine R_iconst C (1) dX6_tape_82 (by decide) ?_
          refine R_goto C dX6_tape_83 ?_
          refine R_loc (lv2 := []) [] rfl ?_
          exact R_end (fun (w : Int32) (s : Sg) => V κ G (QQ κ G E (some (.int r)) σ') E s (false, 0, 0) 87 [] [.int w]) Kw25
    · refine R_tsOut (t := 88) C dX6_tape_19 (by have ah6 := lv_neT (a := 0) h6 (by decide); have ah13 := lv_neT (a := 1) h13 (by decide); have ah20 := lv_neT (a := 2) h20 (by decide); have ah24 := lv_neT (a := 3) h24 (by decide); omega) (by decide) ?_
      refine R_iconst C (-1) dX6_tape_88 (by decide) ?_
      exact R_iret C hr dX6_tape_89
  · refine R_iconst C (-1) dX6_tape_8 (by decide) ?_
    exact R_iret C hr dX6_tape_9
theorem dX6_on_0 : dk cX6_on 0 1 (.aload_n 0) 1 := by unfold dk; decide +kernel
theorem dX6_on_1 : dk cX6_on 1 2 (.iload_n 1) 1 := by unfold dk; decide +kernel
theorem dX6_on_2 : dk cX6_on 2 5 (.invokevirtual 163) 3 := by unfold dk; decide +kernel
theorem dX6_on_14 : dk cX6_on 14 15 (.iconst (-1)) 1 := by unfold dk; decide +kernel
theorem dX6_on_15 : dk cX6_on 15 16 (.ireturn) 1 := by unfold dk; decide +kernel
theorem dX6_on_8 : dk cX6_on 8 9 (.iload_n 3) 1 := by unfold dk; decide +kernel
theorem dX6_on_9 : dk cX6_on 9 11 (.bipush (-2)) 2 := by unfold dk; decide +kernel
theorem dX6_on_16 : dk cX6_on 16 17 (.aload_n 0) 1 := by unfold dk; decide +kernel
theorem dX6_on_17 : dk cX6_on 17 20 (.getfield 16) 3 := by unfold dk; decide +kernel
theorem dX6_on_20 : dk cX6_on 20 23 (.getfield 129) 3 := by unfold dk; decide +kernel
theorem dX6_on_23 : dk cX6_on 23 26 (.getfield 166) 3 := by unfold dk; decide +kernel
theorem dX6_on_26 : dk cX6_on 26 27 (.iload_n 1) 1 := by unfold dk; decide +kernel
theorem dX6_on_27 : dk cX6_on 27 28 (.aaload) 1 := by unfold dk; decide +kernel
theorem dX6_on_28 : dk cX6_on 28 29 (.iload_n 2) 1 := by unfold dk; decide +kernel
theorem dX6_on_29 : dk cX6_on 29 30 (.aload_n 0) 1 := by unfold dk; decide +kernel
theorem dX6_on_30 : dk cX6_on 30 33 (.getfield 16) 3 := by unfold dk; decide +kernel
theorem dX6_on_33 : dk cX6_on 33 36 (.getfield 129) 3 := by unfold dk; decide +kernel
theorem dX6_on_36 : dk cX6_on 36 39 (.getfield 186) 3 := by unfold dk; decide +kernel
theorem dX6_on_39 : dk cX6_on 39 42 (.invokevirtual 190) 3 := by unfold dk; decide +kernel
theorem dX6_on_42 : dk cX6_on 42 44 (.istore 4) 2 := by unfold dk; decide +kernel
theorem dX6_on_44 : dk cX6_on 44 46 (.iload 4) 2 := by unfold dk; decide +kernel
theorem dX6_on_46 : dk cX6_on 46 48 (.bipush (-2)) 2 := by unfold dk; decide +kernel
theorem dX6_on_53 : dk cX6_on 53 54 (.aload_n 0) 1 := by unfold dk; decide +kernel
theorem dX6_on_54 : dk cX6_on 54 57 (.getfield 16) 3 := by unfold dk; decide +kernel
theorem dX6_on_57 : dk cX6_on 57 60 (.getfield 129) 3 := by unfold dk; decide +kernel
theorem dX6_on_60 : dk cX6_on 60 62 (.iload 4) 2 := by unfold dk; decide +kernel
theorem dX6_on_62 : dk cX6_on 62 65 (.invokevirtual 194) 3 := by unfold dk; decide +kernel
theorem dX6_on_65 : dk cX6_on 65 67 (.istore 5) 2 := by unfold dk; decide +kernel
theorem dX6_on_67 : dk cX6_on 67 68 (.iload_n 3) 1 := by unfold dk; decide +kernel
theorem dX6_on_68 : dk cX6_on 68 70 (.bipush (-2)) 2 := by unfold dk; decide +kernel
theorem dX6_on_94 : dk cX6_on 94 95 (.iload_n 3) 1 := by unfold dk; decide +kernel
theorem dX6_on_95 : dk cX6_on 95 96 (.iconst (-1)) 1 := by unfold dk; decide +kernel
theorem dX6_on_102 : dk cX6_on 102 103 (.iload_n 3) 1 := by unfold dk; decide +kernel
theorem dX6_on_103 : dk cX6_on 103 105 (.iload 5) 2 := by unfold dk; decide +kernel
theorem dX6_on_105 : bk cX6_on 105 108 121 (.if_icmp .ge 16) (16) := by unfold bk; decide +kernel
theorem dX6_on_121 : dk cX6_on 121 123 (.bipush (-3)) 2 := by unfold dk; decide +kernel
theorem dX6_on_108 : dk cX6_on 108 109 (.aload_n 0) 1 := by unfold dk; decide +kernel
theorem dX6_on_109 : dk cX6_on 109 112 (.getfield 16) 3 := by unfold dk; decide +kernel
theorem dX6_on_112 : dk cX6_on 112 114 (.iload 4) 2 := by unfold dk; decide +kernel
theorem dX6_on_114 : dk cX6_on 114 115 (.iload_n 3) 1 := by unfold dk; decide +kernel
theorem dX6_on_115 : dk cX6_on 115 118 (.invokevirtual 200) 3 := by unfold dk; decide +kernel
theorem dX6_on_118 : bk cX6_on 118 121 123 (.goto 5) (5) := by unfold bk; decide +kernel
theorem dX6_on_123 : dk cX6_on 123 124 (.ireturn) 1 := by unfold dk; decide +kernel
theorem dX6_on_99 : dk cX6_on 99 101 (.iload 5) 2 := by unfold dk; decide +kernel
theorem dX6_on_101 : dk cX6_on 101 102 (.ireturn) 1 := by unfold dk; decide +kernel
theorem dX6_on_96 : bk cX6_on 96 99 102 (.if_icmp .ne 6) (6) := by unfold bk; decide +kernel
theorem dX6_on_73 : dk cX6_on 73 74 (.aload_n 0) 1 := by unfold dk; decide +kernel
theorem dX6_on_74 : dk cX6_on 74 77 (.getfield 16) 3 := by unfold dk; decide +kernel
theorem dX6_on_77 : dk cX6_on 77 80 (.getfield 129) 3 := by unfold dk; decide +kernel
theorem dX6_on_80 : dk cX6_on 80 82 (.iload 4) 2 := by unfold dk; decide +kernel
theorem dX6_on_82 : dk cX6_on 82 85 (.invokevirtual 197) 3 := by unfold dk; decide +kernel
theorem dX6_on_85 : bk cX6_on 85 88 92 (.ifCond .eq 7) (7) := by unfold bk; decide +kernel
theorem dX6_on_92 : dk cX6_on 92 93 (.iconst 0) 1 := by unfold dk; decide +kernel
theorem dX6_on_88 : dk cX6_on 88 89 (.iconst 1) 1 := by unfold dk; decide +kernel
theorem dX6_on_89 : bk cX6_on 89 92 93 (.goto 4) (4) := by unfold bk; decide +kernel
theorem dX6_on_93 : dk cX6_on 93 94 (.ireturn) 1 := by unfold dk; decide +kernel
theorem dX6_on_70 : bk cX6_on 70 73 94 (.if_icmp .ne 24) (24) := by unfold bk; decide +kernel
theorem dX6_on_51 : dk cX6_on 51 52 (.iconst (-1)) 1 := by unfold dk; decide +kernel
theorem dX6_on_52 : dk cX6_on 52 53 (.ireturn) 1 := by unfold dk; decide +kernel
theorem dX6_on_48 : bk cX6_on 48 51 53 (.if_icmp .ne 5) (5) := by unfold bk; decide +kernel
theorem dX6_on_11 : bk cX6_on 11 14 16 (.if_icmp .ge 5) (5) := by unfold bk; decide +kernel
theorem dX6_on_5 : bk cX6_on 5 8 14 (.ifCond .eq 9) (9) := by unfold bk; decide +kernel
set_option maxHeartbeats 4000000 in
set_option maxRecDepth 100000 in
theorem kX6_on {l : Launch} {G : Gl} {E : En} {a0 : Nat} {a1 : Int32} {a2 : Int32} {a3 : Int32} {σ σ' : Sg} {r : Int32} : fX6_on E a0 a1 a2 a3 σ = some (r, σ') → CT l yX6_on cX6_on 6 (some .int) ({ frames := 2, cells := 0, slots := 0, locals := 47 } : Room) [.ref (G.1 + a0), .int a1, .int a2, .int a3] G E σ (some (.int r)) σ' := by
  intro h
  refine CT_of (lv0 := [(0, .ref (G.1 + a0)), (1, .int a1), (2, .int a2), (3, .int a3)]) (by decide) (Nat.le_of_ble_eq_true rfl) rfl (fun κ hl hR hr C => ?_)
  have C : Cx κ G cX6_on RX6 6 := C
  revert h
  unfold fX6_on
  refine R_tk (fun ha0 => ?_)
  refine R_aload_n C 0 rfl dX6_on_0 ?_
  refine R_iload_n C 1 rfl dX6_on_1 ?_
  refine R_bd (fun r3 s1 q2 => ?_)
  refine R_callVi [.int a1] [] C ml6_163 (kX6_isTape q2) (by rw [hR]; exact ⟨rfl, rfl, Nat.le_of_ble_eq_true rfl, Nat.le_of_ble_eq_true rfl, Nat.zero_le _, Nat.zero_le _⟩) ha0 rfl rfl (Nat.le_of_ble_eq_true rfl) dX6_on_2 ?_
  refine B_if_eq C dX6_on_5 ?_ ?_
  · refine R_iconst C (-1) dX6_on_14 (by decide) ?_
    exact R_iret C hr dX6_on_15
  · refine R_iload_n C 3 rfl dX6_on_8 ?_
    refine R_bipush C (-2) dX6_on_9 (by decide) ?_
    refine B_icmp_ge C dX6_on_11 ?_ ?_
    · refine R_aload_n C 0 rfl dX6_on_16 ?_
      refine R_dr (fun x4 rx4 cx4 => ?_)
      refine R_getr C fl6_16 rfl ha0 rx4 dX6_on_17 ?_
      refine R_dr (fun x5 rx5 cx5 => ?_)
      refine R_getr C fl6_129 rfl cx4 rx5 dX6_on_20 ?_
      refine R_dr (fun x6 rx6 cx6 => ?_)
      refine R_getr C fl6_166 rfl cx5 rx6 dX6_on_23 ?_
      refine R_iload_n C 1 rfl dX6_on_26 ?_
      refine R_ck (fun h7 => ?_)
      refine R_dr (fun x8 rx8 cx8 => ?_)
      refine R_aald4 C cx6 h7 rx8 dX6_on_27 ?_
      refine R_iload_n C 2 rfl dX6_on_28 ?_
      refine R_aload_n C 0 rfl dX6_on_29 ?_
      refine R_getr C fl6_16 rfl ha0 rx4 dX6_on_30 ?_
      refine R_getr C fl6_129 rfl cx4 rx5 dX6_on_33 ?_
      refine R_geti C fl6_186 rfl cx5 dX6_on_36 ?_
      refine R_bd (fun r11 s9 q10 => ?_)
      refine R_callVi [.int a2, .int (gi s1 x5 3)] [] C ml6_190 (kX5_at q10) (by rw [hR]; exact ⟨rfl, rfl, Nat.le_of_ble_eq_true rfl, Nat.le_of_ble_eq_true rfl, Nat.zero_le _, Nat.zero_le _⟩) cx8 rfl rfl (Nat.le_of_ble_eq_true rfl) dX6_on_39 ?_
      refine R_istore (lv2 := [(4, .int r11), (0, .ref (G.1 + a0)), (1, .int a1), (2, .int a2), (3, .int a3)]) C dX6_on_42 (by decide) rfl ?_
      refine R_iload C 0 rfl dX6_on_44 ?_
      refine R_bipush C (-2) dX6_on_46 (by decide) ?_
      refine B_icmp_ne C dX6_on_48 ?_ ?_
      · refine R_aload_n C 1 rfl dX6_on_53 ?_
        refine R_getr C fl6_16 rfl ha0 rx4 dX6_on_54 ?_
        refine R_getr C fl6_129 rfl cx4 rx5 dX6_on_57 ?_
        refine R_iload C 0 rfl dX6_on_60 ?_
        refine R_bd (fun r14 s12 q13 => ?_)
        refine R_callVi [.int r11] [] C ml6_194 (kX1_sizeOf q13) (by rw [hR]; exact ⟨rfl, rfl, Nat.le_of_ble_eq_true rfl, Nat.le_of_ble_eq_true rfl, Nat.zero_le _, Nat.zero_le _⟩) cx5 rfl rfl (Nat.le_of_ble_eq_true rfl) dX6_on_62 ?_
        refine R_istore (lv2 := [(5, .int r14), (4, .int r11), (0, .ref (G.1 + a0)), (1, .int a1), (2, .int a2), (3, .int a3)]) C dX6_on_65 (by decide) rfl ?_
        refine R_iload_n C 5 rfl dX6_on_67 ?_
        refine R_bipush C (-2) dX6_on_68 (by decide) ?_
        refine B_icmp_ne C dX6_on_70 ?_ ?_
        · refine R_iload_n C 5 rfl dX6_on_94 ?_
          refine R_iconst C (-1) dX6_on_95 (by decide) ?_
          refine B_icmp_ne C dX6_on_96 ?_ ?_
          · refine R_iload_n C 5 rfl dX6_on_102 ?_
            refine R_iload C 0 rfl dX6_on_103 ?_
            refine R_bdK (fun (w : Int32) (s : Sg) => V κ G (QQ κ G E (some (.int r)) σ') E s (false, 0, 0) 123 [] [.int w]) (fun w15 s16 => ?_) (fun w15 s16 Kw15 => ?_)
            · exact R_iret C hr dX6_on_123
            · refine B_icmp_ge C dX6_on_105 ?_ ?_
              · refine R_bipush C (-3) dX6_on_121 (by decide) ?_
                refine R_loc (lv2 := []) [] rfl ?_
                exact R_end (fun (w : Int32) (s : Sg) => V κ G (QQ κ G E (some (.int r)) σ') E s (false, 0, 0) 123 [] [.int w]) Kw15
              · refine R_aload_n C 2 rfl dX6_on_108 ?_
                refine R_getr C fl6_16 rfl ha0 rx4 dX6_on_109 ?_
                refine R_iload C 1 rfl dX6_on_112 ?_
                refine R_iload_n C 5 rfl dX6_on_114 ?_
                refine R_bd (fun r19 s17 q18 => ?_)
                refine R_callVi [.int r11, .int a3] [] C ml6_200 (kX4_tapeRecord q18) (by rw [hR]; exact ⟨rfl, rfl, Nat.le_of_ble_eq_true rfl, Nat.le_of_ble_eq_true rfl, Nat.zero_le _, Nat.zero_le _⟩) cx4 rfl rfl (Nat.le_of_ble_eq_true rfl) dX6_on_115 ?_
                refine R_goto C dX6_on_118 ?_
                refine R_loc (lv2 := []) [] rfl ?_
                exact R_end (fun (w : Int32) (s : Sg) => V κ G (QQ κ G E (some (.int r)) σ') E s (false, 0, 0) 123 [] [.int w]) Kw15
          · refine R_iload C 0 rfl dX6_on_99 ?_
            exact R_iret C hr dX6_on_101
        · refine R_aload_n C 2 rfl dX6_on_73 ?_
          refine R_getr C fl6_16 rfl ha0 rx4 dX6_on_74 ?_
          refine R_getr C fl6_129 rfl cx4 rx5 dX6_on_77 ?_
          refine R_iload C 1 rfl dX6_on_80 ?_
          refine R_bd (fun r22 s20 q21 => ?_)
          refine R_callVi [.int r11] [] C ml6_197 (kX1_isDown q21) (by rw [hR]; exact ⟨rfl, rfl, Nat.le_of_ble_eq_true rfl, Nat.le_of_ble_eq_true rfl, Nat.zero_le _, Nat.zero_le _⟩) cx5 rfl rfl (Nat.le_of_ble_eq_true rfl) dX6_on_82 ?_
          refine R_bdK (fun (w : Int32) (s : Sg) => V κ G (QQ κ G E (some (.int r)) σ') E s (false, 0, 0) 93 [] [.int w]) (fun w23 s24 => ?_) (fun w23 s24 Kw23 => ?_)
          · exact R_iret C hr dX6_on_93
          · refine B_if_eq C dX6_on_85 ?_ ?_
            · refine R_iconst C (0) dX6_on_92 (by decide) ?_
              refine R_loc (lv2 := []) [] rfl ?_
              exact R_end (fun (w : Int32) (s : Sg) => V κ G (QQ κ G E (some (.int r)) σ') E s (false, 0, 0) 93 [] [.int w]) Kw23
            · refine R_iconst C (1) dX6_on_88 (by decide) ?_
              refine R_goto C dX6_on_89 ?_
              refine R_loc (lv2 := []) [] rfl ?_
              exact R_end (fun (w : Int32) (s : Sg) => V κ G (QQ κ G E (some (.int r)) σ') E s (false, 0, 0) 93 [] [.int w]) Kw23
      · refine R_iconst C (-1) dX6_on_51 (by decide) ?_
        exact R_iret C hr dX6_on_52
    · refine R_iconst C (-1) dX6_on_14 (by decide) ?_
      exact R_iret C hr dX6_on_15
theorem dX6_sorted_0 : dk cX6_sorted 0 1 (.iload_n 1) 1 := by unfold dk; decide +kernel
theorem dX6_sorted_18 : dk cX6_sorted 18 19 (.iconst (-1)) 1 := by unfold dk; decide +kernel
theorem dX6_sorted_19 : dk cX6_sorted 19 20 (.ireturn) 1 := by unfold dk; decide +kernel
theorem dX6_sorted_4 : dk cX6_sorted 4 5 (.iload_n 1) 1 := by unfold dk; decide +kernel
theorem dX6_sorted_5 : dk cX6_sorted 5 6 (.aload_n 0) 1 := by unfold dk; decide +kernel
theorem dX6_sorted_6 : dk cX6_sorted 6 9 (.getfield 16) 3 := by unfold dk; decide +kernel
theorem dX6_sorted_9 : dk cX6_sorted 9 12 (.getfield 64) 3 := by unfold dk; decide +kernel
theorem dX6_sorted_12 : dk cX6_sorted 12 15 (.getfield 68) 3 := by unfold dk; decide +kernel
theorem dX6_sorted_20 : dk cX6_sorted 20 21 (.aload_n 0) 1 := by unfold dk; decide +kernel
theorem dX6_sorted_21 : dk cX6_sorted 21 24 (.getfield 16) 3 := by unfold dk; decide +kernel
theorem dX6_sorted_24 : dk cX6_sorted 24 27 (.getfield 79) 3 := by unfold dk; decide +kernel
theorem dX6_sorted_27 : dk cX6_sorted 27 28 (.iconst 3) 1 := by unfold dk; decide +kernel
theorem dX6_sorted_28 : bk cX6_sorted 28 31 46 (.if_icmp .ne 18) (18) := by unfold bk; decide +kernel
theorem dX6_sorted_46 : dk cX6_sorted 46 48 (.bipush (-2)) 2 := by unfold dk; decide +kernel
theorem dX6_sorted_31 : dk cX6_sorted 31 32 (.aload_n 0) 1 := by unfold dk; decide +kernel
theorem dX6_sorted_32 : dk cX6_sorted 32 35 (.getfield 16) 3 := by unfold dk; decide +kernel
theorem dX6_sorted_35 : dk cX6_sorted 35 38 (.getfield 64) 3 := by unfold dk; decide +kernel
theorem dX6_sorted_38 : dk cX6_sorted 38 41 (.getfield 203) 3 := by unfold dk; decide +kernel
theorem dX6_sorted_41 : dk cX6_sorted 41 42 (.iload_n 1) 1 := by unfold dk; decide +kernel
theorem dX6_sorted_42 : dk cX6_sorted 42 43 (.iaload) 1 := by unfold dk; decide +kernel
theorem dX6_sorted_43 : bk cX6_sorted 43 46 48 (.goto 5) (5) := by unfold bk; decide +kernel
theorem dX6_sorted_48 : dk cX6_sorted 48 49 (.ireturn) 1 := by unfold dk; decide +kernel
theorem dX6_sorted_15 : bk cX6_sorted 15 18 20 (.if_icmp .lt 5) (5) := by unfold bk; decide +kernel
theorem dX6_sorted_1 : bk cX6_sorted 1 4 18 (.ifCond .lt 17) (17) := by unfold bk; decide +kernel
set_option maxHeartbeats 4000000 in
set_option maxRecDepth 100000 in
theorem kX6_sorted {l : Launch} {G : Gl} {E : En} {a0 : Nat} {a1 : Int32} {σ σ' : Sg} {r : Int32} : fX6_sorted E a0 a1 σ = some (r, σ') → CT l yX6_sorted cX6_sorted 2 (some .int) ({ frames := 0, cells := 0, slots := 0, locals := 0 } : Room) [.ref (G.1 + a0), .int a1] G E σ (some (.int r)) σ' := by
  intro h
  refine CT_of (lv0 := [(0, .ref (G.1 + a0)), (1, .int a1)]) (by decide) (Nat.le_of_ble_eq_true rfl) rfl (fun κ hl hR hr C => ?_)
  have C : Cx κ G cX6_sorted RX6 2 := C
  revert h
  unfold fX6_sorted
  refine R_tk (fun ha0 => ?_)
  refine R_iload_n C 1 rfl dX6_sorted_0 ?_
  refine B_if_lt C dX6_sorted_1 ?_ ?_
  · refine R_iconst C (-1) dX6_sorted_18 (by decide) ?_
    exact R_iret C hr dX6_sorted_19
  · refine R_iload_n C 1 rfl dX6_sorted_4 ?_
    refine R_aload_n C 0 rfl dX6_sorted_5 ?_
    refine R_dr (fun x1 rx1 cx1 => ?_)
    refine R_getr C fl6_16 rfl ha0 rx1 dX6_sorted_6 ?_
    refine R_dr (fun x2 rx2 cx2 => ?_)
    refine R_getr C fl6_64 rfl cx1 rx2 dX6_sorted_9 ?_
    refine R_geti C fl6_68 rfl cx2 dX6_sorted_12 ?_
    refine B_icmp_lt C dX6_sorted_15 ?_ ?_
    · refine R_aload_n C 0 rfl dX6_sorted_20 ?_
      refine R_getr C fl6_16 rfl ha0 rx1 dX6_sorted_21 ?_
      refine R_geti C fl6_79 rfl cx1 dX6_sorted_24 ?_
      refine R_iconst C (3) dX6_sorted_27 (by decide) ?_
      refine R_bdK (fun (w : Int32) (s : Sg) => V κ G (QQ κ G E (some (.int r)) σ') E s (false, 0, 0) 48 [] [.int w]) (fun w3 s4 => ?_) (fun w3 s4 Kw3 => ?_)
      · exact R_iret C hr dX6_sorted_48
      · refine B_icmp_ne C dX6_sorted_28 ?_ ?_
        · refine R_bipush C (-2) dX6_sorted_46 (by decide) ?_
          refine R_loc (lv2 := []) [] rfl ?_
          exact R_end (fun (w : Int32) (s : Sg) => V κ G (QQ κ G E (some (.int r)) σ') E s (false, 0, 0) 48 [] [.int w]) Kw3
        · refine R_aload_n C 0 rfl dX6_sorted_31 ?_
          refine R_getr C fl6_16 rfl ha0 rx1 dX6_sorted_32 ?_
          refine R_getr C fl6_64 rfl cx1 rx2 dX6_sorted_35 ?_
          refine R_dr (fun x5 rx5 cx5 => ?_)
          refine R_getr C fl6_203 rfl cx2 rx5 dX6_sorted_38 ?_
          refine R_iload_n C 1 rfl dX6_sorted_41 ?_
          refine R_ck (fun h6 => ?_)
          refine R_iald C cx5 h6 dX6_sorted_42 ?_
          refine R_goto C dX6_sorted_43 ?_
          refine R_loc (lv2 := []) [] rfl ?_
          exact R_end (fun (w : Int32) (s : Sg) => V κ G (QQ κ G E (some (.int r)) σ') E s (false, 0, 0) 48 [] [.int w]) Kw3
    · refine R_iconst C (-1) dX6_sorted_18 (by decide) ?_
      exact R_iret C hr dX6_sorted_19
theorem dX6_perfect_0 : dk cX6_perfect 0 1 (.aload_n 0) 1 := by unfold dk; decide +kernel
theorem dX6_perfect_1 : dk cX6_perfect 1 4 (.getfield 16) 3 := by unfold dk; decide +kernel
theorem dX6_perfect_4 : dk cX6_perfect 4 7 (.getfield 103) 3 := by unfold dk; decide +kernel
theorem dX6_perfect_7 : dk cX6_perfect 7 8 (.iconst 1) 1 := by unfold dk; decide +kernel
theorem dX6_perfect_8 : dk cX6_perfect 8 9 (.iaload) 1 := by unfold dk; decide +kernel
theorem dX6_perfect_9 : dk cX6_perfect 9 10 (.istore_n 3) 1 := by unfold dk; decide +kernel
theorem dX6_perfect_10 : dk cX6_perfect 10 11 (.iload_n 1) 1 := by unfold dk; decide +kernel
theorem dX6_perfect_45 : dk cX6_perfect 45 46 (.iconst (-1)) 1 := by unfold dk; decide +kernel
theorem dX6_perfect_46 : dk cX6_perfect 46 47 (.ireturn) 1 := by unfold dk; decide +kernel
theorem dX6_perfect_14 : dk cX6_perfect 14 15 (.iload_n 1) 1 := by unfold dk; decide +kernel
theorem dX6_perfect_15 : dk cX6_perfect 15 17 (.bipush 8) 2 := by unfold dk; decide +kernel
theorem dX6_perfect_20 : dk cX6_perfect 20 21 (.iload_n 2) 1 := by unfold dk; decide +kernel
theorem dX6_perfect_21 : dk cX6_perfect 21 22 (.iconst (-1)) 1 := by unfold dk; decide +kernel
theorem dX6_perfect_25 : dk cX6_perfect 25 26 (.iload_n 2) 1 := by unfold dk; decide +kernel
theorem dX6_perfect_26 : dk cX6_perfect 26 27 (.iload_n 3) 1 := by unfold dk; decide +kernel
theorem dX6_perfect_27 : dk cX6_perfect 27 28 (.iconst 1) 1 := by unfold dk; decide +kernel
theorem dX6_perfect_28 : dk cX6_perfect 28 29 (.isub) 1 := by unfold dk; decide +kernel
theorem dX6_perfect_32 : dk cX6_perfect 32 33 (.aload_n 0) 1 := by unfold dk; decide +kernel
theorem dX6_perfect_33 : dk cX6_perfect 33 36 (.getfield 16) 3 := by unfold dk; decide +kernel
theorem dX6_perfect_36 : dk cX6_perfect 36 39 (.getfield 103) 3 := by unfold dk; decide +kernel
theorem dX6_perfect_39 : dk cX6_perfect 39 40 (.iconst 2) 1 := by unfold dk; decide +kernel
theorem dX6_perfect_40 : dk cX6_perfect 40 41 (.iaload) 1 := by unfold dk; decide +kernel
theorem dX6_perfect_41 : dk cX6_perfect 41 42 (.iconst 1) 1 := by unfold dk; decide +kernel
theorem dX6_perfect_47 : dk cX6_perfect 47 48 (.aload_n 0) 1 := by unfold dk; decide +kernel
theorem dX6_perfect_48 : dk cX6_perfect 48 51 (.getfield 46) 3 := by unfold dk; decide +kernel
theorem dX6_perfect_51 : dk cX6_perfect 51 52 (.iload_n 1) 1 := by unfold dk; decide +kernel
theorem dX6_perfect_52 : dk cX6_perfect 52 53 (.aload_n 0) 1 := by unfold dk; decide +kernel
theorem dX6_perfect_53 : dk cX6_perfect 53 56 (.getfield 16) 3 := by unfold dk; decide +kernel
theorem dX6_perfect_56 : dk cX6_perfect 56 59 (.getfield 103) 3 := by unfold dk; decide +kernel
theorem dX6_perfect_59 : dk cX6_perfect 59 60 (.iconst 2) 1 := by unfold dk; decide +kernel
theorem dX6_perfect_60 : dk cX6_perfect 60 61 (.iaload) 1 := by unfold dk; decide +kernel
theorem dX6_perfect_61 : dk cX6_perfect 61 62 (.iload_n 3) 1 := by unfold dk; decide +kernel
theorem dX6_perfect_62 : dk cX6_perfect 62 63 (.iconst 1) 1 := by unfold dk; decide +kernel
theorem dX6_perfect_63 : dk cX6_perfect 63 64 (.isub) 1 := by unfold dk; decide +kernel
theorem dX6_perfect_64 : dk cX6_perfect 64 67 (.invokevirtual 206) 3 := by unfold dk; decide +kernel
theorem dX6_perfect_67 : dk cX6_perfect 67 68 (.iload_n 2) 1 := by unfold dk; decide +kernel
theorem dX6_perfect_68 : dk cX6_perfect 68 69 (.iconst (-1)) 1 := by unfold dk; decide +kernel
theorem dX6_perfect_69 : bk cX6_perfect 69 72 82 (.if_icmp .ne 13) (13) := by unfold bk; decide +kernel
theorem dX6_perfect_82 : dk cX6_perfect 82 83 (.aload_n 0) 1 := by unfold dk; decide +kernel
theorem dX6_perfect_83 : dk cX6_perfect 83 86 (.getfield 46) 3 := by unfold dk; decide +kernel
theorem dX6_perfect_86 : dk cX6_perfect 86 89 (.getfield 213) 3 := by unfold dk; decide +kernel
theorem dX6_perfect_89 : dk cX6_perfect 89 90 (.iload_n 2) 1 := by unfold dk; decide +kernel
theorem dX6_perfect_90 : dk cX6_perfect 90 91 (.iaload) 1 := by unfold dk; decide +kernel
theorem dX6_perfect_72 : dk cX6_perfect 72 73 (.aload_n 0) 1 := by unfold dk; decide +kernel
theorem dX6_perfect_73 : dk cX6_perfect 73 76 (.getfield 46) 3 := by unfold dk; decide +kernel
theorem dX6_perfect_76 : dk cX6_perfect 76 79 (.invokevirtual 210) 3 := by unfold dk; decide +kernel
theorem dX6_perfect_79 : bk cX6_perfect 79 82 91 (.goto 12) (12) := by unfold bk; decide +kernel
theorem dX6_perfect_91 : dk cX6_perfect 91 92 (.ireturn) 1 := by unfold dk; decide +kernel
theorem dX6_perfect_42 : bk cX6_perfect 42 45 47 (.if_icmp .ne 5) (5) := by unfold bk; decide +kernel
theorem dX6_perfect_29 : bk cX6_perfect 29 32 45 (.if_icmp .ge 16) (16) := by unfold bk; decide +kernel
theorem dX6_perfect_22 : bk cX6_perfect 22 25 45 (.if_icmp .lt 23) (23) := by unfold bk; decide +kernel
theorem dX6_perfect_17 : bk cX6_perfect 17 20 45 (.if_icmp .gt 28) (28) := by unfold bk; decide +kernel
theorem dX6_perfect_11 : bk cX6_perfect 11 14 45 (.ifCond .lt 34) (34) := by unfold bk; decide +kernel
set_option maxHeartbeats 4000000 in
set_option maxRecDepth 100000 in
theorem kX6_perfect {l : Launch} {G : Gl} {E : En} {a0 : Nat} {a1 : Int32} {a2 : Int32} {σ σ' : Sg} {r : Int32} : fX6_perfect E a0 a1 a2 σ = some (r, σ') → CT l yX6_perfect cX6_perfect 4 (some .int) ({ frames := 3, cells := 0, slots := 0, locals := 69 } : Room) [.ref (G.1 + a0), .int a1, .int a2] G E σ (some (.int r)) σ' := by
  intro h
  refine CT_of (lv0 := [(0, .ref (G.1 + a0)), (1, .int a1), (2, .int a2)]) (by decide) (Nat.le_of_ble_eq_true rfl) rfl (fun κ hl hR hr C => ?_)
  have C : Cx κ G cX6_perfect RX6 4 := C
  revert h
  unfold fX6_perfect
  refine R_tk (fun ha0 => ?_)
  refine R_aload_n C 0 rfl dX6_perfect_0 ?_
  refine R_dr (fun x1 rx1 cx1 => ?_)
  refine R_getr C fl6_16 rfl ha0 rx1 dX6_perfect_1 ?_
  refine R_dr (fun x2 rx2 cx2 => ?_)
  refine R_getr C fl6_103 rfl cx1 rx2 dX6_perfect_4 ?_
  refine R_iconst C (1) dX6_perfect_7 (by decide) ?_
  refine R_ck (fun h3 => ?_)
  refine R_iald C cx2 h3 dX6_perfect_8 ?_
  refine S_istore_n C dX6_perfect_9 rfl (fun v4 => [(3, .int v4), (0, .ref (G.1 + a0)), (1, .int a1), (2, .int a2)]) (by decide) (fun _ => rfl) (fun v4 => ?_)
  refine R_iload_n C 2 rfl dX6_perfect_10 ?_
  refine B_if_lt C dX6_perfect_11 ?_ ?_
  · refine R_iconst C (-1) dX6_perfect_45 (by decide) ?_
    exact R_iret C hr dX6_perfect_46
  · refine R_iload_n C 2 rfl dX6_perfect_14 ?_
    refine R_bipush C (8) dX6_perfect_15 (by decide) ?_
    refine B_icmp_gt C dX6_perfect_17 ?_ ?_
    · refine R_iconst C (-1) dX6_perfect_45 (by decide) ?_
      exact R_iret C hr dX6_perfect_46
    · refine R_iload_n C 3 rfl dX6_perfect_20 ?_
      refine R_iconst C (-1) dX6_perfect_21 (by decide) ?_
      refine B_icmp_lt C dX6_perfect_22 ?_ ?_
      · refine R_iconst C (-1) dX6_perfect_45 (by decide) ?_
        exact R_iret C hr dX6_perfect_46
      · refine R_iload_n C 3 rfl dX6_perfect_25 ?_
        refine R_iload_n C 0 rfl dX6_perfect_26 ?_
        refine R_iconst C (1) dX6_perfect_27 (by decide) ?_
        refine R_isub C dX6_perfect_28 ?_
        refine B_icmp_ge C dX6_perfect_29 ?_ ?_
        · refine R_iconst C (-1) dX6_perfect_45 (by decide) ?_
          exact R_iret C hr dX6_perfect_46
        · refine R_aload_n C 1 rfl dX6_perfect_32 ?_
          refine R_getr C fl6_16 rfl ha0 rx1 dX6_perfect_33 ?_
          refine R_getr C fl6_103 rfl cx1 rx2 dX6_perfect_36 ?_
          refine R_iconst C (2) dX6_perfect_39 (by decide) ?_
          refine R_ck (fun h5 => ?_)
          refine R_iald C cx2 h5 dX6_perfect_40 ?_
          refine R_iconst C (1) dX6_perfect_41 (by decide) ?_
          refine B_icmp_ne C dX6_perfect_42 ?_ ?_
          · refine R_aload_n C 1 rfl dX6_perfect_47 ?_
            refine R_dr (fun x6 rx6 cx6 => ?_)
            refine R_getr C fl6_46 rfl ha0 rx6 dX6_perfect_48 ?_
            refine R_iload_n C 2 rfl dX6_perfect_51 ?_
            refine R_aload_n C 1 rfl dX6_perfect_52 ?_
            refine R_getr C fl6_16 rfl ha0 rx1 dX6_perfect_53 ?_
            refine R_getr C fl6_103 rfl cx1 rx2 dX6_perfect_56 ?_
            refine R_iconst C (2) dX6_perfect_59 (by decide) ?_
            refine R_ck (fun h7 => ?_)
            refine R_iald C cx2 h7 dX6_perfect_60 ?_
            refine R_iload_n C 0 rfl dX6_perfect_61 ?_
            refine R_iconst C (1) dX6_perfect_62 (by decide) ?_
            refine R_isub C dX6_perfect_63 ?_
            refine R_bv (fun s8 q9 => ?_)
            refine R_callVv [.int a1, .int (gi σ x2 (2 : Int32).toNatClampNeg), .int (v4 - (1 : Int32))] [] C ml6_206 (kX2_climbTo q9) (by rw [hR]; exact ⟨rfl, rfl, Nat.le_of_ble_eq_true rfl, Nat.le_of_ble_eq_true rfl, Nat.zero_le _, Nat.zero_le _⟩) cx6 rfl rfl (Nat.le_of_ble_eq_true rfl) dX6_perfect_64 ?_
            refine R_iload_n C 3 rfl dX6_perfect_67 ?_
            refine R_iconst C (-1) dX6_perfect_68 (by decide) ?_
            refine R_bdK (fun (w : Int32) (s : Sg) => V κ G (QQ κ G E (some (.int r)) σ') E s (false, 0, 0) 91 [] [.int w]) (fun w10 s11 => ?_) (fun w10 s11 Kw10 => ?_)
            · exact R_iret C hr dX6_perfect_91
            · refine B_icmp_ne C dX6_perfect_69 ?_ ?_
              · refine R_aload_n C 1 rfl dX6_perfect_82 ?_
                refine R_getr C fl6_46 rfl ha0 rx6 dX6_perfect_83 ?_
                refine R_dr (fun x12 rx12 cx12 => ?_)
                refine R_getr C fl6_213 rfl cx6 rx12 dX6_perfect_86 ?_
                refine R_iload_n C 3 rfl dX6_perfect_89 ?_
                refine R_ck (fun h13 => ?_)
                refine R_iald C cx12 h13 dX6_perfect_90 ?_
                refine R_loc (lv2 := []) [] rfl ?_
                exact R_end (fun (w : Int32) (s : Sg) => V κ G (QQ κ G E (some (.int r)) σ') E s (false, 0, 0) 91 [] [.int w]) Kw10
              · refine R_aload_n C 1 rfl dX6_perfect_72 ?_
                refine R_getr C fl6_46 rfl ha0 rx6 dX6_perfect_73 ?_
                refine R_bd (fun r16 s14 q15 => ?_)
                refine R_callVi [] [] C ml6_210 (kX2_together q15) (by rw [hR]; exact ⟨rfl, rfl, Nat.le_of_ble_eq_true rfl, Nat.le_of_ble_eq_true rfl, Nat.zero_le _, Nat.zero_le _⟩) cx6 rfl rfl (Nat.le_of_ble_eq_true rfl) dX6_perfect_76 ?_
                refine R_goto C dX6_perfect_79 ?_
                refine R_loc (lv2 := []) [] rfl ?_
                exact R_end (fun (w : Int32) (s : Sg) => V κ G (QQ κ G E (some (.int r)) σ') E s (false, 0, 0) 91 [] [.int w]) Kw10
          · refine R_iconst C (-1) dX6_perfect_45 (by decide) ?_
            exact R_iret C hr dX6_perfect_46
theorem dX6_beginPlan_0 : dk cX6_beginPlan 0 1 (.aload_n 0) 1 := by unfold dk; decide +kernel
theorem dX6_beginPlan_1 : dk cX6_beginPlan 1 4 (.getfield 39) 3 := by unfold dk; decide +kernel
theorem dX6_beginPlan_4 : dk cX6_beginPlan 4 5 (.aload_n 0) 1 := by unfold dk; decide +kernel
theorem dX6_beginPlan_5 : dk cX6_beginPlan 5 8 (.getfield 16) 3 := by unfold dk; decide +kernel
theorem dX6_beginPlan_8 : dk cX6_beginPlan 8 11 (.getfield 103) 3 := by unfold dk; decide +kernel
theorem dX6_beginPlan_11 : dk cX6_beginPlan 11 12 (.iconst 2) 1 := by unfold dk; decide +kernel
theorem dX6_beginPlan_12 : dk cX6_beginPlan 12 13 (.iaload) 1 := by unfold dk; decide +kernel
theorem dX6_beginPlan_13 : dk cX6_beginPlan 13 14 (.aload_n 0) 1 := by unfold dk; decide +kernel
theorem dX6_beginPlan_14 : dk cX6_beginPlan 14 17 (.getfield 16) 3 := by unfold dk; decide +kernel
theorem dX6_beginPlan_17 : dk cX6_beginPlan 17 20 (.getfield 103) 3 := by unfold dk; decide +kernel
theorem dX6_beginPlan_20 : dk cX6_beginPlan 20 21 (.iconst 1) 1 := by unfold dk; decide +kernel
theorem dX6_beginPlan_21 : dk cX6_beginPlan 21 22 (.iaload) 1 := by unfold dk; decide +kernel
theorem dX6_beginPlan_22 : dk cX6_beginPlan 22 23 (.aload_n 0) 1 := by unfold dk; decide +kernel
theorem dX6_beginPlan_23 : dk cX6_beginPlan 23 26 (.getfield 16) 3 := by unfold dk; decide +kernel
theorem dX6_beginPlan_26 : dk cX6_beginPlan 26 29 (.getfield 103) 3 := by unfold dk; decide +kernel
theorem dX6_beginPlan_29 : dk cX6_beginPlan 29 30 (.iconst 4) 1 := by unfold dk; decide +kernel
theorem dX6_beginPlan_30 : dk cX6_beginPlan 30 31 (.iaload) 1 := by unfold dk; decide +kernel
theorem dX6_beginPlan_31 : dk cX6_beginPlan 31 32 (.iconst 1) 1 := by unfold dk; decide +kernel
theorem dX6_beginPlan_32 : bk cX6_beginPlan 32 35 39 (.if_icmp .ne 7) (7) := by unfold bk; decide +kernel
theorem dX6_beginPlan_39 : dk cX6_beginPlan 39 40 (.iconst 0) 1 := by unfold dk; decide +kernel
theorem dX6_beginPlan_35 : dk cX6_beginPlan 35 36 (.iconst 1) 1 := by unfold dk; decide +kernel
theorem dX6_beginPlan_36 : bk cX6_beginPlan 36 39 40 (.goto 4) (4) := by unfold bk; decide +kernel
theorem dX6_beginPlan_40 : dk cX6_beginPlan 40 43 (.invokevirtual 224) 3 := by unfold dk; decide +kernel
theorem dX6_beginPlan_43 : dk cX6_beginPlan 43 44 (.aload_n 0) 1 := by unfold dk; decide +kernel
theorem dX6_beginPlan_44 : dk cX6_beginPlan 44 47 (.getfield 16) 3 := by unfold dk; decide +kernel
theorem dX6_beginPlan_47 : dk cX6_beginPlan 47 48 (.aload_n 0) 1 := by unfold dk; decide +kernel
theorem dX6_beginPlan_48 : dk cX6_beginPlan 48 51 (.getfield 39) 3 := by unfold dk; decide +kernel
theorem dX6_beginPlan_51 : dk cX6_beginPlan 51 54 (.invokevirtual 228) 3 := by unfold dk; decide +kernel
theorem dX6_beginPlan_54 : dk cX6_beginPlan 54 55 (.return_) 1 := by unfold dk; decide +kernel
set_option maxHeartbeats 4000000 in
set_option maxRecDepth 100000 in
theorem kX6_beginPlan {l : Launch} {G : Gl} {E : En} {a0 : Nat} {σ σ' : Sg} : fX6_beginPlan E a0 σ = some σ' → CT l yX6_beginPlan cX6_beginPlan 1 none ({ frames := 5, cells := 0, slots := 0, locals := 112 } : Room) [.ref (G.1 + a0)] G E σ none σ' := by
  intro h
  refine CT_of (lv0 := [(0, .ref (G.1 + a0))]) (by decide) (Nat.le_of_ble_eq_true rfl) rfl (fun κ hl hR hr C => ?_)
  have C : Cx κ G cX6_beginPlan RX6 1 := C
  revert h
  unfold fX6_beginPlan
  refine R_tk (fun ha0 => ?_)
  refine R_aload_n C 0 rfl dX6_beginPlan_0 ?_
  refine R_dr (fun x1 rx1 cx1 => ?_)
  refine R_getr C fl6_39 rfl ha0 rx1 dX6_beginPlan_1 ?_
  refine R_aload_n C 0 rfl dX6_beginPlan_4 ?_
  refine R_dr (fun x2 rx2 cx2 => ?_)
  refine R_getr C fl6_16 rfl ha0 rx2 dX6_beginPlan_5 ?_
  refine R_dr (fun x3 rx3 cx3 => ?_)
  refine R_getr C fl6_103 rfl cx2 rx3 dX6_beginPlan_8 ?_
  refine R_iconst C (2) dX6_beginPlan_11 (by decide) ?_
  refine R_ck (fun h4 => ?_)
  refine R_iald C cx3 h4 dX6_beginPlan_12 ?_
  refine R_aload_n C 0 rfl dX6_beginPlan_13 ?_
  refine R_getr C fl6_16 rfl ha0 rx2 dX6_beginPlan_14 ?_
  refine R_getr C fl6_103 rfl cx2 rx3 dX6_beginPlan_17 ?_
  refine R_iconst C (1) dX6_beginPlan_20 (by decide) ?_
  refine R_ck (fun h5 => ?_)
  refine R_iald C cx3 h5 dX6_beginPlan_21 ?_
  refine R_aload_n C 0 rfl dX6_beginPlan_22 ?_
  refine R_getr C fl6_16 rfl ha0 rx2 dX6_beginPlan_23 ?_
  refine R_getr C fl6_103 rfl cx2 rx3 dX6_beginPlan_26 ?_
  refine R_iconst C (4) dX6_beginPlan_29 (by decide) ?_
  refine R_ck (fun h6 => ?_)
  refine R_iald C cx3 h6 dX6_beginPlan_30 ?_
  refine R_iconst C (1) dX6_beginPlan_31 (by decide) ?_
  refine R_bdK (fun (w : Int32) (s : Sg) => V κ G (QQ κ G E none σ') E s (false, 0, 0) 40 [(0, .ref (G.1 + a0))] [.int w, .int (gi σ x3 (1 : Int32).toNatClampNeg), .int (gi σ x3 (2 : Int32).toNatClampNeg), .ref (G.1 + x1)]) (fun w7 s8 => ?_) (fun w7 s8 Kw7 => ?_)
  · refine R_bv (fun s9 q10 => ?_)
    refine R_callVv [.int (gi σ x3 (2 : Int32).toNatClampNeg), .int (gi σ x3 (1 : Int32).toNatClampNeg), .int w7] [] C ml6_224 (kX1_begin q10) (by rw [hR]; exact ⟨rfl, rfl, Nat.le_of_ble_eq_true rfl, Nat.le_of_ble_eq_true rfl, Nat.zero_le _, Nat.zero_le _⟩) cx1 rfl rfl (Nat.le_of_ble_eq_true rfl) dX6_beginPlan_40 ?_
    refine R_aload_n C 0 rfl dX6_beginPlan_43 ?_
    refine R_getr C fl6_16 rfl ha0 rx2 dX6_beginPlan_44 ?_
    refine R_aload_n C 0 rfl dX6_beginPlan_47 ?_
    refine R_getr C fl6_39 rfl ha0 rx1 dX6_beginPlan_48 ?_
    refine R_bv (fun s11 q12 => ?_)
    refine R_callVv [.ref (G.1 + x1)] [] C ml6_228 (kX4_layRuns q12) (by rw [hR]; exact ⟨rfl, rfl, Nat.le_of_ble_eq_true rfl, Nat.le_of_ble_eq_true rfl, Nat.zero_le _, Nat.zero_le _⟩) cx2 rfl rfl (Nat.le_of_ble_eq_true rfl) dX6_beginPlan_51 ?_
    exact R_vret C hr dX6_beginPlan_54
  · refine B_icmp_ne C dX6_beginPlan_32 ?_ ?_
    · refine R_iconst C (0) dX6_beginPlan_39 (by decide) ?_
      exact R_end (fun (w : Int32) (s : Sg) => V κ G (QQ κ G E none σ') E s (false, 0, 0) 40 [(0, .ref (G.1 + a0))] [.int w, .int (gi σ x3 (1 : Int32).toNatClampNeg), .int (gi σ x3 (2 : Int32).toNatClampNeg), .ref (G.1 + x1)]) Kw7
    · refine R_iconst C (1) dX6_beginPlan_35 (by decide) ?_
      refine R_goto C dX6_beginPlan_36 ?_
      exact R_end (fun (w : Int32) (s : Sg) => V κ G (QQ κ G E none σ') E s (false, 0, 0) 40 [(0, .ref (G.1 + a0))] [.int w, .int (gi σ x3 (1 : Int32).toNatClampNeg), .int (gi σ x3 (2 : Int32).toNatClampNeg), .ref (G.1 + x1)]) Kw7
theorem dX6_plan_0 : dk cX6_plan 0 1 (.iload_n 1) 1 := by unfold dk; decide +kernel
theorem dX6_plan_17 : dk cX6_plan 17 18 (.iconst (-1)) 1 := by unfold dk; decide +kernel
theorem dX6_plan_18 : dk cX6_plan 18 19 (.ireturn) 1 := by unfold dk; decide +kernel
theorem dX6_plan_4 : dk cX6_plan 4 5 (.iload_n 1) 1 := by unfold dk; decide +kernel
theorem dX6_plan_5 : dk cX6_plan 5 7 (.bipush 6) 2 := by unfold dk; decide +kernel
theorem dX6_plan_10 : dk cX6_plan 10 11 (.aload_n 0) 1 := by unfold dk; decide +kernel
theorem dX6_plan_11 : dk cX6_plan 11 14 (.invokevirtual 122) 3 := by unfold dk; decide +kernel
theorem dX6_plan_19 : dk cX6_plan 19 20 (.aload_n 0) 1 := by unfold dk; decide +kernel
theorem dX6_plan_20 : dk cX6_plan 20 23 (.invokevirtual 215) 3 := by unfold dk; decide +kernel
theorem dX6_plan_23 : dk cX6_plan 23 24 (.aload_n 0) 1 := by unfold dk; decide +kernel
theorem dX6_plan_24 : dk cX6_plan 24 27 (.getfield 39) 3 := by unfold dk; decide +kernel
theorem dX6_plan_27 : dk cX6_plan 27 30 (.invokevirtual 218) 3 := by unfold dk; decide +kernel
theorem dX6_plan_30 : dk cX6_plan 30 31 (.aload_n 0) 1 := by unfold dk; decide +kernel
theorem dX6_plan_31 : dk cX6_plan 31 34 (.getfield 39) 3 := by unfold dk; decide +kernel
theorem dX6_plan_34 : dk cX6_plan 34 37 (.getfield 132) 3 := by unfold dk; decide +kernel
theorem dX6_plan_37 : dk cX6_plan 37 38 (.iload_n 1) 1 := by unfold dk; decide +kernel
theorem dX6_plan_38 : dk cX6_plan 38 39 (.iaload) 1 := by unfold dk; decide +kernel
theorem dX6_plan_39 : dk cX6_plan 39 40 (.ireturn) 1 := by unfold dk; decide +kernel
theorem dX6_plan_14 : bk cX6_plan 14 17 19 (.ifCond .ne 5) (5) := by unfold bk; decide +kernel
theorem dX6_plan_7 : bk cX6_plan 7 10 17 (.if_icmp .ge 10) (10) := by unfold bk; decide +kernel
theorem dX6_plan_1 : bk cX6_plan 1 4 17 (.ifCond .lt 16) (16) := by unfold bk; decide +kernel
set_option maxHeartbeats 4000000 in
set_option maxRecDepth 100000 in
theorem kX6_plan {l : Launch} {G : Gl} {E : En} {a0 : Nat} {a1 : Int32} {σ σ' : Sg} {r : Int32} : fX6_plan E a0 a1 σ = some (r, σ') → CT l yX6_plan cX6_plan 2 (some .int) ({ frames := 6, cells := 0, slots := 0, locals := 132 } : Room) [.ref (G.1 + a0), .int a1] G E σ (some (.int r)) σ' := by
  intro h
  refine CT_of (lv0 := [(0, .ref (G.1 + a0)), (1, .int a1)]) (by decide) (Nat.le_of_ble_eq_true rfl) rfl (fun κ hl hR hr C => ?_)
  have C : Cx κ G cX6_plan RX6 2 := C
  revert h
  unfold fX6_plan
  refine R_tk (fun ha0 => ?_)
  refine R_iload_n C 1 rfl dX6_plan_0 ?_
  refine B_if_lt C dX6_plan_1 ?_ ?_
  · refine R_iconst C (-1) dX6_plan_17 (by decide) ?_
    exact R_iret C hr dX6_plan_18
  · refine R_iload_n C 1 rfl dX6_plan_4 ?_
    refine R_bipush C (6) dX6_plan_5 (by decide) ?_
    refine B_icmp_ge C dX6_plan_7 ?_ ?_
    · refine R_iconst C (-1) dX6_plan_17 (by decide) ?_
      exact R_iret C hr dX6_plan_18
    · refine R_aload_n C 0 rfl dX6_plan_10 ?_
      refine R_bd (fun r3 s1 q2 => ?_)
      refine R_callVi [] [] C ml6_122 (kX6_canPlan q2) (by rw [hR]; exact ⟨rfl, rfl, Nat.le_of_ble_eq_true rfl, Nat.le_of_ble_eq_true rfl, Nat.zero_le _, Nat.zero_le _⟩) ha0 rfl rfl (Nat.le_of_ble_eq_true rfl) dX6_plan_11 ?_
      refine B_if_ne C dX6_plan_14 ?_ ?_
      · refine R_aload_n C 0 rfl dX6_plan_19 ?_
        refine R_bv (fun s4 q5 => ?_)
        refine R_callVv [] [] C ml6_215 (kX6_beginPlan q5) (by rw [hR]; exact ⟨rfl, rfl, Nat.le_of_ble_eq_true rfl, Nat.le_of_ble_eq_true rfl, Nat.zero_le _, Nat.zero_le _⟩) ha0 rfl rfl (Nat.le_of_ble_eq_true rfl) dX6_plan_20 ?_
        refine R_aload_n C 0 rfl dX6_plan_23 ?_
        refine R_dr (fun x6 rx6 cx6 => ?_)
        refine R_getr C fl6_39 rfl ha0 rx6 dX6_plan_24 ?_
        refine R_bv (fun s7 q8 => ?_)
        refine R_callVv [] [] C ml6_218 (kX1_mergeAll q8) (by rw [hR]; exact ⟨rfl, rfl, Nat.le_of_ble_eq_true rfl, Nat.le_of_ble_eq_true rfl, Nat.zero_le _, Nat.zero_le _⟩) cx6 rfl rfl (Nat.le_of_ble_eq_true rfl) dX6_plan_27 ?_
        refine R_aload_n C 0 rfl dX6_plan_30 ?_
        refine R_getr C fl6_39 rfl ha0 rx6 dX6_plan_31 ?_
        refine R_dr (fun x9 rx9 cx9 => ?_)
        refine R_getr C fl6_132 rfl cx6 rx9 dX6_plan_34 ?_
        refine R_iload_n C 1 rfl dX6_plan_37 ?_
        refine R_ck (fun h10 => ?_)
        refine R_iald C cx9 h10 dX6_plan_38 ?_
        exact R_iret C hr dX6_plan_39
      · refine R_iconst C (-1) dX6_plan_17 (by decide) ?_
        exact R_iret C hr dX6_plan_18
theorem dX6_planned_0 : dk cX6_planned 0 1 (.iconst 2) 1 := by unfold dk; decide +kernel
theorem dX6_planned_1 : dk cX6_planned 1 2 (.iload_n 1) 1 := by unfold dk; decide +kernel
theorem dX6_planned_2 : dk cX6_planned 2 5 (.invokestatic 99) 3 := by unfold dk; decide +kernel
theorem dX6_planned_5 : bk cX6_planned 5 8 28 (.ifCond .eq 23) (23) := by unfold bk; decide +kernel
theorem dX6_planned_28 : dk cX6_planned 28 29 (.iconst 0) 1 := by unfold dk; decide +kernel
theorem dX6_planned_8 : dk cX6_planned 8 9 (.iconst 1) 1 := by unfold dk; decide +kernel
theorem dX6_planned_9 : dk cX6_planned 9 10 (.iload_n 2) 1 := by unfold dk; decide +kernel
theorem dX6_planned_10 : dk cX6_planned 10 13 (.invokestatic 99) 3 := by unfold dk; decide +kernel
theorem dX6_planned_16 : dk cX6_planned 16 17 (.iconst 4) 1 := by unfold dk; decide +kernel
theorem dX6_planned_17 : dk cX6_planned 17 18 (.iload_n 3) 1 := by unfold dk; decide +kernel
theorem dX6_planned_18 : dk cX6_planned 18 21 (.invokestatic 99) 3 := by unfold dk; decide +kernel
theorem dX6_planned_24 : dk cX6_planned 24 25 (.iconst 1) 1 := by unfold dk; decide +kernel
theorem dX6_planned_25 : bk cX6_planned 25 28 29 (.goto 4) (4) := by unfold bk; decide +kernel
theorem dX6_planned_21 : bk cX6_planned 21 24 28 (.ifCond .eq 7) (7) := by unfold bk; decide +kernel
theorem dX6_planned_13 : bk cX6_planned 13 16 28 (.ifCond .eq 15) (15) := by unfold bk; decide +kernel
theorem dX6_planned_29 : dk cX6_planned 29 31 (.istore 4) 2 := by unfold dk; decide +kernel
theorem dX6_planned_31 : dk cX6_planned 31 33 (.iload 4) 2 := by unfold dk; decide +kernel
theorem dX6_planned_55 : dk cX6_planned 55 56 (.iconst (-1)) 1 := by unfold dk; decide +kernel
theorem dX6_planned_56 : dk cX6_planned 56 57 (.ireturn) 1 := by unfold dk; decide +kernel
theorem dX6_planned_36 : dk cX6_planned 36 37 (.aload_n 0) 1 := by unfold dk; decide +kernel
theorem dX6_planned_37 : dk cX6_planned 37 40 (.getfield 16) 3 := by unfold dk; decide +kernel
theorem dX6_planned_40 : dk cX6_planned 40 43 (.getfield 79) 3 := by unfold dk; decide +kernel
theorem dX6_planned_43 : dk cX6_planned 43 44 (.iconst 1) 1 := by unfold dk; decide +kernel
theorem dX6_planned_47 : dk cX6_planned 47 48 (.iload_n 1) 1 := by unfold dk; decide +kernel
theorem dX6_planned_48 : dk cX6_planned 48 49 (.iload_n 2) 1 := by unfold dk; decide +kernel
theorem dX6_planned_49 : dk cX6_planned 49 52 (.invokestatic 221) 3 := by unfold dk; decide +kernel
theorem dX6_planned_57 : dk cX6_planned 57 58 (.aload_n 0) 1 := by unfold dk; decide +kernel
theorem dX6_planned_58 : dk cX6_planned 58 61 (.getfield 39) 3 := by unfold dk; decide +kernel
theorem dX6_planned_61 : dk cX6_planned 61 62 (.iload_n 1) 1 := by unfold dk; decide +kernel
theorem dX6_planned_62 : dk cX6_planned 62 63 (.iload_n 2) 1 := by unfold dk; decide +kernel
theorem dX6_planned_63 : dk cX6_planned 63 64 (.iload_n 3) 1 := by unfold dk; decide +kernel
theorem dX6_planned_64 : dk cX6_planned 64 65 (.iconst 1) 1 := by unfold dk; decide +kernel
theorem dX6_planned_65 : bk cX6_planned 65 68 72 (.if_icmp .ne 7) (7) := by unfold bk; decide +kernel
theorem dX6_planned_72 : dk cX6_planned 72 73 (.iconst 0) 1 := by unfold dk; decide +kernel
theorem dX6_planned_68 : dk cX6_planned 68 69 (.iconst 1) 1 := by unfold dk; decide +kernel
theorem dX6_planned_69 : bk cX6_planned 69 72 73 (.goto 4) (4) := by unfold bk; decide +kernel
theorem dX6_planned_73 : dk cX6_planned 73 76 (.invokevirtual 224) 3 := by unfold dk; decide +kernel
theorem dX6_planned_76 : dk cX6_planned 76 77 (.aload_n 0) 1 := by unfold dk; decide +kernel
theorem dX6_planned_77 : dk cX6_planned 77 80 (.getfield 16) 3 := by unfold dk; decide +kernel
theorem dX6_planned_80 : dk cX6_planned 80 81 (.aload_n 0) 1 := by unfold dk; decide +kernel
theorem dX6_planned_81 : dk cX6_planned 81 84 (.getfield 39) 3 := by unfold dk; decide +kernel
theorem dX6_planned_84 : dk cX6_planned 84 87 (.invokevirtual 228) 3 := by unfold dk; decide +kernel
theorem dX6_planned_87 : dk cX6_planned 87 88 (.aload_n 0) 1 := by unfold dk; decide +kernel
theorem dX6_planned_88 : dk cX6_planned 88 91 (.getfield 39) 3 := by unfold dk; decide +kernel
theorem dX6_planned_91 : dk cX6_planned 91 94 (.invokevirtual 218) 3 := by unfold dk; decide +kernel
theorem dX6_planned_94 : dk cX6_planned 94 95 (.aload_n 0) 1 := by unfold dk; decide +kernel
theorem dX6_planned_95 : dk cX6_planned 95 98 (.getfield 39) 3 := by unfold dk; decide +kernel
theorem dX6_planned_98 : dk cX6_planned 98 101 (.getfield 132) 3 := by unfold dk; decide +kernel
theorem dX6_planned_101 : dk cX6_planned 101 102 (.iconst 0) 1 := by unfold dk; decide +kernel
theorem dX6_planned_102 : dk cX6_planned 102 103 (.iaload) 1 := by unfold dk; decide +kernel
theorem dX6_planned_103 : dk cX6_planned 103 104 (.ireturn) 1 := by unfold dk; decide +kernel
theorem dX6_planned_52 : bk cX6_planned 52 55 57 (.ifCond .ne 5) (5) := by unfold bk; decide +kernel
theorem dX6_planned_44 : bk cX6_planned 44 47 55 (.if_icmp .lt 11) (11) := by unfold bk; decide +kernel
theorem dX6_planned_33 : bk cX6_planned 33 36 55 (.ifCond .eq 22) (22) := by unfold bk; decide +kernel
set_option maxHeartbeats 4000000 in
set_option maxRecDepth 100000 in
theorem kX6_planned {l : Launch} {G : Gl} {E : En} {a0 : Nat} {a1 : Int32} {a2 : Int32} {a3 : Int32} {σ σ' : Sg} {r : Int32} : fX6_planned E a0 a1 a2 a3 σ = some (r, σ') → CT l yX6_planned cX6_planned 5 (some .int) ({ frames := 6, cells := 0, slots := 0, locals := 128 } : Room) [.ref (G.1 + a0), .int a1, .int a2, .int a3] G E σ (some (.int r)) σ' := by
  intro h
  refine CT_of (lv0 := [(0, .ref (G.1 + a0)), (1, .int a1), (2, .int a2), (3, .int a3)]) (by decide) (Nat.le_of_ble_eq_true rfl) rfl (fun κ hl hR hr C => ?_)
  have C : Cx κ G cX6_planned RX6 5 := C
  revert h
  unfold fX6_planned
  refine R_tk (fun ha0 => ?_)
  refine R_iconst C (2) dX6_planned_0 (by decide) ?_
  refine R_iload_n C 1 rfl dX6_planned_1 ?_
  refine R_bd (fun r3 s1 q2 => ?_)
  refine R_callSi [.int (2 : Int32), .int a1] [] C ml6_99 (kX6_fits q2) (by rw [hR]; exact ⟨rfl, rfl, Nat.le_of_ble_eq_true rfl, Nat.le_of_ble_eq_true rfl, Nat.zero_le _, Nat.zero_le _⟩) rfl rfl (Nat.le_of_ble_eq_true rfl) dX6_planned_2 ?_
  refine R_bdK (fun (w : Int32) (s : Sg) => V κ G (QQ κ G E (some (.int r)) σ') E s (false, 0, 0) 29 [(0, .ref (G.1 + a0)), (1, .int a1), (2, .int a2), (3, .int a3)] [.int w]) (fun w4 s5 => ?_) (fun w4 s5 Kw4 => ?_)
  · refine R_istore (lv2 := [(4, .int w4), (0, .ref (G.1 + a0)), (1, .int a1), (2, .int a2), (3, .int a3)]) C dX6_planned_29 (by decide) rfl ?_
    refine R_iload C 0 rfl dX6_planned_31 ?_
    refine B_if_eq C dX6_planned_33 ?_ ?_
    · refine R_iconst C (-1) dX6_planned_55 (by decide) ?_
      exact R_iret C hr dX6_planned_56
    · refine R_aload_n C 1 rfl dX6_planned_36 ?_
      refine R_dr (fun x12 rx12 cx12 => ?_)
      refine R_getr C fl6_16 rfl ha0 rx12 dX6_planned_37 ?_
      refine R_geti C fl6_79 rfl cx12 dX6_planned_40 ?_
      refine R_iconst C (1) dX6_planned_43 (by decide) ?_
      refine B_icmp_lt C dX6_planned_44 ?_ ?_
      · refine R_iconst C (-1) dX6_planned_55 (by decide) ?_
        exact R_iret C hr dX6_planned_56
      · refine R_iload_n C 2 rfl dX6_planned_47 ?_
        refine R_iload_n C 3 rfl dX6_planned_48 ?_
        refine R_bd (fun r15 s13 q14 => ?_)
        refine R_callSi [.int a1, .int a2] [] C ml6_221 (kX6_canSpread q14) (by rw [hR]; exact ⟨rfl, rfl, Nat.le_of_ble_eq_true rfl, Nat.le_of_ble_eq_true rfl, Nat.zero_le _, Nat.zero_le _⟩) rfl rfl (Nat.le_of_ble_eq_true rfl) dX6_planned_49 ?_
        refine B_if_ne C dX6_planned_52 ?_ ?_
        · refine R_aload_n C 1 rfl dX6_planned_57 ?_
          refine R_dr (fun x16 rx16 cx16 => ?_)
          refine R_getr C fl6_39 rfl ha0 rx16 dX6_planned_58 ?_
          refine R_iload_n C 2 rfl dX6_planned_61 ?_
          refine R_iload_n C 3 rfl dX6_planned_62 ?_
          refine R_iload_n C 4 rfl dX6_planned_63 ?_
          refine R_iconst C (1) dX6_planned_64 (by decide) ?_
          refine R_bdK (fun (w : Int32) (s : Sg) => V κ G (QQ κ G E (some (.int r)) σ') E s (false, 0, 0) 73 [(0, .ref (G.1 + a0))] [.int w, .int a2, .int a1, .ref (G.1 + x16)]) (fun w17 s18 => ?_) (fun w17 s18 Kw17 => ?_)
          · refine R_bv (fun s19 q20 => ?_)
            refine R_callVv [.int a1, .int a2, .int w17] [] C ml6_224 (kX1_begin q20) (by rw [hR]; exact ⟨rfl, rfl, Nat.le_of_ble_eq_true rfl, Nat.le_of_ble_eq_true rfl, Nat.zero_le _, Nat.zero_le _⟩) cx16 rfl rfl (Nat.le_of_ble_eq_true rfl) dX6_planned_73 ?_
            refine R_aload_n C 0 rfl dX6_planned_76 ?_
            refine R_getr C fl6_16 rfl ha0 rx12 dX6_planned_77 ?_
            refine R_aload_n C 0 rfl dX6_planned_80 ?_
            refine R_getr C fl6_39 rfl ha0 rx16 dX6_planned_81 ?_
            refine R_bv (fun s21 q22 => ?_)
            refine R_callVv [.ref (G.1 + x16)] [] C ml6_228 (kX4_layRuns q22) (by rw [hR]; exact ⟨rfl, rfl, Nat.le_of_ble_eq_true rfl, Nat.le_of_ble_eq_true rfl, Nat.zero_le _, Nat.zero_le _⟩) cx12 rfl rfl (Nat.le_of_ble_eq_true rfl) dX6_planned_84 ?_
            refine R_aload_n C 0 rfl dX6_planned_87 ?_
            refine R_getr C fl6_39 rfl ha0 rx16 dX6_planned_88 ?_
            refine R_bv (fun s23 q24 => ?_)
            refine R_callVv [] [] C ml6_218 (kX1_mergeAll q24) (by rw [hR]; exact ⟨rfl, rfl, Nat.le_of_ble_eq_true rfl, Nat.le_of_ble_eq_true rfl, Nat.zero_le _, Nat.zero_le _⟩) cx16 rfl rfl (Nat.le_of_ble_eq_true rfl) dX6_planned_91 ?_
            refine R_aload_n C 0 rfl dX6_planned_94 ?_
            refine R_getr C fl6_39 rfl ha0 rx16 dX6_planned_95 ?_
            refine R_dr (fun x25 rx25 cx25 => ?_)
            refine R_getr C fl6_132 rfl cx16 rx25 dX6_planned_98 ?_
            refine R_iconst C (0) dX6_planned_101 (by decide) ?_
            refine R_ck (fun h26 => ?_)
            refine R_iald C cx25 h26 dX6_planned_102 ?_
            exact R_iret C hr dX6_planned_103
          · refine B_icmp_ne C dX6_planned_65 ?_ ?_
            · refine R_iconst C (0) dX6_planned_72 (by decide) ?_
              refine R_loc (lv2 := [(0, .ref (G.1 + a0))]) [1] rfl ?_
              exact R_end (fun (w : Int32) (s : Sg) => V κ G (QQ κ G E (some (.int r)) σ') E s (false, 0, 0) 73 [(0, .ref (G.1 + a0))] [.int w, .int a2, .int a1, .ref (G.1 + x16)]) Kw17
            · refine R_iconst C (1) dX6_planned_68 (by decide) ?_
              refine R_goto C dX6_planned_69 ?_
              refine R_loc (lv2 := [(0, .ref (G.1 + a0))]) [1] rfl ?_
              exact R_end (fun (w : Int32) (s : Sg) => V κ G (QQ κ G E (some (.int r)) σ') E s (false, 0, 0) 73 [(0, .ref (G.1 + a0))] [.int w, .int a2, .int a1, .ref (G.1 + x16)]) Kw17
        · refine R_iconst C (-1) dX6_planned_55 (by decide) ?_
          exact R_iret C hr dX6_planned_56
  · refine B_if_eq C dX6_planned_5 ?_ ?_
    · refine R_iconst C (0) dX6_planned_28 (by decide) ?_
      exact R_end (fun (w : Int32) (s : Sg) => V κ G (QQ κ G E (some (.int r)) σ') E s (false, 0, 0) 29 [(0, .ref (G.1 + a0)), (1, .int a1), (2, .int a2), (3, .int a3)] [.int w]) Kw4
    · refine R_iconst C (1) dX6_planned_8 (by decide) ?_
      refine R_iload_n C 2 rfl dX6_planned_9 ?_
      refine R_bd (fun r8 s6 q7 => ?_)
      refine R_callSi [.int (1 : Int32), .int a2] [] C ml6_99 (kX6_fits q7) (by rw [hR]; exact ⟨rfl, rfl, Nat.le_of_ble_eq_true rfl, Nat.le_of_ble_eq_true rfl, Nat.zero_le _, Nat.zero_le _⟩) rfl rfl (Nat.le_of_ble_eq_true rfl) dX6_planned_10 ?_
      refine B_if_eq C dX6_planned_13 ?_ ?_
      · refine R_iconst C (0) dX6_planned_28 (by decide) ?_
        exact R_end (fun (w : Int32) (s : Sg) => V κ G (QQ κ G E (some (.int r)) σ') E s (false, 0, 0) 29 [(0, .ref (G.1 + a0)), (1, .int a1), (2, .int a2), (3, .int a3)] [.int w]) Kw4
      · refine R_iconst C (4) dX6_planned_16 (by decide) ?_
        refine R_iload_n C 3 rfl dX6_planned_17 ?_
        refine R_bd (fun r11 s9 q10 => ?_)
        refine R_callSi [.int (4 : Int32), .int a3] [] C ml6_99 (kX6_fits q10) (by rw [hR]; exact ⟨rfl, rfl, Nat.le_of_ble_eq_true rfl, Nat.le_of_ble_eq_true rfl, Nat.zero_le _, Nat.zero_le _⟩) rfl rfl (Nat.le_of_ble_eq_true rfl) dX6_planned_18 ?_
        refine B_if_eq C dX6_planned_21 ?_ ?_
        · refine R_iconst C (0) dX6_planned_28 (by decide) ?_
          exact R_end (fun (w : Int32) (s : Sg) => V κ G (QQ κ G E (some (.int r)) σ') E s (false, 0, 0) 29 [(0, .ref (G.1 + a0)), (1, .int a1), (2, .int a2), (3, .int a3)] [.int w]) Kw4
        · refine R_iconst C (1) dX6_planned_24 (by decide) ?_
          refine R_goto C dX6_planned_25 ?_
          exact R_end (fun (w : Int32) (s : Sg) => V κ G (QQ κ G E (some (.int r)) σ') E s (false, 0, 0) 29 [(0, .ref (G.1 + a0)), (1, .int a1), (2, .int a2), (3, .int a3)] [.int w]) Kw4
theorem dX6_takeLightest_0 : dk cX6_takeLightest 0 1 (.iconst 0) 1 := by unfold dk; decide +kernel
theorem dX6_takeLightest_1 : dk cX6_takeLightest 1 2 (.istore_n 2) 1 := by unfold dk; decide +kernel
theorem dX6_takeLightest_2 : dk cX6_takeLightest 2 3 (.iconst 1) 1 := by unfold dk; decide +kernel
theorem dX6_takeLightest_3 : dk cX6_takeLightest 3 4 (.istore_n 3) 1 := by unfold dk; decide +kernel
theorem dX6_takeLightest_4 : dk cX6_takeLightest 4 5 (.iload_n 3) 1 := by unfold dk; decide +kernel
theorem dX6_takeLightest_5 : dk cX6_takeLightest 5 6 (.iload_n 1) 1 := by unfold dk; decide +kernel
theorem dX6_takeLightest_9 : dk cX6_takeLightest 9 10 (.aload_n 0) 1 := by unfold dk; decide +kernel
theorem dX6_takeLightest_10 : dk cX6_takeLightest 10 13 (.getfield 50) 3 := by unfold dk; decide +kernel
theorem dX6_takeLightest_13 : dk cX6_takeLightest 13 14 (.iload_n 3) 1 := by unfold dk; decide +kernel
theorem dX6_takeLightest_14 : dk cX6_takeLightest 14 15 (.iaload) 1 := by unfold dk; decide +kernel
theorem dX6_takeLightest_15 : dk cX6_takeLightest 15 16 (.aload_n 0) 1 := by unfold dk; decide +kernel
theorem dX6_takeLightest_16 : dk cX6_takeLightest 16 19 (.getfield 50) 3 := by unfold dk; decide +kernel
theorem dX6_takeLightest_19 : dk cX6_takeLightest 19 20 (.iload_n 2) 1 := by unfold dk; decide +kernel
theorem dX6_takeLightest_20 : dk cX6_takeLightest 20 21 (.iaload) 1 := by unfold dk; decide +kernel
theorem dX6_takeLightest_21 : bk cX6_takeLightest 21 24 26 (.if_icmp .ge 5) (5) := by unfold bk; decide +kernel
theorem dX6_takeLightest_24 : dk cX6_takeLightest 24 25 (.iload_n 3) 1 := by unfold dk; decide +kernel
theorem dX6_takeLightest_25 : dk cX6_takeLightest 25 26 (.istore_n 2) 1 := by unfold dk; decide +kernel
theorem dX6_takeLightest_26 : dk cX6_takeLightest 26 29 (.iinc 3 1) 3 := by unfold dk; decide +kernel
theorem dX6_takeLightest_29 : bk cX6_takeLightest 29 32 4 (.goto (-25)) (-25) := by unfold bk; decide +kernel
theorem dX6_takeLightest_6 : bk cX6_takeLightest 6 9 32 (.if_icmp .ge 26) (26) := by unfold bk; decide +kernel
theorem dX6_takeLightest_32 : dk cX6_takeLightest 32 33 (.aload_n 0) 1 := by unfold dk; decide +kernel
theorem dX6_takeLightest_33 : dk cX6_takeLightest 33 36 (.getfield 50) 3 := by unfold dk; decide +kernel
theorem dX6_takeLightest_36 : dk cX6_takeLightest 36 37 (.iload_n 2) 1 := by unfold dk; decide +kernel
theorem dX6_takeLightest_37 : dk cX6_takeLightest 37 38 (.iaload) 1 := by unfold dk; decide +kernel
theorem dX6_takeLightest_38 : dk cX6_takeLightest 38 39 (.istore_n 3) 1 := by unfold dk; decide +kernel
theorem dX6_takeLightest_39 : dk cX6_takeLightest 39 40 (.aload_n 0) 1 := by unfold dk; decide +kernel
theorem dX6_takeLightest_40 : dk cX6_takeLightest 40 43 (.getfield 50) 3 := by unfold dk; decide +kernel
theorem dX6_takeLightest_43 : dk cX6_takeLightest 43 44 (.iload_n 2) 1 := by unfold dk; decide +kernel
theorem dX6_takeLightest_44 : dk cX6_takeLightest 44 45 (.aload_n 0) 1 := by unfold dk; decide +kernel
theorem dX6_takeLightest_45 : dk cX6_takeLightest 45 48 (.getfield 50) 3 := by unfold dk; decide +kernel
theorem dX6_takeLightest_48 : dk cX6_takeLightest 48 49 (.iload_n 1) 1 := by unfold dk; decide +kernel
theorem dX6_takeLightest_49 : dk cX6_takeLightest 49 50 (.iconst 1) 1 := by unfold dk; decide +kernel
theorem dX6_takeLightest_50 : dk cX6_takeLightest 50 51 (.isub) 1 := by unfold dk; decide +kernel
theorem dX6_takeLightest_51 : dk cX6_takeLightest 51 52 (.iaload) 1 := by unfold dk; decide +kernel
theorem dX6_takeLightest_52 : dk cX6_takeLightest 52 53 (.iastore) 1 := by unfold dk; decide +kernel
theorem dX6_takeLightest_53 : dk cX6_takeLightest 53 54 (.iload_n 3) 1 := by unfold dk; decide +kernel
theorem dX6_takeLightest_54 : dk cX6_takeLightest 54 55 (.ireturn) 1 := by unfold dk; decide +kernel
set_option maxHeartbeats 4000000 in
set_option maxRecDepth 100000 in
theorem kX6_takeLightest {l : Launch} {G : Gl} {E : En} {a0 : Nat} {a1 : Int32} {σ σ' : Sg} {r : Int32} : fX6_takeLightest E a0 a1 σ = some (r, σ') → CT l yX6_takeLightest cX6_takeLightest 4 (some .int) ({ frames := 0, cells := 0, slots := 0, locals := 0 } : Room) [.ref (G.1 + a0), .int a1] G E σ (some (.int r)) σ' := by
  intro h
  refine CT_of (lv0 := [(0, .ref (G.1 + a0)), (1, .int a1)]) (by decide) (Nat.le_of_ble_eq_true rfl) rfl (fun κ hl hR hr C => ?_)
  have C : Cx κ G cX6_takeLightest RX6 4 := C
  revert h
  unfold fX6_takeLightest
  refine R_tk (fun ha0 => ?_)
  refine R_iconst C (0) dX6_takeLightest_0 (by decide) ?_
  refine R_istore_n (lv2 := [(2, .int (0 : Int32)), (0, .ref (G.1 + a0)), (1, .int a1)]) C dX6_takeLightest_1 rfl (by decide) rfl ?_
  refine R_iconst C (1) dX6_takeLightest_2 (by decide) ?_
  refine R_istore_n (lv2 := [(3, .int (1 : Int32)), (2, .int (0 : Int32)), (0, .ref (G.1 + a0)), (1, .int a1)]) C dX6_takeLightest_3 rfl (by decide) rfl ?_
  refine R_loc (lv2 := [(0, .ref (G.1 + a0)), (1, .int a1), (2, .int (0 : Int32)), (3, .int (1 : Int32))]) [2, 3, 1, 0] rfl ?_
  refine R_loop (fun (a : (Int32 × Int32) × Sg) => V κ G (QQ κ G E (some (.int r)) σ') E a.2 (false, 0, 0) 4 [(0, .ref (G.1 + a0)), (1, .int a1), (2, .int a.1.1), (3, .int a.1.2)] []) (fun (o : (Int32 × Int32)) (s : Sg) => V κ G (QQ κ G E (some (.int r)) σ') E s (false, 0, 0) 32 [(0, .ref (G.1 + a0)), (1, .int a1), (2, .int o.1)] []) (((0 : Int32), (1 : Int32)), σ) (fun o14 s15 => ?_) (fun rec I7 a b5 s6 K4 => ?_)
  · refine R_aload_n C 0 rfl dX6_takeLightest_32 ?_
    refine R_dr (fun x16 rx16 cx16 => ?_)
    refine R_getr C fl6_50 rfl ha0 rx16 dX6_takeLightest_33 ?_
    refine R_iload_n C 2 rfl dX6_takeLightest_36 ?_
    refine R_ck (fun h17 => ?_)
    refine R_iald C cx16 h17 dX6_takeLightest_37 ?_
    refine S_istore_n C dX6_takeLightest_38 rfl (fun v18 => [(3, .int v18), (0, .ref (G.1 + a0)), (1, .int a1), (2, .int o14.1)]) (by decide) (fun _ => rfl) (fun v18 => ?_)
    refine R_aload_n C 1 rfl dX6_takeLightest_39 ?_
    refine R_getr C fl6_50 rfl ha0 rx16 dX6_takeLightest_40 ?_
    refine R_iload_n C 3 rfl dX6_takeLightest_43 ?_
    refine R_aload_n C 1 rfl dX6_takeLightest_44 ?_
    refine R_getr C fl6_50 rfl ha0 rx16 dX6_takeLightest_45 ?_
    refine R_iload_n C 2 rfl dX6_takeLightest_48 ?_
    refine R_iconst C (1) dX6_takeLightest_49 (by decide) ?_
    refine R_isub C dX6_takeLightest_50 ?_
    refine R_ck (fun h19 => ?_)
    refine R_iald C cx16 h19 dX6_takeLightest_51 ?_
    refine R_ck (fun h20 => ?_)
    refine S_iast C cx16 h20 dX6_takeLightest_52 (fun s21 => ?_)
    refine R_iload_n C 0 rfl dX6_takeLightest_53 ?_
    exact R_iret C hr dX6_takeLightest_54
  · obtain ⟨⟨v1, v2⟩, s3⟩ := a
    show bX6_takeLightest_4 E a1 a0 (fun u0 u1 t => rec ((u0, u1), t)) v1 v2 s3 = some (b5, s6) → V κ G (QQ κ G E (some (.int r)) σ') E s3 (false, 0, 0) 4 [(0, .ref (G.1 + a0)), (1, .int a1), (2, .int v1), (3, .int v2)] []
    unfold bX6_takeLightest_4
    refine R_iload_n C 3 rfl dX6_takeLightest_4 ?_
    refine R_iload_n C 1 rfl dX6_takeLightest_5 ?_
    refine B_icmp_ge C dX6_takeLightest_6 ?_ ?_
    · refine R_loc (lv2 := [(0, .ref (G.1 + a0)), (1, .int a1), (2, .int v1)]) [0, 1, 2] rfl ?_
      exact R_end (fun (o : (Int32 × Int32)) (s : Sg) => V κ G (QQ κ G E (some (.int r)) σ') E s (false, 0, 0) 32 [(0, .ref (G.1 + a0)), (1, .int a1), (2, .int o.1)] []) K4
    · refine R_aload_n C 0 rfl dX6_takeLightest_9 ?_
      refine R_dr (fun x8 rx8 cx8 => ?_)
      refine R_getr C fl6_50 rfl ha0 rx8 dX6_takeLightest_10 ?_
      refine R_iload_n C 3 rfl dX6_takeLightest_13 ?_
      refine R_ck (fun h9 => ?_)
      refine R_iald C cx8 h9 dX6_takeLightest_14 ?_
      refine R_aload_n C 0 rfl dX6_takeLightest_15 ?_
      refine R_getr C fl6_50 rfl ha0 rx8 dX6_takeLightest_16 ?_
      refine R_iload_n C 2 rfl dX6_takeLightest_19 ?_
      refine R_ck (fun h10 => ?_)
      refine R_iald C cx8 h10 dX6_takeLightest_20 ?_
      refine R_bdK (fun (w : Int32) (s : Sg) => V κ G (QQ κ G E (some (.int r)) σ') E s (false, 0, 0) 26 [(0, .ref (G.1 + a0)), (1, .int a1), (3, .int v2), (2, .int w)] []) (fun w11 s12 => ?_) (fun w11 s12 Kw11 => ?_)
      · refine S_iinc (fun v13 => [(3, .int v13), (0, .ref (G.1 + a0)), (1, .int a1), (2, .int w11)]) 2 C dX6_takeLightest_26 rfl (by decide) (by decide) (fun _ => rfl) (fun v13 => ?_)
        refine R_goto C dX6_takeLightest_29 ?_
        refine R_loc (lv2 := [(0, .ref (G.1 + a0)), (1, .int a1), (2, .int w11), (3, .int v13)]) [1, 2, 3, 0] rfl ?_
        exact I7 ((w11, v13), s12) b5 s6 K4
      · refine B_icmp_ge C dX6_takeLightest_21 ?_ ?_
        · refine R_loc (lv2 := [(0, .ref (G.1 + a0)), (1, .int a1), (3, .int v2), (2, .int v1)]) [0, 1, 3, 2] rfl ?_
          exact R_end (fun (w : Int32) (s : Sg) => V κ G (QQ κ G E (some (.int r)) σ') E s (false, 0, 0) 26 [(0, .ref (G.1 + a0)), (1, .int a1), (3, .int v2), (2, .int w)] []) Kw11
        · refine R_iload_n C 3 rfl dX6_takeLightest_24 ?_
          refine R_istore_n (lv2 := [(2, .int v2), (0, .ref (G.1 + a0)), (1, .int a1), (3, .int v2)]) C dX6_takeLightest_25 rfl (by decide) rfl ?_
          refine R_loc (lv2 := [(0, .ref (G.1 + a0)), (1, .int a1), (3, .int v2), (2, .int v2)]) [1, 2, 3, 0] rfl ?_
          exact R_end (fun (w : Int32) (s : Sg) => V κ G (QQ κ G E (some (.int r)) σ') E s (false, 0, 0) 26 [(0, .ref (G.1 + a0)), (1, .int a1), (3, .int v2), (2, .int w)] []) Kw11
theorem dX6_least_0 : dk cX6_least 0 1 (.iload_n 1) 1 := by unfold dk; decide +kernel
theorem dX6_least_1 : dk cX6_least 1 2 (.iconst 2) 1 := by unfold dk; decide +kernel
theorem dX6_least_21 : dk cX6_least 21 22 (.iconst (-1)) 1 := by unfold dk; decide +kernel
theorem dX6_least_22 : dk cX6_least 22 23 (.ireturn) 1 := by unfold dk; decide +kernel
theorem dX6_least_5 : dk cX6_least 5 6 (.iload_n 1) 1 := by unfold dk; decide +kernel
theorem dX6_least_6 : dk cX6_least 6 7 (.iconst 5) 1 := by unfold dk; decide +kernel
theorem dX6_least_10 : dk cX6_least 10 11 (.aload_n 0) 1 := by unfold dk; decide +kernel
theorem dX6_least_11 : dk cX6_least 11 14 (.getfield 16) 3 := by unfold dk; decide +kernel
theorem dX6_least_14 : dk cX6_least 14 17 (.getfield 79) 3 := by unfold dk; decide +kernel
theorem dX6_least_17 : dk cX6_least 17 18 (.iconst 1) 1 := by unfold dk; decide +kernel
theorem dX6_least_23 : dk cX6_least 23 24 (.aload_n 0) 1 := by unfold dk; decide +kernel
theorem dX6_least_24 : dk cX6_least 24 27 (.getfield 16) 3 := by unfold dk; decide +kernel
theorem dX6_least_27 : dk cX6_least 27 30 (.getfield 115) 3 := by unfold dk; decide +kernel
theorem dX6_least_30 : dk cX6_least 30 33 (.getfield 119) 3 := by unfold dk; decide +kernel
theorem dX6_least_33 : dk cX6_least 33 34 (.istore_n 2) 1 := by unfold dk; decide +kernel
theorem dX6_least_34 : dk cX6_least 34 35 (.aload_n 0) 1 := by unfold dk; decide +kernel
theorem dX6_least_35 : dk cX6_least 35 38 (.getfield 16) 3 := by unfold dk; decide +kernel
theorem dX6_least_38 : dk cX6_least 38 41 (.getfield 115) 3 := by unfold dk; decide +kernel
theorem dX6_least_41 : dk cX6_least 41 44 (.getfield 156) 3 := by unfold dk; decide +kernel
theorem dX6_least_44 : dk cX6_least 44 45 (.iconst 0) 1 := by unfold dk; decide +kernel
theorem dX6_least_45 : dk cX6_least 45 46 (.aload_n 0) 1 := by unfold dk; decide +kernel
theorem dX6_least_46 : dk cX6_least 46 49 (.getfield 50) 3 := by unfold dk; decide +kernel
theorem dX6_least_49 : dk cX6_least 49 50 (.iconst 0) 1 := by unfold dk; decide +kernel
theorem dX6_least_50 : dk cX6_least 50 51 (.iload_n 2) 1 := by unfold dk; decide +kernel
theorem dX6_least_51 : dk cX6_least 51 54 (.invokestatic 232) 3 := by unfold dk; decide +kernel
theorem dX6_least_54 : dk cX6_least 54 55 (.iload_n 2) 1 := by unfold dk; decide +kernel
theorem dX6_least_55 : dk cX6_least 55 56 (.iconst 1) 1 := by unfold dk; decide +kernel
theorem dX6_least_56 : dk cX6_least 56 57 (.isub) 1 := by unfold dk; decide +kernel
theorem dX6_least_57 : dk cX6_least 57 58 (.iload_n 1) 1 := by unfold dk; decide +kernel
theorem dX6_least_58 : dk cX6_least 58 59 (.iconst 1) 1 := by unfold dk; decide +kernel
theorem dX6_least_59 : dk cX6_least 59 60 (.isub) 1 := by unfold dk; decide +kernel
theorem dX6_least_60 : dk cX6_least 60 61 (.irem) 1 := by unfold dk; decide +kernel
theorem dX6_least_61 : dk cX6_least 61 62 (.istore_n 3) 1 := by unfold dk; decide +kernel
theorem dX6_least_62 : dk cX6_least 62 63 (.iload_n 3) 1 := by unfold dk; decide +kernel
theorem dX6_least_63 : bk cX6_least 63 66 70 (.ifCond .ne 7) (7) := by unfold bk; decide +kernel
theorem dX6_least_70 : dk cX6_least 70 71 (.iload_n 3) 1 := by unfold dk; decide +kernel
theorem dX6_least_71 : dk cX6_least 71 72 (.iconst 1) 1 := by unfold dk; decide +kernel
theorem dX6_least_72 : dk cX6_least 72 73 (.iadd) 1 := by unfold dk; decide +kernel
theorem dX6_least_66 : dk cX6_least 66 67 (.iload_n 1) 1 := by unfold dk; decide +kernel
theorem dX6_least_67 : bk cX6_least 67 70 73 (.goto 6) (6) := by unfold bk; decide +kernel
theorem dX6_least_73 : dk cX6_least 73 75 (.istore 4) 2 := by unfold dk; decide +kernel
theorem dX6_least_75 : dk cX6_least 75 76 (.iconst 0) 1 := by unfold dk; decide +kernel
theorem dX6_least_76 : dk cX6_least 76 78 (.istore 5) 2 := by unfold dk; decide +kernel
theorem dX6_least_78 : dk cX6_least 78 79 (.iconst 0) 1 := by unfold dk; decide +kernel
theorem dX6_least_79 : dk cX6_least 79 81 (.istore 6) 2 := by unfold dk; decide +kernel
theorem dX6_least_81 : dk cX6_least 81 83 (.iload 6) 2 := by unfold dk; decide +kernel
theorem dX6_least_83 : dk cX6_least 83 86 (.sipush 300) 3 := by unfold dk; decide +kernel
theorem dX6_least_89 : dk cX6_least 89 90 (.iload_n 2) 1 := by unfold dk; decide +kernel
theorem dX6_least_90 : dk cX6_least 90 91 (.iconst 1) 1 := by unfold dk; decide +kernel
theorem dX6_least_94 : dk cX6_least 94 95 (.iconst 0) 1 := by unfold dk; decide +kernel
theorem dX6_least_95 : dk cX6_least 95 97 (.istore 7) 2 := by unfold dk; decide +kernel
theorem dX6_least_97 : dk cX6_least 97 98 (.iconst 0) 1 := by unfold dk; decide +kernel
theorem dX6_least_98 : dk cX6_least 98 100 (.istore 8) 2 := by unfold dk; decide +kernel
theorem dX6_least_100 : dk cX6_least 100 102 (.iload 8) 2 := by unfold dk; decide +kernel
theorem dX6_least_102 : dk cX6_least 102 104 (.iload 4) 2 := by unfold dk; decide +kernel
theorem dX6_least_107 : dk cX6_least 107 108 (.iload_n 2) 1 := by unfold dk; decide +kernel
theorem dX6_least_111 : dk cX6_least 111 113 (.iload 7) 2 := by unfold dk; decide +kernel
theorem dX6_least_113 : dk cX6_least 113 114 (.aload_n 0) 1 := by unfold dk; decide +kernel
theorem dX6_least_114 : dk cX6_least 114 115 (.iload_n 2) 1 := by unfold dk; decide +kernel
theorem dX6_least_115 : dk cX6_least 115 118 (.invokevirtual 238) 3 := by unfold dk; decide +kernel
theorem dX6_least_118 : dk cX6_least 118 119 (.iadd) 1 := by unfold dk; decide +kernel
theorem dX6_least_119 : dk cX6_least 119 121 (.istore 7) 2 := by unfold dk; decide +kernel
theorem dX6_least_121 : dk cX6_least 121 124 (.iinc 2 (-1)) 3 := by unfold dk; decide +kernel
theorem dX6_least_124 : dk cX6_least 124 127 (.iinc 8 1) 3 := by unfold dk; decide +kernel
theorem dX6_least_127 : bk cX6_least 127 130 100 (.goto (-27)) (-27) := by unfold bk; decide +kernel
theorem dX6_least_108 : bk cX6_least 108 111 130 (.ifCond .le 22) (22) := by unfold bk; decide +kernel
theorem dX6_least_104 : bk cX6_least 104 107 130 (.if_icmp .ge 26) (26) := by unfold bk; decide +kernel
theorem dX6_least_130 : dk cX6_least 130 131 (.aload_n 0) 1 := by unfold dk; decide +kernel
theorem dX6_least_131 : dk cX6_least 131 134 (.getfield 50) 3 := by unfold dk; decide +kernel
theorem dX6_least_134 : dk cX6_least 134 135 (.iload_n 2) 1 := by unfold dk; decide +kernel
theorem dX6_least_135 : dk cX6_least 135 137 (.iload 7) 2 := by unfold dk; decide +kernel
theorem dX6_least_137 : dk cX6_least 137 138 (.iastore) 1 := by unfold dk; decide +kernel
theorem dX6_least_138 : dk cX6_least 138 141 (.iinc 2 1) 3 := by unfold dk; decide +kernel
theorem dX6_least_141 : dk cX6_least 141 143 (.iload 5) 2 := by unfold dk; decide +kernel
theorem dX6_least_143 : dk cX6_least 143 145 (.iload 7) 2 := by unfold dk; decide +kernel
theorem dX6_least_145 : dk cX6_least 145 146 (.iadd) 1 := by unfold dk; decide +kernel
theorem dX6_least_146 : dk cX6_least 146 148 (.istore 5) 2 := by unfold dk; decide +kernel
theorem dX6_least_148 : dk cX6_least 148 149 (.iload_n 1) 1 := by unfold dk; decide +kernel
theorem dX6_least_149 : dk cX6_least 149 151 (.istore 4) 2 := by unfold dk; decide +kernel
theorem dX6_least_151 : dk cX6_least 151 154 (.iinc 6 1) 3 := by unfold dk; decide +kernel
theorem dX6_least_154 : bk cX6_least 154 157 81 (.goto (-73)) (-73) := by unfold bk; decide +kernel
theorem dX6_least_91 : bk cX6_least 91 94 157 (.if_icmp .le 66) (66) := by unfold bk; decide +kernel
theorem dX6_least_86 : bk cX6_least 86 89 157 (.if_icmp .ge 71) (71) := by unfold bk; decide +kernel
theorem dX6_least_157 : dk cX6_least 157 159 (.iload 5) 2 := by unfold dk; decide +kernel
theorem dX6_least_159 : dk cX6_least 159 160 (.ireturn) 1 := by unfold dk; decide +kernel
theorem dX6_least_18 : bk cX6_least 18 21 23 (.if_icmp .ge 5) (5) := by unfold bk; decide +kernel
theorem dX6_least_7 : bk cX6_least 7 10 21 (.if_icmp .gt 14) (14) := by unfold bk; decide +kernel
theorem dX6_least_2 : bk cX6_least 2 5 21 (.if_icmp .lt 19) (19) := by unfold bk; decide +kernel
set_option maxHeartbeats 4000000 in
set_option maxRecDepth 100000 in
theorem kX6_least {l : Launch} {G : Gl} {E : En} {a0 : Nat} {a1 : Int32} {σ σ' : Sg} {r : Int32} : fX6_least E a0 a1 σ = some (r, σ') → CT l yX6_least cX6_least 9 (some .int) ({ frames := 1, cells := 0, slots := 0, locals := 60 } : Room) [.ref (G.1 + a0), .int a1] G E σ (some (.int r)) σ' := by
  intro h
  refine CT_of (lv0 := [(0, .ref (G.1 + a0)), (1, .int a1)]) (by decide) (Nat.le_of_ble_eq_true rfl) rfl (fun κ hl hR hr C => ?_)
  have C : Cx κ G cX6_least RX6 9 := C
  revert h
  unfold fX6_least
  refine R_tk (fun ha0 => ?_)
  refine R_iload_n C 1 rfl dX6_least_0 ?_
  refine R_iconst C (2) dX6_least_1 (by decide) ?_
  refine B_icmp_lt C dX6_least_2 ?_ ?_
  · refine R_iconst C (-1) dX6_least_21 (by decide) ?_
    exact R_iret C hr dX6_least_22
  · refine R_iload_n C 1 rfl dX6_least_5 ?_
    refine R_iconst C (5) dX6_least_6 (by decide) ?_
    refine B_icmp_gt C dX6_least_7 ?_ ?_
    · refine R_iconst C (-1) dX6_least_21 (by decide) ?_
      exact R_iret C hr dX6_least_22
    · refine R_aload_n C 0 rfl dX6_least_10 ?_
      refine R_dr (fun x1 rx1 cx1 => ?_)
      refine R_getr C fl6_16 rfl ha0 rx1 dX6_least_11 ?_
      refine R_geti C fl6_79 rfl cx1 dX6_least_14 ?_
      refine R_iconst C (1) dX6_least_17 (by decide) ?_
      refine B_icmp_ge C dX6_least_18 ?_ ?_
      · refine R_aload_n C 0 rfl dX6_least_23 ?_
        refine R_getr C fl6_16 rfl ha0 rx1 dX6_least_24 ?_
        refine R_dr (fun x2 rx2 cx2 => ?_)
        refine R_getr C fl6_115 rfl cx1 rx2 dX6_least_27 ?_
        refine R_geti C fl6_119 rfl cx2 dX6_least_30 ?_
        refine S_istore_n C dX6_least_33 rfl (fun v3 => [(2, .int v3), (0, .ref (G.1 + a0)), (1, .int a1)]) (by decide) (fun _ => rfl) (fun v3 => ?_)
        refine R_aload_n C 1 rfl dX6_least_34 ?_
        refine R_getr C fl6_16 rfl ha0 rx1 dX6_least_35 ?_
        refine R_getr C fl6_115 rfl cx1 rx2 dX6_least_38 ?_
        refine R_dr (fun x4 rx4 cx4 => ?_)
        refine R_getr C fl6_156 rfl cx2 rx4 dX6_least_41 ?_
        refine R_iconst C (0) dX6_least_44 (by decide) ?_
        refine R_aload_n C 1 rfl dX6_least_45 ?_
        refine R_dr (fun x5 rx5 cx5 => ?_)
        refine R_getr C fl6_50 rfl ha0 rx5 dX6_least_46 ?_
        refine R_iconst C (0) dX6_least_49 (by decide) ?_
        refine R_iload_n C 0 rfl dX6_least_50 ?_
        refine S_acopy C jd6_232 cx4 cx5 (by rw [hR]; exact ⟨Nat.le_of_ble_eq_true rfl, Nat.le_of_ble_eq_true rfl⟩) dX6_least_51 (fun s6 => ?_)
        refine R_iload_n C 0 rfl dX6_least_54 ?_
        refine R_iconst C (1) dX6_least_55 (by decide) ?_
        refine R_isub C dX6_least_56 ?_
        refine R_iload_n C 2 rfl dX6_least_57 ?_
        refine R_iconst C (1) dX6_least_58 (by decide) ?_
        refine R_isub C dX6_least_59 ?_
        refine R_nz (fun h7 => ?_)
        refine R_irem C dX6_least_60 h7 ?_
        refine S_istore_n C dX6_least_61 rfl (fun v8 => [(3, .int v8), (2, .int v3), (0, .ref (G.1 + a0)), (1, .int a1)]) (by decide) (fun _ => rfl) (fun v8 => ?_)
        refine R_iload_n C 0 rfl dX6_least_62 ?_
        refine R_bdK (fun (w : Int32) (s : Sg) => V κ G (QQ κ G E (some (.int r)) σ') E s (false, 0, 0) 73 [(2, .int v3), (0, .ref (G.1 + a0)), (1, .int a1)] [.int w]) (fun w9 s10 => ?_) (fun w9 s10 Kw9 => ?_)
        · refine R_istore (lv2 := [(4, .int w9), (2, .int v3), (0, .ref (G.1 + a0)), (1, .int a1)]) C dX6_least_73 (by decide) rfl ?_
          refine R_iconst C (0) dX6_least_75 (by decide) ?_
          refine R_istore (lv2 := [(5, .int (0 : Int32)), (4, .int w9), (2, .int v3), (0, .ref (G.1 + a0)), (1, .int a1)]) C dX6_least_76 (by decide) rfl ?_
          refine R_iconst C (0) dX6_least_78 (by decide) ?_
          refine R_istore (lv2 := [(6, .int (0 : Int32)), (5, .int (0 : Int32)), (4, .int w9), (2, .int v3), (0, .ref (G.1 + a0)), (1, .int a1)]) C dX6_least_79 (by decide) rfl ?_
          refine R_loc (lv2 := [(0, .ref (G.1 + a0)), (1, .int a1), (2, .int v3), (4, .int w9), (5, .int (0 : Int32)), (6, .int (0 : Int32))]) [4, 5, 3, 2, 1, 0] rfl ?_
          refine R_loop (fun (a : (Int32 × Int32 × Int32 × Int32) × Sg) => V κ G (QQ κ G E (some (.int r)) σ') E a.2 (false, 0, 0) 81 [(0, .ref (G.1 + a0)), (1, .int a1), (2, .int a.1.1), (4, .int a.1.2.1), (5, .int a.1.2.2.1), (6, .int a.1.2.2.2)] []) (fun (o : (Int32 × Int32 × Int32 × Int32)) (s : Sg) => V κ G (QQ κ G E (some (.int r)) σ') E s (false, 0, 0) 157 [(5, .int o.2.2.1)] []) ((v3, w9, (0 : Int32), (0 : Int32)), s10) (fun o41 s42 => ?_) (fun rec I19 a b17 s18 K16 => ?_)
          · refine R_iload C 0 rfl dX6_least_157 ?_
            exact R_iret C hr dX6_least_159
          · obtain ⟨⟨v11, v12, v13, v14⟩, s15⟩ := a
            show bX6_least_81 E a0 x5 a1 (fun u0 u1 u2 u3 t => rec ((u0, u1, u2, u3), t)) v11 v12 v13 v14 s15 = some (b17, s18) → V κ G (QQ κ G E (some (.int r)) σ') E s15 (false, 0, 0) 81 [(0, .ref (G.1 + a0)), (1, .int a1), (2, .int v11), (4, .int v12), (5, .int v13), (6, .int v14)] []
            unfold bX6_least_81
            refine R_iload C 5 rfl dX6_least_81 ?_
            refine R_sipush C (300) dX6_least_83 (by decide) ?_
            refine B_icmp_ge C dX6_least_86 ?_ ?_
            · refine R_loc (lv2 := [(5, .int v13)]) [4] rfl ?_
              exact R_end (fun (o : (Int32 × Int32 × Int32 × Int32)) (s : Sg) => V κ G (QQ κ G E (some (.int r)) σ') E s (false, 0, 0) 157 [(5, .int o.2.2.1)] []) K16
            · refine R_iload_n C 2 rfl dX6_least_89 ?_
              refine R_iconst C (1) dX6_least_90 (by decide) ?_
              refine B_icmp_le C dX6_least_91 ?_ ?_
              · refine R_loc (lv2 := [(5, .int v13)]) [4] rfl ?_
                exact R_end (fun (o : (Int32 × Int32 × Int32 × Int32)) (s : Sg) => V κ G (QQ κ G E (some (.int r)) σ') E s (false, 0, 0) 157 [(5, .int o.2.2.1)] []) K16
              · refine R_iconst C (0) dX6_least_94 (by decide) ?_
                refine R_istore (lv2 := [(7, .int (0 : Int32)), (0, .ref (G.1 + a0)), (1, .int a1), (2, .int v11), (4, .int v12), (5, .int v13), (6, .int v14)]) C dX6_least_95 (by decide) rfl ?_
                refine R_iconst C (0) dX6_least_97 (by decide) ?_
                refine R_istore (lv2 := [(8, .int (0 : Int32)), (7, .int (0 : Int32)), (0, .ref (G.1 + a0)), (1, .int a1), (2, .int v11), (4, .int v12), (5, .int v13), (6, .int v14)]) C dX6_least_98 (by decide) rfl ?_
                refine R_loc (lv2 := [(0, .ref (G.1 + a0)), (1, .int a1), (4, .int v12), (5, .int v13), (6, .int v14), (2, .int v11), (7, .int (0 : Int32)), (8, .int (0 : Int32))]) [2, 3, 5, 6, 7, 4, 1, 0] rfl ?_
                refine R_loop (fun (a : (Int32 × Int32 × Int32) × Sg) => V κ G (QQ κ G E (some (.int r)) σ') E a.2 (false, 0, 0) 100 [(0, .ref (G.1 + a0)), (1, .int a1), (4, .int v12), (5, .int v13), (6, .int v14), (2, .int a.1.1), (7, .int a.1.2.1), (8, .int a.1.2.2)] []) (fun (o : (Int32 × Int32 × Int32)) (s : Sg) => V κ G (QQ κ G E (some (.int r)) σ') E s (false, 0, 0) 130 [(0, .ref (G.1 + a0)), (1, .int a1), (5, .int v13), (6, .int v14), (2, .int o.1), (7, .int o.2.1)] []) ((v11, (0 : Int32), (0 : Int32)), s15) (fun o34 s35 => ?_) (fun rec I27 a b25 s26 K24 => ?_)
                · refine R_aload_n C 0 rfl dX6_least_130 ?_
                  refine R_getr C fl6_50 rfl ha0 rx5 dX6_least_131 ?_
                  refine R_iload_n C 4 rfl dX6_least_134 ?_
                  refine R_iload C 5 rfl dX6_least_135 ?_
                  refine R_ck (fun h36 => ?_)
                  refine S_iast C cx5 h36 dX6_least_137 (fun s37 => ?_)
                  refine S_iinc (fun v38 => [(2, .int v38), (0, .ref (G.1 + a0)), (1, .int a1), (5, .int v13), (6, .int v14), (7, .int o34.2.1)]) 4 C dX6_least_138 rfl (by decide) (by decide) (fun _ => rfl) (fun v38 => ?_)
                  refine R_iload C 3 rfl dX6_least_141 ?_
                  refine R_iload C 5 rfl dX6_least_143 ?_
                  refine R_iadd C dX6_least_145 ?_
                  refine S_istore C dX6_least_146 (fun v39 => [(5, .int v39), (2, .int v38), (0, .ref (G.1 + a0)), (1, .int a1), (6, .int v14), (7, .int o34.2.1)]) (by decide) (fun _ => rfl) (fun v39 => ?_)
                  refine R_iload_n C 3 rfl dX6_least_148 ?_
                  refine R_istore (lv2 := [(4, .int a1), (5, .int v39), (2, .int v38), (0, .ref (G.1 + a0)), (1, .int a1), (6, .int v14), (7, .int o34.2.1)]) C dX6_least_149 (by decide) rfl ?_
                  refine S_iinc (fun v40 => [(6, .int v40), (4, .int a1), (5, .int v39), (2, .int v38), (0, .ref (G.1 + a0)), (1, .int a1), (7, .int o34.2.1)]) 5 C dX6_least_151 rfl (by decide) (by decide) (fun _ => rfl) (fun v40 => ?_)
                  refine R_goto C dX6_least_154 ?_
                  refine R_loc (lv2 := [(0, .ref (G.1 + a0)), (1, .int a1), (2, .int v38), (4, .int a1), (5, .int v39), (6, .int v40)]) [4, 5, 3, 1, 2, 0] rfl ?_
                  exact I19 ((v38, a1, v39, v40), s37) b17 s18 K16
                · obtain ⟨⟨v20, v21, v22⟩, s23⟩ := a
                  show bX6_least_100 E v12 a0 (fun u0 u1 u2 t => rec ((u0, u1, u2), t)) v20 v21 v22 s23 = some (b25, s26) → V κ G (QQ κ G E (some (.int r)) σ') E s23 (false, 0, 0) 100 [(0, .ref (G.1 + a0)), (1, .int a1), (4, .int v12), (5, .int v13), (6, .int v14), (2, .int v20), (7, .int v21), (8, .int v22)] []
                  unfold bX6_least_100
                  refine R_iload C 7 rfl dX6_least_100 ?_
                  refine R_iload C 2 rfl dX6_least_102 ?_
                  refine B_icmp_ge C dX6_least_104 ?_ ?_
                  · refine R_loc (lv2 := [(0, .ref (G.1 + a0)), (1, .int a1), (5, .int v13), (6, .int v14), (2, .int v20), (7, .int v21)]) [0, 1, 3, 4, 5, 6] rfl ?_
                    exact R_end (fun (o : (Int32 × Int32 × Int32)) (s : Sg) => V κ G (QQ κ G E (some (.int r)) σ') E s (false, 0, 0) 130 [(0, .ref (G.1 + a0)), (1, .int a1), (5, .int v13), (6, .int v14), (2, .int o.1), (7, .int o.2.1)] []) K24
                  · refine R_iload_n C 5 rfl dX6_least_107 ?_
                    refine B_if_le C dX6_least_108 ?_ ?_
                    · refine R_loc (lv2 := [(0, .ref (G.1 + a0)), (1, .int a1), (5, .int v13), (6, .int v14), (2, .int v20), (7, .int v21)]) [0, 1, 3, 4, 5, 6] rfl ?_
                      exact R_end (fun (o : (Int32 × Int32 × Int32)) (s : Sg) => V κ G (QQ κ G E (some (.int r)) σ') E s (false, 0, 0) 130 [(0, .ref (G.1 + a0)), (1, .int a1), (5, .int v13), (6, .int v14), (2, .int o.1), (7, .int o.2.1)] []) K24
                    · refine R_iload C 6 rfl dX6_least_111 ?_
                      refine R_aload_n C 0 rfl dX6_least_113 ?_
                      refine R_iload_n C 5 rfl dX6_least_114 ?_
                      refine R_bd (fun r30 s28 q29 => ?_)
                      refine R_callVi [.int v20] [.int v21] C ml6_238 (kX6_takeLightest q29) (by rw [hR]; exact ⟨rfl, rfl, Nat.le_of_ble_eq_true rfl, Nat.le_of_ble_eq_true rfl, Nat.zero_le _, Nat.zero_le _⟩) ha0 rfl rfl (Nat.le_of_ble_eq_true rfl) dX6_least_115 ?_
                      refine R_iadd C dX6_least_118 ?_
                      refine S_istore C dX6_least_119 (fun v31 => [(7, .int v31), (0, .ref (G.1 + a0)), (1, .int a1), (4, .int v12), (5, .int v13), (6, .int v14), (2, .int v20), (8, .int v22)]) (by decide) (fun _ => rfl) (fun v31 => ?_)
                      refine S_iinc (fun v32 => [(2, .int v32), (7, .int v31), (0, .ref (G.1 + a0)), (1, .int a1), (4, .int v12), (5, .int v13), (6, .int v14), (8, .int v22)]) 6 C dX6_least_121 rfl (by decide) (by decide) (fun _ => rfl) (fun v32 => ?_)
                      refine S_iinc (fun v33 => [(8, .int v33), (2, .int v32), (7, .int v31), (0, .ref (G.1 + a0)), (1, .int a1), (4, .int v12), (5, .int v13), (6, .int v14)]) 7 C dX6_least_124 rfl (by decide) (by decide) (fun _ => rfl) (fun v33 => ?_)
                      refine R_goto C dX6_least_127 ?_
                      refine R_loc (lv2 := [(0, .ref (G.1 + a0)), (1, .int a1), (4, .int v12), (5, .int v13), (6, .int v14), (2, .int v32), (7, .int v31), (8, .int v33)]) [3, 4, 5, 6, 7, 1, 2, 0] rfl ?_
                      exact I27 ((v32, v31, v33), s28) b25 s26 K24
        · refine B_if_ne C dX6_least_63 ?_ ?_
          · refine R_iload_n C 0 rfl dX6_least_70 ?_
            refine R_iconst C (1) dX6_least_71 (by decide) ?_
            refine R_iadd C dX6_least_72 ?_
            refine R_loc (lv2 := [(2, .int v3), (0, .ref (G.1 + a0)), (1, .int a1)]) [1, 2, 3] rfl ?_
            exact R_end (fun (w : Int32) (s : Sg) => V κ G (QQ κ G E (some (.int r)) σ') E s (false, 0, 0) 73 [(2, .int v3), (0, .ref (G.1 + a0)), (1, .int a1)] [.int w]) Kw9
          · refine R_iload_n C 3 rfl dX6_least_66 ?_
            refine R_goto C dX6_least_67 ?_
            refine R_loc (lv2 := [(2, .int v3), (0, .ref (G.1 + a0)), (1, .int a1)]) [1, 2, 3] rfl ?_
            exact R_end (fun (w : Int32) (s : Sg) => V κ G (QQ κ G E (some (.int r)) σ') E s (false, 0, 0) 73 [(2, .int v3), (0, .ref (G.1 + a0)), (1, .int a1)] [.int w]) Kw9
      · refine R_iconst C (-1) dX6_least_21 (by decide) ?_
        exact R_iret C hr dX6_least_22
theorem dX6_depth_0 : dk cX6_depth 0 1 (.aload_n 0) 1 := by unfold dk; decide +kernel
theorem dX6_depth_1 : dk cX6_depth 1 2 (.iload_n 1) 1 := by unfold dk; decide +kernel
theorem dX6_depth_2 : dk cX6_depth 2 5 (.invokevirtual 149) 3 := by unfold dk; decide +kernel
theorem dX6_depth_15 : dk cX6_depth 15 16 (.iconst (-1)) 1 := by unfold dk; decide +kernel
theorem dX6_depth_16 : dk cX6_depth 16 17 (.ireturn) 1 := by unfold dk; decide +kernel
theorem dX6_depth_8 : dk cX6_depth 8 9 (.aload_n 0) 1 := by unfold dk; decide +kernel
theorem dX6_depth_9 : dk cX6_depth 9 12 (.invokevirtual 122) 3 := by unfold dk; decide +kernel
theorem dX6_depth_17 : dk cX6_depth 17 18 (.aload_n 0) 1 := by unfold dk; decide +kernel
theorem dX6_depth_18 : dk cX6_depth 18 21 (.invokevirtual 215) 3 := by unfold dk; decide +kernel
theorem dX6_depth_21 : dk cX6_depth 21 22 (.iload_n 1) 1 := by unfold dk; decide +kernel
theorem dX6_depth_22 : dk cX6_depth 22 23 (.istore_n 2) 1 := by unfold dk; decide +kernel
theorem dX6_depth_23 : dk cX6_depth 23 24 (.iconst 0) 1 := by unfold dk; decide +kernel
theorem dX6_depth_24 : dk cX6_depth 24 25 (.istore_n 3) 1 := by unfold dk; decide +kernel
theorem dX6_depth_25 : dk cX6_depth 25 26 (.iconst 0) 1 := by unfold dk; decide +kernel
theorem dX6_depth_26 : dk cX6_depth 26 28 (.istore 4) 2 := by unfold dk; decide +kernel
theorem dX6_depth_28 : dk cX6_depth 28 30 (.iload 4) 2 := by unfold dk; decide +kernel
theorem dX6_depth_30 : dk cX6_depth 30 32 (.ldc 142) 2 := by unfold dk; decide +kernel
theorem dX6_depth_35 : dk cX6_depth 35 36 (.aload_n 0) 1 := by unfold dk; decide +kernel
theorem dX6_depth_36 : dk cX6_depth 36 39 (.getfield 39) 3 := by unfold dk; decide +kernel
theorem dX6_depth_39 : dk cX6_depth 39 42 (.getfield 241) 3 := by unfold dk; decide +kernel
theorem dX6_depth_42 : dk cX6_depth 42 43 (.iconst 1) 1 := by unfold dk; decide +kernel
theorem dX6_depth_46 : dk cX6_depth 46 47 (.aload_n 0) 1 := by unfold dk; decide +kernel
theorem dX6_depth_47 : dk cX6_depth 47 50 (.getfield 39) 3 := by unfold dk; decide +kernel
theorem dX6_depth_50 : dk cX6_depth 50 53 (.invokevirtual 244) 3 := by unfold dk; decide +kernel
theorem dX6_depth_53 : dk cX6_depth 53 54 (.aload_n 0) 1 := by unfold dk; decide +kernel
theorem dX6_depth_54 : dk cX6_depth 54 57 (.getfield 39) 3 := by unfold dk; decide +kernel
theorem dX6_depth_57 : dk cX6_depth 57 58 (.iload_n 2) 1 := by unfold dk; decide +kernel
theorem dX6_depth_58 : dk cX6_depth 58 61 (.invokevirtual 247) 3 := by unfold dk; decide +kernel
theorem dX6_depth_61 : dk cX6_depth 61 62 (.iconst (-1)) 1 := by unfold dk; decide +kernel
theorem dX6_depth_62 : bk cX6_depth 62 65 76 (.if_icmp .eq 14) (14) := by unfold bk; decide +kernel
theorem dX6_depth_65 : dk cX6_depth 65 66 (.aload_n 0) 1 := by unfold dk; decide +kernel
theorem dX6_depth_66 : dk cX6_depth 66 69 (.getfield 39) 3 := by unfold dk; decide +kernel
theorem dX6_depth_69 : dk cX6_depth 69 72 (.getfield 250) 3 := by unfold dk; decide +kernel
theorem dX6_depth_72 : dk cX6_depth 72 73 (.istore_n 2) 1 := by unfold dk; decide +kernel
theorem dX6_depth_73 : dk cX6_depth 73 76 (.iinc 3 1) 3 := by unfold dk; decide +kernel
theorem dX6_depth_76 : dk cX6_depth 76 79 (.iinc 4 1) 3 := by unfold dk; decide +kernel
theorem dX6_depth_79 : bk cX6_depth 79 82 28 (.goto (-51)) (-51) := by unfold bk; decide +kernel
theorem dX6_depth_43 : bk cX6_depth 43 46 82 (.if_icmp .le 39) (39) := by unfold bk; decide +kernel
theorem dX6_depth_32 : bk cX6_depth 32 35 82 (.if_icmp .ge 50) (50) := by unfold bk; decide +kernel
theorem dX6_depth_82 : dk cX6_depth 82 83 (.iload_n 3) 1 := by unfold dk; decide +kernel
theorem dX6_depth_83 : dk cX6_depth 83 84 (.ireturn) 1 := by unfold dk; decide +kernel
theorem dX6_depth_12 : bk cX6_depth 12 15 17 (.ifCond .ne 5) (5) := by unfold bk; decide +kernel
theorem dX6_depth_5 : bk cX6_depth 5 8 15 (.ifCond .eq 10) (10) := by unfold bk; decide +kernel
set_option maxHeartbeats 4000000 in
set_option maxRecDepth 100000 in
theorem kX6_depth {l : Launch} {G : Gl} {E : En} {a0 : Nat} {a1 : Int32} {σ σ' : Sg} {r : Int32} : fX6_depth E a0 a1 σ = some (r, σ') → CT l yX6_depth cX6_depth 5 (some .int) ({ frames := 6, cells := 0, slots := 0, locals := 132 } : Room) [.ref (G.1 + a0), .int a1] G E σ (some (.int r)) σ' := by
  intro h
  refine CT_of (lv0 := [(0, .ref (G.1 + a0)), (1, .int a1)]) (by decide) (Nat.le_of_ble_eq_true rfl) rfl (fun κ hl hR hr C => ?_)
  have C : Cx κ G cX6_depth RX6 5 := C
  revert h
  unfold fX6_depth
  refine R_tk (fun ha0 => ?_)
  refine R_aload_n C 0 rfl dX6_depth_0 ?_
  refine R_iload_n C 1 rfl dX6_depth_1 ?_
  refine R_bd (fun r3 s1 q2 => ?_)
  refine R_callVi [.int a1] [] C ml6_149 (kX6_isRun q2) (by rw [hR]; exact ⟨rfl, rfl, Nat.le_of_ble_eq_true rfl, Nat.le_of_ble_eq_true rfl, Nat.zero_le _, Nat.zero_le _⟩) ha0 rfl rfl (Nat.le_of_ble_eq_true rfl) dX6_depth_2 ?_
  refine B_if_eq C dX6_depth_5 ?_ ?_
  · refine R_iconst C (-1) dX6_depth_15 (by decide) ?_
    exact R_iret C hr dX6_depth_16
  · refine R_aload_n C 0 rfl dX6_depth_8 ?_
    refine R_bd (fun r6 s4 q5 => ?_)
    refine R_callVi [] [] C ml6_122 (kX6_canPlan q5) (by rw [hR]; exact ⟨rfl, rfl, Nat.le_of_ble_eq_true rfl, Nat.le_of_ble_eq_true rfl, Nat.zero_le _, Nat.zero_le _⟩) ha0 rfl rfl (Nat.le_of_ble_eq_true rfl) dX6_depth_9 ?_
    refine B_if_ne C dX6_depth_12 ?_ ?_
    · refine R_aload_n C 0 rfl dX6_depth_17 ?_
      refine R_bv (fun s7 q8 => ?_)
      refine R_callVv [] [] C ml6_215 (kX6_beginPlan q8) (by rw [hR]; exact ⟨rfl, rfl, Nat.le_of_ble_eq_true rfl, Nat.le_of_ble_eq_true rfl, Nat.zero_le _, Nat.zero_le _⟩) ha0 rfl rfl (Nat.le_of_ble_eq_true rfl) dX6_depth_18 ?_
      refine R_iload_n C 1 rfl dX6_depth_21 ?_
      refine R_istore_n (lv2 := [(2, .int a1), (0, .ref (G.1 + a0)), (1, .int a1)]) C dX6_depth_22 rfl (by decide) rfl ?_
      refine R_iconst C (0) dX6_depth_23 (by decide) ?_
      refine R_istore_n (lv2 := [(3, .int (0 : Int32)), (2, .int a1), (0, .ref (G.1 + a0)), (1, .int a1)]) C dX6_depth_24 rfl (by decide) rfl ?_
      refine R_iconst C (0) dX6_depth_25 (by decide) ?_
      refine R_istore (lv2 := [(4, .int (0 : Int32)), (3, .int (0 : Int32)), (2, .int a1), (0, .ref (G.1 + a0)), (1, .int a1)]) C dX6_depth_26 (by decide) rfl ?_
      refine R_loc (lv2 := [(0, .ref (G.1 + a0)), (2, .int a1), (3, .int (0 : Int32)), (4, .int (0 : Int32))]) [3, 2, 1, 0] rfl ?_
      refine R_loop (fun (a : (Int32 × Int32 × Int32) × Sg) => V κ G (QQ κ G E (some (.int r)) σ') E a.2 (false, 0, 0) 28 [(0, .ref (G.1 + a0)), (2, .int a.1.1), (3, .int a.1.2.1), (4, .int a.1.2.2)] []) (fun (o : (Int32 × Int32 × Int32)) (s : Sg) => V κ G (QQ κ G E (some (.int r)) σ') E s (false, 0, 0) 82 [(3, .int o.2.1)] []) ((a1, (0 : Int32), (0 : Int32)), s7) (fun o28 s29 => ?_) (fun rec I16 a b14 s15 K13 => ?_)
      · refine R_iload_n C 0 rfl dX6_depth_82 ?_
        exact R_iret C hr dX6_depth_83
      · obtain ⟨⟨v9, v10, v11⟩, s12⟩ := a
        show bX6_depth_28 E a0 (fun u0 u1 u2 t => rec ((u0, u1, u2), t)) v9 v10 v11 s12 = some (b14, s15) → V κ G (QQ κ G E (some (.int r)) σ') E s12 (false, 0, 0) 28 [(0, .ref (G.1 + a0)), (2, .int v9), (3, .int v10), (4, .int v11)] []
        unfold bX6_depth_28
        refine R_iload C 3 rfl dX6_depth_28 ?_
        refine R_ldc C cs6_142 dX6_depth_30 ?_
        refine B_icmp_ge C dX6_depth_32 ?_ ?_
        · refine R_loc (lv2 := [(3, .int v10)]) [2] rfl ?_
          exact R_end (fun (o : (Int32 × Int32 × Int32)) (s : Sg) => V κ G (QQ κ G E (some (.int r)) σ') E s (false, 0, 0) 82 [(3, .int o.2.1)] []) K13
        · refine R_aload_n C 0 rfl dX6_depth_35 ?_
          refine R_dr (fun x17 rx17 cx17 => ?_)
          refine R_getr C fl6_39 rfl ha0 rx17 dX6_depth_36 ?_
          refine R_geti C fl6_241 rfl cx17 dX6_depth_39 ?_
          refine R_iconst C (1) dX6_depth_42 (by decide) ?_
          refine B_icmp_le C dX6_depth_43 ?_ ?_
          · refine R_loc (lv2 := [(3, .int v10)]) [2] rfl ?_
            exact R_end (fun (o : (Int32 × Int32 × Int32)) (s : Sg) => V κ G (QQ κ G E (some (.int r)) σ') E s (false, 0, 0) 82 [(3, .int o.2.1)] []) K13
          · refine R_aload_n C 0 rfl dX6_depth_46 ?_
            refine R_getr C fl6_39 rfl ha0 rx17 dX6_depth_47 ?_
            refine R_bv (fun s18 q19 => ?_)
            refine R_callVv [] [] C ml6_244 (kX1_advance q19) (by rw [hR]; exact ⟨rfl, rfl, Nat.le_of_ble_eq_true rfl, Nat.le_of_ble_eq_true rfl, Nat.zero_le _, Nat.zero_le _⟩) cx17 rfl rfl (Nat.le_of_ble_eq_true rfl) dX6_depth_50 ?_
            refine R_aload_n C 0 rfl dX6_depth_53 ?_
            refine R_getr C fl6_39 rfl ha0 rx17 dX6_depth_54 ?_
            refine R_iload_n C 1 rfl dX6_depth_57 ?_
            refine R_bd (fun r22 s20 q21 => ?_)
            refine R_callVi [.int v9] [] C ml6_247 (kX1_takenFrom q21) (by rw [hR]; exact ⟨rfl, rfl, Nat.le_of_ble_eq_true rfl, Nat.le_of_ble_eq_true rfl, Nat.zero_le _, Nat.zero_le _⟩) cx17 rfl rfl (Nat.le_of_ble_eq_true rfl) dX6_depth_58 ?_
            refine R_iconst C (-1) dX6_depth_61 (by decide) ?_
            refine R_bdK (fun (w : Int32 × Int32) (s : Sg) => V κ G (QQ κ G E (some (.int r)) σ') E s (false, 0, 0) 76 [(0, .ref (G.1 + a0)), (4, .int v11), (2, .int w.1), (3, .int w.2)] []) (fun w23 s24 => ?_) (fun w23 s24 Kw23 => ?_)
            · refine S_iinc (fun v27 => [(4, .int v27), (0, .ref (G.1 + a0)), (2, .int w23.1), (3, .int w23.2)]) 1 C dX6_depth_76 rfl (by decide) (by decide) (fun _ => rfl) (fun v27 => ?_)
              refine R_goto C dX6_depth_79 ?_
              refine R_loc (lv2 := [(0, .ref (G.1 + a0)), (2, .int w23.1), (3, .int w23.2), (4, .int v27)]) [1, 2, 3, 0] rfl ?_
              exact I16 ((w23.1, w23.2, v27), s24) b14 s15 K13
            · refine B_icmp_eq C dX6_depth_62 ?_ ?_
              · refine R_loc (lv2 := [(0, .ref (G.1 + a0)), (4, .int v11), (2, .int v9), (3, .int v10)]) [0, 3, 1, 2] rfl ?_
                exact R_end (fun (w : Int32 × Int32) (s : Sg) => V κ G (QQ κ G E (some (.int r)) σ') E s (false, 0, 0) 76 [(0, .ref (G.1 + a0)), (4, .int v11), (2, .int w.1), (3, .int w.2)] []) Kw23
              · refine R_aload_n C 0 rfl dX6_depth_65 ?_
                refine R_getr C fl6_39 rfl ha0 rx17 dX6_depth_66 ?_
                refine R_geti C fl6_250 rfl cx17 dX6_depth_69 ?_
                refine S_istore_n C dX6_depth_72 rfl (fun v25 => [(2, .int v25), (0, .ref (G.1 + a0)), (3, .int v10), (4, .int v11)]) (by decide) (fun _ => rfl) (fun v25 => ?_)
                refine S_iinc (fun v26 => [(3, .int v26), (2, .int v25), (0, .ref (G.1 + a0)), (4, .int v11)]) 2 C dX6_depth_73 rfl (by decide) (by decide) (fun _ => rfl) (fun v26 => ?_)
                refine R_loc (lv2 := [(0, .ref (G.1 + a0)), (4, .int v11), (2, .int v25), (3, .int v26)]) [2, 3, 1, 0] rfl ?_
                exact R_end (fun (w : Int32 × Int32) (s : Sg) => V κ G (QQ κ G E (some (.int r)) σ') E s (false, 0, 0) 76 [(0, .ref (G.1 + a0)), (4, .int v11), (2, .int w.1), (3, .int w.2)] []) Kw23
    · refine R_iconst C (-1) dX6_depth_15 (by decide) ?_
      exact R_iret C hr dX6_depth_16
theorem dX6_units_0 : dk cX6_units 0 1 (.iload_n 1) 1 := by unfold dk; decide +kernel
theorem dX6_units_22 : dk cX6_units 22 23 (.iconst (-1)) 1 := by unfold dk; decide +kernel
theorem dX6_units_23 : dk cX6_units 23 24 (.ireturn) 1 := by unfold dk; decide +kernel
theorem dX6_units_4 : dk cX6_units 4 5 (.iload_n 1) 1 := by unfold dk; decide +kernel
theorem dX6_units_5 : dk cX6_units 5 6 (.iconst 5) 1 := by unfold dk; decide +kernel
theorem dX6_units_9 : dk cX6_units 9 10 (.aload_n 0) 1 := by unfold dk; decide +kernel
theorem dX6_units_10 : dk cX6_units 10 13 (.getfield 16) 3 := by unfold dk; decide +kernel
theorem dX6_units_13 : dk cX6_units 13 16 (.getfield 103) 3 := by unfold dk; decide +kernel
theorem dX6_units_16 : dk cX6_units 16 17 (.iconst 2) 1 := by unfold dk; decide +kernel
theorem dX6_units_17 : dk cX6_units 17 18 (.iaload) 1 := by unfold dk; decide +kernel
theorem dX6_units_18 : dk cX6_units 18 19 (.iconst 1) 1 := by unfold dk; decide +kernel
theorem dX6_units_24 : dk cX6_units 24 25 (.aload_n 0) 1 := by unfold dk; decide +kernel
theorem dX6_units_25 : dk cX6_units 25 28 (.getfield 16) 3 := by unfold dk; decide +kernel
theorem dX6_units_28 : dk cX6_units 28 31 (.getfield 103) 3 := by unfold dk; decide +kernel
theorem dX6_units_31 : dk cX6_units 31 32 (.iconst 1) 1 := by unfold dk; decide +kernel
theorem dX6_units_32 : dk cX6_units 32 33 (.iaload) 1 := by unfold dk; decide +kernel
theorem dX6_units_33 : dk cX6_units 33 34 (.istore_n 2) 1 := by unfold dk; decide +kernel
theorem dX6_units_34 : dk cX6_units 34 35 (.aload_n 0) 1 := by unfold dk; decide +kernel
theorem dX6_units_35 : dk cX6_units 35 38 (.getfield 46) 3 := by unfold dk; decide +kernel
theorem dX6_units_38 : dk cX6_units 38 39 (.iload_n 1) 1 := by unfold dk; decide +kernel
theorem dX6_units_39 : dk cX6_units 39 40 (.aload_n 0) 1 := by unfold dk; decide +kernel
theorem dX6_units_40 : dk cX6_units 40 43 (.getfield 16) 3 := by unfold dk; decide +kernel
theorem dX6_units_43 : dk cX6_units 43 46 (.getfield 103) 3 := by unfold dk; decide +kernel
theorem dX6_units_46 : dk cX6_units 46 47 (.iconst 2) 1 := by unfold dk; decide +kernel
theorem dX6_units_47 : dk cX6_units 47 48 (.iaload) 1 := by unfold dk; decide +kernel
theorem dX6_units_48 : dk cX6_units 48 49 (.iload_n 2) 1 := by unfold dk; decide +kernel
theorem dX6_units_49 : dk cX6_units 49 50 (.iconst 1) 1 := by unfold dk; decide +kernel
theorem dX6_units_50 : dk cX6_units 50 51 (.isub) 1 := by unfold dk; decide +kernel
theorem dX6_units_51 : dk cX6_units 51 54 (.invokevirtual 206) 3 := by unfold dk; decide +kernel
theorem dX6_units_54 : dk cX6_units 54 55 (.aload_n 0) 1 := by unfold dk; decide +kernel
theorem dX6_units_55 : dk cX6_units 55 58 (.getfield 46) 3 := by unfold dk; decide +kernel
theorem dX6_units_58 : dk cX6_units 58 61 (.invokevirtual 210) 3 := by unfold dk; decide +kernel
theorem dX6_units_61 : dk cX6_units 61 62 (.istore_n 3) 1 := by unfold dk; decide +kernel
theorem dX6_units_62 : dk cX6_units 62 63 (.aload_n 0) 1 := by unfold dk; decide +kernel
theorem dX6_units_63 : dk cX6_units 63 66 (.getfield 39) 3 := by unfold dk; decide +kernel
theorem dX6_units_66 : dk cX6_units 66 67 (.aload_n 0) 1 := by unfold dk; decide +kernel
theorem dX6_units_67 : dk cX6_units 67 70 (.getfield 16) 3 := by unfold dk; decide +kernel
theorem dX6_units_70 : dk cX6_units 70 73 (.getfield 103) 3 := by unfold dk; decide +kernel
theorem dX6_units_73 : dk cX6_units 73 74 (.iconst 2) 1 := by unfold dk; decide +kernel
theorem dX6_units_74 : dk cX6_units 74 75 (.iaload) 1 := by unfold dk; decide +kernel
theorem dX6_units_75 : dk cX6_units 75 76 (.iload_n 2) 1 := by unfold dk; decide +kernel
theorem dX6_units_76 : dk cX6_units 76 77 (.aload_n 0) 1 := by unfold dk; decide +kernel
theorem dX6_units_77 : dk cX6_units 77 80 (.getfield 16) 3 := by unfold dk; decide +kernel
theorem dX6_units_80 : dk cX6_units 80 83 (.getfield 103) 3 := by unfold dk; decide +kernel
theorem dX6_units_83 : dk cX6_units 83 84 (.iconst 4) 1 := by unfold dk; decide +kernel
theorem dX6_units_84 : dk cX6_units 84 85 (.iaload) 1 := by unfold dk; decide +kernel
theorem dX6_units_85 : dk cX6_units 85 86 (.iconst 1) 1 := by unfold dk; decide +kernel
theorem dX6_units_86 : bk cX6_units 86 89 93 (.if_icmp .ne 7) (7) := by unfold bk; decide +kernel
theorem dX6_units_93 : dk cX6_units 93 94 (.iconst 0) 1 := by unfold dk; decide +kernel
theorem dX6_units_89 : dk cX6_units 89 90 (.iconst 1) 1 := by unfold dk; decide +kernel
theorem dX6_units_90 : bk cX6_units 90 93 94 (.goto 4) (4) := by unfold bk; decide +kernel
theorem dX6_units_94 : dk cX6_units 94 97 (.invokevirtual 224) 3 := by unfold dk; decide +kernel
theorem dX6_units_97 : dk cX6_units 97 98 (.iconst 0) 1 := by unfold dk; decide +kernel
theorem dX6_units_98 : dk cX6_units 98 100 (.istore 4) 2 := by unfold dk; decide +kernel
theorem dX6_units_100 : dk cX6_units 100 102 (.iload 4) 2 := by unfold dk; decide +kernel
theorem dX6_units_102 : dk cX6_units 102 103 (.iload_n 3) 1 := by unfold dk; decide +kernel
theorem dX6_units_106 : dk cX6_units 106 107 (.aload_n 0) 1 := by unfold dk; decide +kernel
theorem dX6_units_107 : dk cX6_units 107 110 (.getfield 39) 3 := by unfold dk; decide +kernel
theorem dX6_units_110 : dk cX6_units 110 111 (.iconst 1) 1 := by unfold dk; decide +kernel
theorem dX6_units_111 : dk cX6_units 111 112 (.iconst 0) 1 := by unfold dk; decide +kernel
theorem dX6_units_112 : dk cX6_units 112 115 (.invokevirtual 253) 3 := by unfold dk; decide +kernel
theorem dX6_units_115 : dk cX6_units 115 118 (.iinc 4 1) 3 := by unfold dk; decide +kernel
theorem dX6_units_118 : bk cX6_units 118 121 100 (.goto (-18)) (-18) := by unfold bk; decide +kernel
theorem dX6_units_103 : bk cX6_units 103 106 121 (.if_icmp .ge 18) (18) := by unfold bk; decide +kernel
theorem dX6_units_121 : dk cX6_units 121 122 (.aload_n 0) 1 := by unfold dk; decide +kernel
theorem dX6_units_122 : dk cX6_units 122 125 (.getfield 39) 3 := by unfold dk; decide +kernel
theorem dX6_units_125 : dk cX6_units 125 126 (.iconst 0) 1 := by unfold dk; decide +kernel
theorem dX6_units_126 : dk cX6_units 126 129 (.invokevirtual 257) 3 := by unfold dk; decide +kernel
theorem dX6_units_129 : dk cX6_units 129 130 (.aload_n 0) 1 := by unfold dk; decide +kernel
theorem dX6_units_130 : dk cX6_units 130 133 (.getfield 39) 3 := by unfold dk; decide +kernel
theorem dX6_units_133 : dk cX6_units 133 136 (.invokevirtual 218) 3 := by unfold dk; decide +kernel
theorem dX6_units_136 : dk cX6_units 136 137 (.aload_n 0) 1 := by unfold dk; decide +kernel
theorem dX6_units_137 : dk cX6_units 137 140 (.getfield 39) 3 := by unfold dk; decide +kernel
theorem dX6_units_140 : dk cX6_units 140 143 (.getfield 132) 3 := by unfold dk; decide +kernel
theorem dX6_units_143 : dk cX6_units 143 144 (.iconst 0) 1 := by unfold dk; decide +kernel
theorem dX6_units_144 : dk cX6_units 144 145 (.iaload) 1 := by unfold dk; decide +kernel
theorem dX6_units_145 : dk cX6_units 145 146 (.ireturn) 1 := by unfold dk; decide +kernel
theorem dX6_units_19 : bk cX6_units 19 22 24 (.if_icmp .ne 5) (5) := by unfold bk; decide +kernel
theorem dX6_units_6 : bk cX6_units 6 9 22 (.if_icmp .gt 16) (16) := by unfold bk; decide +kernel
theorem dX6_units_1 : bk cX6_units 1 4 22 (.ifCond .lt 21) (21) := by unfold bk; decide +kernel
set_option maxHeartbeats 4000000 in
set_option maxRecDepth 100000 in
theorem kX6_units {l : Launch} {G : Gl} {E : En} {a0 : Nat} {a1 : Int32} {σ σ' : Sg} {r : Int32} : fX6_units E a0 a1 σ = some (r, σ') → CT l yX6_units cX6_units 5 (some .int) ({ frames := 6, cells := 0, slots := 0, locals := 128 } : Room) [.ref (G.1 + a0), .int a1] G E σ (some (.int r)) σ' := by
  intro h
  refine CT_of (lv0 := [(0, .ref (G.1 + a0)), (1, .int a1)]) (by decide) (Nat.le_of_ble_eq_true rfl) rfl (fun κ hl hR hr C => ?_)
  have C : Cx κ G cX6_units RX6 5 := C
  revert h
  unfold fX6_units
  refine R_tk (fun ha0 => ?_)
  refine R_iload_n C 1 rfl dX6_units_0 ?_
  refine B_if_lt C dX6_units_1 ?_ ?_
  · refine R_iconst C (-1) dX6_units_22 (by decide) ?_
    exact R_iret C hr dX6_units_23
  · refine R_iload_n C 1 rfl dX6_units_4 ?_
    refine R_iconst C (5) dX6_units_5 (by decide) ?_
    refine B_icmp_gt C dX6_units_6 ?_ ?_
    · refine R_iconst C (-1) dX6_units_22 (by decide) ?_
      exact R_iret C hr dX6_units_23
    · refine R_aload_n C 0 rfl dX6_units_9 ?_
      refine R_dr (fun x1 rx1 cx1 => ?_)
      refine R_getr C fl6_16 rfl ha0 rx1 dX6_units_10 ?_
      refine R_dr (fun x2 rx2 cx2 => ?_)
      refine R_getr C fl6_103 rfl cx1 rx2 dX6_units_13 ?_
      refine R_iconst C (2) dX6_units_16 (by decide) ?_
      refine R_ck (fun h3 => ?_)
      refine R_iald C cx2 h3 dX6_units_17 ?_
      refine R_iconst C (1) dX6_units_18 (by decide) ?_
      refine B_icmp_ne C dX6_units_19 ?_ ?_
      · refine R_aload_n C 0 rfl dX6_units_24 ?_
        refine R_getr C fl6_16 rfl ha0 rx1 dX6_units_25 ?_
        refine R_getr C fl6_103 rfl cx1 rx2 dX6_units_28 ?_
        refine R_iconst C (1) dX6_units_31 (by decide) ?_
        refine R_ck (fun h4 => ?_)
        refine R_iald C cx2 h4 dX6_units_32 ?_
        refine S_istore_n C dX6_units_33 rfl (fun v5 => [(2, .int v5), (0, .ref (G.1 + a0)), (1, .int a1)]) (by decide) (fun _ => rfl) (fun v5 => ?_)
        refine R_aload_n C 1 rfl dX6_units_34 ?_
        refine R_dr (fun x6 rx6 cx6 => ?_)
        refine R_getr C fl6_46 rfl ha0 rx6 dX6_units_35 ?_
        refine R_iload_n C 2 rfl dX6_units_38 ?_
        refine R_aload_n C 1 rfl dX6_units_39 ?_
        refine R_getr C fl6_16 rfl ha0 rx1 dX6_units_40 ?_
        refine R_getr C fl6_103 rfl cx1 rx2 dX6_units_43 ?_
        refine R_iconst C (2) dX6_units_46 (by decide) ?_
        refine R_ck (fun h7 => ?_)
        refine R_iald C cx2 h7 dX6_units_47 ?_
        refine R_iload_n C 0 rfl dX6_units_48 ?_
        refine R_iconst C (1) dX6_units_49 (by decide) ?_
        refine R_isub C dX6_units_50 ?_
        refine R_bv (fun s8 q9 => ?_)
        refine R_callVv [.int a1, .int (gi σ x2 (2 : Int32).toNatClampNeg), .int (v5 - (1 : Int32))] [] C ml6_206 (kX2_climbTo q9) (by rw [hR]; exact ⟨rfl, rfl, Nat.le_of_ble_eq_true rfl, Nat.le_of_ble_eq_true rfl, Nat.zero_le _, Nat.zero_le _⟩) cx6 rfl rfl (Nat.le_of_ble_eq_true rfl) dX6_units_51 ?_
        refine R_aload_n C 1 rfl dX6_units_54 ?_
        refine R_getr C fl6_46 rfl ha0 rx6 dX6_units_55 ?_
        refine R_bd (fun r12 s10 q11 => ?_)
        refine R_callVi [] [] C ml6_210 (kX2_together q11) (by rw [hR]; exact ⟨rfl, rfl, Nat.le_of_ble_eq_true rfl, Nat.le_of_ble_eq_true rfl, Nat.zero_le _, Nat.zero_le _⟩) cx6 rfl rfl (Nat.le_of_ble_eq_true rfl) dX6_units_58 ?_
        refine R_istore_n (lv2 := [(3, .int r12), (2, .int v5), (0, .ref (G.1 + a0)), (1, .int a1)]) C dX6_units_61 rfl (by decide) rfl ?_
        refine R_aload_n C 2 rfl dX6_units_62 ?_
        refine R_dr (fun x13 rx13 cx13 => ?_)
        refine R_getr C fl6_39 rfl ha0 rx13 dX6_units_63 ?_
        refine R_aload_n C 2 rfl dX6_units_66 ?_
        refine R_getr C fl6_16 rfl ha0 rx1 dX6_units_67 ?_
        refine R_getr C fl6_103 rfl cx1 rx2 dX6_units_70 ?_
        refine R_iconst C (2) dX6_units_73 (by decide) ?_
        refine R_ck (fun h14 => ?_)
        refine R_iald C cx2 h14 dX6_units_74 ?_
        refine R_iload_n C 1 rfl dX6_units_75 ?_
        refine R_aload_n C 2 rfl dX6_units_76 ?_
        refine R_getr C fl6_16 rfl ha0 rx1 dX6_units_77 ?_
        refine R_getr C fl6_103 rfl cx1 rx2 dX6_units_80 ?_
        refine R_iconst C (4) dX6_units_83 (by decide) ?_
        refine R_ck (fun h15 => ?_)
        refine R_iald C cx2 h15 dX6_units_84 ?_
        refine R_iconst C (1) dX6_units_85 (by decide) ?_
        refine R_bdK (fun (w : Int32) (s : Sg) => V κ G (QQ κ G E (some (.int r)) σ') E s (false, 0, 0) 94 [(3, .int r12), (0, .ref (G.1 + a0))] [.int w, .int v5, .int (gi s10 x2 (2 : Int32).toNatClampNeg), .ref (G.1 + x13)]) (fun w16 s17 => ?_) (fun w16 s17 Kw16 => ?_)
        · refine R_bv (fun s18 q19 => ?_)
          refine R_callVv [.int (gi s10 x2 (2 : Int32).toNatClampNeg), .int v5, .int w16] [] C ml6_224 (kX1_begin q19) (by rw [hR]; exact ⟨rfl, rfl, Nat.le_of_ble_eq_true rfl, Nat.le_of_ble_eq_true rfl, Nat.zero_le _, Nat.zero_le _⟩) cx13 rfl rfl (Nat.le_of_ble_eq_true rfl) dX6_units_94 ?_
          refine R_iconst C (0) dX6_units_97 (by decide) ?_
          refine R_istore (lv2 := [(4, .int (0 : Int32)), (3, .int r12), (0, .ref (G.1 + a0))]) C dX6_units_98 (by decide) rfl ?_
          refine R_loc (lv2 := [(3, .int r12), (0, .ref (G.1 + a0)), (4, .int (0 : Int32))]) [1, 2, 0] rfl ?_
          refine R_loop (fun (a : (Int32) × Sg) => V κ G (QQ κ G E (some (.int r)) σ') E a.2 (false, 0, 0) 100 [(3, .int r12), (0, .ref (G.1 + a0)), (4, .int a.1)] []) (fun (o : (Int32)) (s : Sg) => V κ G (QQ κ G E (some (.int r)) σ') E s (false, 0, 0) 121 [(0, .ref (G.1 + a0))] []) ((0 : Int32), s18) (fun o29 s30 => ?_) (fun rec I25 a b23 s24 K22 => ?_)
          · refine R_aload_n C 0 rfl dX6_units_121 ?_
            refine R_getr C fl6_39 rfl ha0 rx13 dX6_units_122 ?_
            refine R_iconst C (0) dX6_units_125 (by decide) ?_
            refine R_bv (fun s31 q32 => ?_)
            refine R_callVv [.int (0 : Int32)] [] C ml6_257 (kX1_layOut q32) (by rw [hR]; exact ⟨rfl, rfl, Nat.le_of_ble_eq_true rfl, Nat.le_of_ble_eq_true rfl, Nat.zero_le _, Nat.zero_le _⟩) cx13 rfl rfl (Nat.le_of_ble_eq_true rfl) dX6_units_126 ?_
            refine R_aload_n C 0 rfl dX6_units_129 ?_
            refine R_getr C fl6_39 rfl ha0 rx13 dX6_units_130 ?_
            refine R_bv (fun s33 q34 => ?_)
            refine R_callVv [] [] C ml6_218 (kX1_mergeAll q34) (by rw [hR]; exact ⟨rfl, rfl, Nat.le_of_ble_eq_true rfl, Nat.le_of_ble_eq_true rfl, Nat.zero_le _, Nat.zero_le _⟩) cx13 rfl rfl (Nat.le_of_ble_eq_true rfl) dX6_units_133 ?_
            refine R_aload_n C 0 rfl dX6_units_136 ?_
            refine R_getr C fl6_39 rfl ha0 rx13 dX6_units_137 ?_
            refine R_dr (fun x35 rx35 cx35 => ?_)
            refine R_getr C fl6_132 rfl cx13 rx35 dX6_units_140 ?_
            refine R_iconst C (0) dX6_units_143 (by decide) ?_
            refine R_ck (fun h36 => ?_)
            refine R_iald C cx35 h36 dX6_units_144 ?_
            exact R_iret C hr dX6_units_145
          · obtain ⟨v20, s21⟩ := a
            show bX6_units_100 E r12 x13 (fun u0 t => rec (u0, t)) v20 s21 = some (b23, s24) → V κ G (QQ κ G E (some (.int r)) σ') E s21 (false, 0, 0) 100 [(3, .int r12), (0, .ref (G.1 + a0)), (4, .int v20)] []
            unfold bX6_units_100
            refine R_iload C 2 rfl dX6_units_100 ?_
            refine R_iload_n C 0 rfl dX6_units_102 ?_
            refine B_icmp_ge C dX6_units_103 ?_ ?_
            · refine R_loc (lv2 := [(0, .ref (G.1 + a0))]) [1] rfl ?_
              exact R_end (fun (o : (Int32)) (s : Sg) => V κ G (QQ κ G E (some (.int r)) σ') E s (false, 0, 0) 121 [(0, .ref (G.1 + a0))] []) K22
            · refine R_aload_n C 1 rfl dX6_units_106 ?_
              refine R_getr C fl6_39 rfl ha0 rx13 dX6_units_107 ?_
              refine R_iconst C (1) dX6_units_110 (by decide) ?_
              refine R_iconst C (0) dX6_units_111 (by decide) ?_
              refine R_bv (fun s26 q27 => ?_)
              refine R_callVv [.int (1 : Int32), .int (0 : Int32)] [] C ml6_253 (kX1_load q27) (by rw [hR]; exact ⟨rfl, rfl, Nat.le_of_ble_eq_true rfl, Nat.le_of_ble_eq_true rfl, Nat.zero_le _, Nat.zero_le _⟩) cx13 rfl rfl (Nat.le_of_ble_eq_true rfl) dX6_units_112 ?_
              refine S_iinc (fun v28 => [(4, .int v28), (3, .int r12), (0, .ref (G.1 + a0))]) 2 C dX6_units_115 rfl (by decide) (by decide) (fun _ => rfl) (fun v28 => ?_)
              refine R_goto C dX6_units_118 ?_
              refine R_loc (lv2 := [(3, .int r12), (0, .ref (G.1 + a0)), (4, .int v28)]) [1, 2, 0] rfl ?_
              exact I25 (v28, s26) b23 s24 K22
        · refine B_icmp_ne C dX6_units_86 ?_ ?_
          · refine R_iconst C (0) dX6_units_93 (by decide) ?_
            refine R_loc (lv2 := [(3, .int r12), (0, .ref (G.1 + a0))]) [0, 2] rfl ?_
            exact R_end (fun (w : Int32) (s : Sg) => V κ G (QQ κ G E (some (.int r)) σ') E s (false, 0, 0) 94 [(3, .int r12), (0, .ref (G.1 + a0))] [.int w, .int v5, .int (gi s10 x2 (2 : Int32).toNatClampNeg), .ref (G.1 + x13)]) Kw16
          · refine R_iconst C (1) dX6_units_89 (by decide) ?_
            refine R_goto C dX6_units_90 ?_
            refine R_loc (lv2 := [(3, .int r12), (0, .ref (G.1 + a0))]) [0, 2] rfl ?_
            exact R_end (fun (w : Int32) (s : Sg) => V κ G (QQ κ G E (some (.int r)) σ') E s (false, 0, 0) 94 [(3, .int r12), (0, .ref (G.1 + a0))] [.int w, .int v5, .int (gi s10 x2 (2 : Int32).toNatClampNeg), .ref (G.1 + x13)]) Kw16
      · refine R_iconst C (-1) dX6_units_22 (by decide) ?_
        exact R_iret C hr dX6_units_23
