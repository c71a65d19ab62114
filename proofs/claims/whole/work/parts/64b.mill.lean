theorem dX1_gives_0 : dk cX1_gives 0 1 (.aload_n 0) 1 := by unfold dk; decide +kernel
theorem dX1_gives_1 : dk cX1_gives 1 4 (.getfield 17) 3 := by unfold dk; decide +kernel
theorem dX1_gives_4 : dk cX1_gives 4 5 (.iload_n 1) 1 := by unfold dk; decide +kernel
theorem dX1_gives_5 : dk cX1_gives 5 6 (.aaload) 1 := by unfold dk; decide +kernel
theorem dX1_gives_6 : dk cX1_gives 6 9 (.invokevirtual 136) 3 := by unfold dk; decide +kernel
theorem dX1_gives_14 : dk cX1_gives 14 15 (.aload_n 0) 1 := by unfold dk; decide +kernel
theorem dX1_gives_15 : dk cX1_gives 15 18 (.getfield 55) 3 := by unfold dk; decide +kernel
theorem dX1_gives_18 : dk cX1_gives 18 44 (.lookupswitch 66 #[(0, 26), (1, 40)]) 26 := by unfold dk; decide +kernel
theorem dX1_gives_44 : dk cX1_gives 44 45 (.iload_n 1) 1 := by unfold dk; decide +kernel
theorem dX1_gives_45 : dk cX1_gives 45 46 (.aload_n 0) 1 := by unfold dk; decide +kernel
theorem dX1_gives_46 : dk cX1_gives 46 49 (.getfield 74) 3 := by unfold dk; decide +kernel
theorem dX1_gives_49 : bk cX1_gives 49 52 56 (.if_icmp .eq 7) (7) := by unfold bk; decide +kernel
theorem dX1_gives_56 : dk cX1_gives 56 57 (.iconst 0) 1 := by unfold dk; decide +kernel
theorem dX1_gives_52 : dk cX1_gives 52 53 (.iconst 1) 1 := by unfold dk; decide +kernel
theorem dX1_gives_53 : bk cX1_gives 53 56 57 (.goto 4) (4) := by unfold bk; decide +kernel
theorem dX1_gives_57 : dk cX1_gives 57 58 (.ireturn) 1 := by unfold dk; decide +kernel
theorem dX1_gives_58 : dk cX1_gives 58 59 (.iload_n 1) 1 := by unfold dk; decide +kernel
theorem dX1_gives_59 : dk cX1_gives 59 60 (.aload_n 0) 1 := by unfold dk; decide +kernel
theorem dX1_gives_60 : dk cX1_gives 60 63 (.getfield 9) 3 := by unfold dk; decide +kernel
theorem dX1_gives_63 : bk cX1_gives 63 66 70 (.if_icmp .ge 7) (7) := by unfold bk; decide +kernel
theorem dX1_gives_70 : dk cX1_gives 70 71 (.iconst 0) 1 := by unfold dk; decide +kernel
theorem dX1_gives_66 : dk cX1_gives 66 67 (.iconst 1) 1 := by unfold dk; decide +kernel
theorem dX1_gives_67 : bk cX1_gives 67 70 71 (.goto 4) (4) := by unfold bk; decide +kernel
theorem dX1_gives_71 : dk cX1_gives 71 72 (.aload_n 0) 1 := by unfold dk; decide +kernel
theorem dX1_gives_72 : dk cX1_gives 72 75 (.getfield 77) 3 := by unfold dk; decide +kernel
theorem dX1_gives_75 : bk cX1_gives 75 78 82 (.if_icmp .ne 7) (7) := by unfold bk; decide +kernel
theorem dX1_gives_82 : dk cX1_gives 82 83 (.iconst 0) 1 := by unfold dk; decide +kernel
theorem dX1_gives_78 : dk cX1_gives 78 79 (.iconst 1) 1 := by unfold dk; decide +kernel
theorem dX1_gives_79 : bk cX1_gives 79 82 83 (.goto 4) (4) := by unfold bk; decide +kernel
theorem dX1_gives_83 : dk cX1_gives 83 84 (.ireturn) 1 := by unfold dk; decide +kernel
theorem dX1_gives_84 : dk cX1_gives 84 85 (.aload_n 0) 1 := by unfold dk; decide +kernel
theorem dX1_gives_85 : dk cX1_gives 85 88 (.getfield 21) 3 := by unfold dk; decide +kernel
theorem dX1_gives_88 : dk cX1_gives 88 89 (.iload_n 1) 1 := by unfold dk; decide +kernel
theorem dX1_gives_89 : dk cX1_gives 89 90 (.baload) 1 := by unfold dk; decide +kernel
theorem dX1_gives_90 : dk cX1_gives 90 91 (.ireturn) 1 := by unfold dk; decide +kernel
theorem dX1_gives_12 : dk cX1_gives 12 13 (.iconst 0) 1 := by unfold dk; decide +kernel
theorem dX1_gives_13 : dk cX1_gives 13 14 (.ireturn) 1 := by unfold dk; decide +kernel
theorem dX1_gives_9 : bk cX1_gives 9 12 14 (.ifCond .ne 5) (5) := by unfold bk; decide +kernel
set_option maxHeartbeats 4000000 in
set_option maxRecDepth 100000 in
theorem kX1_gives {l : Launch} {G : Gl} {E : En} {a0 : Nat} {a1 : Int32} {σ σ' : Sg} {r : Int32} : fX1_gives E a0 a1 σ = some (r, σ') → CT l yX1_gives cX1_gives 2 (some .boolean) ({ frames := 1, cells := 0, slots := 0, locals := 20 } : Room) [.ref (G.1 + a0), .int a1] G E σ (some (.int r)) σ' := by
  intro h
  refine CT_of (lv0 := [(0, .ref (G.1 + a0)), (1, .int a1)]) (by decide) (Nat.le_of_ble_eq_true rfl) rfl (fun κ hl hR hr C => ?_)
  have C : Cx κ G cX1_gives RX1 2 := C
  revert h
  unfold fX1_gives
  refine R_tk (fun ha0 => ?_)
  refine R_aload_n C 0 rfl dX1_gives_0 ?_
  refine R_dr (fun x1 rx1 cx1 => ?_)
  refine R_getr C fl1_17 rfl ha0 rx1 dX1_gives_1 ?_
  refine R_iload_n C 1 rfl dX1_gives_4 ?_
  refine R_ck (fun h2 => ?_)
  refine R_dr (fun x3 rx3 cx3 => ?_)
  refine R_aald4 C cx1 h2 rx3 dX1_gives_5 ?_
  refine R_bd (fun r6 s4 q5 => ?_)
  refine R_callVi [] [] C ml1_136 (kX5_size q5) (by rw [hR]; exact ⟨rfl, rfl, Nat.le_of_ble_eq_true rfl, Nat.le_of_ble_eq_true rfl, Nat.zero_le _, Nat.zero_le _⟩) cx3 rfl rfl (Nat.le_of_ble_eq_true rfl) dX1_gives_6 ?_
  refine B_if_ne C dX1_gives_9 ?_ ?_
  · refine R_aload_n C 0 rfl dX1_gives_14 ?_
    refine R_geti C fl1_55 rfl ha0 dX1_gives_15 ?_
    refine R_if (fun h7 => ?_) (fun h7 => ?_)
    · refine R_lks (off := 26) (t := 44) C dX1_gives_18 (by decide) (by rw [h7]; decide) (by decide) ?_
      refine R_iload_n C 1 rfl dX1_gives_44 ?_
      refine R_aload_n C 0 rfl dX1_gives_45 ?_
      refine R_geti C fl1_74 rfl ha0 dX1_gives_46 ?_
      refine R_bdK (fun (w : Int32) (s : Sg) => V κ G (QQ κ G E (some (.int r)) σ') E s (false, 0, 0) 57 [] [.int w]) (fun w8 s9 => ?_) (fun w8 s9 Kw8 => ?_)
      · refine R_kb (fun h10 => ?_)
        exact R_zret C hr h10 dX1_gives_57
      · refine B_icmp_eq C dX1_gives_49 ?_ ?_
        · refine R_iconst C (0) dX1_gives_56 (by decide) ?_
          refine R_loc (lv2 := []) [] rfl ?_
          exact R_end (fun (w : Int32) (s : Sg) => V κ G (QQ κ G E (some (.int r)) σ') E s (false, 0, 0) 57 [] [.int w]) Kw8
        · refine R_iconst C (1) dX1_gives_52 (by decide) ?_
          refine R_goto C dX1_gives_53 ?_
          refine R_loc (lv2 := []) [] rfl ?_
          exact R_end (fun (w : Int32) (s : Sg) => V κ G (QQ κ G E (some (.int r)) σ') E s (false, 0, 0) 57 [] [.int w]) Kw8
    refine R_if (fun h11 => ?_) (fun h11 => ?_)
    · refine R_lks (off := 40) (t := 58) C dX1_gives_18 (by decide) (by rw [h11]; decide) (by decide) ?_
      refine R_iload_n C 1 rfl dX1_gives_58 ?_
      refine R_aload_n C 0 rfl dX1_gives_59 ?_
      refine R_geti C fl1_9 rfl ha0 dX1_gives_60 ?_
      refine R_bdK (fun (w : Int32) (s : Sg) => V κ G (QQ κ G E (some (.int r)) σ') E s (false, 0, 0) 71 [(0, .ref (G.1 + a0))] [.int w]) (fun w12 s13 => ?_) (fun w12 s13 Kw12 => ?_)
      · refine R_aload_n C 0 rfl dX1_gives_71 ?_
        refine R_geti C fl1_77 rfl ha0 dX1_gives_72 ?_
        refine R_bdK (fun (w : Int32) (s : Sg) => V κ G (QQ κ G E (some (.int r)) σ') E s (false, 0, 0) 83 [] [.int w]) (fun w14 s15 => ?_) (fun w14 s15 Kw14 => ?_)
        · refine R_kb (fun h16 => ?_)
          exact R_zret C hr h16 dX1_gives_83
        · refine B_icmp_ne C dX1_gives_75 ?_ ?_
          · refine R_iconst C (0) dX1_gives_82 (by decide) ?_
            refine R_loc (lv2 := []) [] rfl ?_
            exact R_end (fun (w : Int32) (s : Sg) => V κ G (QQ κ G E (some (.int r)) σ') E s (false, 0, 0) 83 [] [.int w]) Kw14
          · refine R_iconst C (1) dX1_gives_78 (by decide) ?_
            refine R_goto C dX1_gives_79 ?_
            refine R_loc (lv2 := []) [] rfl ?_
            exact R_end (fun (w : Int32) (s : Sg) => V κ G (QQ κ G E (some (.int r)) σ') E s (false, 0, 0) 83 [] [.int w]) Kw14
      · refine B_icmp_ge C dX1_gives_63 ?_ ?_
        · refine R_iconst C (0) dX1_gives_70 (by decide) ?_
          refine R_loc (lv2 := [(0, .ref (G.1 + a0))]) [0] rfl ?_
          exact R_end (fun (w : Int32) (s : Sg) => V κ G (QQ κ G E (some (.int r)) σ') E s (false, 0, 0) 71 [(0, .ref (G.1 + a0))] [.int w]) Kw12
        · refine R_iconst C (1) dX1_gives_66 (by decide) ?_
          refine R_goto C dX1_gives_67 ?_
          refine R_loc (lv2 := [(0, .ref (G.1 + a0))]) [0] rfl ?_
          exact R_end (fun (w : Int32) (s : Sg) => V κ G (QQ κ G E (some (.int r)) σ') E s (false, 0, 0) 71 [(0, .ref (G.1 + a0))] [.int w]) Kw12
    · refine R_lks (off := 66) (t := 84) C dX1_gives_18 (by decide) (by show Op.lookupswitch.offset [(0, 26), (1, 40)] 66 _ = _; rw [lv_osw h7 (by decide)]; rw [lv_osw h11 (by decide)]; rfl) (by decide) ?_
      refine R_aload_n C 0 rfl dX1_gives_84 ?_
      refine R_dr (fun x17 rx17 cx17 => ?_)
      refine R_getr C fl1_21 rfl ha0 rx17 dX1_gives_85 ?_
      refine R_iload_n C 1 rfl dX1_gives_88 ?_
      refine R_ck (fun h18 => ?_)
      refine R_zald C cx17 h18 dX1_gives_89 ?_
      refine R_kb (fun h19 => ?_)
      exact R_zret C hr h19 dX1_gives_90
  · refine R_iconst C (0) dX1_gives_12 (by decide) ?_
    exact R_zret C hr (Or.inl rfl) dX1_gives_13
theorem dX1_look_0 : dk cX1_look 0 1 (.aload_n 0) 1 := by unfold dk; decide +kernel
theorem dX1_look_1 : dk cX1_look 1 2 (.iconst (-1)) 1 := by unfold dk; decide +kernel
theorem dX1_look_2 : dk cX1_look 2 5 (.putfield 139) 3 := by unfold dk; decide +kernel
theorem dX1_look_5 : dk cX1_look 5 6 (.iconst 0) 1 := by unfold dk; decide +kernel
theorem dX1_look_6 : dk cX1_look 6 7 (.istore_n 1) 1 := by unfold dk; decide +kernel
theorem dX1_look_7 : dk cX1_look 7 8 (.iload_n 1) 1 := by unfold dk; decide +kernel
theorem dX1_look_8 : dk cX1_look 8 9 (.aload_n 0) 1 := by unfold dk; decide +kernel
theorem dX1_look_9 : dk cX1_look 9 12 (.getfield 58) 3 := by unfold dk; decide +kernel
theorem dX1_look_15 : dk cX1_look 15 16 (.aload_n 0) 1 := by unfold dk; decide +kernel
theorem dX1_look_16 : dk cX1_look 16 19 (.getfield 29) 3 := by unfold dk; decide +kernel
theorem dX1_look_19 : dk cX1_look 19 20 (.iload_n 1) 1 := by unfold dk; decide +kernel
theorem dX1_look_20 : dk cX1_look 20 21 (.aload_n 0) 1 := by unfold dk; decide +kernel
theorem dX1_look_21 : dk cX1_look 21 22 (.iload_n 1) 1 := by unfold dk; decide +kernel
theorem dX1_look_22 : dk cX1_look 22 25 (.invokevirtual 142) 3 := by unfold dk; decide +kernel
theorem dX1_look_25 : bk cX1_look 25 28 45 (.ifCond .eq 20) (20) := by unfold bk; decide +kernel
theorem dX1_look_45 : dk cX1_look 45 47 (.bipush (-2)) 2 := by unfold dk; decide +kernel
theorem dX1_look_28 : dk cX1_look 28 29 (.aload_n 0) 1 := by unfold dk; decide +kernel
theorem dX1_look_29 : dk cX1_look 29 32 (.getfield 17) 3 := by unfold dk; decide +kernel
theorem dX1_look_32 : dk cX1_look 32 33 (.iload_n 1) 1 := by unfold dk; decide +kernel
theorem dX1_look_33 : dk cX1_look 33 34 (.aaload) 1 := by unfold dk; decide +kernel
theorem dX1_look_34 : dk cX1_look 34 35 (.iconst 0) 1 := by unfold dk; decide +kernel
theorem dX1_look_35 : dk cX1_look 35 36 (.aload_n 0) 1 := by unfold dk; decide +kernel
theorem dX1_look_36 : dk cX1_look 36 39 (.getfield 61) 3 := by unfold dk; decide +kernel
theorem dX1_look_39 : dk cX1_look 39 42 (.invokevirtual 146) 3 := by unfold dk; decide +kernel
theorem dX1_look_42 : bk cX1_look 42 45 47 (.goto 5) (5) := by unfold bk; decide +kernel
theorem dX1_look_47 : dk cX1_look 47 48 (.iastore) 1 := by unfold dk; decide +kernel
theorem dX1_look_48 : dk cX1_look 48 49 (.aload_n 0) 1 := by unfold dk; decide +kernel
theorem dX1_look_49 : dk cX1_look 49 52 (.getfield 139) 3 := by unfold dk; decide +kernel
theorem dX1_look_52 : dk cX1_look 52 53 (.iconst (-1)) 1 := by unfold dk; decide +kernel
theorem dX1_look_53 : bk cX1_look 53 56 75 (.if_icmp .ne 22) (22) := by unfold bk; decide +kernel
theorem dX1_look_56 : dk cX1_look 56 57 (.aload_n 0) 1 := by unfold dk; decide +kernel
theorem dX1_look_57 : dk cX1_look 57 60 (.getfield 29) 3 := by unfold dk; decide +kernel
theorem dX1_look_60 : dk cX1_look 60 61 (.iload_n 1) 1 := by unfold dk; decide +kernel
theorem dX1_look_61 : dk cX1_look 61 62 (.iaload) 1 := by unfold dk; decide +kernel
theorem dX1_look_65 : dk cX1_look 65 66 (.aload_n 0) 1 := by unfold dk; decide +kernel
theorem dX1_look_66 : dk cX1_look 66 67 (.aload_n 0) 1 := by unfold dk; decide +kernel
theorem dX1_look_67 : dk cX1_look 67 70 (.getfield 29) 3 := by unfold dk; decide +kernel
theorem dX1_look_70 : dk cX1_look 70 71 (.iload_n 1) 1 := by unfold dk; decide +kernel
theorem dX1_look_71 : dk cX1_look 71 72 (.iaload) 1 := by unfold dk; decide +kernel
theorem dX1_look_72 : dk cX1_look 72 75 (.putfield 139) 3 := by unfold dk; decide +kernel
theorem dX1_look_62 : bk cX1_look 62 65 75 (.ifCond .lt 13) (13) := by unfold bk; decide +kernel
theorem dX1_look_75 : dk cX1_look 75 78 (.iinc 1 1) 3 := by unfold dk; decide +kernel
theorem dX1_look_78 : bk cX1_look 78 81 7 (.goto (-71)) (-71) := by unfold bk; decide +kernel
theorem dX1_look_12 : bk cX1_look 12 15 81 (.if_icmp .ge 69) (69) := by unfold bk; decide +kernel
theorem dX1_look_81 : dk cX1_look 81 82 (.aload_n 0) 1 := by unfold dk; decide +kernel
theorem dX1_look_82 : dk cX1_look 82 83 (.aload_n 0) 1 := by unfold dk; decide +kernel
theorem dX1_look_83 : dk cX1_look 83 86 (.getfield 61) 3 := by unfold dk; decide +kernel
theorem dX1_look_86 : bk cX1_look 86 89 112 (.ifCond .eq 26) (26) := by unfold bk; decide +kernel
theorem dX1_look_112 : dk cX1_look 112 113 (.iconst 0) 1 := by unfold dk; decide +kernel
theorem dX1_look_89 : dk cX1_look 89 90 (.aload_n 0) 1 := by unfold dk; decide +kernel
theorem dX1_look_90 : dk cX1_look 90 93 (.getfield 139) 3 := by unfold dk; decide +kernel
theorem dX1_look_93 : dk cX1_look 93 94 (.iconst (-1)) 1 := by unfold dk; decide +kernel
theorem dX1_look_97 : dk cX1_look 97 98 (.aload_n 0) 1 := by unfold dk; decide +kernel
theorem dX1_look_98 : dk cX1_look 98 99 (.aload_n 0) 1 := by unfold dk; decide +kernel
theorem dX1_look_99 : dk cX1_look 99 102 (.getfield 139) 3 := by unfold dk; decide +kernel
theorem dX1_look_102 : dk cX1_look 102 105 (.invokevirtual 149) 3 := by unfold dk; decide +kernel
theorem dX1_look_108 : dk cX1_look 108 109 (.iconst 1) 1 := by unfold dk; decide +kernel
theorem dX1_look_109 : bk cX1_look 109 112 113 (.goto 4) (4) := by unfold bk; decide +kernel
theorem dX1_look_105 : bk cX1_look 105 108 112 (.ifCond .ne 7) (7) := by unfold bk; decide +kernel
theorem dX1_look_94 : bk cX1_look 94 97 112 (.if_icmp .eq 18) (18) := by unfold bk; decide +kernel
theorem dX1_look_113 : dk cX1_look 113 116 (.putfield 152) 3 := by unfold dk; decide +kernel
theorem dX1_look_116 : dk cX1_look 116 117 (.return_) 1 := by unfold dk; decide +kernel
set_option maxHeartbeats 4000000 in
set_option maxRecDepth 100000 in
theorem kX1_look {l : Launch} {G : Gl} {E : En} {a0 : Nat} {σ σ' : Sg} : fX1_look E a0 σ = some σ' → CT l yX1_look cX1_look 2 none ({ frames := 2, cells := 0, slots := 0, locals := 42 } : Room) [.ref (G.1 + a0)] G E σ none σ' := by
  intro h
  refine CT_of (lv0 := [(0, .ref (G.1 + a0))]) (by decide) (Nat.le_of_ble_eq_true rfl) rfl (fun κ hl hR hr C => ?_)
  have C : Cx κ G cX1_look RX1 2 := C
  revert h
  unfold fX1_look
  refine R_tk (fun ha0 => ?_)
  refine R_aload_n C 0 rfl dX1_look_0 ?_
  refine R_iconst C (-1) dX1_look_1 (by decide) ?_
  refine S_puti C fl1_139 rfl ha0 rfl rfl dX1_look_2 (fun s1 => ?_)
  refine R_iconst C (0) dX1_look_5 (by decide) ?_
  refine R_istore_n (lv2 := [(1, .int (0 : Int32)), (0, .ref (G.1 + a0))]) C dX1_look_6 rfl (by decide) rfl ?_
  refine R_loc (lv2 := [(0, .ref (G.1 + a0)), (1, .int (0 : Int32))]) [1, 0] rfl ?_
  refine R_loop (fun (a : (Int32) × Sg) => V κ G (QQ κ G E none σ') E a.2 (false, 0, 0) 7 [(0, .ref (G.1 + a0)), (1, .int a.1)] []) (fun (o : (Int32)) (s : Sg) => V κ G (QQ κ G E none σ') E s (false, 0, 0) 81 [(0, .ref (G.1 + a0))] []) ((0 : Int32), s1) (fun o28 s29 => ?_) (fun rec I7 a b5 s6 K4 => ?_)
  · refine R_aload_n C 0 rfl dX1_look_81 ?_
    refine R_aload_n C 0 rfl dX1_look_82 ?_
    refine R_geti C fl1_61 rfl ha0 dX1_look_83 ?_
    refine R_bdK (fun (w : Int32) (s : Sg) => V κ G (QQ κ G E none σ') E s (false, 0, 0) 113 [] [.int w, .ref (G.1 + a0)]) (fun w30 s31 => ?_) (fun w30 s31 Kw30 => ?_)
    · refine R_kb (fun h35 => ?_)
      refine S_puti C fl1_152 rfl ha0 (nb h35) (fb h35) dX1_look_113 (fun s36 => ?_)
      exact R_vret C hr dX1_look_116
    · refine B_if_eq C dX1_look_86 ?_ ?_
      · refine R_iconst C (0) dX1_look_112 (by decide) ?_
        refine R_loc (lv2 := []) [] rfl ?_
        exact R_end (fun (w : Int32) (s : Sg) => V κ G (QQ κ G E none σ') E s (false, 0, 0) 113 [] [.int w, .ref (G.1 + a0)]) Kw30
      · refine R_aload_n C 0 rfl dX1_look_89 ?_
        refine R_geti C fl1_139 rfl ha0 dX1_look_90 ?_
        refine R_iconst C (-1) dX1_look_93 (by decide) ?_
        refine B_icmp_eq C dX1_look_94 ?_ ?_
        · refine R_iconst C (0) dX1_look_112 (by decide) ?_
          refine R_loc (lv2 := []) [] rfl ?_
          exact R_end (fun (w : Int32) (s : Sg) => V κ G (QQ κ G E none σ') E s (false, 0, 0) 113 [] [.int w, .ref (G.1 + a0)]) Kw30
        · refine R_aload_n C 0 rfl dX1_look_97 ?_
          refine R_aload_n C 0 rfl dX1_look_98 ?_
          refine R_geti C fl1_139 rfl ha0 dX1_look_99 ?_
          refine R_bd (fun r34 s32 q33 => ?_)
          refine R_callVi [.int (gi s29 a0 14)] [.ref (G.1 + a0)] C ml1_149 (kX1_isDown q33) (by rw [hR]; exact ⟨rfl, rfl, Nat.le_of_ble_eq_true rfl, Nat.le_of_ble_eq_true rfl, Nat.zero_le _, Nat.zero_le _⟩) ha0 rfl rfl (Nat.le_of_ble_eq_true rfl) dX1_look_102 ?_
          refine B_if_ne C dX1_look_105 ?_ ?_
          · refine R_iconst C (0) dX1_look_112 (by decide) ?_
            refine R_loc (lv2 := []) [] rfl ?_
            exact R_end (fun (w : Int32) (s : Sg) => V κ G (QQ κ G E none σ') E s (false, 0, 0) 113 [] [.int w, .ref (G.1 + a0)]) Kw30
          · refine R_iconst C (1) dX1_look_108 (by decide) ?_
            refine R_goto C dX1_look_109 ?_
            refine R_loc (lv2 := []) [] rfl ?_
            exact R_end (fun (w : Int32) (s : Sg) => V κ G (QQ κ G E none σ') E s (false, 0, 0) 113 [] [.int w, .ref (G.1 + a0)]) Kw30
  · obtain ⟨v2, s3⟩ := a
    show bX1_look_7 E a0 (fun u0 t => rec (u0, t)) v2 s3 = some (b5, s6) → V κ G (QQ κ G E none σ') E s3 (false, 0, 0) 7 [(0, .ref (G.1 + a0)), (1, .int v2)] []
    unfold bX1_look_7
    refine R_iload_n C 1 rfl dX1_look_7 ?_
    refine R_aload_n C 0 rfl dX1_look_8 ?_
    refine R_geti C fl1_58 rfl ha0 dX1_look_9 ?_
    refine B_icmp_ge C dX1_look_12 ?_ ?_
    · refine R_loc (lv2 := [(0, .ref (G.1 + a0))]) [0] rfl ?_
      exact R_end (fun (o : (Int32)) (s : Sg) => V κ G (QQ κ G E none σ') E s (false, 0, 0) 81 [(0, .ref (G.1 + a0))] []) K4
    · refine R_aload_n C 0 rfl dX1_look_15 ?_
      refine R_dr (fun x8 rx8 cx8 => ?_)
      refine R_getr C fl1_29 rfl ha0 rx8 dX1_look_16 ?_
      refine R_iload_n C 1 rfl dX1_look_19 ?_
      refine R_aload_n C 0 rfl dX1_look_20 ?_
      refine R_iload_n C 1 rfl dX1_look_21 ?_
      refine R_bd (fun r11 s9 q10 => ?_)
      refine R_callVi [.int v2] [.int v2, .ref (G.1 + x8)] C ml1_142 (kX1_gives q10) (by rw [hR]; exact ⟨rfl, rfl, Nat.le_of_ble_eq_true rfl, Nat.le_of_ble_eq_true rfl, Nat.zero_le _, Nat.zero_le _⟩) ha0 rfl rfl (Nat.le_of_ble_eq_true rfl) dX1_look_22 ?_
      refine R_bdK (fun (w : Int32) (s : Sg) => V κ G (QQ κ G E none σ') E s (false, 0, 0) 47 [(0, .ref (G.1 + a0)), (1, .int v2)] [.int w, .int v2, .ref (G.1 + x8)]) (fun w12 s13 => ?_) (fun w12 s13 Kw12 => ?_)
      · refine R_ck (fun h20 => ?_)
        refine S_iast C cx8 h20 dX1_look_47 (fun s21 => ?_)
        refine R_aload_n C 0 rfl dX1_look_48 ?_
        refine R_geti C fl1_139 rfl ha0 dX1_look_49 ?_
        refine R_iconst C (-1) dX1_look_52 (by decide) ?_
        refine R_bdK (fun (w : Unit) (s : Sg) => V κ G (QQ κ G E none σ') E s (false, 0, 0) 75 [(0, .ref (G.1 + a0)), (1, .int v2)] []) (fun w22 s23 => ?_) (fun w22 s23 Kw22 => ?_)
        · refine S_iinc (fun v27 => [(1, .int v27), (0, .ref (G.1 + a0))]) 1 C dX1_look_75 rfl (by decide) (by decide) (fun _ => rfl) (fun v27 => ?_)
          refine R_goto C dX1_look_78 ?_
          refine R_loc (lv2 := [(0, .ref (G.1 + a0)), (1, .int v27)]) [1, 0] rfl ?_
          exact I7 (v27, s23) b5 s6 K4
        · refine B_icmp_ne C dX1_look_53 ?_ ?_
          · exact R_end (fun (w : Unit) (s : Sg) => V κ G (QQ κ G E none σ') E s (false, 0, 0) 75 [(0, .ref (G.1 + a0)), (1, .int v2)] []) Kw22
          · refine R_aload_n C 0 rfl dX1_look_56 ?_
            refine R_getr C fl1_29 rfl ha0 rx8 dX1_look_57 ?_
            refine R_iload_n C 1 rfl dX1_look_60 ?_
            refine R_ck (fun h24 => ?_)
            refine R_iald C cx8 h24 dX1_look_61 ?_
            refine B_if_lt C dX1_look_62 ?_ ?_
            · exact R_end (fun (w : Unit) (s : Sg) => V κ G (QQ κ G E none σ') E s (false, 0, 0) 75 [(0, .ref (G.1 + a0)), (1, .int v2)] []) Kw22
            · refine R_aload_n C 0 rfl dX1_look_65 ?_
              refine R_aload_n C 0 rfl dX1_look_66 ?_
              refine R_getr C fl1_29 rfl ha0 rx8 dX1_look_67 ?_
              refine R_iload_n C 1 rfl dX1_look_70 ?_
              refine R_ck (fun h25 => ?_)
              refine R_iald C cx8 h25 dX1_look_71 ?_
              refine S_puti C fl1_139 rfl ha0 rfl rfl dX1_look_72 (fun s26 => ?_)
              exact R_end (fun (w : Unit) (s : Sg) => V κ G (QQ κ G E none σ') E s (false, 0, 0) 75 [(0, .ref (G.1 + a0)), (1, .int v2)] []) Kw22
      · refine B_if_eq C dX1_look_25 ?_ ?_
        · refine R_bipush C (-2) dX1_look_45 (by decide) ?_
          exact R_end (fun (w : Int32) (s : Sg) => V κ G (QQ κ G E none σ') E s (false, 0, 0) 47 [(0, .ref (G.1 + a0)), (1, .int v2)] [.int w, .int v2, .ref (G.1 + x8)]) Kw12
        · refine R_aload_n C 0 rfl dX1_look_28 ?_
          refine R_dr (fun x14 rx14 cx14 => ?_)
          refine R_getr C fl1_17 rfl ha0 rx14 dX1_look_29 ?_
          refine R_iload_n C 1 rfl dX1_look_32 ?_
          refine R_ck (fun h15 => ?_)
          refine R_dr (fun x16 rx16 cx16 => ?_)
          refine R_aald4 C cx14 h15 rx16 dX1_look_33 ?_
          refine R_iconst C (0) dX1_look_34 (by decide) ?_
          refine R_aload_n C 0 rfl dX1_look_35 ?_
          refine R_geti C fl1_61 rfl ha0 dX1_look_36 ?_
          refine R_bd (fun r19 s17 q18 => ?_)
          refine R_callVi [.int (0 : Int32), .int (gi s9 a0 3)] [.int v2, .ref (G.1 + x8)] C ml1_146 (kX5_at q18) (by rw [hR]; exact ⟨rfl, rfl, Nat.le_of_ble_eq_true rfl, Nat.le_of_ble_eq_true rfl, Nat.zero_le _, Nat.zero_le _⟩) cx16 rfl rfl (Nat.le_of_ble_eq_true rfl) dX1_look_39 ?_
          refine R_goto C dX1_look_42 ?_
          exact R_end (fun (w : Int32) (s : Sg) => V κ G (QQ κ G E none σ') E s (false, 0, 0) 47 [(0, .ref (G.1 + a0)), (1, .int v2)] [.int w, .int v2, .ref (G.1 + x8)]) Kw12
theorem dX1_sizeOf_0 : dk cX1_sizeOf 0 1 (.iload_n 1) 1 := by unfold dk; decide +kernel
theorem dX1_sizeOf_1 : bk cX1_sizeOf 1 4 21 (.ifCond .lt 20) (20) := by unfold bk; decide +kernel
theorem dX1_sizeOf_21 : dk cX1_sizeOf 21 22 (.iconst 0) 1 := by unfold dk; decide +kernel
theorem dX1_sizeOf_4 : dk cX1_sizeOf 4 5 (.iload_n 1) 1 := by unfold dk; decide +kernel
theorem dX1_sizeOf_5 : dk cX1_sizeOf 5 6 (.aload_n 0) 1 := by unfold dk; decide +kernel
theorem dX1_sizeOf_6 : dk cX1_sizeOf 6 9 (.getfield 65) 3 := by unfold dk; decide +kernel
theorem dX1_sizeOf_12 : dk cX1_sizeOf 12 13 (.aload_n 0) 1 := by unfold dk; decide +kernel
theorem dX1_sizeOf_13 : dk cX1_sizeOf 13 16 (.getfield 48) 3 := by unfold dk; decide +kernel
theorem dX1_sizeOf_16 : dk cX1_sizeOf 16 17 (.iload_n 1) 1 := by unfold dk; decide +kernel
theorem dX1_sizeOf_17 : dk cX1_sizeOf 17 18 (.iaload) 1 := by unfold dk; decide +kernel
theorem dX1_sizeOf_18 : bk cX1_sizeOf 18 21 22 (.goto 4) (4) := by unfold bk; decide +kernel
theorem dX1_sizeOf_9 : bk cX1_sizeOf 9 12 21 (.if_icmp .ge 12) (12) := by unfold bk; decide +kernel
theorem dX1_sizeOf_22 : dk cX1_sizeOf 22 23 (.ireturn) 1 := by unfold dk; decide +kernel
set_option maxHeartbeats 4000000 in
set_option maxRecDepth 100000 in
theorem kX1_sizeOf {l : Launch} {G : Gl} {E : En} {a0 : Nat} {a1 : Int32} {σ σ' : Sg} {r : Int32} : fX1_sizeOf E a0 a1 σ = some (r, σ') → CT l yX1_sizeOf cX1_sizeOf 2 (some .int) ({ frames := 0, cells := 0, slots := 0, locals := 0 } : Room) [.ref (G.1 + a0), .int a1] G E σ (some (.int r)) σ' := by
  intro h
  refine CT_of (lv0 := [(0, .ref (G.1 + a0)), (1, .int a1)]) (by decide) (Nat.le_of_ble_eq_true rfl) rfl (fun κ hl hR hr C => ?_)
  have C : Cx κ G cX1_sizeOf RX1 2 := C
  revert h
  unfold fX1_sizeOf
  refine R_tk (fun ha0 => ?_)
  refine R_iload_n C 1 rfl dX1_sizeOf_0 ?_
  refine R_bdK (fun (w : Int32) (s : Sg) => V κ G (QQ κ G E (some (.int r)) σ') E s (false, 0, 0) 22 [] [.int w]) (fun w1 s2 => ?_) (fun w1 s2 Kw1 => ?_)
  · exact R_iret C hr dX1_sizeOf_22
  · refine B_if_lt C dX1_sizeOf_1 ?_ ?_
    · refine R_iconst C (0) dX1_sizeOf_21 (by decide) ?_
      refine R_loc (lv2 := []) [] rfl ?_
      exact R_end (fun (w : Int32) (s : Sg) => V κ G (QQ κ G E (some (.int r)) σ') E s (false, 0, 0) 22 [] [.int w]) Kw1
    · refine R_iload_n C 1 rfl dX1_sizeOf_4 ?_
      refine R_aload_n C 0 rfl dX1_sizeOf_5 ?_
      refine R_geti C fl1_65 rfl ha0 dX1_sizeOf_6 ?_
      refine B_icmp_ge C dX1_sizeOf_9 ?_ ?_
      · refine R_iconst C (0) dX1_sizeOf_21 (by decide) ?_
        refine R_loc (lv2 := []) [] rfl ?_
        exact R_end (fun (w : Int32) (s : Sg) => V κ G (QQ κ G E (some (.int r)) σ') E s (false, 0, 0) 22 [] [.int w]) Kw1
      · refine R_aload_n C 0 rfl dX1_sizeOf_12 ?_
        refine R_dr (fun x3 rx3 cx3 => ?_)
        refine R_getr C fl1_48 rfl ha0 rx3 dX1_sizeOf_13 ?_
        refine R_iload_n C 1 rfl dX1_sizeOf_16 ?_
        refine R_ck (fun h4 => ?_)
        refine R_iald C cx3 h4 dX1_sizeOf_17 ?_
        refine R_goto C dX1_sizeOf_18 ?_
        refine R_loc (lv2 := []) [] rfl ?_
        exact R_end (fun (w : Int32) (s : Sg) => V κ G (QQ κ G E (some (.int r)) σ') E s (false, 0, 0) 22 [] [.int w]) Kw1
theorem dX1_givers_0 : dk cX1_givers 0 1 (.iconst 0) 1 := by unfold dk; decide +kernel
theorem dX1_givers_1 : dk cX1_givers 1 2 (.istore_n 1) 1 := by unfold dk; decide +kernel
theorem dX1_givers_2 : dk cX1_givers 2 3 (.iconst 0) 1 := by unfold dk; decide +kernel
theorem dX1_givers_3 : dk cX1_givers 3 4 (.istore_n 2) 1 := by unfold dk; decide +kernel
theorem dX1_givers_4 : dk cX1_givers 4 5 (.iload_n 2) 1 := by unfold dk; decide +kernel
theorem dX1_givers_5 : dk cX1_givers 5 6 (.aload_n 0) 1 := by unfold dk; decide +kernel
theorem dX1_givers_6 : dk cX1_givers 6 9 (.getfield 58) 3 := by unfold dk; decide +kernel
theorem dX1_givers_12 : dk cX1_givers 12 13 (.aload_n 0) 1 := by unfold dk; decide +kernel
theorem dX1_givers_13 : dk cX1_givers 13 14 (.iload_n 2) 1 := by unfold dk; decide +kernel
theorem dX1_givers_14 : dk cX1_givers 14 17 (.invokevirtual 142) 3 := by unfold dk; decide +kernel
theorem dX1_givers_17 : bk cX1_givers 17 20 23 (.ifCond .eq 6) (6) := by unfold bk; decide +kernel
theorem dX1_givers_20 : dk cX1_givers 20 23 (.iinc 1 1) 3 := by unfold dk; decide +kernel
theorem dX1_givers_23 : dk cX1_givers 23 26 (.iinc 2 1) 3 := by unfold dk; decide +kernel
theorem dX1_givers_26 : bk cX1_givers 26 29 4 (.goto (-22)) (-22) := by unfold bk; decide +kernel
theorem dX1_givers_9 : bk cX1_givers 9 12 29 (.if_icmp .ge 20) (20) := by unfold bk; decide +kernel
theorem dX1_givers_29 : dk cX1_givers 29 30 (.iload_n 1) 1 := by unfold dk; decide +kernel
theorem dX1_givers_30 : dk cX1_givers 30 31 (.ireturn) 1 := by unfold dk; decide +kernel
set_option maxHeartbeats 4000000 in
set_option maxRecDepth 100000 in
theorem kX1_givers {l : Launch} {G : Gl} {E : En} {a0 : Nat} {σ σ' : Sg} {r : Int32} : fX1_givers E a0 σ = some (r, σ') → CT l yX1_givers cX1_givers 3 (some .int) ({ frames := 2, cells := 0, slots := 0, locals := 41 } : Room) [.ref (G.1 + a0)] G E σ (some (.int r)) σ' := by
  intro h
  refine CT_of (lv0 := [(0, .ref (G.1 + a0))]) (by decide) (Nat.le_of_ble_eq_true rfl) rfl (fun κ hl hR hr C => ?_)
  have C : Cx κ G cX1_givers RX1 3 := C
  revert h
  unfold fX1_givers
  refine R_tk (fun ha0 => ?_)
  refine R_iconst C (0) dX1_givers_0 (by decide) ?_
  refine R_istore_n (lv2 := [(1, .int (0 : Int32)), (0, .ref (G.1 + a0))]) C dX1_givers_1 rfl (by decide) rfl ?_
  refine R_iconst C (0) dX1_givers_2 (by decide) ?_
  refine R_istore_n (lv2 := [(2, .int (0 : Int32)), (1, .int (0 : Int32)), (0, .ref (G.1 + a0))]) C dX1_givers_3 rfl (by decide) rfl ?_
  refine R_loc (lv2 := [(0, .ref (G.1 + a0)), (1, .int (0 : Int32)), (2, .int (0 : Int32))]) [2, 1, 0] rfl ?_
  refine R_loop (fun (a : (Int32 × Int32) × Sg) => V κ G (QQ κ G E (some (.int r)) σ') E a.2 (false, 0, 0) 4 [(0, .ref (G.1 + a0)), (1, .int a.1.1), (2, .int a.1.2)] []) (fun (o : (Int32 × Int32)) (s : Sg) => V κ G (QQ κ G E (some (.int r)) σ') E s (false, 0, 0) 29 [(1, .int o.1)] []) (((0 : Int32), (0 : Int32)), σ) (fun o15 s16 => ?_) (fun rec I7 a b5 s6 K4 => ?_)
  · refine R_iload_n C 0 rfl dX1_givers_29 ?_
    exact R_iret C hr dX1_givers_30
  · obtain ⟨⟨v1, v2⟩, s3⟩ := a
    show bX1_givers_4 E a0 (fun u0 u1 t => rec ((u0, u1), t)) v1 v2 s3 = some (b5, s6) → V κ G (QQ κ G E (some (.int r)) σ') E s3 (false, 0, 0) 4 [(0, .ref (G.1 + a0)), (1, .int v1), (2, .int v2)] []
    unfold bX1_givers_4
    refine R_iload_n C 2 rfl dX1_givers_4 ?_
    refine R_aload_n C 0 rfl dX1_givers_5 ?_
    refine R_geti C fl1_58 rfl ha0 dX1_givers_6 ?_
    refine B_icmp_ge C dX1_givers_9 ?_ ?_
    · refine R_loc (lv2 := [(1, .int v1)]) [1] rfl ?_
      exact R_end (fun (o : (Int32 × Int32)) (s : Sg) => V κ G (QQ κ G E (some (.int r)) σ') E s (false, 0, 0) 29 [(1, .int o.1)] []) K4
    · refine R_aload_n C 0 rfl dX1_givers_12 ?_
      refine R_iload_n C 2 rfl dX1_givers_13 ?_
      refine R_bd (fun r10 s8 q9 => ?_)
      refine R_callVi [.int v2] [] C ml1_142 (kX1_gives q9) (by rw [hR]; exact ⟨rfl, rfl, Nat.le_of_ble_eq_true rfl, Nat.le_of_ble_eq_true rfl, Nat.zero_le _, Nat.zero_le _⟩) ha0 rfl rfl (Nat.le_of_ble_eq_true rfl) dX1_givers_14 ?_
      refine R_bdK (fun (w : Int32) (s : Sg) => V κ G (QQ κ G E (some (.int r)) σ') E s (false, 0, 0) 23 [(0, .ref (G.1 + a0)), (2, .int v2), (1, .int w)] []) (fun w11 s12 => ?_) (fun w11 s12 Kw11 => ?_)
      · refine S_iinc (fun v14 => [(2, .int v14), (0, .ref (G.1 + a0)), (1, .int w11)]) 1 C dX1_givers_23 rfl (by decide) (by decide) (fun _ => rfl) (fun v14 => ?_)
        refine R_goto C dX1_givers_26 ?_
        refine R_loc (lv2 := [(0, .ref (G.1 + a0)), (1, .int w11), (2, .int v14)]) [1, 2, 0] rfl ?_
        exact I7 ((w11, v14), s12) b5 s6 K4
      · refine B_if_eq C dX1_givers_17 ?_ ?_
        · refine R_loc (lv2 := [(0, .ref (G.1 + a0)), (2, .int v2), (1, .int v1)]) [0, 2, 1] rfl ?_
          exact R_end (fun (w : Int32) (s : Sg) => V κ G (QQ κ G E (some (.int r)) σ') E s (false, 0, 0) 23 [(0, .ref (G.1 + a0)), (2, .int v2), (1, .int w)] []) Kw11
        · refine S_iinc (fun v13 => [(1, .int v13), (0, .ref (G.1 + a0)), (2, .int v2)]) 1 C dX1_givers_20 rfl (by decide) (by decide) (fun _ => rfl) (fun v13 => ?_)
          refine R_loc (lv2 := [(0, .ref (G.1 + a0)), (2, .int v2), (1, .int v13)]) [1, 2, 0] rfl ?_
          exact R_end (fun (w : Int32) (s : Sg) => V κ G (QQ κ G E (some (.int r)) σ') E s (false, 0, 0) 23 [(0, .ref (G.1 + a0)), (2, .int v2), (1, .int w)] []) Kw11
theorem dX1_firstToWrite_0 : dk cX1_firstToWrite 0 1 (.aload_n 0) 1 := by unfold dk; decide +kernel
theorem dX1_firstToWrite_1 : dk cX1_firstToWrite 1 4 (.getfield 77) 3 := by unfold dk; decide +kernel
theorem dX1_firstToWrite_4 : bk cX1_firstToWrite 4 7 14 (.ifCond .eq 10) (10) := by unfold bk; decide +kernel
theorem dX1_firstToWrite_14 : dk cX1_firstToWrite 14 15 (.iconst 0) 1 := by unfold dk; decide +kernel
theorem dX1_firstToWrite_7 : dk cX1_firstToWrite 7 8 (.aload_n 0) 1 := by unfold dk; decide +kernel
theorem dX1_firstToWrite_8 : dk cX1_firstToWrite 8 11 (.getfield 9) 3 := by unfold dk; decide +kernel
theorem dX1_firstToWrite_11 : bk cX1_firstToWrite 11 14 15 (.goto 4) (4) := by unfold bk; decide +kernel
theorem dX1_firstToWrite_15 : dk cX1_firstToWrite 15 16 (.ireturn) 1 := by unfold dk; decide +kernel
set_option maxHeartbeats 4000000 in
set_option maxRecDepth 100000 in
theorem kX1_firstToWrite {l : Launch} {G : Gl} {E : En} {a0 : Nat} {σ σ' : Sg} {r : Int32} : fX1_firstToWrite E a0 σ = some (r, σ') → CT l yX1_firstToWrite cX1_firstToWrite 1 (some .int) ({ frames := 0, cells := 0, slots := 0, locals := 0 } : Room) [.ref (G.1 + a0)] G E σ (some (.int r)) σ' := by
  intro h
  refine CT_of (lv0 := [(0, .ref (G.1 + a0))]) (by decide) (Nat.le_of_ble_eq_true rfl) rfl (fun κ hl hR hr C => ?_)
  have C : Cx κ G cX1_firstToWrite RX1 1 := C
  revert h
  unfold fX1_firstToWrite
  refine R_tk (fun ha0 => ?_)
  refine R_aload_n C 0 rfl dX1_firstToWrite_0 ?_
  refine R_geti C fl1_77 rfl ha0 dX1_firstToWrite_1 ?_
  refine R_bdK (fun (w : Int32) (s : Sg) => V κ G (QQ κ G E (some (.int r)) σ') E s (false, 0, 0) 15 [] [.int w]) (fun w1 s2 => ?_) (fun w1 s2 Kw1 => ?_)
  · exact R_iret C hr dX1_firstToWrite_15
  · refine B_if_eq C dX1_firstToWrite_4 ?_ ?_
    · refine R_iconst C (0) dX1_firstToWrite_14 (by decide) ?_
      refine R_loc (lv2 := []) [] rfl ?_
      exact R_end (fun (w : Int32) (s : Sg) => V κ G (QQ κ G E (some (.int r)) σ') E s (false, 0, 0) 15 [] [.int w]) Kw1
    · refine R_aload_n C 0 rfl dX1_firstToWrite_7 ?_
      refine R_geti C fl1_9 rfl ha0 dX1_firstToWrite_8 ?_
      refine R_goto C dX1_firstToWrite_11 ?_
      refine R_loc (lv2 := []) [] rfl ?_
      exact R_end (fun (w : Int32) (s : Sg) => V κ G (QQ κ G E (some (.int r)) σ') E s (false, 0, 0) 15 [] [.int w]) Kw1
theorem dX1_endBalancedPhase_0 : dk cX1_endBalancedPhase 0 1 (.aload_n 0) 1 := by unfold dk; decide +kernel
theorem dX1_endBalancedPhase_1 : dk cX1_endBalancedPhase 1 4 (.invokevirtual 177) 3 := by unfold dk; decide +kernel
theorem dX1_endBalancedPhase_42 : dk cX1_endBalancedPhase 42 43 (.aload_n 0) 1 := by unfold dk; decide +kernel
theorem dX1_endBalancedPhase_43 : dk cX1_endBalancedPhase 43 46 (.getfield 77) 3 := by unfold dk; decide +kernel
theorem dX1_endBalancedPhase_46 : bk cX1_endBalancedPhase 46 49 58 (.ifCond .eq 12) (12) := by unfold bk; decide +kernel
theorem dX1_endBalancedPhase_58 : dk cX1_endBalancedPhase 58 59 (.aload_n 0) 1 := by unfold dk; decide +kernel
theorem dX1_endBalancedPhase_59 : dk cX1_endBalancedPhase 59 62 (.getfield 9) 3 := by unfold dk; decide +kernel
theorem dX1_endBalancedPhase_62 : dk cX1_endBalancedPhase 62 63 (.iconst 1) 1 := by unfold dk; decide +kernel
theorem dX1_endBalancedPhase_63 : dk cX1_endBalancedPhase 63 64 (.isub) 1 := by unfold dk; decide +kernel
theorem dX1_endBalancedPhase_49 : dk cX1_endBalancedPhase 49 50 (.aload_n 0) 1 := by unfold dk; decide +kernel
theorem dX1_endBalancedPhase_50 : dk cX1_endBalancedPhase 50 53 (.getfield 58) 3 := by unfold dk; decide +kernel
theorem dX1_endBalancedPhase_53 : dk cX1_endBalancedPhase 53 54 (.iconst 1) 1 := by unfold dk; decide +kernel
theorem dX1_endBalancedPhase_54 : dk cX1_endBalancedPhase 54 55 (.isub) 1 := by unfold dk; decide +kernel
theorem dX1_endBalancedPhase_55 : bk cX1_endBalancedPhase 55 58 64 (.goto 9) (9) := by unfold bk; decide +kernel
theorem dX1_endBalancedPhase_64 : dk cX1_endBalancedPhase 64 65 (.istore_n 1) 1 := by unfold dk; decide +kernel
theorem dX1_endBalancedPhase_65 : dk cX1_endBalancedPhase 65 66 (.aload_n 0) 1 := by unfold dk; decide +kernel
theorem dX1_endBalancedPhase_66 : dk cX1_endBalancedPhase 66 67 (.aload_n 0) 1 := by unfold dk; decide +kernel
theorem dX1_endBalancedPhase_67 : dk cX1_endBalancedPhase 67 70 (.getfield 74) 3 := by unfold dk; decide +kernel
theorem dX1_endBalancedPhase_70 : dk cX1_endBalancedPhase 70 71 (.iload_n 1) 1 := by unfold dk; decide +kernel
theorem dX1_endBalancedPhase_71 : bk cX1_endBalancedPhase 71 74 81 (.if_icmp .lt 10) (10) := by unfold bk; decide +kernel
theorem dX1_endBalancedPhase_81 : dk cX1_endBalancedPhase 81 82 (.aload_n 0) 1 := by unfold dk; decide +kernel
theorem dX1_endBalancedPhase_82 : dk cX1_endBalancedPhase 82 85 (.getfield 74) 3 := by unfold dk; decide +kernel
theorem dX1_endBalancedPhase_85 : dk cX1_endBalancedPhase 85 86 (.iconst 1) 1 := by unfold dk; decide +kernel
theorem dX1_endBalancedPhase_86 : dk cX1_endBalancedPhase 86 87 (.iadd) 1 := by unfold dk; decide +kernel
theorem dX1_endBalancedPhase_74 : dk cX1_endBalancedPhase 74 75 (.aload_n 0) 1 := by unfold dk; decide +kernel
theorem dX1_endBalancedPhase_75 : dk cX1_endBalancedPhase 75 78 (.invokevirtual 180) 3 := by unfold dk; decide +kernel
theorem dX1_endBalancedPhase_78 : bk cX1_endBalancedPhase 78 81 87 (.goto 9) (9) := by unfold bk; decide +kernel
theorem dX1_endBalancedPhase_87 : dk cX1_endBalancedPhase 87 90 (.putfield 74) 3 := by unfold dk; decide +kernel
theorem dX1_endBalancedPhase_90 : dk cX1_endBalancedPhase 90 91 (.return_) 1 := by unfold dk; decide +kernel
theorem dX1_endBalancedPhase_7 : dk cX1_endBalancedPhase 7 8 (.aload_n 0) 1 := by unfold dk; decide +kernel
theorem dX1_endBalancedPhase_8 : dk cX1_endBalancedPhase 8 11 (.getfield 25) 3 := by unfold dk; decide +kernel
theorem dX1_endBalancedPhase_11 : dk cX1_endBalancedPhase 11 12 (.iconst 2) 1 := by unfold dk; decide +kernel
theorem dX1_endBalancedPhase_12 : dk cX1_endBalancedPhase 12 13 (.dup2) 1 := by unfold dk; decide +kernel
theorem dX1_endBalancedPhase_13 : dk cX1_endBalancedPhase 13 14 (.iaload) 1 := by unfold dk; decide +kernel
theorem dX1_endBalancedPhase_14 : dk cX1_endBalancedPhase 14 15 (.iconst 1) 1 := by unfold dk; decide +kernel
theorem dX1_endBalancedPhase_15 : dk cX1_endBalancedPhase 15 16 (.iadd) 1 := by unfold dk; decide +kernel
theorem dX1_endBalancedPhase_16 : dk cX1_endBalancedPhase 16 17 (.iastore) 1 := by unfold dk; decide +kernel
theorem dX1_endBalancedPhase_17 : dk cX1_endBalancedPhase 17 18 (.aload_n 0) 1 := by unfold dk; decide +kernel
theorem dX1_endBalancedPhase_18 : dk cX1_endBalancedPhase 18 19 (.aload_n 0) 1 := by unfold dk; decide +kernel
theorem dX1_endBalancedPhase_19 : dk cX1_endBalancedPhase 19 22 (.getfield 77) 3 := by unfold dk; decide +kernel
theorem dX1_endBalancedPhase_22 : bk cX1_endBalancedPhase 22 25 29 (.ifCond .ne 7) (7) := by unfold bk; decide +kernel
theorem dX1_endBalancedPhase_29 : dk cX1_endBalancedPhase 29 30 (.iconst 0) 1 := by unfold dk; decide +kernel
theorem dX1_endBalancedPhase_25 : dk cX1_endBalancedPhase 25 26 (.iconst 1) 1 := by unfold dk; decide +kernel
theorem dX1_endBalancedPhase_26 : bk cX1_endBalancedPhase 26 29 30 (.goto 4) (4) := by unfold bk; decide +kernel
theorem dX1_endBalancedPhase_30 : dk cX1_endBalancedPhase 30 33 (.putfield 77) 3 := by unfold dk; decide +kernel
theorem dX1_endBalancedPhase_33 : dk cX1_endBalancedPhase 33 34 (.aload_n 0) 1 := by unfold dk; decide +kernel
theorem dX1_endBalancedPhase_34 : dk cX1_endBalancedPhase 34 35 (.aload_n 0) 1 := by unfold dk; decide +kernel
theorem dX1_endBalancedPhase_35 : dk cX1_endBalancedPhase 35 38 (.invokevirtual 180) 3 := by unfold dk; decide +kernel
theorem dX1_endBalancedPhase_38 : dk cX1_endBalancedPhase 38 41 (.putfield 74) 3 := by unfold dk; decide +kernel
theorem dX1_endBalancedPhase_41 : dk cX1_endBalancedPhase 41 42 (.return_) 1 := by unfold dk; decide +kernel
theorem dX1_endBalancedPhase_4 : bk cX1_endBalancedPhase 4 7 42 (.ifCond .ne 38) (38) := by unfold bk; decide +kernel
set_option maxHeartbeats 4000000 in
set_option maxRecDepth 100000 in
theorem kX1_endBalancedPhase {l : Launch} {G : Gl} {E : En} {a0 : Nat} {σ σ' : Sg} : fX1_endBalancedPhase E a0 σ = some σ' → CT l yX1_endBalancedPhase cX1_endBalancedPhase 2 none ({ frames := 3, cells := 0, slots := 0, locals := 63 } : Room) [.ref (G.1 + a0)] G E σ none σ' := by
  intro h
  refine CT_of (lv0 := [(0, .ref (G.1 + a0))]) (by decide) (Nat.le_of_ble_eq_true rfl) rfl (fun κ hl hR hr C => ?_)
  have C : Cx κ G cX1_endBalancedPhase RX1 2 := C
  revert h
  unfold fX1_endBalancedPhase
  refine R_tk (fun ha0 => ?_)
  refine R_aload_n C 0 rfl dX1_endBalancedPhase_0 ?_
  refine R_bd (fun r3 s1 q2 => ?_)
  refine R_callVi [] [] C ml1_177 (kX1_givers q2) (by rw [hR]; exact ⟨rfl, rfl, Nat.le_of_ble_eq_true rfl, Nat.le_of_ble_eq_true rfl, Nat.zero_le _, Nat.zero_le _⟩) ha0 rfl rfl (Nat.le_of_ble_eq_true rfl) dX1_endBalancedPhase_1 ?_
  refine B_if_ne C dX1_endBalancedPhase_4 ?_ ?_
  · refine R_aload_n C 0 rfl dX1_endBalancedPhase_42 ?_
    refine R_geti C fl1_77 rfl ha0 dX1_endBalancedPhase_43 ?_
    refine R_bdK (fun (w : Int32) (s : Sg) => V κ G (QQ κ G E none σ') E s (false, 0, 0) 64 [(0, .ref (G.1 + a0))] [.int w]) (fun w4 s5 => ?_) (fun w4 s5 Kw4 => ?_)
    · refine R_istore_n (lv2 := [(1, .int w4), (0, .ref (G.1 + a0))]) C dX1_endBalancedPhase_64 rfl (by decide) rfl ?_
      refine R_aload_n C 1 rfl dX1_endBalancedPhase_65 ?_
      refine R_aload_n C 1 rfl dX1_endBalancedPhase_66 ?_
      refine R_geti C fl1_74 rfl ha0 dX1_endBalancedPhase_67 ?_
      refine R_iload_n C 0 rfl dX1_endBalancedPhase_70 ?_
      refine R_bdK (fun (w : Int32) (s : Sg) => V κ G (QQ κ G E none σ') E s (false, 0, 0) 87 [] [.int w, .ref (G.1 + a0)]) (fun w6 s7 => ?_) (fun w6 s7 Kw6 => ?_)
      · refine S_puti C fl1_74 rfl ha0 rfl rfl dX1_endBalancedPhase_87 (fun s11 => ?_)
        exact R_vret C hr dX1_endBalancedPhase_90
      · refine B_icmp_lt C dX1_endBalancedPhase_71 ?_ ?_
        · refine R_aload_n C 1 rfl dX1_endBalancedPhase_81 ?_
          refine R_geti C fl1_74 rfl ha0 dX1_endBalancedPhase_82 ?_
          refine R_iconst C (1) dX1_endBalancedPhase_85 (by decide) ?_
          refine R_iadd C dX1_endBalancedPhase_86 ?_
          refine R_loc (lv2 := []) [] rfl ?_
          exact R_end (fun (w : Int32) (s : Sg) => V κ G (QQ κ G E none σ') E s (false, 0, 0) 87 [] [.int w, .ref (G.1 + a0)]) Kw6
        · refine R_aload_n C 1 rfl dX1_endBalancedPhase_74 ?_
          refine R_bd (fun r10 s8 q9 => ?_)
          refine R_callVi [] [.ref (G.1 + a0)] C ml1_180 (kX1_firstToWrite q9) (by rw [hR]; exact ⟨rfl, rfl, Nat.le_of_ble_eq_true rfl, Nat.le_of_ble_eq_true rfl, Nat.zero_le _, Nat.zero_le _⟩) ha0 rfl rfl (Nat.le_of_ble_eq_true rfl) dX1_endBalancedPhase_75 ?_
          refine R_goto C dX1_endBalancedPhase_78 ?_
          refine R_loc (lv2 := []) [] rfl ?_
          exact R_end (fun (w : Int32) (s : Sg) => V κ G (QQ κ G E none σ') E s (false, 0, 0) 87 [] [.int w, .ref (G.1 + a0)]) Kw6
    · refine B_if_eq C dX1_endBalancedPhase_46 ?_ ?_
      · refine R_aload_n C 0 rfl dX1_endBalancedPhase_58 ?_
        refine R_geti C fl1_9 rfl ha0 dX1_endBalancedPhase_59 ?_
        refine R_iconst C (1) dX1_endBalancedPhase_62 (by decide) ?_
        refine R_isub C dX1_endBalancedPhase_63 ?_
        exact R_end (fun (w : Int32) (s : Sg) => V κ G (QQ κ G E none σ') E s (false, 0, 0) 64 [(0, .ref (G.1 + a0))] [.int w]) Kw4
      · refine R_aload_n C 0 rfl dX1_endBalancedPhase_49 ?_
        refine R_geti C fl1_58 rfl ha0 dX1_endBalancedPhase_50 ?_
        refine R_iconst C (1) dX1_endBalancedPhase_53 (by decide) ?_
        refine R_isub C dX1_endBalancedPhase_54 ?_
        refine R_goto C dX1_endBalancedPhase_55 ?_
        exact R_end (fun (w : Int32) (s : Sg) => V κ G (QQ κ G E none σ') E s (false, 0, 0) 64 [(0, .ref (G.1 + a0))] [.int w]) Kw4
  · refine R_aload_n C 0 rfl dX1_endBalancedPhase_7 ?_
    refine R_dr (fun x12 rx12 cx12 => ?_)
    refine R_getr C fl1_25 rfl ha0 rx12 dX1_endBalancedPhase_8 ?_
    refine R_iconst C (2) dX1_endBalancedPhase_11 (by decide) ?_
    refine R_dup2 C dX1_endBalancedPhase_12 rfl rfl ?_
    refine R_ck (fun h13 => ?_)
    refine R_iald C cx12 h13 dX1_endBalancedPhase_13 ?_
    refine R_iconst C (1) dX1_endBalancedPhase_14 (by decide) ?_
    refine R_iadd C dX1_endBalancedPhase_15 ?_
    refine R_ck (fun h14 => ?_)
    refine S_iast C cx12 h14 dX1_endBalancedPhase_16 (fun s15 => ?_)
    refine R_aload_n C 0 rfl dX1_endBalancedPhase_17 ?_
    refine R_aload_n C 0 rfl dX1_endBalancedPhase_18 ?_
    refine R_geti C fl1_77 rfl ha0 dX1_endBalancedPhase_19 ?_
    refine R_bdK (fun (w : Int32) (s : Sg) => V κ G (QQ κ G E none σ') E s (false, 0, 0) 30 [(0, .ref (G.1 + a0))] [.int w, .ref (G.1 + a0)]) (fun w16 s17 => ?_) (fun w16 s17 Kw16 => ?_)
    · refine R_kb (fun h18 => ?_)
      refine S_puti C fl1_77 rfl ha0 (nb h18) (fb h18) dX1_endBalancedPhase_30 (fun s19 => ?_)
      refine R_aload_n C 0 rfl dX1_endBalancedPhase_33 ?_
      refine R_aload_n C 0 rfl dX1_endBalancedPhase_34 ?_
      refine R_bd (fun r22 s20 q21 => ?_)
      refine R_callVi [] [.ref (G.1 + a0)] C ml1_180 (kX1_firstToWrite q21) (by rw [hR]; exact ⟨rfl, rfl, Nat.le_of_ble_eq_true rfl, Nat.le_of_ble_eq_true rfl, Nat.zero_le _, Nat.zero_le _⟩) ha0 rfl rfl (Nat.le_of_ble_eq_true rfl) dX1_endBalancedPhase_35 ?_
      refine S_puti C fl1_74 rfl ha0 rfl rfl dX1_endBalancedPhase_38 (fun s23 => ?_)
      exact R_vret C hr dX1_endBalancedPhase_41
    · refine B_if_ne C dX1_endBalancedPhase_22 ?_ ?_
      · refine R_iconst C (0) dX1_endBalancedPhase_29 (by decide) ?_
        exact R_end (fun (w : Int32) (s : Sg) => V κ G (QQ κ G E none σ') E s (false, 0, 0) 30 [(0, .ref (G.1 + a0))] [.int w, .ref (G.1 + a0)]) Kw16
      · refine R_iconst C (1) dX1_endBalancedPhase_25 (by decide) ?_
        refine R_goto C dX1_endBalancedPhase_26 ?_
        exact R_end (fun (w : Int32) (s : Sg) => V κ G (QQ κ G E none σ') E s (false, 0, 0) 30 [(0, .ref (G.1 + a0))] [.int w, .ref (G.1 + a0)]) Kw16
theorem dX1_emptiedTape_0 : dk cX1_emptiedTape 0 1 (.iconst 0) 1 := by unfold dk; decide +kernel
theorem dX1_emptiedTape_1 : dk cX1_emptiedTape 1 2 (.istore_n 1) 1 := by unfold dk; decide +kernel
theorem dX1_emptiedTape_2 : dk cX1_emptiedTape 2 3 (.iload_n 1) 1 := by unfold dk; decide +kernel
theorem dX1_emptiedTape_3 : dk cX1_emptiedTape 3 4 (.aload_n 0) 1 := by unfold dk; decide +kernel
theorem dX1_emptiedTape_4 : dk cX1_emptiedTape 4 7 (.getfield 58) 3 := by unfold dk; decide +kernel
theorem dX1_emptiedTape_10 : dk cX1_emptiedTape 10 11 (.aload_n 0) 1 := by unfold dk; decide +kernel
theorem dX1_emptiedTape_11 : dk cX1_emptiedTape 11 14 (.getfield 29) 3 := by unfold dk; decide +kernel
theorem dX1_emptiedTape_14 : dk cX1_emptiedTape 14 15 (.iload_n 1) 1 := by unfold dk; decide +kernel
theorem dX1_emptiedTape_15 : dk cX1_emptiedTape 15 16 (.iaload) 1 := by unfold dk; decide +kernel
theorem dX1_emptiedTape_16 : dk cX1_emptiedTape 16 18 (.bipush (-2)) 2 := by unfold dk; decide +kernel
theorem dX1_emptiedTape_35 : dk cX1_emptiedTape 35 38 (.iinc 1 1) 3 := by unfold dk; decide +kernel
theorem dX1_emptiedTape_38 : bk cX1_emptiedTape 38 41 2 (.goto (-36)) (-36) := by unfold bk; decide +kernel
theorem dX1_emptiedTape_21 : dk cX1_emptiedTape 21 22 (.aload_n 0) 1 := by unfold dk; decide +kernel
theorem dX1_emptiedTape_22 : dk cX1_emptiedTape 22 25 (.getfield 17) 3 := by unfold dk; decide +kernel
theorem dX1_emptiedTape_25 : dk cX1_emptiedTape 25 26 (.iload_n 1) 1 := by unfold dk; decide +kernel
theorem dX1_emptiedTape_26 : dk cX1_emptiedTape 26 27 (.aaload) 1 := by unfold dk; decide +kernel
theorem dX1_emptiedTape_27 : dk cX1_emptiedTape 27 30 (.invokevirtual 136) 3 := by unfold dk; decide +kernel
theorem dX1_emptiedTape_33 : dk cX1_emptiedTape 33 34 (.iload_n 1) 1 := by unfold dk; decide +kernel
theorem dX1_emptiedTape_34 : dk cX1_emptiedTape 34 35 (.ireturn) 1 := by unfold dk; decide +kernel
theorem dX1_emptiedTape_30 : bk cX1_emptiedTape 30 33 35 (.ifCond .ne 5) (5) := by unfold bk; decide +kernel
theorem dX1_emptiedTape_18 : bk cX1_emptiedTape 18 21 35 (.if_icmp .eq 17) (17) := by unfold bk; decide +kernel
theorem dX1_emptiedTape_7 : bk cX1_emptiedTape 7 10 41 (.if_icmp .ge 34) (34) := by unfold bk; decide +kernel
theorem dX1_emptiedTape_41 : dk cX1_emptiedTape 41 42 (.iconst (-1)) 1 := by unfold dk; decide +kernel
theorem dX1_emptiedTape_42 : dk cX1_emptiedTape 42 43 (.ireturn) 1 := by unfold dk; decide +kernel
set_option maxHeartbeats 4000000 in
set_option maxRecDepth 100000 in
theorem kX1_emptiedTape {l : Launch} {G : Gl} {E : En} {a0 : Nat} {σ σ' : Sg} {r : Int32} : fX1_emptiedTape E a0 σ = some (r, σ') → CT l yX1_emptiedTape cX1_emptiedTape 2 (some .int) ({ frames := 1, cells := 0, slots := 0, locals := 20 } : Room) [.ref (G.1 + a0)] G E σ (some (.int r)) σ' := by
  intro h
  refine CT_of (lv0 := [(0, .ref (G.1 + a0))]) (by decide) (Nat.le_of_ble_eq_true rfl) rfl (fun κ hl hR hr C => ?_)
  have C : Cx κ G cX1_emptiedTape RX1 2 := C
  revert h
  unfold fX1_emptiedTape
  refine R_tk (fun ha0 => ?_)
  refine R_iconst C (0) dX1_emptiedTape_0 (by decide) ?_
  refine R_istore_n (lv2 := [(1, .int (0 : Int32)), (0, .ref (G.1 + a0))]) C dX1_emptiedTape_1 rfl (by decide) rfl ?_
  refine R_loc (lv2 := [(0, .ref (G.1 + a0)), (1, .int (0 : Int32))]) [1, 0] rfl ?_
  refine R_loop (fun (a : (Int32) × Sg) => V κ G (QQ κ G E (some (.int r)) σ') E a.2 (false, 0, 0) 2 [(0, .ref (G.1 + a0)), (1, .int a.1)] []) (fun (o : ((Int32) ⊕ Int32)) (s : Sg) => sm o (fun o => V κ G (QQ κ G E (some (.int r)) σ') E s (false, 0, 0) 41 [] []) (fun rr => some (rr, s) = some (r, σ'))) ((0 : Int32), σ) (fun o17 s18 => ?_) (fun rec I6 a b4 s5 K3 => ?_)
  · rcases o17 with vo17 | ro17
    · refine R_sml ?_
      refine R_iconst C (-1) dX1_emptiedTape_41 (by decide) ?_
      exact R_iret C hr dX1_emptiedTape_42
    · exact fun h => h
  · obtain ⟨v1, s2⟩ := a
    show bX1_emptiedTape_2 E a0 (fun u0 t => rec (u0, t)) v1 s2 = some (b4, s5) → V κ G (QQ κ G E (some (.int r)) σ') E s2 (false, 0, 0) 2 [(0, .ref (G.1 + a0)), (1, .int v1)] []
    unfold bX1_emptiedTape_2
    refine R_iload_n C 1 rfl dX1_emptiedTape_2 ?_
    refine R_aload_n C 0 rfl dX1_emptiedTape_3 ?_
    refine R_geti C fl1_58 rfl ha0 dX1_emptiedTape_4 ?_
    refine B_icmp_ge C dX1_emptiedTape_7 ?_ ?_
    · refine R_loc (lv2 := []) [] rfl ?_
      exact R_inr (VX := (fun (o : ((Int32) ⊕ Int32)) (s : Sg) => sm o (fun o => V κ G (QQ κ G E (some (.int r)) σ') E s (false, 0, 0) 41 [] []) (fun rr => some (rr, s) = some (r, σ')))) (i := .inl) K3 (fun h => h)
    · refine R_aload_n C 0 rfl dX1_emptiedTape_10 ?_
      refine R_dr (fun x7 rx7 cx7 => ?_)
      refine R_getr C fl1_29 rfl ha0 rx7 dX1_emptiedTape_11 ?_
      refine R_iload_n C 1 rfl dX1_emptiedTape_14 ?_
      refine R_ck (fun h8 => ?_)
      refine R_iald C cx7 h8 dX1_emptiedTape_15 ?_
      refine R_bipush C (-2) dX1_emptiedTape_16 (by decide) ?_
      refine B_icmp_eq C dX1_emptiedTape_18 ?_ ?_
      · refine S_iinc (fun v9 => [(1, .int v9), (0, .ref (G.1 + a0))]) 1 C dX1_emptiedTape_35 rfl (by decide) (by decide) (fun _ => rfl) (fun v9 => ?_)
        refine R_goto C dX1_emptiedTape_38 ?_
        refine R_loc (lv2 := [(0, .ref (G.1 + a0)), (1, .int v9)]) [1, 0] rfl ?_
        exact I6 (v9, s2) b4 s5 K3
      · refine R_aload_n C 0 rfl dX1_emptiedTape_21 ?_
        refine R_dr (fun x10 rx10 cx10 => ?_)
        refine R_getr C fl1_17 rfl ha0 rx10 dX1_emptiedTape_22 ?_
        refine R_iload_n C 1 rfl dX1_emptiedTape_25 ?_
        refine R_ck (fun h11 => ?_)
        refine R_dr (fun x12 rx12 cx12 => ?_)
        refine R_aald4 C cx10 h11 rx12 dX1_emptiedTape_26 ?_
        refine R_bd (fun r15 s13 q14 => ?_)
        refine R_callVi [] [] C ml1_136 (kX5_size q14) (by rw [hR]; exact ⟨rfl, rfl, Nat.le_of_ble_eq_true rfl, Nat.le_of_ble_eq_true rfl, Nat.zero_le _, Nat.zero_le _⟩) cx12 rfl rfl (Nat.le_of_ble_eq_true rfl) dX1_emptiedTape_27 ?_
        refine B_if_ne C dX1_emptiedTape_30 ?_ ?_
        · refine S_iinc (fun v16 => [(1, .int v16), (0, .ref (G.1 + a0))]) 1 C dX1_emptiedTape_35 rfl (by decide) (by decide) (fun _ => rfl) (fun v16 => ?_)
          refine R_goto C dX1_emptiedTape_38 ?_
          refine R_loc (lv2 := [(0, .ref (G.1 + a0)), (1, .int v16)]) [1, 0] rfl ?_
          exact I6 (v16, s13) b4 s5 K3
        · refine R_iload_n C 1 rfl dX1_emptiedTape_33 ?_
          exact R_inr (VX := (fun (o : ((Int32) ⊕ Int32)) (s : Sg) => sm o (fun o => V κ G (QQ κ G E (some (.int r)) σ') E s (false, 0, 0) 41 [] []) (fun rr => some (rr, s) = some (r, σ')))) (i := .inr) K3 (R_iret C hr dX1_emptiedTape_34)
theorem dX1_endNumberedPhase_0 : dk cX1_endNumberedPhase 0 1 (.aload_n 0) 1 := by unfold dk; decide +kernel
theorem dX1_endNumberedPhase_1 : dk cX1_endNumberedPhase 1 4 (.invokevirtual 174) 3 := by unfold dk; decide +kernel
theorem dX1_endNumberedPhase_4 : dk cX1_endNumberedPhase 4 5 (.istore_n 1) 1 := by unfold dk; decide +kernel
theorem dX1_endNumberedPhase_5 : dk cX1_endNumberedPhase 5 6 (.iload_n 1) 1 := by unfold dk; decide +kernel
theorem dX1_endNumberedPhase_6 : dk cX1_endNumberedPhase 6 7 (.iconst (-1)) 1 := by unfold dk; decide +kernel
theorem dX1_endNumberedPhase_11 : dk cX1_endNumberedPhase 11 12 (.aload_n 0) 1 := by unfold dk; decide +kernel
theorem dX1_endNumberedPhase_12 : dk cX1_endNumberedPhase 12 15 (.getfield 25) 3 := by unfold dk; decide +kernel
theorem dX1_endNumberedPhase_15 : dk cX1_endNumberedPhase 15 16 (.iconst 2) 1 := by unfold dk; decide +kernel
theorem dX1_endNumberedPhase_16 : dk cX1_endNumberedPhase 16 17 (.dup2) 1 := by unfold dk; decide +kernel
theorem dX1_endNumberedPhase_17 : dk cX1_endNumberedPhase 17 18 (.iaload) 1 := by unfold dk; decide +kernel
theorem dX1_endNumberedPhase_18 : dk cX1_endNumberedPhase 18 19 (.iconst 1) 1 := by unfold dk; decide +kernel
theorem dX1_endNumberedPhase_19 : dk cX1_endNumberedPhase 19 20 (.iadd) 1 := by unfold dk; decide +kernel
theorem dX1_endNumberedPhase_20 : dk cX1_endNumberedPhase 20 21 (.iastore) 1 := by unfold dk; decide +kernel
theorem dX1_endNumberedPhase_21 : dk cX1_endNumberedPhase 21 22 (.aload_n 0) 1 := by unfold dk; decide +kernel
theorem dX1_endNumberedPhase_22 : dk cX1_endNumberedPhase 22 23 (.iload_n 1) 1 := by unfold dk; decide +kernel
theorem dX1_endNumberedPhase_23 : dk cX1_endNumberedPhase 23 26 (.putfield 74) 3 := by unfold dk; decide +kernel
theorem dX1_endNumberedPhase_26 : dk cX1_endNumberedPhase 26 27 (.aload_n 0) 1 := by unfold dk; decide +kernel
theorem dX1_endNumberedPhase_27 : dk cX1_endNumberedPhase 27 30 (.getfield 55) 3 := by unfold dk; decide +kernel
theorem dX1_endNumberedPhase_30 : dk cX1_endNumberedPhase 30 31 (.iconst 2) 1 := by unfold dk; decide +kernel
theorem dX1_endNumberedPhase_31 : bk cX1_endNumberedPhase 31 34 53 (.if_icmp .ne 22) (22) := by unfold bk; decide +kernel
theorem dX1_endNumberedPhase_34 : dk cX1_endNumberedPhase 34 35 (.aload_n 0) 1 := by unfold dk; decide +kernel
theorem dX1_endNumberedPhase_35 : dk cX1_endNumberedPhase 35 38 (.getfield 21) 3 := by unfold dk; decide +kernel
theorem dX1_endNumberedPhase_38 : dk cX1_endNumberedPhase 38 39 (.iload_n 1) 1 := by unfold dk; decide +kernel
theorem dX1_endNumberedPhase_39 : dk cX1_endNumberedPhase 39 40 (.iconst 0) 1 := by unfold dk; decide +kernel
theorem dX1_endNumberedPhase_40 : dk cX1_endNumberedPhase 40 41 (.bastore) 1 := by unfold dk; decide +kernel
theorem dX1_endNumberedPhase_41 : dk cX1_endNumberedPhase 41 42 (.aload_n 0) 1 := by unfold dk; decide +kernel
theorem dX1_endNumberedPhase_42 : dk cX1_endNumberedPhase 42 45 (.invokevirtual 177) 3 := by unfold dk; decide +kernel
theorem dX1_endNumberedPhase_45 : dk cX1_endNumberedPhase 45 46 (.iconst 2) 1 := by unfold dk; decide +kernel
theorem dX1_endNumberedPhase_49 : dk cX1_endNumberedPhase 49 50 (.aload_n 0) 1 := by unfold dk; decide +kernel
theorem dX1_endNumberedPhase_50 : dk cX1_endNumberedPhase 50 53 (.invokevirtual 104) 3 := by unfold dk; decide +kernel
theorem dX1_endNumberedPhase_46 : bk cX1_endNumberedPhase 46 49 53 (.if_icmp .ge 7) (7) := by unfold bk; decide +kernel
theorem dX1_endNumberedPhase_53 : dk cX1_endNumberedPhase 53 54 (.return_) 1 := by unfold dk; decide +kernel
theorem dX1_endNumberedPhase_10 : dk cX1_endNumberedPhase 10 11 (.return_) 1 := by unfold dk; decide +kernel
theorem dX1_endNumberedPhase_7 : bk cX1_endNumberedPhase 7 10 11 (.if_icmp .ne 4) (4) := by unfold bk; decide +kernel
set_option maxHeartbeats 4000000 in
set_option maxRecDepth 100000 in
theorem kX1_endNumberedPhase {l : Launch} {G : Gl} {E : En} {a0 : Nat} {σ σ' : Sg} : fX1_endNumberedPhase E a0 σ = some σ' → CT l yX1_endNumberedPhase cX1_endNumberedPhase 2 none ({ frames := 3, cells := 0, slots := 0, locals := 63 } : Room) [.ref (G.1 + a0)] G E σ none σ' := by
  intro h
  refine CT_of (lv0 := [(0, .ref (G.1 + a0))]) (by decide) (Nat.le_of_ble_eq_true rfl) rfl (fun κ hl hR hr C => ?_)
  have C : Cx κ G cX1_endNumberedPhase RX1 2 := C
  revert h
  unfold fX1_endNumberedPhase
  refine R_tk (fun ha0 => ?_)
  refine R_aload_n C 0 rfl dX1_endNumberedPhase_0 ?_
  refine R_bd (fun r3 s1 q2 => ?_)
  refine R_callVi [] [] C ml1_174 (kX1_emptiedTape q2) (by rw [hR]; exact ⟨rfl, rfl, Nat.le_of_ble_eq_true rfl, Nat.le_of_ble_eq_true rfl, Nat.zero_le _, Nat.zero_le _⟩) ha0 rfl rfl (Nat.le_of_ble_eq_true rfl) dX1_endNumberedPhase_1 ?_
  refine R_istore_n (lv2 := [(1, .int r3), (0, .ref (G.1 + a0))]) C dX1_endNumberedPhase_4 rfl (by decide) rfl ?_
  refine R_iload_n C 0 rfl dX1_endNumberedPhase_5 ?_
  refine R_iconst C (-1) dX1_endNumberedPhase_6 (by decide) ?_
  refine B_icmp_ne C dX1_endNumberedPhase_7 ?_ ?_
  · refine R_aload_n C 1 rfl dX1_endNumberedPhase_11 ?_
    refine R_dr (fun x4 rx4 cx4 => ?_)
    refine R_getr C fl1_25 rfl ha0 rx4 dX1_endNumberedPhase_12 ?_
    refine R_iconst C (2) dX1_endNumberedPhase_15 (by decide) ?_
    refine R_dup2 C dX1_endNumberedPhase_16 rfl rfl ?_
    refine R_ck (fun h5 => ?_)
    refine R_iald C cx4 h5 dX1_endNumberedPhase_17 ?_
    refine R_iconst C (1) dX1_endNumberedPhase_18 (by decide) ?_
    refine R_iadd C dX1_endNumberedPhase_19 ?_
    refine R_ck (fun h6 => ?_)
    refine S_iast C cx4 h6 dX1_endNumberedPhase_20 (fun s7 => ?_)
    refine R_aload_n C 1 rfl dX1_endNumberedPhase_21 ?_
    refine R_iload_n C 0 rfl dX1_endNumberedPhase_22 ?_
    refine S_puti C fl1_74 rfl ha0 rfl rfl dX1_endNumberedPhase_23 (fun s8 => ?_)
    refine R_aload_n C 1 rfl dX1_endNumberedPhase_26 ?_
    refine R_geti C fl1_55 rfl ha0 dX1_endNumberedPhase_27 ?_
    refine R_iconst C (2) dX1_endNumberedPhase_30 (by decide) ?_
    refine R_bdK (fun (w : Unit) (s : Sg) => V κ G (QQ κ G E none σ') E s (false, 0, 0) 53 [] []) (fun w9 s10 => ?_) (fun w9 s10 Kw9 => ?_)
    · exact R_vret C hr dX1_endNumberedPhase_53
    · refine B_icmp_ne C dX1_endNumberedPhase_31 ?_ ?_
      · refine R_loc (lv2 := []) [] rfl ?_
        exact R_end (fun (w : Unit) (s : Sg) => V κ G (QQ κ G E none σ') E s (false, 0, 0) 53 [] []) Kw9
      · refine R_aload_n C 1 rfl dX1_endNumberedPhase_34 ?_
        refine R_dr (fun x11 rx11 cx11 => ?_)
        refine R_getr C fl1_21 rfl ha0 rx11 dX1_endNumberedPhase_35 ?_
        refine R_iload_n C 0 rfl dX1_endNumberedPhase_38 ?_
        refine R_iconst C (0) dX1_endNumberedPhase_39 (by decide) ?_
        refine R_ck (fun h12 => ?_)
        refine S_zast C cx11 h12 dX1_endNumberedPhase_40 (fun s13 => ?_)
        refine R_aload_n C 1 rfl dX1_endNumberedPhase_41 ?_
        refine R_bd (fun r16 s14 q15 => ?_)
        refine R_callVi [] [] C ml1_177 (kX1_givers q15) (by rw [hR]; exact ⟨rfl, rfl, Nat.le_of_ble_eq_true rfl, Nat.le_of_ble_eq_true rfl, Nat.zero_le _, Nat.zero_le _⟩) ha0 rfl rfl (Nat.le_of_ble_eq_true rfl) dX1_endNumberedPhase_42 ?_
        refine R_iconst C (2) dX1_endNumberedPhase_45 (by decide) ?_
        refine B_icmp_ge C dX1_endNumberedPhase_46 ?_ ?_
        · refine R_loc (lv2 := []) [] rfl ?_
          exact R_end (fun (w : Unit) (s : Sg) => V κ G (QQ κ G E none σ') E s (false, 0, 0) 53 [] []) Kw9
        · refine R_aload_n C 1 rfl dX1_endNumberedPhase_49 ?_
          refine R_bv (fun s17 q18 => ?_)
          refine R_callVv [] [] C ml1_104 (kX1_openPass q18) (by rw [hR]; exact ⟨rfl, rfl, Nat.le_of_ble_eq_true rfl, Nat.le_of_ble_eq_true rfl, Nat.zero_le _, Nat.zero_le _⟩) ha0 rfl rfl (Nat.le_of_ble_eq_true rfl) dX1_endNumberedPhase_50 ?_
          refine R_loc (lv2 := []) [] rfl ?_
          exact R_end (fun (w : Unit) (s : Sg) => V κ G (QQ κ G E none σ') E s (false, 0, 0) 53 [] []) Kw9
  · exact R_vret C hr dX1_endNumberedPhase_10
theorem dX1_advance_0 : dk cX1_advance 0 1 (.aload_n 0) 1 := by unfold dk; decide +kernel
theorem dX1_advance_1 : dk cX1_advance 1 4 (.invokevirtual 155) 3 := by unfold dk; decide +kernel
theorem dX1_advance_4 : dk cX1_advance 4 5 (.aload_n 0) 1 := by unfold dk; decide +kernel
theorem dX1_advance_5 : dk cX1_advance 5 8 (.getfield 61) 3 := by unfold dk; decide +kernel
theorem dX1_advance_8 : bk cX1_advance 8 11 26 (.ifCond .eq 18) (18) := by unfold bk; decide +kernel
theorem dX1_advance_26 : dk cX1_advance 26 27 (.iconst 0) 1 := by unfold dk; decide +kernel
theorem dX1_advance_11 : dk cX1_advance 11 12 (.aload_n 0) 1 := by unfold dk; decide +kernel
theorem dX1_advance_12 : dk cX1_advance 12 13 (.aload_n 0) 1 := by unfold dk; decide +kernel
theorem dX1_advance_13 : dk cX1_advance 13 16 (.getfield 139) 3 := by unfold dk; decide +kernel
theorem dX1_advance_16 : dk cX1_advance 16 19 (.invokevirtual 149) 3 := by unfold dk; decide +kernel
theorem dX1_advance_22 : dk cX1_advance 22 23 (.iconst 1) 1 := by unfold dk; decide +kernel
theorem dX1_advance_23 : bk cX1_advance 23 26 27 (.goto 4) (4) := by unfold bk; decide +kernel
theorem dX1_advance_19 : bk cX1_advance 19 22 26 (.ifCond .eq 7) (7) := by unfold bk; decide +kernel
theorem dX1_advance_27 : dk cX1_advance 27 28 (.istore_n 1) 1 := by unfold dk; decide +kernel
theorem dX1_advance_28 : dk cX1_advance 28 29 (.iconst 0) 1 := by unfold dk; decide +kernel
theorem dX1_advance_29 : dk cX1_advance 29 30 (.istore_n 2) 1 := by unfold dk; decide +kernel
theorem dX1_advance_30 : dk cX1_advance 30 31 (.iconst 0) 1 := by unfold dk; decide +kernel
theorem dX1_advance_31 : dk cX1_advance 31 32 (.istore_n 3) 1 := by unfold dk; decide +kernel
theorem dX1_advance_32 : dk cX1_advance 32 33 (.iload_n 3) 1 := by unfold dk; decide +kernel
theorem dX1_advance_33 : dk cX1_advance 33 34 (.aload_n 0) 1 := by unfold dk; decide +kernel
theorem dX1_advance_34 : dk cX1_advance 34 37 (.getfield 58) 3 := by unfold dk; decide +kernel
theorem dX1_advance_40 : dk cX1_advance 40 41 (.aload_n 0) 1 := by unfold dk; decide +kernel
theorem dX1_advance_41 : dk cX1_advance 41 44 (.getfield 29) 3 := by unfold dk; decide +kernel
theorem dX1_advance_44 : dk cX1_advance 44 45 (.iload_n 3) 1 := by unfold dk; decide +kernel
theorem dX1_advance_45 : dk cX1_advance 45 46 (.iaload) 1 := by unfold dk; decide +kernel
theorem dX1_advance_46 : dk cX1_advance 46 48 (.bipush (-2)) 2 := by unfold dk; decide +kernel
theorem dX1_advance_48 : bk cX1_advance 48 51 54 (.if_icmp .ne 6) (6) := by unfold bk; decide +kernel
theorem dX1_advance_54 : dk cX1_advance 54 55 (.aload_n 0) 1 := by unfold dk; decide +kernel
theorem dX1_advance_55 : dk cX1_advance 55 58 (.getfield 17) 3 := by unfold dk; decide +kernel
theorem dX1_advance_58 : dk cX1_advance 58 59 (.iload_n 3) 1 := by unfold dk; decide +kernel
theorem dX1_advance_59 : dk cX1_advance 59 60 (.aaload) 1 := by unfold dk; decide +kernel
theorem dX1_advance_60 : dk cX1_advance 60 61 (.aload_n 0) 1 := by unfold dk; decide +kernel
theorem dX1_advance_61 : dk cX1_advance 61 64 (.getfield 61) 3 := by unfold dk; decide +kernel
theorem dX1_advance_64 : dk cX1_advance 64 67 (.invokevirtual 158) 3 := by unfold dk; decide +kernel
theorem dX1_advance_67 : dk cX1_advance 67 68 (.aload_n 0) 1 := by unfold dk; decide +kernel
theorem dX1_advance_68 : dk cX1_advance 68 69 (.dup) 1 := by unfold dk; decide +kernel
theorem dX1_advance_69 : dk cX1_advance 69 72 (.getfield 71) 3 := by unfold dk; decide +kernel
theorem dX1_advance_72 : dk cX1_advance 72 73 (.iconst 1) 1 := by unfold dk; decide +kernel
theorem dX1_advance_73 : dk cX1_advance 73 74 (.isub) 1 := by unfold dk; decide +kernel
theorem dX1_advance_74 : dk cX1_advance 74 77 (.putfield 71) 3 := by unfold dk; decide +kernel
theorem dX1_advance_77 : dk cX1_advance 77 78 (.iload_n 2) 1 := by unfold dk; decide +kernel
theorem dX1_advance_78 : dk cX1_advance 78 79 (.aload_n 0) 1 := by unfold dk; decide +kernel
theorem dX1_advance_79 : dk cX1_advance 79 80 (.aload_n 0) 1 := by unfold dk; decide +kernel
theorem dX1_advance_80 : dk cX1_advance 80 83 (.getfield 29) 3 := by unfold dk; decide +kernel
theorem dX1_advance_83 : dk cX1_advance 83 84 (.iload_n 3) 1 := by unfold dk; decide +kernel
theorem dX1_advance_84 : dk cX1_advance 84 85 (.iaload) 1 := by unfold dk; decide +kernel
theorem dX1_advance_85 : dk cX1_advance 85 88 (.invokevirtual 161) 3 := by unfold dk; decide +kernel
theorem dX1_advance_88 : dk cX1_advance 88 89 (.iadd) 1 := by unfold dk; decide +kernel
theorem dX1_advance_89 : dk cX1_advance 89 90 (.istore_n 2) 1 := by unfold dk; decide +kernel
theorem dX1_advance_90 : dk cX1_advance 90 91 (.aload_n 0) 1 := by unfold dk; decide +kernel
theorem dX1_advance_91 : dk cX1_advance 91 92 (.aload_n 0) 1 := by unfold dk; decide +kernel
theorem dX1_advance_92 : dk cX1_advance 92 95 (.getfield 29) 3 := by unfold dk; decide +kernel
theorem dX1_advance_95 : dk cX1_advance 95 96 (.iload_n 3) 1 := by unfold dk; decide +kernel
theorem dX1_advance_96 : dk cX1_advance 96 97 (.iaload) 1 := by unfold dk; decide +kernel
theorem dX1_advance_97 : dk cX1_advance 97 100 (.invokevirtual 149) 3 := by unfold dk; decide +kernel
theorem dX1_advance_100 : dk cX1_advance 100 101 (.iload_n 1) 1 := by unfold dk; decide +kernel
theorem dX1_advance_104 : dk cX1_advance 104 105 (.aload_n 0) 1 := by unfold dk; decide +kernel
theorem dX1_advance_105 : dk cX1_advance 105 108 (.getfield 25) 3 := by unfold dk; decide +kernel
theorem dX1_advance_108 : dk cX1_advance 108 109 (.iconst 3) 1 := by unfold dk; decide +kernel
theorem dX1_advance_109 : dk cX1_advance 109 110 (.dup2) 1 := by unfold dk; decide +kernel
theorem dX1_advance_110 : dk cX1_advance 110 111 (.iaload) 1 := by unfold dk; decide +kernel
theorem dX1_advance_111 : dk cX1_advance 111 112 (.aload_n 0) 1 := by unfold dk; decide +kernel
theorem dX1_advance_112 : dk cX1_advance 112 113 (.aload_n 0) 1 := by unfold dk; decide +kernel
theorem dX1_advance_113 : dk cX1_advance 113 116 (.getfield 29) 3 := by unfold dk; decide +kernel
theorem dX1_advance_116 : dk cX1_advance 116 117 (.iload_n 3) 1 := by unfold dk; decide +kernel
theorem dX1_advance_117 : dk cX1_advance 117 118 (.iaload) 1 := by unfold dk; decide +kernel
theorem dX1_advance_118 : dk cX1_advance 118 121 (.invokevirtual 161) 3 := by unfold dk; decide +kernel
theorem dX1_advance_121 : dk cX1_advance 121 122 (.iadd) 1 := by unfold dk; decide +kernel
theorem dX1_advance_122 : dk cX1_advance 122 123 (.iastore) 1 := by unfold dk; decide +kernel
theorem dX1_advance_101 : bk cX1_advance 101 104 123 (.if_icmp .eq 22) (22) := by unfold bk; decide +kernel
theorem dX1_advance_51 : bk cX1_advance 51 54 123 (.goto 72) (72) := by unfold bk; decide +kernel
theorem dX1_advance_123 : dk cX1_advance 123 126 (.iinc 3 1) 3 := by unfold dk; decide +kernel
theorem dX1_advance_126 : bk cX1_advance 126 129 32 (.goto (-94)) (-94) := by unfold bk; decide +kernel
theorem dX1_advance_37 : bk cX1_advance 37 40 129 (.if_icmp .ge 92) (92) := by unfold bk; decide +kernel
theorem dX1_advance_129 : dk cX1_advance 129 130 (.aload_n 0) 1 := by unfold dk; decide +kernel
theorem dX1_advance_130 : dk cX1_advance 130 131 (.aload_n 0) 1 := by unfold dk; decide +kernel
theorem dX1_advance_131 : dk cX1_advance 131 134 (.getfield 139) 3 := by unfold dk; decide +kernel
theorem dX1_advance_134 : dk cX1_advance 134 137 (.putfield 165) 3 := by unfold dk; decide +kernel
theorem dX1_advance_137 : dk cX1_advance 137 138 (.aload_n 0) 1 := by unfold dk; decide +kernel
theorem dX1_advance_138 : dk cX1_advance 138 141 (.getfield 165) 3 := by unfold dk; decide +kernel
theorem dX1_advance_141 : dk cX1_advance 141 142 (.iconst (-1)) 1 := by unfold dk; decide +kernel
theorem dX1_advance_142 : bk cX1_advance 142 145 168 (.if_icmp .eq 26) (26) := by unfold bk; decide +kernel
theorem dX1_advance_145 : dk cX1_advance 145 146 (.aload_n 0) 1 := by unfold dk; decide +kernel
theorem dX1_advance_146 : dk cX1_advance 146 149 (.getfield 48) 3 := by unfold dk; decide +kernel
theorem dX1_advance_149 : dk cX1_advance 149 150 (.aload_n 0) 1 := by unfold dk; decide +kernel
theorem dX1_advance_150 : dk cX1_advance 150 153 (.getfield 165) 3 := by unfold dk; decide +kernel
theorem dX1_advance_153 : dk cX1_advance 153 154 (.iload_n 2) 1 := by unfold dk; decide +kernel
theorem dX1_advance_154 : dk cX1_advance 154 155 (.iastore) 1 := by unfold dk; decide +kernel
theorem dX1_advance_155 : dk cX1_advance 155 156 (.aload_n 0) 1 := by unfold dk; decide +kernel
theorem dX1_advance_156 : dk cX1_advance 156 159 (.getfield 51) 3 := by unfold dk; decide +kernel
theorem dX1_advance_159 : dk cX1_advance 159 160 (.aload_n 0) 1 := by unfold dk; decide +kernel
theorem dX1_advance_160 : dk cX1_advance 160 163 (.getfield 165) 3 := by unfold dk; decide +kernel
theorem dX1_advance_163 : dk cX1_advance 163 164 (.aload_n 0) 1 := by unfold dk; decide +kernel
theorem dX1_advance_164 : dk cX1_advance 164 167 (.getfield 152) 3 := by unfold dk; decide +kernel
theorem dX1_advance_167 : dk cX1_advance 167 168 (.bastore) 1 := by unfold dk; decide +kernel
theorem dX1_advance_168 : dk cX1_advance 168 169 (.aload_n 0) 1 := by unfold dk; decide +kernel
theorem dX1_advance_169 : dk cX1_advance 169 172 (.getfield 17) 3 := by unfold dk; decide +kernel
theorem dX1_advance_172 : dk cX1_advance 172 173 (.aload_n 0) 1 := by unfold dk; decide +kernel
theorem dX1_advance_173 : dk cX1_advance 173 176 (.getfield 74) 3 := by unfold dk; decide +kernel
theorem dX1_advance_176 : dk cX1_advance 176 177 (.aaload) 1 := by unfold dk; decide +kernel
theorem dX1_advance_177 : dk cX1_advance 177 178 (.aload_n 0) 1 := by unfold dk; decide +kernel
theorem dX1_advance_178 : dk cX1_advance 178 181 (.getfield 165) 3 := by unfold dk; decide +kernel
theorem dX1_advance_181 : dk cX1_advance 181 184 (.invokevirtual 110) 3 := by unfold dk; decide +kernel
theorem dX1_advance_184 : dk cX1_advance 184 185 (.aload_n 0) 1 := by unfold dk; decide +kernel
theorem dX1_advance_185 : dk cX1_advance 185 186 (.dup) 1 := by unfold dk; decide +kernel
theorem dX1_advance_186 : dk cX1_advance 186 189 (.getfield 71) 3 := by unfold dk; decide +kernel
theorem dX1_advance_189 : dk cX1_advance 189 190 (.iconst 1) 1 := by unfold dk; decide +kernel
theorem dX1_advance_190 : dk cX1_advance 190 191 (.iadd) 1 := by unfold dk; decide +kernel
theorem dX1_advance_191 : dk cX1_advance 191 194 (.putfield 71) 3 := by unfold dk; decide +kernel
theorem dX1_advance_194 : dk cX1_advance 194 195 (.aload_n 0) 1 := by unfold dk; decide +kernel
theorem dX1_advance_195 : dk cX1_advance 195 198 (.getfield 25) 3 := by unfold dk; decide +kernel
theorem dX1_advance_198 : dk cX1_advance 198 199 (.iconst 0) 1 := by unfold dk; decide +kernel
theorem dX1_advance_199 : dk cX1_advance 199 200 (.dup2) 1 := by unfold dk; decide +kernel
theorem dX1_advance_200 : dk cX1_advance 200 201 (.iaload) 1 := by unfold dk; decide +kernel
theorem dX1_advance_201 : dk cX1_advance 201 202 (.iload_n 2) 1 := by unfold dk; decide +kernel
theorem dX1_advance_202 : dk cX1_advance 202 203 (.iadd) 1 := by unfold dk; decide +kernel
theorem dX1_advance_203 : dk cX1_advance 203 204 (.iastore) 1 := by unfold dk; decide +kernel
theorem dX1_advance_204 : dk cX1_advance 204 205 (.aload_n 0) 1 := by unfold dk; decide +kernel
theorem dX1_advance_205 : dk cX1_advance 205 208 (.getfield 25) 3 := by unfold dk; decide +kernel
theorem dX1_advance_208 : dk cX1_advance 208 209 (.iconst 1) 1 := by unfold dk; decide +kernel
theorem dX1_advance_209 : dk cX1_advance 209 210 (.dup2) 1 := by unfold dk; decide +kernel
theorem dX1_advance_210 : dk cX1_advance 210 211 (.iaload) 1 := by unfold dk; decide +kernel
theorem dX1_advance_211 : dk cX1_advance 211 212 (.iconst 1) 1 := by unfold dk; decide +kernel
theorem dX1_advance_212 : dk cX1_advance 212 213 (.iadd) 1 := by unfold dk; decide +kernel
theorem dX1_advance_213 : dk cX1_advance 213 214 (.iastore) 1 := by unfold dk; decide +kernel
theorem dX1_advance_214 : dk cX1_advance 214 215 (.aload_n 0) 1 := by unfold dk; decide +kernel
theorem dX1_advance_215 : dk cX1_advance 215 218 (.getfield 55) 3 := by unfold dk; decide +kernel
theorem dX1_advance_218 : dk cX1_advance 218 219 (.iconst 1) 1 := by unfold dk; decide +kernel
theorem dX1_advance_219 : bk cX1_advance 219 222 229 (.if_icmp .ne 10) (10) := by unfold bk; decide +kernel
theorem dX1_advance_229 : dk cX1_advance 229 230 (.aload_n 0) 1 := by unfold dk; decide +kernel
theorem dX1_advance_230 : dk cX1_advance 230 233 (.invokevirtual 171) 3 := by unfold dk; decide +kernel
theorem dX1_advance_222 : dk cX1_advance 222 223 (.aload_n 0) 1 := by unfold dk; decide +kernel
theorem dX1_advance_223 : dk cX1_advance 223 226 (.invokevirtual 168) 3 := by unfold dk; decide +kernel
theorem dX1_advance_226 : bk cX1_advance 226 229 233 (.goto 7) (7) := by unfold bk; decide +kernel
theorem dX1_advance_233 : dk cX1_advance 233 234 (.aload_n 0) 1 := by unfold dk; decide +kernel
theorem dX1_advance_234 : dk cX1_advance 234 237 (.invokevirtual 107) 3 := by unfold dk; decide +kernel
theorem dX1_advance_237 : dk cX1_advance 237 238 (.return_) 1 := by unfold dk; decide +kernel
set_option maxHeartbeats 4000000 in
set_option maxRecDepth 100000 in
theorem kX1_advance {l : Launch} {G : Gl} {E : En} {a0 : Nat} {σ σ' : Sg} : fX1_advance E a0 σ = some σ' → CT l yX1_advance cX1_advance 4 none ({ frames := 4, cells := 0, slots := 0, locals := 84 } : Room) [.ref (G.1 + a0)] G E σ none σ' := by
  intro h
  refine CT_of (lv0 := [(0, .ref (G.1 + a0))]) (by decide) (Nat.le_of_ble_eq_true rfl) rfl (fun κ hl hR hr C => ?_)
  have C : Cx κ G cX1_advance RX1 4 := C
  revert h
  unfold fX1_advance
  refine R_tk (fun ha0 => ?_)
  refine R_aload_n C 0 rfl dX1_advance_0 ?_
  refine R_bv (fun s1 q2 => ?_)
  refine R_callVv [] [] C ml1_155 (kX1_look q2) (by rw [hR]; exact ⟨rfl, rfl, Nat.le_of_ble_eq_true rfl, Nat.le_of_ble_eq_true rfl, Nat.zero_le _, Nat.zero_le _⟩) ha0 rfl rfl (Nat.le_of_ble_eq_true rfl) dX1_advance_1 ?_
  refine R_aload_n C 0 rfl dX1_advance_4 ?_
  refine R_geti C fl1_61 rfl ha0 dX1_advance_5 ?_
  refine R_bdK (fun (w : Int32) (s : Sg) => V κ G (QQ κ G E none σ') E s (false, 0, 0) 27 [(0, .ref (G.1 + a0))] [.int w]) (fun w3 s4 => ?_) (fun w3 s4 Kw3 => ?_)
  · refine R_istore_n (lv2 := [(1, .int w3), (0, .ref (G.1 + a0))]) C dX1_advance_27 rfl (by decide) rfl ?_
    refine R_iconst C (0) dX1_advance_28 (by decide) ?_
    refine R_istore_n (lv2 := [(2, .int (0 : Int32)), (1, .int w3), (0, .ref (G.1 + a0))]) C dX1_advance_29 rfl (by decide) rfl ?_
    refine R_iconst C (0) dX1_advance_30 (by decide) ?_
    refine R_istore_n (lv2 := [(3, .int (0 : Int32)), (2, .int (0 : Int32)), (1, .int w3), (0, .ref (G.1 + a0))]) C dX1_advance_31 rfl (by decide) rfl ?_
    refine R_loc (lv2 := [(1, .int w3), (0, .ref (G.1 + a0)), (2, .int (0 : Int32)), (3, .int (0 : Int32))]) [2, 3, 1, 0] rfl ?_
    refine R_loop (fun (a : (Int32 × Int32) × Sg) => V κ G (QQ κ G E none σ') E a.2 (false, 0, 0) 32 [(1, .int w3), (0, .ref (G.1 + a0)), (2, .int a.1.1), (3, .int a.1.2)] []) (fun (o : (Int32 × Int32)) (s : Sg) => V κ G (QQ κ G E none σ') E s (false, 0, 0) 129 [(0, .ref (G.1 + a0)), (2, .int o.1)] []) (((0 : Int32), (0 : Int32)), s4) (fun o43 s44 => ?_) (fun rec I14 a b12 s13 K11 => ?_)
    · refine R_aload_n C 0 rfl dX1_advance_129 ?_
      refine R_aload_n C 0 rfl dX1_advance_130 ?_
      refine R_geti C fl1_139 rfl ha0 dX1_advance_131 ?_
      refine S_puti C fl1_165 rfl ha0 rfl rfl dX1_advance_134 (fun s45 => ?_)
      refine R_aload_n C 0 rfl dX1_advance_137 ?_
      refine R_geti C fl1_165 rfl ha0 dX1_advance_138 ?_
      refine R_iconst C (-1) dX1_advance_141 (by decide) ?_
      refine R_bdK (fun (w : Unit) (s : Sg) => V κ G (QQ κ G E none σ') E s (false, 0, 0) 168 [(0, .ref (G.1 + a0)), (2, .int o43.1)] []) (fun w46 s47 => ?_) (fun w46 s47 Kw46 => ?_)
      · refine R_aload_n C 0 rfl dX1_advance_168 ?_
        refine R_dr (fun x54 rx54 cx54 => ?_)
        refine R_getr C fl1_17 rfl ha0 rx54 dX1_advance_169 ?_
        refine R_aload_n C 0 rfl dX1_advance_172 ?_
        refine R_geti C fl1_74 rfl ha0 dX1_advance_173 ?_
        refine R_ck (fun h55 => ?_)
        refine R_dr (fun x56 rx56 cx56 => ?_)
        refine R_aald4 C cx54 h55 rx56 dX1_advance_176 ?_
        refine R_aload_n C 0 rfl dX1_advance_177 ?_
        refine R_geti C fl1_165 rfl ha0 dX1_advance_178 ?_
        refine R_bv (fun s57 q58 => ?_)
        refine R_callVv [.int (gi s47 a0 16)] [] C ml1_110 (kX5_write q58) (by rw [hR]; exact ⟨rfl, rfl, Nat.le_of_ble_eq_true rfl, Nat.le_of_ble_eq_true rfl, Nat.zero_le _, Nat.zero_le _⟩) cx56 rfl rfl (Nat.le_of_ble_eq_true rfl) dX1_advance_181 ?_
        refine R_aload_n C 0 rfl dX1_advance_184 ?_
        refine R_dup C dX1_advance_185 rfl ?_
        refine R_geti C fl1_71 rfl ha0 dX1_advance_186 ?_
        refine R_iconst C (1) dX1_advance_189 (by decide) ?_
        refine R_iadd C dX1_advance_190 ?_
        refine S_puti C fl1_71 rfl ha0 rfl rfl dX1_advance_191 (fun s59 => ?_)
        refine R_aload_n C 0 rfl dX1_advance_194 ?_
        refine R_dr (fun x60 rx60 cx60 => ?_)
        refine R_getr C fl1_25 rfl ha0 rx60 dX1_advance_195 ?_
        refine R_iconst C (0) dX1_advance_198 (by decide) ?_
        refine R_dup2 C dX1_advance_199 rfl rfl ?_
        refine R_ck (fun h61 => ?_)
        refine R_iald C cx60 h61 dX1_advance_200 ?_
        refine R_iload_n C 1 rfl dX1_advance_201 ?_
        refine R_iadd C dX1_advance_202 ?_
        refine R_ck (fun h62 => ?_)
        refine S_iast C cx60 h62 dX1_advance_203 (fun s63 => ?_)
        refine R_aload_n C 0 rfl dX1_advance_204 ?_
        refine R_getr C fl1_25 rfl ha0 rx60 dX1_advance_205 ?_
        refine R_iconst C (1) dX1_advance_208 (by decide) ?_
        refine R_dup2 C dX1_advance_209 rfl rfl ?_
        refine R_ck (fun h64 => ?_)
        refine R_iald C cx60 h64 dX1_advance_210 ?_
        refine R_iconst C (1) dX1_advance_211 (by decide) ?_
        refine R_iadd C dX1_advance_212 ?_
        refine R_ck (fun h65 => ?_)
        refine S_iast C cx60 h65 dX1_advance_213 (fun s66 => ?_)
        refine R_aload_n C 0 rfl dX1_advance_214 ?_
        refine R_geti C fl1_55 rfl ha0 dX1_advance_215 ?_
        refine R_iconst C (1) dX1_advance_218 (by decide) ?_
        refine R_bdK (fun (w : Unit) (s : Sg) => V κ G (QQ κ G E none σ') E s (false, 0, 0) 233 [(0, .ref (G.1 + a0))] []) (fun w67 s68 => ?_) (fun w67 s68 Kw67 => ?_)
        · refine R_aload_n C 0 rfl dX1_advance_233 ?_
          refine R_bv (fun s73 q74 => ?_)
          refine R_callVv [] [] C ml1_107 (kX1_turnLast q74) (by rw [hR]; exact ⟨rfl, rfl, Nat.le_of_ble_eq_true rfl, Nat.le_of_ble_eq_true rfl, Nat.zero_le _, Nat.zero_le _⟩) ha0 rfl rfl (Nat.le_of_ble_eq_true rfl) dX1_advance_234 ?_
          exact R_vret C hr dX1_advance_237
        · refine B_icmp_ne C dX1_advance_219 ?_ ?_
          · refine R_aload_n C 0 rfl dX1_advance_229 ?_
            refine R_bv (fun s69 q70 => ?_)
            refine R_callVv [] [] C ml1_171 (kX1_endNumberedPhase q70) (by rw [hR]; exact ⟨rfl, rfl, Nat.le_of_ble_eq_true rfl, Nat.le_of_ble_eq_true rfl, Nat.zero_le _, Nat.zero_le _⟩) ha0 rfl rfl (Nat.le_of_ble_eq_true rfl) dX1_advance_230 ?_
            refine R_loc (lv2 := [(0, .ref (G.1 + a0))]) [0] rfl ?_
            exact R_end (fun (w : Unit) (s : Sg) => V κ G (QQ κ G E none σ') E s (false, 0, 0) 233 [(0, .ref (G.1 + a0))] []) Kw67
          · refine R_aload_n C 0 rfl dX1_advance_222 ?_
            refine R_bv (fun s71 q72 => ?_)
            refine R_callVv [] [] C ml1_168 (kX1_endBalancedPhase q72) (by rw [hR]; exact ⟨rfl, rfl, Nat.le_of_ble_eq_true rfl, Nat.le_of_ble_eq_true rfl, Nat.zero_le _, Nat.zero_le _⟩) ha0 rfl rfl (Nat.le_of_ble_eq_true rfl) dX1_advance_223 ?_
            refine R_goto C dX1_advance_226 ?_
            refine R_loc (lv2 := [(0, .ref (G.1 + a0))]) [0] rfl ?_
            exact R_end (fun (w : Unit) (s : Sg) => V κ G (QQ κ G E none σ') E s (false, 0, 0) 233 [(0, .ref (G.1 + a0))] []) Kw67
      · refine B_icmp_eq C dX1_advance_142 ?_ ?_
        · exact R_end (fun (w : Unit) (s : Sg) => V κ G (QQ κ G E none σ') E s (false, 0, 0) 168 [(0, .ref (G.1 + a0)), (2, .int o43.1)] []) Kw46
        · refine R_aload_n C 0 rfl dX1_advance_145 ?_
          refine R_dr (fun x48 rx48 cx48 => ?_)
          refine R_getr C fl1_48 rfl ha0 rx48 dX1_advance_146 ?_
          refine R_aload_n C 0 rfl dX1_advance_149 ?_
          refine R_geti C fl1_165 rfl ha0 dX1_advance_150 ?_
          refine R_iload_n C 1 rfl dX1_advance_153 ?_
          refine R_ck (fun h49 => ?_)
          refine S_iast C cx48 h49 dX1_advance_154 (fun s50 => ?_)
          refine R_aload_n C 0 rfl dX1_advance_155 ?_
          refine R_dr (fun x51 rx51 cx51 => ?_)
          refine R_getr C fl1_51 rfl ha0 rx51 dX1_advance_156 ?_
          refine R_aload_n C 0 rfl dX1_advance_159 ?_
          refine R_geti C fl1_165 rfl ha0 dX1_advance_160 ?_
          refine R_aload_n C 0 rfl dX1_advance_163 ?_
          refine R_geti C fl1_152 rfl ha0 dX1_advance_164 ?_
          refine R_ck (fun h52 => ?_)
          refine S_zast C cx51 h52 dX1_advance_167 (fun s53 => ?_)
          exact R_end (fun (w : Unit) (s : Sg) => V κ G (QQ κ G E none σ') E s (false, 0, 0) 168 [(0, .ref (G.1 + a0)), (2, .int o43.1)] []) Kw46
    · obtain ⟨⟨v8, v9⟩, s10⟩ := a
      show bX1_advance_32 E a0 w3 (fun u0 u1 t => rec ((u0, u1), t)) v8 v9 s10 = some (b12, s13) → V κ G (QQ κ G E none σ') E s10 (false, 0, 0) 32 [(1, .int w3), (0, .ref (G.1 + a0)), (2, .int v8), (3, .int v9)] []
      unfold bX1_advance_32
      refine R_iload_n C 3 rfl dX1_advance_32 ?_
      refine R_aload_n C 1 rfl dX1_advance_33 ?_
      refine R_geti C fl1_58 rfl ha0 dX1_advance_34 ?_
      refine B_icmp_ge C dX1_advance_37 ?_ ?_
      · refine R_loc (lv2 := [(0, .ref (G.1 + a0)), (2, .int v8)]) [1, 2] rfl ?_
        exact R_end (fun (o : (Int32 × Int32)) (s : Sg) => V κ G (QQ κ G E none σ') E s (false, 0, 0) 129 [(0, .ref (G.1 + a0)), (2, .int o.1)] []) K11
      · refine R_aload_n C 1 rfl dX1_advance_40 ?_
        refine R_dr (fun x15 rx15 cx15 => ?_)
        refine R_getr C fl1_29 rfl ha0 rx15 dX1_advance_41 ?_
        refine R_iload_n C 3 rfl dX1_advance_44 ?_
        refine R_ck (fun h16 => ?_)
        refine R_iald C cx15 h16 dX1_advance_45 ?_
        refine R_bipush C (-2) dX1_advance_46 (by decide) ?_
        refine R_bdK (fun (w : Int32) (s : Sg) => V κ G (QQ κ G E none σ') E s (false, 0, 0) 123 [(1, .int w3), (0, .ref (G.1 + a0)), (3, .int v9), (2, .int w)] []) (fun w17 s18 => ?_) (fun w17 s18 Kw17 => ?_)
        · refine S_iinc (fun v42 => [(3, .int v42), (1, .int w3), (0, .ref (G.1 + a0)), (2, .int w17)]) 2 C dX1_advance_123 rfl (by decide) (by decide) (fun _ => rfl) (fun v42 => ?_)
          refine R_goto C dX1_advance_126 ?_
          refine R_loc (lv2 := [(1, .int w3), (0, .ref (G.1 + a0)), (2, .int w17), (3, .int v42)]) [1, 2, 3, 0] rfl ?_
          exact I14 ((w17, v42), s18) b12 s13 K11
        · refine B_icmp_ne C dX1_advance_48 ?_ ?_
          · refine R_aload_n C 1 rfl dX1_advance_54 ?_
            refine R_dr (fun x19 rx19 cx19 => ?_)
            refine R_getr C fl1_17 rfl ha0 rx19 dX1_advance_55 ?_
            refine R_iload_n C 3 rfl dX1_advance_58 ?_
            refine R_ck (fun h20 => ?_)
            refine R_dr (fun x21 rx21 cx21 => ?_)
            refine R_aald4 C cx19 h20 rx21 dX1_advance_59 ?_
            refine R_aload_n C 1 rfl dX1_advance_60 ?_
            refine R_geti C fl1_61 rfl ha0 dX1_advance_61 ?_
            refine R_bv (fun s22 q23 => ?_)
            refine R_callVv [.int (gi s10 a0 3)] [] C ml1_158 (kX5_drop q23) (by rw [hR]; exact ⟨rfl, rfl, Nat.le_of_ble_eq_true rfl, Nat.le_of_ble_eq_true rfl, Nat.zero_le _, Nat.zero_le _⟩) cx21 rfl rfl (Nat.le_of_ble_eq_true rfl) dX1_advance_64 ?_
            refine R_aload_n C 1 rfl dX1_advance_67 ?_
            refine R_dup C dX1_advance_68 rfl ?_
            refine R_geti C fl1_71 rfl ha0 dX1_advance_69 ?_
            refine R_iconst C (1) dX1_advance_72 (by decide) ?_
            refine R_isub C dX1_advance_73 ?_
            refine S_puti C fl1_71 rfl ha0 rfl rfl dX1_advance_74 (fun s24 => ?_)
            refine R_iload_n C 2 rfl dX1_advance_77 ?_
            refine R_aload_n C 1 rfl dX1_advance_78 ?_
            refine R_aload_n C 1 rfl dX1_advance_79 ?_
            refine R_getr C fl1_29 rfl ha0 rx15 dX1_advance_80 ?_
            refine R_iload_n C 3 rfl dX1_advance_83 ?_
            refine R_ck (fun h25 => ?_)
            refine R_iald C cx15 h25 dX1_advance_84 ?_
            refine R_bd (fun r28 s26 q27 => ?_)
            refine R_callVi [.int (gi s24 x15 v9.toNatClampNeg)] [.int v8] C ml1_161 (kX1_sizeOf q27) (by rw [hR]; exact ⟨rfl, rfl, Nat.le_of_ble_eq_true rfl, Nat.le_of_ble_eq_true rfl, Nat.zero_le _, Nat.zero_le _⟩) ha0 rfl rfl (Nat.le_of_ble_eq_true rfl) dX1_advance_85 ?_
            refine R_iadd C dX1_advance_88 ?_
            refine S_istore_n C dX1_advance_89 rfl (fun v29 => [(2, .int v29), (1, .int w3), (0, .ref (G.1 + a0)), (3, .int v9)]) (by decide) (fun _ => rfl) (fun v29 => ?_)
            refine R_aload_n C 2 rfl dX1_advance_90 ?_
            refine R_aload_n C 2 rfl dX1_advance_91 ?_
            refine R_getr C fl1_29 rfl ha0 rx15 dX1_advance_92 ?_
            refine R_iload_n C 3 rfl dX1_advance_95 ?_
            refine R_ck (fun h30 => ?_)
            refine R_iald C cx15 h30 dX1_advance_96 ?_
            refine R_bd (fun r33 s31 q32 => ?_)
            refine R_callVi [.int (gi s26 x15 v9.toNatClampNeg)] [] C ml1_149 (kX1_isDown q32) (by rw [hR]; exact ⟨rfl, rfl, Nat.le_of_ble_eq_true rfl, Nat.le_of_ble_eq_true rfl, Nat.zero_le _, Nat.zero_le _⟩) ha0 rfl rfl (Nat.le_of_ble_eq_true rfl) dX1_advance_97 ?_
            refine R_iload_n C 1 rfl dX1_advance_100 ?_
            refine B_icmp_eq C dX1_advance_101 ?_ ?_
            · refine R_loc (lv2 := [(1, .int w3), (0, .ref (G.1 + a0)), (3, .int v9), (2, .int v29)]) [1, 2, 3, 0] rfl ?_
              exact R_end (fun (w : Int32) (s : Sg) => V κ G (QQ κ G E none σ') E s (false, 0, 0) 123 [(1, .int w3), (0, .ref (G.1 + a0)), (3, .int v9), (2, .int w)] []) Kw17
            · refine R_aload_n C 2 rfl dX1_advance_104 ?_
              refine R_dr (fun x34 rx34 cx34 => ?_)
              refine R_getr C fl1_25 rfl ha0 rx34 dX1_advance_105 ?_
              refine R_iconst C (3) dX1_advance_108 (by decide) ?_
              refine R_dup2 C dX1_advance_109 rfl rfl ?_
              refine R_ck (fun h35 => ?_)
              refine R_iald C cx34 h35 dX1_advance_110 ?_
              refine R_aload_n C 2 rfl dX1_advance_111 ?_
              refine R_aload_n C 2 rfl dX1_advance_112 ?_
              refine R_getr C fl1_29 rfl ha0 rx15 dX1_advance_113 ?_
              refine R_iload_n C 3 rfl dX1_advance_116 ?_
              refine R_ck (fun h36 => ?_)
              refine R_iald C cx15 h36 dX1_advance_117 ?_
              refine R_bd (fun r39 s37 q38 => ?_)
              refine R_callVi [.int (gi s31 x15 v9.toNatClampNeg)] [.int (gi s31 x34 (3 : Int32).toNatClampNeg), .int (3 : Int32), .ref (G.1 + x34)] C ml1_161 (kX1_sizeOf q38) (by rw [hR]; exact ⟨rfl, rfl, Nat.le_of_ble_eq_true rfl, Nat.le_of_ble_eq_true rfl, Nat.zero_le _, Nat.zero_le _⟩) ha0 rfl rfl (Nat.le_of_ble_eq_true rfl) dX1_advance_118 ?_
              refine R_iadd C dX1_advance_121 ?_
              refine R_ck (fun h40 => ?_)
              refine S_iast C cx34 h40 dX1_advance_122 (fun s41 => ?_)
              refine R_loc (lv2 := [(1, .int w3), (0, .ref (G.1 + a0)), (3, .int v9), (2, .int v29)]) [1, 2, 3, 0] rfl ?_
              exact R_end (fun (w : Int32) (s : Sg) => V κ G (QQ κ G E none σ') E s (false, 0, 0) 123 [(1, .int w3), (0, .ref (G.1 + a0)), (3, .int v9), (2, .int w)] []) Kw17
          · refine R_goto C dX1_advance_51 ?_
            refine R_loc (lv2 := [(1, .int w3), (0, .ref (G.1 + a0)), (3, .int v9), (2, .int v8)]) [0, 1, 3, 2] rfl ?_
            exact R_end (fun (w : Int32) (s : Sg) => V κ G (QQ κ G E none σ') E s (false, 0, 0) 123 [(1, .int w3), (0, .ref (G.1 + a0)), (3, .int v9), (2, .int w)] []) Kw17
  · refine B_if_eq C dX1_advance_8 ?_ ?_
    · refine R_iconst C (0) dX1_advance_26 (by decide) ?_
      exact R_end (fun (w : Int32) (s : Sg) => V κ G (QQ κ G E none σ') E s (false, 0, 0) 27 [(0, .ref (G.1 + a0))] [.int w]) Kw3
    · refine R_aload_n C 0 rfl dX1_advance_11 ?_
      refine R_aload_n C 0 rfl dX1_advance_12 ?_
      refine R_geti C fl1_139 rfl ha0 dX1_advance_13 ?_
      refine R_bd (fun r7 s5 q6 => ?_)
      refine R_callVi [.int (gi s1 a0 14)] [] C ml1_149 (kX1_isDown q6) (by rw [hR]; exact ⟨rfl, rfl, Nat.le_of_ble_eq_true rfl, Nat.le_of_ble_eq_true rfl, Nat.zero_le _, Nat.zero_le _⟩) ha0 rfl rfl (Nat.le_of_ble_eq_true rfl) dX1_advance_16 ?_
      refine B_if_eq C dX1_advance_19 ?_ ?_
      · refine R_iconst C (0) dX1_advance_26 (by decide) ?_
        exact R_end (fun (w : Int32) (s : Sg) => V κ G (QQ κ G E none σ') E s (false, 0, 0) 27 [(0, .ref (G.1 + a0))] [.int w]) Kw3
      · refine R_iconst C (1) dX1_advance_22 (by decide) ?_
        refine R_goto C dX1_advance_23 ?_
        exact R_end (fun (w : Int32) (s : Sg) => V κ G (QQ κ G E none σ') E s (false, 0, 0) 27 [(0, .ref (G.1 + a0))] [.int w]) Kw3
theorem dX1_mergeAll_0 : dk cX1_mergeAll 0 1 (.iconst 0) 1 := by unfold dk; decide +kernel
theorem dX1_mergeAll_1 : dk cX1_mergeAll 1 2 (.istore_n 1) 1 := by unfold dk; decide +kernel
theorem dX1_mergeAll_2 : dk cX1_mergeAll 2 3 (.iload_n 1) 1 := by unfold dk; decide +kernel
theorem dX1_mergeAll_3 : dk cX1_mergeAll 3 5 (.ldc 183) 2 := by unfold dk; decide +kernel
theorem dX1_mergeAll_8 : dk cX1_mergeAll 8 9 (.aload_n 0) 1 := by unfold dk; decide +kernel
theorem dX1_mergeAll_9 : dk cX1_mergeAll 9 12 (.getfield 71) 3 := by unfold dk; decide +kernel
theorem dX1_mergeAll_12 : dk cX1_mergeAll 12 13 (.iconst 1) 1 := by unfold dk; decide +kernel
theorem dX1_mergeAll_16 : dk cX1_mergeAll 16 17 (.aload_n 0) 1 := by unfold dk; decide +kernel
theorem dX1_mergeAll_17 : dk cX1_mergeAll 17 20 (.invokevirtual 184) 3 := by unfold dk; decide +kernel
theorem dX1_mergeAll_20 : dk cX1_mergeAll 20 23 (.iinc 1 1) 3 := by unfold dk; decide +kernel
theorem dX1_mergeAll_23 : bk cX1_mergeAll 23 26 2 (.goto (-21)) (-21) := by unfold bk; decide +kernel
theorem dX1_mergeAll_13 : bk cX1_mergeAll 13 16 26 (.if_icmp .le 13) (13) := by unfold bk; decide +kernel
theorem dX1_mergeAll_5 : bk cX1_mergeAll 5 8 26 (.if_icmp .ge 21) (21) := by unfold bk; decide +kernel
theorem dX1_mergeAll_26 : dk cX1_mergeAll 26 27 (.return_) 1 := by unfold dk; decide +kernel
set_option maxHeartbeats 4000000 in
set_option maxRecDepth 100000 in
theorem kX1_mergeAll {l : Launch} {G : Gl} {E : En} {a0 : Nat} {σ σ' : Sg} : fX1_mergeAll E a0 σ = some σ' → CT l yX1_mergeAll cX1_mergeAll 2 none ({ frames := 5, cells := 0, slots := 0, locals := 107 } : Room) [.ref (G.1 + a0)] G E σ none σ' := by
  intro h
  refine CT_of (lv0 := [(0, .ref (G.1 + a0))]) (by decide) (Nat.le_of_ble_eq_true rfl) rfl (fun κ hl hR hr C => ?_)
  have C : Cx κ G cX1_mergeAll RX1 2 := C
  revert h
  unfold fX1_mergeAll
  refine R_tk (fun ha0 => ?_)
  refine R_iconst C (0) dX1_mergeAll_0 (by decide) ?_
  refine R_istore_n (lv2 := [(1, .int (0 : Int32)), (0, .ref (G.1 + a0))]) C dX1_mergeAll_1 rfl (by decide) rfl ?_
  refine R_loc (lv2 := [(0, .ref (G.1 + a0)), (1, .int (0 : Int32))]) [1, 0] rfl ?_
  refine R_loop (fun (a : (Int32) × Sg) => V κ G (QQ κ G E none σ') E a.2 (false, 0, 0) 2 [(0, .ref (G.1 + a0)), (1, .int a.1)] []) (fun (o : (Int32)) (s : Sg) => V κ G (QQ κ G E none σ') E s (false, 0, 0) 26 [] []) ((0 : Int32), σ) (fun o10 s11 => ?_) (fun rec I6 a b4 s5 K3 => ?_)
  · exact R_vret C hr dX1_mergeAll_26
  · obtain ⟨v1, s2⟩ := a
    show bX1_mergeAll_2 E a0 (fun u0 t => rec (u0, t)) v1 s2 = some (b4, s5) → V κ G (QQ κ G E none σ') E s2 (false, 0, 0) 2 [(0, .ref (G.1 + a0)), (1, .int v1)] []
    unfold bX1_mergeAll_2
    refine R_iload_n C 1 rfl dX1_mergeAll_2 ?_
    refine R_ldc C cs1_183 dX1_mergeAll_3 ?_
    refine B_icmp_ge C dX1_mergeAll_5 ?_ ?_
    · refine R_loc (lv2 := []) [] rfl ?_
      exact R_end (fun (o : (Int32)) (s : Sg) => V κ G (QQ κ G E none σ') E s (false, 0, 0) 26 [] []) K3
    · refine R_aload_n C 0 rfl dX1_mergeAll_8 ?_
      refine R_geti C fl1_71 rfl ha0 dX1_mergeAll_9 ?_
      refine R_iconst C (1) dX1_mergeAll_12 (by decide) ?_
      refine B_icmp_le C dX1_mergeAll_13 ?_ ?_
      · refine R_loc (lv2 := []) [] rfl ?_
        exact R_end (fun (o : (Int32)) (s : Sg) => V κ G (QQ κ G E none σ') E s (false, 0, 0) 26 [] []) K3
      · refine R_aload_n C 0 rfl dX1_mergeAll_16 ?_
        refine R_bv (fun s7 q8 => ?_)
        refine R_callVv [] [] C ml1_184 (kX1_advance q8) (by rw [hR]; exact ⟨rfl, rfl, Nat.le_of_ble_eq_true rfl, Nat.le_of_ble_eq_true rfl, Nat.zero_le _, Nat.zero_le _⟩) ha0 rfl rfl (Nat.le_of_ble_eq_true rfl) dX1_mergeAll_17 ?_
        refine S_iinc (fun v9 => [(1, .int v9), (0, .ref (G.1 + a0))]) 1 C dX1_mergeAll_20 rfl (by decide) (by decide) (fun _ => rfl) (fun v9 => ?_)
        refine R_goto C dX1_mergeAll_23 ?_
        refine R_loc (lv2 := [(0, .ref (G.1 + a0)), (1, .int v9)]) [1, 0] rfl ?_
        exact I6 (v9, s7) b4 s5 K3
theorem dX1_recordsOn_0 : dk cX1_recordsOn 0 1 (.iconst 0) 1 := by unfold dk; decide +kernel
theorem dX1_recordsOn_1 : dk cX1_recordsOn 1 2 (.istore_n 2) 1 := by unfold dk; decide +kernel
theorem dX1_recordsOn_2 : dk cX1_recordsOn 2 3 (.iconst 0) 1 := by unfold dk; decide +kernel
theorem dX1_recordsOn_3 : dk cX1_recordsOn 3 4 (.istore_n 3) 1 := by unfold dk; decide +kernel
theorem dX1_recordsOn_4 : dk cX1_recordsOn 4 5 (.iload_n 3) 1 := by unfold dk; decide +kernel
theorem dX1_recordsOn_5 : dk cX1_recordsOn 5 6 (.aload_n 0) 1 := by unfold dk; decide +kernel
theorem dX1_recordsOn_6 : dk cX1_recordsOn 6 9 (.getfield 17) 3 := by unfold dk; decide +kernel
theorem dX1_recordsOn_9 : dk cX1_recordsOn 9 10 (.iload_n 1) 1 := by unfold dk; decide +kernel
theorem dX1_recordsOn_10 : dk cX1_recordsOn 10 11 (.aaload) 1 := by unfold dk; decide +kernel
theorem dX1_recordsOn_11 : dk cX1_recordsOn 11 14 (.invokevirtual 136) 3 := by unfold dk; decide +kernel
theorem dX1_recordsOn_17 : dk cX1_recordsOn 17 18 (.iload_n 2) 1 := by unfold dk; decide +kernel
theorem dX1_recordsOn_18 : dk cX1_recordsOn 18 19 (.aload_n 0) 1 := by unfold dk; decide +kernel
theorem dX1_recordsOn_19 : dk cX1_recordsOn 19 20 (.aload_n 0) 1 := by unfold dk; decide +kernel
theorem dX1_recordsOn_20 : dk cX1_recordsOn 20 23 (.getfield 17) 3 := by unfold dk; decide +kernel
theorem dX1_recordsOn_23 : dk cX1_recordsOn 23 24 (.iload_n 1) 1 := by unfold dk; decide +kernel
theorem dX1_recordsOn_24 : dk cX1_recordsOn 24 25 (.aaload) 1 := by unfold dk; decide +kernel
theorem dX1_recordsOn_25 : dk cX1_recordsOn 25 26 (.iload_n 3) 1 := by unfold dk; decide +kernel
theorem dX1_recordsOn_26 : dk cX1_recordsOn 26 27 (.aload_n 0) 1 := by unfold dk; decide +kernel
theorem dX1_recordsOn_27 : dk cX1_recordsOn 27 30 (.getfield 61) 3 := by unfold dk; decide +kernel
theorem dX1_recordsOn_30 : dk cX1_recordsOn 30 33 (.invokevirtual 146) 3 := by unfold dk; decide +kernel
theorem dX1_recordsOn_33 : dk cX1_recordsOn 33 36 (.invokevirtual 161) 3 := by unfold dk; decide +kernel
theorem dX1_recordsOn_36 : dk cX1_recordsOn 36 37 (.iadd) 1 := by unfold dk; decide +kernel
theorem dX1_recordsOn_37 : dk cX1_recordsOn 37 38 (.istore_n 2) 1 := by unfold dk; decide +kernel
theorem dX1_recordsOn_38 : dk cX1_recordsOn 38 41 (.iinc 3 1) 3 := by unfold dk; decide +kernel
theorem dX1_recordsOn_41 : bk cX1_recordsOn 41 44 4 (.goto (-37)) (-37) := by unfold bk; decide +kernel
theorem dX1_recordsOn_14 : bk cX1_recordsOn 14 17 44 (.if_icmp .ge 30) (30) := by unfold bk; decide +kernel
theorem dX1_recordsOn_44 : dk cX1_recordsOn 44 45 (.iload_n 2) 1 := by unfold dk; decide +kernel
theorem dX1_recordsOn_45 : dk cX1_recordsOn 45 46 (.ireturn) 1 := by unfold dk; decide +kernel
set_option maxHeartbeats 4000000 in
set_option maxRecDepth 100000 in
theorem kX1_recordsOn {l : Launch} {G : Gl} {E : En} {a0 : Nat} {a1 : Int32} {σ σ' : Sg} {r : Int32} : fX1_recordsOn E a0 a1 σ = some (r, σ') → CT l yX1_recordsOn cX1_recordsOn 4 (some .int) ({ frames := 2, cells := 0, slots := 0, locals := 42 } : Room) [.ref (G.1 + a0), .int a1] G E σ (some (.int r)) σ' := by
  intro h
  refine CT_of (lv0 := [(0, .ref (G.1 + a0)), (1, .int a1)]) (by decide) (Nat.le_of_ble_eq_true rfl) rfl (fun κ hl hR hr C => ?_)
  have C : Cx κ G cX1_recordsOn RX1 4 := C
  revert h
  unfold fX1_recordsOn
  refine R_tk (fun ha0 => ?_)
  refine R_iconst C (0) dX1_recordsOn_0 (by decide) ?_
  refine R_istore_n (lv2 := [(2, .int (0 : Int32)), (0, .ref (G.1 + a0)), (1, .int a1)]) C dX1_recordsOn_1 rfl (by decide) rfl ?_
  refine R_iconst C (0) dX1_recordsOn_2 (by decide) ?_
  refine R_istore_n (lv2 := [(3, .int (0 : Int32)), (2, .int (0 : Int32)), (0, .ref (G.1 + a0)), (1, .int a1)]) C dX1_recordsOn_3 rfl (by decide) rfl ?_
  refine R_loc (lv2 := [(0, .ref (G.1 + a0)), (1, .int a1), (2, .int (0 : Int32)), (3, .int (0 : Int32))]) [2, 3, 1, 0] rfl ?_
  refine R_loop (fun (a : (Int32 × Int32) × Sg) => V κ G (QQ κ G E (some (.int r)) σ') E a.2 (false, 0, 0) 4 [(0, .ref (G.1 + a0)), (1, .int a1), (2, .int a.1.1), (3, .int a.1.2)] []) (fun (o : (Int32 × Int32)) (s : Sg) => V κ G (QQ κ G E (some (.int r)) σ') E s (false, 0, 0) 44 [(2, .int o.1)] []) (((0 : Int32), (0 : Int32)), σ) (fun o24 s25 => ?_) (fun rec I7 a b5 s6 K4 => ?_)
  · refine R_iload_n C 0 rfl dX1_recordsOn_44 ?_
    exact R_iret C hr dX1_recordsOn_45
  · obtain ⟨⟨v1, v2⟩, s3⟩ := a
    show bX1_recordsOn_4 E a0 a1 (fun u0 u1 t => rec ((u0, u1), t)) v1 v2 s3 = some (b5, s6) → V κ G (QQ κ G E (some (.int r)) σ') E s3 (false, 0, 0) 4 [(0, .ref (G.1 + a0)), (1, .int a1), (2, .int v1), (3, .int v2)] []
    unfold bX1_recordsOn_4
    refine R_iload_n C 3 rfl dX1_recordsOn_4 ?_
    refine R_aload_n C 0 rfl dX1_recordsOn_5 ?_
    refine R_dr (fun x8 rx8 cx8 => ?_)
    refine R_getr C fl1_17 rfl ha0 rx8 dX1_recordsOn_6 ?_
    refine R_iload_n C 1 rfl dX1_recordsOn_9 ?_
    refine R_ck (fun h9 => ?_)
    refine R_dr (fun x10 rx10 cx10 => ?_)
    refine R_aald4 C cx8 h9 rx10 dX1_recordsOn_10 ?_
    refine R_bd (fun r13 s11 q12 => ?_)
    refine R_callVi [] [.int v2] C ml1_136 (kX5_size q12) (by rw [hR]; exact ⟨rfl, rfl, Nat.le_of_ble_eq_true rfl, Nat.le_of_ble_eq_true rfl, Nat.zero_le _, Nat.zero_le _⟩) cx10 rfl rfl (Nat.le_of_ble_eq_true rfl) dX1_recordsOn_11 ?_
    refine B_icmp_ge C dX1_recordsOn_14 ?_ ?_
    · refine R_loc (lv2 := [(2, .int v1)]) [2] rfl ?_
      exact R_end (fun (o : (Int32 × Int32)) (s : Sg) => V κ G (QQ κ G E (some (.int r)) σ') E s (false, 0, 0) 44 [(2, .int o.1)] []) K4
    · refine R_iload_n C 2 rfl dX1_recordsOn_17 ?_
      refine R_aload_n C 0 rfl dX1_recordsOn_18 ?_
      refine R_aload_n C 0 rfl dX1_recordsOn_19 ?_
      refine R_getr C fl1_17 rfl ha0 rx8 dX1_recordsOn_20 ?_
      refine R_iload_n C 1 rfl dX1_recordsOn_23 ?_
      refine R_ck (fun h14 => ?_)
      refine R_dr (fun x15 rx15 cx15 => ?_)
      refine R_aald4 C cx8 h14 rx15 dX1_recordsOn_24 ?_
      refine R_iload_n C 3 rfl dX1_recordsOn_25 ?_
      refine R_aload_n C 0 rfl dX1_recordsOn_26 ?_
      refine R_geti C fl1_61 rfl ha0 dX1_recordsOn_27 ?_
      refine R_bd (fun r18 s16 q17 => ?_)
      refine R_callVi [.int v2, .int (gi s11 a0 3)] [.ref (G.1 + a0), .int v1] C ml1_146 (kX5_at q17) (by rw [hR]; exact ⟨rfl, rfl, Nat.le_of_ble_eq_true rfl, Nat.le_of_ble_eq_true rfl, Nat.zero_le _, Nat.zero_le _⟩) cx15 rfl rfl (Nat.le_of_ble_eq_true rfl) dX1_recordsOn_30 ?_
      refine R_bd (fun r21 s19 q20 => ?_)
      refine R_callVi [.int r18] [.int v1] C ml1_161 (kX1_sizeOf q20) (by rw [hR]; exact ⟨rfl, rfl, Nat.le_of_ble_eq_true rfl, Nat.le_of_ble_eq_true rfl, Nat.zero_le _, Nat.zero_le _⟩) ha0 rfl rfl (Nat.le_of_ble_eq_true rfl) dX1_recordsOn_33 ?_
      refine R_iadd C dX1_recordsOn_36 ?_
      refine S_istore_n C dX1_recordsOn_37 rfl (fun v22 => [(2, .int v22), (0, .ref (G.1 + a0)), (1, .int a1), (3, .int v2)]) (by decide) (fun _ => rfl) (fun v22 => ?_)
      refine S_iinc (fun v23 => [(3, .int v23), (2, .int v22), (0, .ref (G.1 + a0)), (1, .int a1)]) 3 C dX1_recordsOn_38 rfl (by decide) (by decide) (fun _ => rfl) (fun v23 => ?_)
      refine R_goto C dX1_recordsOn_41 ?_
      refine R_loc (lv2 := [(0, .ref (G.1 + a0)), (1, .int a1), (2, .int v22), (3, .int v23)]) [2, 3, 1, 0] rfl ?_
      exact I7 ((v22, v23), s19) b5 s6 K4
theorem dX1_takenFrom_0 : dk cX1_takenFrom 0 1 (.iconst 0) 1 := by unfold dk; decide +kernel
theorem dX1_takenFrom_1 : dk cX1_takenFrom 1 2 (.istore_n 2) 1 := by unfold dk; decide +kernel
theorem dX1_takenFrom_2 : dk cX1_takenFrom 2 3 (.iload_n 2) 1 := by unfold dk; decide +kernel
theorem dX1_takenFrom_3 : dk cX1_takenFrom 3 4 (.aload_n 0) 1 := by unfold dk; decide +kernel
theorem dX1_takenFrom_4 : dk cX1_takenFrom 4 7 (.getfield 58) 3 := by unfold dk; decide +kernel
theorem dX1_takenFrom_10 : dk cX1_takenFrom 10 11 (.iload_n 1) 1 := by unfold dk; decide +kernel
theorem dX1_takenFrom_26 : dk cX1_takenFrom 26 29 (.iinc 2 1) 3 := by unfold dk; decide +kernel
theorem dX1_takenFrom_29 : bk cX1_takenFrom 29 32 2 (.goto (-27)) (-27) := by unfold bk; decide +kernel
theorem dX1_takenFrom_14 : dk cX1_takenFrom 14 15 (.aload_n 0) 1 := by unfold dk; decide +kernel
theorem dX1_takenFrom_15 : dk cX1_takenFrom 15 18 (.getfield 29) 3 := by unfold dk; decide +kernel
theorem dX1_takenFrom_18 : dk cX1_takenFrom 18 19 (.iload_n 2) 1 := by unfold dk; decide +kernel
theorem dX1_takenFrom_19 : dk cX1_takenFrom 19 20 (.iaload) 1 := by unfold dk; decide +kernel
theorem dX1_takenFrom_20 : dk cX1_takenFrom 20 21 (.iload_n 1) 1 := by unfold dk; decide +kernel
theorem dX1_takenFrom_24 : dk cX1_takenFrom 24 25 (.iload_n 2) 1 := by unfold dk; decide +kernel
theorem dX1_takenFrom_25 : dk cX1_takenFrom 25 26 (.ireturn) 1 := by unfold dk; decide +kernel
theorem dX1_takenFrom_21 : bk cX1_takenFrom 21 24 26 (.if_icmp .ne 5) (5) := by unfold bk; decide +kernel
theorem dX1_takenFrom_11 : bk cX1_takenFrom 11 14 26 (.ifCond .lt 15) (15) := by unfold bk; decide +kernel
theorem dX1_takenFrom_7 : bk cX1_takenFrom 7 10 32 (.if_icmp .ge 25) (25) := by unfold bk; decide +kernel
theorem dX1_takenFrom_32 : dk cX1_takenFrom 32 33 (.iconst (-1)) 1 := by unfold dk; decide +kernel
theorem dX1_takenFrom_33 : dk cX1_takenFrom 33 34 (.ireturn) 1 := by unfold dk; decide +kernel
set_option maxHeartbeats 4000000 in
set_option maxRecDepth 100000 in
theorem kX1_takenFrom {l : Launch} {G : Gl} {E : En} {a0 : Nat} {a1 : Int32} {σ σ' : Sg} {r : Int32} : fX1_takenFrom E a0 a1 σ = some (r, σ') → CT l yX1_takenFrom cX1_takenFrom 3 (some .int) ({ frames := 0, cells := 0, slots := 0, locals := 0 } : Room) [.ref (G.1 + a0), .int a1] G E σ (some (.int r)) σ' := by
  intro h
  refine CT_of (lv0 := [(0, .ref (G.1 + a0)), (1, .int a1)]) (by decide) (Nat.le_of_ble_eq_true rfl) rfl (fun κ hl hR hr C => ?_)
  have C : Cx κ G cX1_takenFrom RX1 3 := C
  revert h
  unfold fX1_takenFrom
  refine R_tk (fun ha0 => ?_)
  refine R_iconst C (0) dX1_takenFrom_0 (by decide) ?_
  refine R_istore_n (lv2 := [(2, .int (0 : Int32)), (0, .ref (G.1 + a0)), (1, .int a1)]) C dX1_takenFrom_1 rfl (by decide) rfl ?_
  refine R_loc (lv2 := [(0, .ref (G.1 + a0)), (1, .int a1), (2, .int (0 : Int32))]) [1, 2, 0] rfl ?_
  refine R_loop (fun (a : (Int32) × Sg) => V κ G (QQ κ G E (some (.int r)) σ') E a.2 (false, 0, 0) 2 [(0, .ref (G.1 + a0)), (1, .int a1), (2, .int a.1)] []) (fun (o : ((Int32) ⊕ Int32)) (s : Sg) => sm o (fun o => V κ G (QQ κ G E (some (.int r)) σ') E s (false, 0, 0) 32 [] []) (fun rr => some (rr, s) = some (r, σ'))) ((0 : Int32), σ) (fun o11 s12 => ?_) (fun rec I6 a b4 s5 K3 => ?_)
  · rcases o11 with vo11 | ro11
    · refine R_sml ?_
      refine R_iconst C (-1) dX1_takenFrom_32 (by decide) ?_
      exact R_iret C hr dX1_takenFrom_33
    · exact fun h => h
  · obtain ⟨v1, s2⟩ := a
    show bX1_takenFrom_2 E a0 a1 (fun u0 t => rec (u0, t)) v1 s2 = some (b4, s5) → V κ G (QQ κ G E (some (.int r)) σ') E s2 (false, 0, 0) 2 [(0, .ref (G.1 + a0)), (1, .int a1), (2, .int v1)] []
    unfold bX1_takenFrom_2
    refine R_iload_n C 2 rfl dX1_takenFrom_2 ?_
    refine R_aload_n C 0 rfl dX1_takenFrom_3 ?_
    refine R_geti C fl1_58 rfl ha0 dX1_takenFrom_4 ?_
    refine B_icmp_ge C dX1_takenFrom_7 ?_ ?_
    · refine R_loc (lv2 := []) [] rfl ?_
      exact R_inr (VX := (fun (o : ((Int32) ⊕ Int32)) (s : Sg) => sm o (fun o => V κ G (QQ κ G E (some (.int r)) σ') E s (false, 0, 0) 32 [] []) (fun rr => some (rr, s) = some (r, σ')))) (i := .inl) K3 (fun h => h)
    · refine R_iload_n C 1 rfl dX1_takenFrom_10 ?_
      refine B_if_lt C dX1_takenFrom_11 ?_ ?_
      · refine S_iinc (fun v7 => [(2, .int v7), (0, .ref (G.1 + a0)), (1, .int a1)]) 2 C dX1_takenFrom_26 rfl (by decide) (by decide) (fun _ => rfl) (fun v7 => ?_)
        refine R_goto C dX1_takenFrom_29 ?_
        refine R_loc (lv2 := [(0, .ref (G.1 + a0)), (1, .int a1), (2, .int v7)]) [1, 2, 0] rfl ?_
        exact I6 (v7, s2) b4 s5 K3
      · refine R_aload_n C 0 rfl dX1_takenFrom_14 ?_
        refine R_dr (fun x8 rx8 cx8 => ?_)
        refine R_getr C fl1_29 rfl ha0 rx8 dX1_takenFrom_15 ?_
        refine R_iload_n C 2 rfl dX1_takenFrom_18 ?_
        refine R_ck (fun h9 => ?_)
        refine R_iald C cx8 h9 dX1_takenFrom_19 ?_
        refine R_iload_n C 1 rfl dX1_takenFrom_20 ?_
        refine B_icmp_ne C dX1_takenFrom_21 ?_ ?_
        · refine S_iinc (fun v10 => [(2, .int v10), (0, .ref (G.1 + a0)), (1, .int a1)]) 2 C dX1_takenFrom_26 rfl (by decide) (by decide) (fun _ => rfl) (fun v10 => ?_)
          refine R_goto C dX1_takenFrom_29 ?_
          refine R_loc (lv2 := [(0, .ref (G.1 + a0)), (1, .int a1), (2, .int v10)]) [1, 2, 0] rfl ?_
          exact I6 (v10, s2) b4 s5 K3
        · refine R_iload_n C 2 rfl dX1_takenFrom_24 ?_
          exact R_inr (VX := (fun (o : ((Int32) ⊕ Int32)) (s : Sg) => sm o (fun o => V κ G (QQ κ G E (some (.int r)) σ') E s (false, 0, 0) 32 [] []) (fun rr => some (rr, s) = some (r, σ')))) (i := .inr) K3 (R_iret C hr dX1_takenFrom_25)
theorem dX1_blocksTaken_0 : dk cX1_blocksTaken 0 1 (.iconst 0) 1 := by unfold dk; decide +kernel
theorem dX1_blocksTaken_1 : dk cX1_blocksTaken 1 2 (.istore_n 2) 1 := by unfold dk; decide +kernel
theorem dX1_blocksTaken_2 : dk cX1_blocksTaken 2 3 (.iconst 0) 1 := by unfold dk; decide +kernel
theorem dX1_blocksTaken_3 : dk cX1_blocksTaken 3 4 (.istore_n 3) 1 := by unfold dk; decide +kernel
theorem dX1_blocksTaken_4 : dk cX1_blocksTaken 4 5 (.iload_n 3) 1 := by unfold dk; decide +kernel
theorem dX1_blocksTaken_5 : dk cX1_blocksTaken 5 6 (.aload_n 0) 1 := by unfold dk; decide +kernel
theorem dX1_blocksTaken_6 : dk cX1_blocksTaken 6 9 (.getfield 58) 3 := by unfold dk; decide +kernel
theorem dX1_blocksTaken_12 : dk cX1_blocksTaken 12 13 (.aload_n 0) 1 := by unfold dk; decide +kernel
theorem dX1_blocksTaken_13 : dk cX1_blocksTaken 13 16 (.getfield 29) 3 := by unfold dk; decide +kernel
theorem dX1_blocksTaken_16 : dk cX1_blocksTaken 16 17 (.iload_n 3) 1 := by unfold dk; decide +kernel
theorem dX1_blocksTaken_17 : dk cX1_blocksTaken 17 18 (.iaload) 1 := by unfold dk; decide +kernel
theorem dX1_blocksTaken_18 : bk cX1_blocksTaken 18 21 44 (.ifCond .lt 26) (26) := by unfold bk; decide +kernel
theorem dX1_blocksTaken_21 : dk cX1_blocksTaken 21 22 (.iload_n 1) 1 := by unfold dk; decide +kernel
theorem dX1_blocksTaken_25 : dk cX1_blocksTaken 25 26 (.iload_n 2) 1 := by unfold dk; decide +kernel
theorem dX1_blocksTaken_26 : dk cX1_blocksTaken 26 27 (.aload_n 0) 1 := by unfold dk; decide +kernel
theorem dX1_blocksTaken_27 : dk cX1_blocksTaken 27 28 (.aload_n 0) 1 := by unfold dk; decide +kernel
theorem dX1_blocksTaken_28 : dk cX1_blocksTaken 28 31 (.getfield 29) 3 := by unfold dk; decide +kernel
theorem dX1_blocksTaken_31 : dk cX1_blocksTaken 31 32 (.iload_n 3) 1 := by unfold dk; decide +kernel
theorem dX1_blocksTaken_32 : dk cX1_blocksTaken 32 33 (.iaload) 1 := by unfold dk; decide +kernel
theorem dX1_blocksTaken_33 : dk cX1_blocksTaken 33 36 (.invokevirtual 161) 3 := by unfold dk; decide +kernel
theorem dX1_blocksTaken_36 : dk cX1_blocksTaken 36 37 (.iload_n 1) 1 := by unfold dk; decide +kernel
theorem dX1_blocksTaken_37 : dk cX1_blocksTaken 37 38 (.iadd) 1 := by unfold dk; decide +kernel
theorem dX1_blocksTaken_38 : dk cX1_blocksTaken 38 39 (.iconst 1) 1 := by unfold dk; decide +kernel
theorem dX1_blocksTaken_39 : dk cX1_blocksTaken 39 40 (.isub) 1 := by unfold dk; decide +kernel
theorem dX1_blocksTaken_40 : dk cX1_blocksTaken 40 41 (.iload_n 1) 1 := by unfold dk; decide +kernel
theorem dX1_blocksTaken_41 : dk cX1_blocksTaken 41 42 (.idiv) 1 := by unfold dk; decide +kernel
theorem dX1_blocksTaken_42 : dk cX1_blocksTaken 42 43 (.iadd) 1 := by unfold dk; decide +kernel
theorem dX1_blocksTaken_43 : dk cX1_blocksTaken 43 44 (.istore_n 2) 1 := by unfold dk; decide +kernel
theorem dX1_blocksTaken_22 : bk cX1_blocksTaken 22 25 44 (.ifCond .le 22) (22) := by unfold bk; decide +kernel
theorem dX1_blocksTaken_44 : dk cX1_blocksTaken 44 47 (.iinc 3 1) 3 := by unfold dk; decide +kernel
theorem dX1_blocksTaken_47 : bk cX1_blocksTaken 47 50 4 (.goto (-43)) (-43) := by unfold bk; decide +kernel
theorem dX1_blocksTaken_9 : bk cX1_blocksTaken 9 12 50 (.if_icmp .ge 41) (41) := by unfold bk; decide +kernel
theorem dX1_blocksTaken_50 : dk cX1_blocksTaken 50 51 (.iload_n 2) 1 := by unfold dk; decide +kernel
theorem dX1_blocksTaken_51 : dk cX1_blocksTaken 51 52 (.ireturn) 1 := by unfold dk; decide +kernel
set_option maxHeartbeats 4000000 in
set_option maxRecDepth 100000 in
theorem kX1_blocksTaken {l : Launch} {G : Gl} {E : En} {a0 : Nat} {a1 : Int32} {σ σ' : Sg} {r : Int32} : fX1_blocksTaken E a0 a1 σ = some (r, σ') → CT l yX1_blocksTaken cX1_blocksTaken 4 (some .int) ({ frames := 1, cells := 0, slots := 0, locals := 21 } : Room) [.ref (G.1 + a0), .int a1] G E σ (some (.int r)) σ' := by
  intro h
  refine CT_of (lv0 := [(0, .ref (G.1 + a0)), (1, .int a1)]) (by decide) (Nat.le_of_ble_eq_true rfl) rfl (fun κ hl hR hr C => ?_)
  have C : Cx κ G cX1_blocksTaken RX1 4 := C
  revert h
  unfold fX1_blocksTaken
  refine R_tk (fun ha0 => ?_)
  refine R_iconst C (0) dX1_blocksTaken_0 (by decide) ?_
  refine R_istore_n (lv2 := [(2, .int (0 : Int32)), (0, .ref (G.1 + a0)), (1, .int a1)]) C dX1_blocksTaken_1 rfl (by decide) rfl ?_
  refine R_iconst C (0) dX1_blocksTaken_2 (by decide) ?_
  refine R_istore_n (lv2 := [(3, .int (0 : Int32)), (2, .int (0 : Int32)), (0, .ref (G.1 + a0)), (1, .int a1)]) C dX1_blocksTaken_3 rfl (by decide) rfl ?_
  refine R_loc (lv2 := [(0, .ref (G.1 + a0)), (1, .int a1), (2, .int (0 : Int32)), (3, .int (0 : Int32))]) [2, 3, 1, 0] rfl ?_
  refine R_loop (fun (a : (Int32 × Int32) × Sg) => V κ G (QQ κ G E (some (.int r)) σ') E a.2 (false, 0, 0) 4 [(0, .ref (G.1 + a0)), (1, .int a1), (2, .int a.1.1), (3, .int a.1.2)] []) (fun (o : (Int32 × Int32)) (s : Sg) => V κ G (QQ κ G E (some (.int r)) σ') E s (false, 0, 0) 50 [(2, .int o.1)] []) (((0 : Int32), (0 : Int32)), σ) (fun o19 s20 => ?_) (fun rec I7 a b5 s6 K4 => ?_)
  · refine R_iload_n C 0 rfl dX1_blocksTaken_50 ?_
    exact R_iret C hr dX1_blocksTaken_51
  · obtain ⟨⟨v1, v2⟩, s3⟩ := a
    show bX1_blocksTaken_4 E a0 a1 (fun u0 u1 t => rec ((u0, u1), t)) v1 v2 s3 = some (b5, s6) → V κ G (QQ κ G E (some (.int r)) σ') E s3 (false, 0, 0) 4 [(0, .ref (G.1 + a0)), (1, .int a1), (2, .int v1), (3, .int v2)] []
    unfold bX1_blocksTaken_4
    refine R_iload_n C 3 rfl dX1_blocksTaken_4 ?_
    refine R_aload_n C 0 rfl dX1_blocksTaken_5 ?_
    refine R_geti C fl1_58 rfl ha0 dX1_blocksTaken_6 ?_
    refine B_icmp_ge C dX1_blocksTaken_9 ?_ ?_
    · refine R_loc (lv2 := [(2, .int v1)]) [2] rfl ?_
      exact R_end (fun (o : (Int32 × Int32)) (s : Sg) => V κ G (QQ κ G E (some (.int r)) σ') E s (false, 0, 0) 50 [(2, .int o.1)] []) K4
    · refine R_aload_n C 0 rfl dX1_blocksTaken_12 ?_
      refine R_dr (fun x8 rx8 cx8 => ?_)
      refine R_getr C fl1_29 rfl ha0 rx8 dX1_blocksTaken_13 ?_
      refine R_iload_n C 3 rfl dX1_blocksTaken_16 ?_
      refine R_ck (fun h9 => ?_)
      refine R_iald C cx8 h9 dX1_blocksTaken_17 ?_
      refine R_bdK (fun (w : Int32) (s : Sg) => V κ G (QQ κ G E (some (.int r)) σ') E s (false, 0, 0) 44 [(0, .ref (G.1 + a0)), (1, .int a1), (3, .int v2), (2, .int w)] []) (fun w10 s11 => ?_) (fun w10 s11 Kw10 => ?_)
      · refine S_iinc (fun v18 => [(3, .int v18), (0, .ref (G.1 + a0)), (1, .int a1), (2, .int w10)]) 2 C dX1_blocksTaken_44 rfl (by decide) (by decide) (fun _ => rfl) (fun v18 => ?_)
        refine R_goto C dX1_blocksTaken_47 ?_
        refine R_loc (lv2 := [(0, .ref (G.1 + a0)), (1, .int a1), (2, .int w10), (3, .int v18)]) [1, 2, 3, 0] rfl ?_
        exact I7 ((w10, v18), s11) b5 s6 K4
      · refine B_if_lt C dX1_blocksTaken_18 ?_ ?_
        · refine R_loc (lv2 := [(0, .ref (G.1 + a0)), (1, .int a1), (3, .int v2), (2, .int v1)]) [0, 1, 3, 2] rfl ?_
          exact R_end (fun (w : Int32) (s : Sg) => V κ G (QQ κ G E (some (.int r)) σ') E s (false, 0, 0) 44 [(0, .ref (G.1 + a0)), (1, .int a1), (3, .int v2), (2, .int w)] []) Kw10
        · refine R_iload_n C 1 rfl dX1_blocksTaken_21 ?_
          refine B_if_le C dX1_blocksTaken_22 ?_ ?_
          · refine R_loc (lv2 := [(0, .ref (G.1 + a0)), (1, .int a1), (3, .int v2), (2, .int v1)]) [0, 1, 3, 2] rfl ?_
            exact R_end (fun (w : Int32) (s : Sg) => V κ G (QQ κ G E (some (.int r)) σ') E s (false, 0, 0) 44 [(0, .ref (G.1 + a0)), (1, .int a1), (3, .int v2), (2, .int w)] []) Kw10
          · refine R_iload_n C 2 rfl dX1_blocksTaken_25 ?_
            refine R_aload_n C 0 rfl dX1_blocksTaken_26 ?_
            refine R_aload_n C 0 rfl dX1_blocksTaken_27 ?_
            refine R_getr C fl1_29 rfl ha0 rx8 dX1_blocksTaken_28 ?_
            refine R_iload_n C 3 rfl dX1_blocksTaken_31 ?_
            refine R_ck (fun h12 => ?_)
            refine R_iald C cx8 h12 dX1_blocksTaken_32 ?_
            refine R_bd (fun r15 s13 q14 => ?_)
            refine R_callVi [.int (gi s3 x8 v2.toNatClampNeg)] [.int v1] C ml1_161 (kX1_sizeOf q14) (by rw [hR]; exact ⟨rfl, rfl, Nat.le_of_ble_eq_true rfl, Nat.le_of_ble_eq_true rfl, Nat.zero_le _, Nat.zero_le _⟩) ha0 rfl rfl (Nat.le_of_ble_eq_true rfl) dX1_blocksTaken_33 ?_
            refine R_iload_n C 1 rfl dX1_blocksTaken_36 ?_
            refine R_iadd C dX1_blocksTaken_37 ?_
            refine R_iconst C (1) dX1_blocksTaken_38 (by decide) ?_
            refine R_isub C dX1_blocksTaken_39 ?_
            refine R_iload_n C 1 rfl dX1_blocksTaken_40 ?_
            refine R_nz (fun h16 => ?_)
            refine R_idiv C dX1_blocksTaken_41 h16 ?_
            refine R_iadd C dX1_blocksTaken_42 ?_
            refine S_istore_n C dX1_blocksTaken_43 rfl (fun v17 => [(2, .int v17), (0, .ref (G.1 + a0)), (1, .int a1), (3, .int v2)]) (by decide) (fun _ => rfl) (fun v17 => ?_)
            refine R_loc (lv2 := [(0, .ref (G.1 + a0)), (1, .int a1), (3, .int v2), (2, .int v17)]) [1, 2, 3, 0] rfl ?_
            exact R_end (fun (w : Int32) (s : Sg) => V κ G (QQ κ G E (some (.int r)) σ') E s (false, 0, 0) 44 [(0, .ref (G.1 + a0)), (1, .int a1), (3, .int v2), (2, .int w)] []) Kw10
theorem dX1_stand_0 : dk cX1_stand 0 1 (.lconst 0) 1 := by unfold dk; decide +kernel
theorem dX1_stand_1 : dk cX1_stand 1 2 (.lstore_n 1) 1 := by unfold dk; decide +kernel
theorem dX1_stand_2 : dk cX1_stand 2 3 (.iconst 0) 1 := by unfold dk; decide +kernel
theorem dX1_stand_3 : dk cX1_stand 3 4 (.istore_n 3) 1 := by unfold dk; decide +kernel
theorem dX1_stand_4 : dk cX1_stand 4 5 (.iload_n 3) 1 := by unfold dk; decide +kernel
theorem dX1_stand_5 : dk cX1_stand 5 6 (.aload_n 0) 1 := by unfold dk; decide +kernel
theorem dX1_stand_6 : dk cX1_stand 6 9 (.getfield 58) 3 := by unfold dk; decide +kernel
theorem dX1_stand_12 : dk cX1_stand 12 13 (.lload_n 1) 1 := by unfold dk; decide +kernel
theorem dX1_stand_13 : dk cX1_stand 13 16 (.ldc2_w 187) 3 := by unfold dk; decide +kernel
theorem dX1_stand_16 : dk cX1_stand 16 17 (.lmul) 1 := by unfold dk; decide +kernel
theorem dX1_stand_17 : dk cX1_stand 17 18 (.aload_n 0) 1 := by unfold dk; decide +kernel
theorem dX1_stand_18 : dk cX1_stand 18 21 (.getfield 17) 3 := by unfold dk; decide +kernel
theorem dX1_stand_21 : dk cX1_stand 21 22 (.iload_n 3) 1 := by unfold dk; decide +kernel
theorem dX1_stand_22 : dk cX1_stand 22 23 (.aaload) 1 := by unfold dk; decide +kernel
theorem dX1_stand_23 : dk cX1_stand 23 26 (.invokevirtual 136) 3 := by unfold dk; decide +kernel
theorem dX1_stand_26 : dk cX1_stand 26 27 (.i2l) 1 := by unfold dk; decide +kernel
theorem dX1_stand_27 : dk cX1_stand 27 28 (.ladd) 1 := by unfold dk; decide +kernel
theorem dX1_stand_28 : dk cX1_stand 28 29 (.lstore_n 1) 1 := by unfold dk; decide +kernel
theorem dX1_stand_29 : dk cX1_stand 29 32 (.iinc 3 1) 3 := by unfold dk; decide +kernel
theorem dX1_stand_32 : bk cX1_stand 32 35 4 (.goto (-28)) (-28) := by unfold bk; decide +kernel
theorem dX1_stand_9 : bk cX1_stand 9 12 35 (.if_icmp .ge 26) (26) := by unfold bk; decide +kernel
theorem dX1_stand_35 : dk cX1_stand 35 36 (.lload_n 1) 1 := by unfold dk; decide +kernel
theorem dX1_stand_36 : dk cX1_stand 36 37 (.lreturn) 1 := by unfold dk; decide +kernel
set_option maxHeartbeats 4000000 in
set_option maxRecDepth 100000 in
theorem kX1_stand {l : Launch} {G : Gl} {E : En} {a0 : Nat} {σ σ' : Sg} {r : Int64} : fX1_stand E a0 σ = some (r, σ') → CT l yX1_stand cX1_stand 4 (some .long) ({ frames := 1, cells := 0, slots := 0, locals := 20 } : Room) [.ref (G.1 + a0)] G E σ (some (.long r)) σ' := by
  intro h
  refine CT_of (lv0 := [(0, .ref (G.1 + a0))]) (by decide) (Nat.le_of_ble_eq_true rfl) rfl (fun κ hl hR hr C => ?_)
  have C : Cx κ G cX1_stand RX1 4 := C
  revert h
  unfold fX1_stand
  refine R_tk (fun ha0 => ?_)
  refine R_lconst C (0) dX1_stand_0 (by decide) ?_
  refine R_lstore_n (lv2 := [(1, .long (0 : Int64)), (0, .ref (G.1 + a0))]) C dX1_stand_1 rfl (by decide) rfl ?_
  refine R_iconst C (0) dX1_stand_2 (by decide) ?_
  refine R_istore_n (lv2 := [(3, .int (0 : Int32)), (1, .long (0 : Int64)), (0, .ref (G.1 + a0))]) C dX1_stand_3 rfl (by decide) rfl ?_
  refine R_loc (lv2 := [(0, .ref (G.1 + a0)), (1, .long (0 : Int64)), (3, .int (0 : Int32))]) [2, 1, 0] rfl ?_
  refine R_loop (fun (a : (Int64 × Int32) × Sg) => V κ G (QQ κ G E (some (.long r)) σ') E a.2 (false, 0, 0) 4 [(0, .ref (G.1 + a0)), (1, .long a.1.1), (3, .int a.1.2)] []) (fun (o : (Int64 × Int32)) (s : Sg) => V κ G (QQ κ G E (some (.long r)) σ') E s (false, 0, 0) 35 [(1, .long o.1)] []) (((0 : Int64), (0 : Int32)), σ) (fun o16 s17 => ?_) (fun rec I7 a b5 s6 K4 => ?_)
  · refine R_lload_n C 0 rfl dX1_stand_35 ?_
    exact R_lret C hr dX1_stand_36
  · obtain ⟨⟨v1, v2⟩, s3⟩ := a
    show bX1_stand_4 E a0 (fun u0 u1 t => rec ((u0, u1), t)) v1 v2 s3 = some (b5, s6) → V κ G (QQ κ G E (some (.long r)) σ') E s3 (false, 0, 0) 4 [(0, .ref (G.1 + a0)), (1, .long v1), (3, .int v2)] []
    unfold bX1_stand_4
    refine R_iload_n C 2 rfl dX1_stand_4 ?_
    refine R_aload_n C 0 rfl dX1_stand_5 ?_
    refine R_geti C fl1_58 rfl ha0 dX1_stand_6 ?_
    refine B_icmp_ge C dX1_stand_9 ?_ ?_
    · refine R_loc (lv2 := [(1, .long v1)]) [1] rfl ?_
      exact R_end (fun (o : (Int64 × Int32)) (s : Sg) => V κ G (QQ κ G E (some (.long r)) σ') E s (false, 0, 0) 35 [(1, .long o.1)] []) K4
    · refine R_lload_n C 1 rfl dX1_stand_12 ?_
      refine R_ldc2 C cs1_187 dX1_stand_13 ?_
      refine R_lmul C dX1_stand_16 ?_
      refine R_aload_n C 0 rfl dX1_stand_17 ?_
      refine R_dr (fun x8 rx8 cx8 => ?_)
      refine R_getr C fl1_17 rfl ha0 rx8 dX1_stand_18 ?_
      refine R_iload_n C 2 rfl dX1_stand_21 ?_
      refine R_ck (fun h9 => ?_)
      refine R_dr (fun x10 rx10 cx10 => ?_)
      refine R_aald4 C cx8 h9 rx10 dX1_stand_22 ?_
      refine R_bd (fun r13 s11 q12 => ?_)
      refine R_callVi [] [.long (v1 * (1024 : Int64))] C ml1_136 (kX5_size q12) (by rw [hR]; exact ⟨rfl, rfl, Nat.le_of_ble_eq_true rfl, Nat.le_of_ble_eq_true rfl, Nat.zero_le _, Nat.zero_le _⟩) cx10 rfl rfl (Nat.le_of_ble_eq_true rfl) dX1_stand_23 ?_
      refine R_i2l C dX1_stand_26 ?_
      refine R_ladd C dX1_stand_27 ?_
      refine S_lstore_n C dX1_stand_28 rfl (fun v14 => [(1, .long v14), (0, .ref (G.1 + a0)), (3, .int v2)]) (by decide) (fun _ => rfl) (fun v14 => ?_)
      refine S_iinc (fun v15 => [(3, .int v15), (1, .long v14), (0, .ref (G.1 + a0))]) 2 C dX1_stand_29 rfl (by decide) (by decide) (fun _ => rfl) (fun v15 => ?_)
      refine R_goto C dX1_stand_32 ?_
      refine R_loc (lv2 := [(0, .ref (G.1 + a0)), (1, .long v14), (3, .int v15)]) [2, 1, 0] rfl ?_
      exact I7 ((v14, v15), s11) b5 s6 K4
