theorem dX6_takeBytes_0 : dk cX6_takeBytes 0 2 (.bipush 24) 2 := by unfold dk; decide +kernel
theorem dX6_takeBytes_2 : dk cX6_takeBytes 2 3 (.istore_n 2) 1 := by unfold dk; decide +kernel
theorem dX6_takeBytes_3 : dk cX6_takeBytes 3 4 (.iload_n 2) 1 := by unfold dk; decide +kernel
theorem dX6_takeBytes_7 : dk cX6_takeBytes 7 8 (.aload_n 0) 1 := by unfold dk; decide +kernel
theorem dX6_takeBytes_8 : dk cX6_takeBytes 8 11 (.getfield 57) 3 := by unfold dk; decide +kernel
theorem dX6_takeBytes_11 : dk cX6_takeBytes 11 14 (.sipush 200) 3 := by unfold dk; decide +kernel
theorem dX6_takeBytes_17 : dk cX6_takeBytes 17 18 (.aload_n 0) 1 := by unfold dk; decide +kernel
theorem dX6_takeBytes_18 : dk cX6_takeBytes 18 21 (.getfield 9) 3 := by unfold dk; decide +kernel
theorem dX6_takeBytes_21 : dk cX6_takeBytes 21 22 (.aload_n 0) 1 := by unfold dk; decide +kernel
theorem dX6_takeBytes_22 : dk cX6_takeBytes 22 25 (.getfield 57) 3 := by unfold dk; decide +kernel
theorem dX6_takeBytes_25 : dk cX6_takeBytes 25 26 (.iload_n 1) 1 := by unfold dk; decide +kernel
theorem dX6_takeBytes_26 : dk cX6_takeBytes 26 27 (.iload_n 2) 1 := by unfold dk; decide +kernel
theorem dX6_takeBytes_27 : dk cX6_takeBytes 27 28 (.iushr) 1 := by unfold dk; decide +kernel
theorem dX6_takeBytes_28 : dk cX6_takeBytes 28 31 (.sipush 255) 3 := by unfold dk; decide +kernel
theorem dX6_takeBytes_31 : dk cX6_takeBytes 31 32 (.iand) 1 := by unfold dk; decide +kernel
theorem dX6_takeBytes_32 : dk cX6_takeBytes 32 33 (.iastore) 1 := by unfold dk; decide +kernel
theorem dX6_takeBytes_33 : dk cX6_takeBytes 33 34 (.aload_n 0) 1 := by unfold dk; decide +kernel
theorem dX6_takeBytes_34 : dk cX6_takeBytes 34 35 (.dup) 1 := by unfold dk; decide +kernel
theorem dX6_takeBytes_35 : dk cX6_takeBytes 35 38 (.getfield 57) 3 := by unfold dk; decide +kernel
theorem dX6_takeBytes_38 : dk cX6_takeBytes 38 39 (.iconst 1) 1 := by unfold dk; decide +kernel
theorem dX6_takeBytes_39 : dk cX6_takeBytes 39 40 (.iadd) 1 := by unfold dk; decide +kernel
theorem dX6_takeBytes_40 : dk cX6_takeBytes 40 43 (.putfield 57) 3 := by unfold dk; decide +kernel
theorem dX6_takeBytes_43 : dk cX6_takeBytes 43 46 (.iinc 2 (-8)) 3 := by unfold dk; decide +kernel
theorem dX6_takeBytes_46 : bk cX6_takeBytes 46 49 3 (.goto (-43)) (-43) := by unfold bk; decide +kernel
theorem dX6_takeBytes_14 : bk cX6_takeBytes 14 17 49 (.if_icmp .ge 35) (35) := by unfold bk; decide +kernel
theorem dX6_takeBytes_4 : bk cX6_takeBytes 4 7 49 (.ifCond .lt 45) (45) := by unfold bk; decide +kernel
theorem dX6_takeBytes_49 : dk cX6_takeBytes 49 50 (.return_) 1 := by unfold dk; decide +kernel
set_option maxHeartbeats 4000000 in
set_option maxRecDepth 100000 in
theorem kX6_takeBytes {l : Launch} {G : Gl} {E : En} {a0 : Nat} {a1 : Int32} {σ σ' : Sg} : fX6_takeBytes E a0 a1 σ = some σ' → CT l yX6_takeBytes cX6_takeBytes 3 none ({ frames := 0, cells := 0, slots := 0, locals := 0 } : Room) [.ref (G.1 + a0), .int a1] G E σ none σ' := by
  intro h
  refine CT_of (lv0 := [(0, .ref (G.1 + a0)), (1, .int a1)]) (by decide) (Nat.le_of_ble_eq_true rfl) rfl (fun κ hl hR hr C => ?_)
  have C : Cx κ G cX6_takeBytes RX6 3 := C
  revert h
  unfold fX6_takeBytes
  refine R_tk (fun ha0 => ?_)
  refine R_bipush C (24) dX6_takeBytes_0 (by decide) ?_
  refine R_istore_n (lv2 := [(2, .int (24 : Int32)), (0, .ref (G.1 + a0)), (1, .int a1)]) C dX6_takeBytes_2 rfl (by decide) rfl ?_
  refine R_loc (lv2 := [(0, .ref (G.1 + a0)), (1, .int a1), (2, .int (24 : Int32))]) [1, 2, 0] rfl ?_
  refine R_loop (fun (a : (Int32) × Sg) => V κ G (QQ κ G E none σ') E a.2 (false, 0, 0) 3 [(0, .ref (G.1 + a0)), (1, .int a1), (2, .int a.1)] []) (fun (o : (Int32)) (s : Sg) => V κ G (QQ κ G E none σ') E s (false, 0, 0) 49 [] []) ((24 : Int32), σ) (fun o12 s13 => ?_) (fun rec I6 a b4 s5 K3 => ?_)
  · exact R_vret C hr dX6_takeBytes_49
  · obtain ⟨v1, s2⟩ := a
    show bX6_takeBytes_3 E a0 a1 (fun u0 t => rec (u0, t)) v1 s2 = some (b4, s5) → V κ G (QQ κ G E none σ') E s2 (false, 0, 0) 3 [(0, .ref (G.1 + a0)), (1, .int a1), (2, .int v1)] []
    unfold bX6_takeBytes_3
    refine R_iload_n C 2 rfl dX6_takeBytes_3 ?_
    refine B_if_lt C dX6_takeBytes_4 ?_ ?_
    · refine R_loc (lv2 := []) [] rfl ?_
      exact R_end (fun (o : (Int32)) (s : Sg) => V κ G (QQ κ G E none σ') E s (false, 0, 0) 49 [] []) K3
    · refine R_aload_n C 0 rfl dX6_takeBytes_7 ?_
      refine R_geti C fl6_57 rfl ha0 dX6_takeBytes_8 ?_
      refine R_sipush C (200) dX6_takeBytes_11 (by decide) ?_
      refine B_icmp_ge C dX6_takeBytes_14 ?_ ?_
      · refine R_loc (lv2 := []) [] rfl ?_
        exact R_end (fun (o : (Int32)) (s : Sg) => V κ G (QQ κ G E none σ') E s (false, 0, 0) 49 [] []) K3
      · refine R_aload_n C 0 rfl dX6_takeBytes_17 ?_
        refine R_dr (fun x7 rx7 cx7 => ?_)
        refine R_getr C fl6_9 rfl ha0 rx7 dX6_takeBytes_18 ?_
        refine R_aload_n C 0 rfl dX6_takeBytes_21 ?_
        refine R_geti C fl6_57 rfl ha0 dX6_takeBytes_22 ?_
        refine R_iload_n C 1 rfl dX6_takeBytes_25 ?_
        refine R_iload_n C 2 rfl dX6_takeBytes_26 ?_
        refine R_iushr C dX6_takeBytes_27 ?_
        refine R_sipush C (255) dX6_takeBytes_28 (by decide) ?_
        refine R_iand C dX6_takeBytes_31 ?_
        refine R_ck (fun h8 => ?_)
        refine S_iast C cx7 h8 dX6_takeBytes_32 (fun s9 => ?_)
        refine R_aload_n C 0 rfl dX6_takeBytes_33 ?_
        refine R_dup C dX6_takeBytes_34 rfl ?_
        refine R_geti C fl6_57 rfl ha0 dX6_takeBytes_35 ?_
        refine R_iconst C (1) dX6_takeBytes_38 (by decide) ?_
        refine R_iadd C dX6_takeBytes_39 ?_
        refine S_puti C fl6_57 rfl ha0 rfl rfl dX6_takeBytes_40 (fun s10 => ?_)
        refine S_iinc (fun v11 => [(2, .int v11), (0, .ref (G.1 + a0)), (1, .int a1)]) 2 C dX6_takeBytes_43 rfl (by decide) (by decide) (fun _ => rfl) (fun v11 => ?_)
        refine R_goto C dX6_takeBytes_46 ?_
        refine R_loc (lv2 := [(0, .ref (G.1 + a0)), (1, .int a1), (2, .int v11)]) [1, 2, 0] rfl ?_
        exact I6 (v11, s10) b4 s5 K3
theorem dX6_feed_0 : dk cX6_feed 0 1 (.aload_n 0) 1 := by unfold dk; decide +kernel
theorem dX6_feed_1 : dk cX6_feed 1 4 (.getfield 57) 3 := by unfold dk; decide +kernel
theorem dX6_feed_4 : dk cX6_feed 4 6 (.bipush 20) 2 := by unfold dk; decide +kernel
theorem dX6_feed_6 : dk cX6_feed 6 7 (.iadd) 1 := by unfold dk; decide +kernel
theorem dX6_feed_7 : dk cX6_feed 7 10 (.sipush 200) 3 := by unfold dk; decide +kernel
theorem dX6_feed_15 : dk cX6_feed 15 16 (.aload_n 0) 1 := by unfold dk; decide +kernel
theorem dX6_feed_16 : dk cX6_feed 16 17 (.iload_n 1) 1 := by unfold dk; decide +kernel
theorem dX6_feed_17 : dk cX6_feed 17 20 (.invokevirtual 61) 3 := by unfold dk; decide +kernel
theorem dX6_feed_20 : dk cX6_feed 20 21 (.aload_n 0) 1 := by unfold dk; decide +kernel
theorem dX6_feed_21 : dk cX6_feed 21 22 (.iload_n 2) 1 := by unfold dk; decide +kernel
theorem dX6_feed_22 : dk cX6_feed 22 25 (.invokevirtual 61) 3 := by unfold dk; decide +kernel
theorem dX6_feed_25 : dk cX6_feed 25 26 (.aload_n 0) 1 := by unfold dk; decide +kernel
theorem dX6_feed_26 : dk cX6_feed 26 27 (.iload_n 3) 1 := by unfold dk; decide +kernel
theorem dX6_feed_27 : dk cX6_feed 27 30 (.invokevirtual 61) 3 := by unfold dk; decide +kernel
theorem dX6_feed_30 : dk cX6_feed 30 31 (.aload_n 0) 1 := by unfold dk; decide +kernel
theorem dX6_feed_31 : dk cX6_feed 31 33 (.iload 4) 2 := by unfold dk; decide +kernel
theorem dX6_feed_33 : dk cX6_feed 33 36 (.invokevirtual 61) 3 := by unfold dk; decide +kernel
theorem dX6_feed_36 : dk cX6_feed 36 37 (.aload_n 0) 1 := by unfold dk; decide +kernel
theorem dX6_feed_37 : dk cX6_feed 37 39 (.iload 5) 2 := by unfold dk; decide +kernel
theorem dX6_feed_39 : dk cX6_feed 39 42 (.invokevirtual 61) 3 := by unfold dk; decide +kernel
theorem dX6_feed_42 : dk cX6_feed 42 43 (.aload_n 0) 1 := by unfold dk; decide +kernel
theorem dX6_feed_43 : dk cX6_feed 43 46 (.getfield 57) 3 := by unfold dk; decide +kernel
theorem dX6_feed_46 : dk cX6_feed 46 47 (.ireturn) 1 := by unfold dk; decide +kernel
theorem dX6_feed_13 : dk cX6_feed 13 14 (.iconst (-1)) 1 := by unfold dk; decide +kernel
theorem dX6_feed_14 : dk cX6_feed 14 15 (.ireturn) 1 := by unfold dk; decide +kernel
theorem dX6_feed_10 : bk cX6_feed 10 13 15 (.if_icmp .le 5) (5) := by unfold bk; decide +kernel
set_option maxHeartbeats 4000000 in
set_option maxRecDepth 100000 in
theorem kX6_feed {l : Launch} {G : Gl} {E : En} {a0 : Nat} {a1 : Int32} {a2 : Int32} {a3 : Int32} {a4 : Int32} {a5 : Int32} {σ σ' : Sg} {r : Int32} : fX6_feed E a0 a1 a2 a3 a4 a5 σ = some (r, σ') → CT l yX6_feed cX6_feed 6 (some .int) ({ frames := 1, cells := 0, slots := 0, locals := 22 } : Room) [.ref (G.1 + a0), .int a1, .int a2, .int a3, .int a4, .int a5] G E σ (some (.int r)) σ' := by
  intro h
  refine CT_of (lv0 := [(0, .ref (G.1 + a0)), (1, .int a1), (2, .int a2), (3, .int a3), (4, .int a4), (5, .int a5)]) (by decide) (Nat.le_of_ble_eq_true rfl) rfl (fun κ hl hR hr C => ?_)
  have C : Cx κ G cX6_feed RX6 6 := C
  revert h
  unfold fX6_feed
  refine R_tk (fun ha0 => ?_)
  refine R_aload_n C 0 rfl dX6_feed_0 ?_
  refine R_geti C fl6_57 rfl ha0 dX6_feed_1 ?_
  refine R_bipush C (20) dX6_feed_4 (by decide) ?_
  refine R_iadd C dX6_feed_6 ?_
  refine R_sipush C (200) dX6_feed_7 (by decide) ?_
  refine B_icmp_le C dX6_feed_10 ?_ ?_
  · refine R_aload_n C 0 rfl dX6_feed_15 ?_
    refine R_iload_n C 1 rfl dX6_feed_16 ?_
    refine R_bv (fun s1 q2 => ?_)
    refine R_callVv [.int a1] [] C ml6_61 (kX6_takeBytes q2) (by rw [hR]; exact ⟨rfl, rfl, Nat.le_of_ble_eq_true rfl, Nat.le_of_ble_eq_true rfl, Nat.zero_le _, Nat.zero_le _⟩) ha0 rfl rfl (Nat.le_of_ble_eq_true rfl) dX6_feed_17 ?_
    refine R_aload_n C 0 rfl dX6_feed_20 ?_
    refine R_iload_n C 2 rfl dX6_feed_21 ?_
    refine R_bv (fun s3 q4 => ?_)
    refine R_callVv [.int a2] [] C ml6_61 (kX6_takeBytes q4) (by rw [hR]; exact ⟨rfl, rfl, Nat.le_of_ble_eq_true rfl, Nat.le_of_ble_eq_true rfl, Nat.zero_le _, Nat.zero_le _⟩) ha0 rfl rfl (Nat.le_of_ble_eq_true rfl) dX6_feed_22 ?_
    refine R_aload_n C 0 rfl dX6_feed_25 ?_
    refine R_iload_n C 3 rfl dX6_feed_26 ?_
    refine R_bv (fun s5 q6 => ?_)
    refine R_callVv [.int a3] [] C ml6_61 (kX6_takeBytes q6) (by rw [hR]; exact ⟨rfl, rfl, Nat.le_of_ble_eq_true rfl, Nat.le_of_ble_eq_true rfl, Nat.zero_le _, Nat.zero_le _⟩) ha0 rfl rfl (Nat.le_of_ble_eq_true rfl) dX6_feed_27 ?_
    refine R_aload_n C 0 rfl dX6_feed_30 ?_
    refine R_iload C 4 rfl dX6_feed_31 ?_
    refine R_bv (fun s7 q8 => ?_)
    refine R_callVv [.int a4] [] C ml6_61 (kX6_takeBytes q8) (by rw [hR]; exact ⟨rfl, rfl, Nat.le_of_ble_eq_true rfl, Nat.le_of_ble_eq_true rfl, Nat.zero_le _, Nat.zero_le _⟩) ha0 rfl rfl (Nat.le_of_ble_eq_true rfl) dX6_feed_33 ?_
    refine R_aload_n C 0 rfl dX6_feed_36 ?_
    refine R_iload C 5 rfl dX6_feed_37 ?_
    refine R_bv (fun s9 q10 => ?_)
    refine R_callVv [.int a5] [] C ml6_61 (kX6_takeBytes q10) (by rw [hR]; exact ⟨rfl, rfl, Nat.le_of_ble_eq_true rfl, Nat.le_of_ble_eq_true rfl, Nat.zero_le _, Nat.zero_le _⟩) ha0 rfl rfl (Nat.le_of_ble_eq_true rfl) dX6_feed_39 ?_
    refine R_aload_n C 0 rfl dX6_feed_42 ?_
    refine R_geti C fl6_57 rfl ha0 dX6_feed_43 ?_
    exact R_iret C hr dX6_feed_46
  · refine R_iconst C (-1) dX6_feed_13 (by decide) ?_
    exact R_iret C hr dX6_feed_14
theorem dX6_end_0 : dk cX6_end 0 1 (.iload_n 1) 1 := by unfold dk; decide +kernel
theorem dX6_end_12 : dk cX6_end 12 13 (.iconst (-1)) 1 := by unfold dk; decide +kernel
theorem dX6_end_13 : dk cX6_end 13 14 (.ireturn) 1 := by unfold dk; decide +kernel
theorem dX6_end_4 : dk cX6_end 4 5 (.iload_n 1) 1 := by unfold dk; decide +kernel
theorem dX6_end_5 : dk cX6_end 5 6 (.aload_n 0) 1 := by unfold dk; decide +kernel
theorem dX6_end_6 : dk cX6_end 6 9 (.getfield 57) 3 := by unfold dk; decide +kernel
theorem dX6_end_14 : dk cX6_end 14 15 (.aload_n 0) 1 := by unfold dk; decide +kernel
theorem dX6_end_15 : dk cX6_end 15 16 (.iload_n 1) 1 := by unfold dk; decide +kernel
theorem dX6_end_16 : dk cX6_end 16 19 (.putfield 57) 3 := by unfold dk; decide +kernel
theorem dX6_end_19 : dk cX6_end 19 20 (.iload_n 1) 1 := by unfold dk; decide +kernel
theorem dX6_end_20 : dk cX6_end 20 21 (.ireturn) 1 := by unfold dk; decide +kernel
theorem dX6_end_9 : bk cX6_end 9 12 14 (.if_icmp .le 5) (5) := by unfold bk; decide +kernel
theorem dX6_end_1 : bk cX6_end 1 4 12 (.ifCond .lt 11) (11) := by unfold bk; decide +kernel
set_option maxHeartbeats 4000000 in
set_option maxRecDepth 100000 in
theorem kX6_end {l : Launch} {G : Gl} {E : En} {a0 : Nat} {a1 : Int32} {σ σ' : Sg} {r : Int32} : fX6_end E a0 a1 σ = some (r, σ') → CT l yX6_end cX6_end 2 (some .int) ({ frames := 0, cells := 0, slots := 0, locals := 0 } : Room) [.ref (G.1 + a0), .int a1] G E σ (some (.int r)) σ' := by
  intro h
  refine CT_of (lv0 := [(0, .ref (G.1 + a0)), (1, .int a1)]) (by decide) (Nat.le_of_ble_eq_true rfl) rfl (fun κ hl hR hr C => ?_)
  have C : Cx κ G cX6_end RX6 2 := C
  revert h
  unfold fX6_end
  refine R_tk (fun ha0 => ?_)
  refine R_iload_n C 1 rfl dX6_end_0 ?_
  refine B_if_lt C dX6_end_1 ?_ ?_
  · refine R_iconst C (-1) dX6_end_12 (by decide) ?_
    exact R_iret C hr dX6_end_13
  · refine R_iload_n C 1 rfl dX6_end_4 ?_
    refine R_aload_n C 0 rfl dX6_end_5 ?_
    refine R_geti C fl6_57 rfl ha0 dX6_end_6 ?_
    refine B_icmp_le C dX6_end_9 ?_ ?_
    · refine R_aload_n C 0 rfl dX6_end_14 ?_
      refine R_iload_n C 1 rfl dX6_end_15 ?_
      refine S_puti C fl6_57 rfl ha0 rfl rfl dX6_end_16 (fun s1 => ?_)
      refine R_iload_n C 1 rfl dX6_end_19 ?_
      exact R_iret C hr dX6_end_20
    · refine R_iconst C (-1) dX6_end_12 (by decide) ?_
      exact R_iret C hr dX6_end_13
theorem dX6_remember_0 : dk cX6_remember 0 1 (.aload_n 0) 1 := by unfold dk; decide +kernel
theorem dX6_remember_1 : dk cX6_remember 1 4 (.getfield 20) 3 := by unfold dk; decide +kernel
theorem dX6_remember_4 : dk cX6_remember 4 5 (.aload_n 0) 1 := by unfold dk; decide +kernel
theorem dX6_remember_5 : dk cX6_remember 5 8 (.getfield 302) 3 := by unfold dk; decide +kernel
theorem dX6_remember_8 : dk cX6_remember 8 9 (.aaload) 1 := by unfold dk; decide +kernel
theorem dX6_remember_9 : dk cX6_remember 9 10 (.aload_n 0) 1 := by unfold dk; decide +kernel
theorem dX6_remember_10 : dk cX6_remember 10 13 (.getfield 16) 3 := by unfold dk; decide +kernel
theorem dX6_remember_13 : dk cX6_remember 13 16 (.invokevirtual 305) 3 := by unfold dk; decide +kernel
theorem dX6_remember_16 : dk cX6_remember 16 17 (.aload_n 0) 1 := by unfold dk; decide +kernel
theorem dX6_remember_17 : dk cX6_remember 17 20 (.getfield 24) 3 := by unfold dk; decide +kernel
theorem dX6_remember_20 : dk cX6_remember 20 21 (.aload_n 0) 1 := by unfold dk; decide +kernel
theorem dX6_remember_21 : dk cX6_remember 21 24 (.getfield 302) 3 := by unfold dk; decide +kernel
theorem dX6_remember_24 : dk cX6_remember 24 25 (.aload_n 0) 1 := by unfold dk; decide +kernel
theorem dX6_remember_25 : dk cX6_remember 25 28 (.getfield 86) 3 := by unfold dk; decide +kernel
theorem dX6_remember_28 : dk cX6_remember 28 29 (.iastore) 1 := by unfold dk; decide +kernel
theorem dX6_remember_29 : dk cX6_remember 29 30 (.aload_n 0) 1 := by unfold dk; decide +kernel
theorem dX6_remember_30 : dk cX6_remember 30 31 (.aload_n 0) 1 := by unfold dk; decide +kernel
theorem dX6_remember_31 : dk cX6_remember 31 34 (.getfield 302) 3 := by unfold dk; decide +kernel
theorem dX6_remember_34 : dk cX6_remember 34 35 (.iconst 1) 1 := by unfold dk; decide +kernel
theorem dX6_remember_35 : dk cX6_remember 35 36 (.iadd) 1 := by unfold dk; decide +kernel
theorem dX6_remember_36 : dk cX6_remember 36 38 (.bipush 8) 2 := by unfold dk; decide +kernel
theorem dX6_remember_38 : dk cX6_remember 38 39 (.irem) 1 := by unfold dk; decide +kernel
theorem dX6_remember_39 : dk cX6_remember 39 42 (.putfield 302) 3 := by unfold dk; decide +kernel
theorem dX6_remember_42 : dk cX6_remember 42 43 (.aload_n 0) 1 := by unfold dk; decide +kernel
theorem dX6_remember_43 : dk cX6_remember 43 44 (.aload_n 0) 1 := by unfold dk; decide +kernel
theorem dX6_remember_44 : dk cX6_remember 44 47 (.getfield 308) 3 := by unfold dk; decide +kernel
theorem dX6_remember_47 : dk cX6_remember 47 48 (.iconst 1) 1 := by unfold dk; decide +kernel
theorem dX6_remember_48 : dk cX6_remember 48 49 (.iadd) 1 := by unfold dk; decide +kernel
theorem dX6_remember_49 : dk cX6_remember 49 51 (.bipush 8) 2 := by unfold dk; decide +kernel
theorem dX6_remember_51 : dk cX6_remember 51 54 (.invokestatic 311) 3 := by unfold dk; decide +kernel
theorem dX6_remember_54 : dk cX6_remember 54 57 (.putfield 308) 3 := by unfold dk; decide +kernel
theorem dX6_remember_57 : dk cX6_remember 57 58 (.return_) 1 := by unfold dk; decide +kernel
set_option maxHeartbeats 4000000 in
set_option maxRecDepth 100000 in
theorem kX6_remember {l : Launch} {G : Gl} {E : En} {a0 : Nat} {σ σ' : Sg} : fX6_remember E a0 σ = some σ' → CT l yX6_remember cX6_remember 1 none ({ frames := 4, cells := 0, slots := 0, locals := 124 } : Room) [.ref (G.1 + a0)] G E σ none σ' := by
  intro h
  refine CT_of (lv0 := [(0, .ref (G.1 + a0))]) (by decide) (Nat.le_of_ble_eq_true rfl) rfl (fun κ hl hR hr C => ?_)
  have C : Cx κ G cX6_remember RX6 1 := C
  revert h
  unfold fX6_remember
  refine R_tk (fun ha0 => ?_)
  refine R_aload_n C 0 rfl dX6_remember_0 ?_
  refine R_dr (fun x1 rx1 cx1 => ?_)
  refine R_getr C fl6_20 rfl ha0 rx1 dX6_remember_1 ?_
  refine R_aload_n C 0 rfl dX6_remember_4 ?_
  refine R_geti C fl6_302 rfl ha0 dX6_remember_5 ?_
  refine R_ck (fun h2 => ?_)
  refine R_dr (fun x3 rx3 cx3 => ?_)
  refine R_aald5 C cx1 h2 rx3 dX6_remember_8 ?_
  refine R_aload_n C 0 rfl dX6_remember_9 ?_
  refine R_dr (fun x4 rx4 cx4 => ?_)
  refine R_getr C fl6_16 rfl ha0 rx4 dX6_remember_10 ?_
  refine R_bv (fun s5 q6 => ?_)
  refine R_callVv [.ref (G.1 + x4)] [] C ml6_305 (kX4_copyFrom q6) (by rw [hR]; exact ⟨rfl, rfl, Nat.le_of_ble_eq_true rfl, Nat.le_of_ble_eq_true rfl, Nat.zero_le _, Nat.zero_le _⟩) cx3 rfl rfl (Nat.le_of_ble_eq_true rfl) dX6_remember_13 ?_
  refine R_aload_n C 0 rfl dX6_remember_16 ?_
  refine R_dr (fun x7 rx7 cx7 => ?_)
  refine R_getr C fl6_24 rfl ha0 rx7 dX6_remember_17 ?_
  refine R_aload_n C 0 rfl dX6_remember_20 ?_
  refine R_geti C fl6_302 rfl ha0 dX6_remember_21 ?_
  refine R_aload_n C 0 rfl dX6_remember_24 ?_
  refine R_geti C fl6_86 rfl ha0 dX6_remember_25 ?_
  refine R_ck (fun h8 => ?_)
  refine S_iast C cx7 h8 dX6_remember_28 (fun s9 => ?_)
  refine R_aload_n C 0 rfl dX6_remember_29 ?_
  refine R_aload_n C 0 rfl dX6_remember_30 ?_
  refine R_geti C fl6_302 rfl ha0 dX6_remember_31 ?_
  refine R_iconst C (1) dX6_remember_34 (by decide) ?_
  refine R_iadd C dX6_remember_35 ?_
  refine R_bipush C (8) dX6_remember_36 (by decide) ?_
  refine R_irem C dX6_remember_38 (by decide) ?_
  refine S_puti C fl6_302 rfl ha0 rfl rfl dX6_remember_39 (fun s10 => ?_)
  refine R_aload_n C 0 rfl dX6_remember_42 ?_
  refine R_aload_n C 0 rfl dX6_remember_43 ?_
  refine R_geti C fl6_308 rfl ha0 dX6_remember_44 ?_
  refine R_iconst C (1) dX6_remember_47 (by decide) ?_
  refine R_iadd C dX6_remember_48 ?_
  refine R_bipush C (8) dX6_remember_49 (by decide) ?_
  refine R_mmin C jd6_311 (by rw [hR]; exact ⟨Nat.le_of_ble_eq_true rfl, Nat.le_of_ble_eq_true rfl, Nat.zero_le _, Nat.zero_le _⟩) dX6_remember_51 ?_
  refine S_puti C fl6_308 rfl ha0 rfl rfl dX6_remember_54 (fun s11 => ?_)
  exact R_vret C hr dX6_remember_57
theorem dX6_tell_0 : dk cX6_tell 0 1 (.aload_n 0) 1 := by unfold dk; decide +kernel
theorem dX6_tell_1 : dk cX6_tell 1 4 (.getfield 57) 3 := by unfold dk; decide +kernel
theorem dX6_tell_28 : dk cX6_tell 28 29 (.iconst (-1)) 1 := by unfold dk; decide +kernel
theorem dX6_tell_29 : dk cX6_tell 29 30 (.ireturn) 1 := by unfold dk; decide +kernel
theorem dX6_tell_7 : dk cX6_tell 7 8 (.aload_n 0) 1 := by unfold dk; decide +kernel
theorem dX6_tell_8 : dk cX6_tell 8 11 (.getfield 16) 3 := by unfold dk; decide +kernel
theorem dX6_tell_11 : dk cX6_tell 11 14 (.getfield 64) 3 := by unfold dk; decide +kernel
theorem dX6_tell_14 : dk cX6_tell 14 17 (.getfield 68) 3 := by unfold dk; decide +kernel
theorem dX6_tell_17 : dk cX6_tell 17 18 (.aload_n 0) 1 := by unfold dk; decide +kernel
theorem dX6_tell_18 : dk cX6_tell 18 21 (.getfield 57) 3 := by unfold dk; decide +kernel
theorem dX6_tell_21 : dk cX6_tell 21 22 (.iadd) 1 := by unfold dk; decide +kernel
theorem dX6_tell_22 : dk cX6_tell 22 25 (.sipush 300) 3 := by unfold dk; decide +kernel
theorem dX6_tell_30 : dk cX6_tell 30 31 (.aload_n 0) 1 := by unfold dk; decide +kernel
theorem dX6_tell_31 : dk cX6_tell 31 34 (.invokevirtual 73) 3 := by unfold dk; decide +kernel
theorem dX6_tell_34 : dk cX6_tell 34 35 (.iconst 0) 1 := by unfold dk; decide +kernel
theorem dX6_tell_35 : dk cX6_tell 35 36 (.istore_n 1) 1 := by unfold dk; decide +kernel
theorem dX6_tell_36 : dk cX6_tell 36 37 (.iload_n 1) 1 := by unfold dk; decide +kernel
theorem dX6_tell_37 : dk cX6_tell 37 38 (.aload_n 0) 1 := by unfold dk; decide +kernel
theorem dX6_tell_38 : dk cX6_tell 38 41 (.getfield 57) 3 := by unfold dk; decide +kernel
theorem dX6_tell_44 : dk cX6_tell 44 45 (.aload_n 0) 1 := by unfold dk; decide +kernel
theorem dX6_tell_45 : dk cX6_tell 45 48 (.getfield 16) 3 := by unfold dk; decide +kernel
theorem dX6_tell_48 : dk cX6_tell 48 51 (.getfield 64) 3 := by unfold dk; decide +kernel
theorem dX6_tell_51 : dk cX6_tell 51 52 (.aload_n 0) 1 := by unfold dk; decide +kernel
theorem dX6_tell_52 : dk cX6_tell 52 55 (.getfield 9) 3 := by unfold dk; decide +kernel
theorem dX6_tell_55 : dk cX6_tell 55 56 (.iload_n 1) 1 := by unfold dk; decide +kernel
theorem dX6_tell_56 : dk cX6_tell 56 57 (.iaload) 1 := by unfold dk; decide +kernel
theorem dX6_tell_57 : dk cX6_tell 57 60 (.invokevirtual 76) 3 := by unfold dk; decide +kernel
theorem dX6_tell_60 : dk cX6_tell 60 63 (.iinc 1 1) 3 := by unfold dk; decide +kernel
theorem dX6_tell_63 : bk cX6_tell 63 66 36 (.goto (-27)) (-27) := by unfold bk; decide +kernel
theorem dX6_tell_41 : bk cX6_tell 41 44 66 (.if_icmp .ge 25) (25) := by unfold bk; decide +kernel
theorem dX6_tell_66 : dk cX6_tell 66 67 (.aload_n 0) 1 := by unfold dk; decide +kernel
theorem dX6_tell_67 : dk cX6_tell 67 68 (.iconst 0) 1 := by unfold dk; decide +kernel
theorem dX6_tell_68 : dk cX6_tell 68 71 (.putfield 57) 3 := by unfold dk; decide +kernel
theorem dX6_tell_71 : dk cX6_tell 71 72 (.aload_n 0) 1 := by unfold dk; decide +kernel
theorem dX6_tell_72 : dk cX6_tell 72 75 (.getfield 16) 3 := by unfold dk; decide +kernel
theorem dX6_tell_75 : dk cX6_tell 75 76 (.iconst 0) 1 := by unfold dk; decide +kernel
theorem dX6_tell_76 : dk cX6_tell 76 79 (.putfield 79) 3 := by unfold dk; decide +kernel
theorem dX6_tell_79 : dk cX6_tell 79 80 (.aload_n 0) 1 := by unfold dk; decide +kernel
theorem dX6_tell_80 : dk cX6_tell 80 83 (.getfield 16) 3 := by unfold dk; decide +kernel
theorem dX6_tell_83 : dk cX6_tell 83 86 (.getfield 64) 3 := by unfold dk; decide +kernel
theorem dX6_tell_86 : dk cX6_tell 86 89 (.getfield 68) 3 := by unfold dk; decide +kernel
theorem dX6_tell_89 : dk cX6_tell 89 90 (.ireturn) 1 := by unfold dk; decide +kernel
theorem dX6_tell_25 : bk cX6_tell 25 28 30 (.if_icmp .le 5) (5) := by unfold bk; decide +kernel
theorem dX6_tell_4 : bk cX6_tell 4 7 28 (.ifCond .eq 24) (24) := by unfold bk; decide +kernel
set_option maxHeartbeats 4000000 in
set_option maxRecDepth 100000 in
theorem kX6_tell {l : Launch} {G : Gl} {E : En} {a0 : Nat} {σ σ' : Sg} {r : Int32} : fX6_tell E a0 σ = some (r, σ') → CT l yX6_tell cX6_tell 2 (some .int) ({ frames := 5, cells := 0, slots := 0, locals := 144 } : Room) [.ref (G.1 + a0)] G E σ (some (.int r)) σ' := by
  intro h
  refine CT_of (lv0 := [(0, .ref (G.1 + a0))]) (by decide) (Nat.le_of_ble_eq_true rfl) rfl (fun κ hl hR hr C => ?_)
  have C : Cx κ G cX6_tell RX6 2 := C
  revert h
  unfold fX6_tell
  refine R_tk (fun ha0 => ?_)
  refine R_aload_n C 0 rfl dX6_tell_0 ?_
  refine R_geti C fl6_57 rfl ha0 dX6_tell_1 ?_
  refine B_if_eq C dX6_tell_4 ?_ ?_
  · refine R_iconst C (-1) dX6_tell_28 (by decide) ?_
    exact R_iret C hr dX6_tell_29
  · refine R_aload_n C 0 rfl dX6_tell_7 ?_
    refine R_dr (fun x1 rx1 cx1 => ?_)
    refine R_getr C fl6_16 rfl ha0 rx1 dX6_tell_8 ?_
    refine R_dr (fun x2 rx2 cx2 => ?_)
    refine R_getr C fl6_64 rfl cx1 rx2 dX6_tell_11 ?_
    refine R_geti C fl6_68 rfl cx2 dX6_tell_14 ?_
    refine R_aload_n C 0 rfl dX6_tell_17 ?_
    refine R_geti C fl6_57 rfl ha0 dX6_tell_18 ?_
    refine R_iadd C dX6_tell_21 ?_
    refine R_sipush C (300) dX6_tell_22 (by decide) ?_
    refine B_icmp_le C dX6_tell_25 ?_ ?_
    · refine R_aload_n C 0 rfl dX6_tell_30 ?_
      refine R_bv (fun s3 q4 => ?_)
      refine R_callVv [] [] C ml6_73 (kX6_remember q4) (by rw [hR]; exact ⟨rfl, rfl, Nat.le_of_ble_eq_true rfl, Nat.le_of_ble_eq_true rfl, Nat.zero_le _, Nat.zero_le _⟩) ha0 rfl rfl (Nat.le_of_ble_eq_true rfl) dX6_tell_31 ?_
      refine R_iconst C (0) dX6_tell_34 (by decide) ?_
      refine R_istore_n (lv2 := [(1, .int (0 : Int32)), (0, .ref (G.1 + a0))]) C dX6_tell_35 rfl (by decide) rfl ?_
      refine R_loc (lv2 := [(0, .ref (G.1 + a0)), (1, .int (0 : Int32))]) [1, 0] rfl ?_
      refine R_loop (fun (a : (Int32) × Sg) => V κ G (QQ κ G E (some (.int r)) σ') E a.2 (false, 0, 0) 36 [(0, .ref (G.1 + a0)), (1, .int a.1)] []) (fun (o : (Int32)) (s : Sg) => V κ G (QQ κ G E (some (.int r)) σ') E s (false, 0, 0) 66 [(0, .ref (G.1 + a0))] []) ((0 : Int32), s3) (fun o16 s17 => ?_) (fun rec I10 a b8 s9 K7 => ?_)
      · refine R_aload_n C 0 rfl dX6_tell_66 ?_
        refine R_iconst C (0) dX6_tell_67 (by decide) ?_
        refine S_puti C fl6_57 rfl ha0 rfl rfl dX6_tell_68 (fun s18 => ?_)
        refine R_aload_n C 0 rfl dX6_tell_71 ?_
        refine R_getr C fl6_16 rfl ha0 rx1 dX6_tell_72 ?_
        refine R_iconst C (0) dX6_tell_75 (by decide) ?_
        refine S_puti C fl6_79 rfl cx1 rfl rfl dX6_tell_76 (fun s19 => ?_)
        refine R_aload_n C 0 rfl dX6_tell_79 ?_
        refine R_getr C fl6_16 rfl ha0 rx1 dX6_tell_80 ?_
        refine R_getr C fl6_64 rfl cx1 rx2 dX6_tell_83 ?_
        refine R_geti C fl6_68 rfl cx2 dX6_tell_86 ?_
        exact R_iret C hr dX6_tell_89
      · obtain ⟨v5, s6⟩ := a
        show bX6_tell_36 E a0 x2 (fun u0 t => rec (u0, t)) v5 s6 = some (b8, s9) → V κ G (QQ κ G E (some (.int r)) σ') E s6 (false, 0, 0) 36 [(0, .ref (G.1 + a0)), (1, .int v5)] []
        unfold bX6_tell_36
        refine R_iload_n C 1 rfl dX6_tell_36 ?_
        refine R_aload_n C 0 rfl dX6_tell_37 ?_
        refine R_geti C fl6_57 rfl ha0 dX6_tell_38 ?_
        refine B_icmp_ge C dX6_tell_41 ?_ ?_
        · refine R_loc (lv2 := [(0, .ref (G.1 + a0))]) [0] rfl ?_
          exact R_end (fun (o : (Int32)) (s : Sg) => V κ G (QQ κ G E (some (.int r)) σ') E s (false, 0, 0) 66 [(0, .ref (G.1 + a0))] []) K7
        · refine R_aload_n C 0 rfl dX6_tell_44 ?_
          refine R_getr C fl6_16 rfl ha0 rx1 dX6_tell_45 ?_
          refine R_getr C fl6_64 rfl cx1 rx2 dX6_tell_48 ?_
          refine R_aload_n C 0 rfl dX6_tell_51 ?_
          refine R_dr (fun x11 rx11 cx11 => ?_)
          refine R_getr C fl6_9 rfl ha0 rx11 dX6_tell_52 ?_
          refine R_iload_n C 1 rfl dX6_tell_55 ?_
          refine R_ck (fun h12 => ?_)
          refine R_iald C cx11 h12 dX6_tell_56 ?_
          refine R_bv (fun s13 q14 => ?_)
          refine R_callVv [.int (gi s6 x11 v5.toNatClampNeg)] [] C ml6_76 (kX3_add q14) (by rw [hR]; exact ⟨rfl, rfl, Nat.le_of_ble_eq_true rfl, Nat.le_of_ble_eq_true rfl, Nat.zero_le _, Nat.zero_le _⟩) cx2 rfl rfl (Nat.le_of_ble_eq_true rfl) dX6_tell_57 ?_
          refine S_iinc (fun v15 => [(1, .int v15), (0, .ref (G.1 + a0))]) 1 C dX6_tell_60 rfl (by decide) (by decide) (fun _ => rfl) (fun v15 => ?_)
          refine R_goto C dX6_tell_63 ?_
          refine R_loc (lv2 := [(0, .ref (G.1 + a0)), (1, .int v15)]) [1, 0] rfl ?_
          exact I10 (v15, s13) b8 s9 K7
    · refine R_iconst C (-1) dX6_tell_28 (by decide) ?_
      exact R_iret C hr dX6_tell_29
theorem dX6_drawOf_0 : dk cX6_drawOf 0 1 (.aload_n 0) 1 := by unfold dk; decide +kernel
theorem dX6_drawOf_1 : dk cX6_drawOf 1 2 (.aload_n 0) 1 := by unfold dk; decide +kernel
theorem dX6_drawOf_2 : dk cX6_drawOf 2 5 (.getfield 86) 3 := by unfold dk; decide +kernel
theorem dX6_drawOf_5 : dk cX6_drawOf 5 6 (.i2l) 1 := by unfold dk; decide +kernel
theorem dX6_drawOf_6 : dk cX6_drawOf 6 9 (.ldc2_w 89) 3 := by unfold dk; decide +kernel
theorem dX6_drawOf_9 : dk cX6_drawOf 9 10 (.lmul) 1 := by unfold dk; decide +kernel
theorem dX6_drawOf_10 : dk cX6_drawOf 10 13 (.ldc2_w 91) 3 := by unfold dk; decide +kernel
theorem dX6_drawOf_13 : dk cX6_drawOf 13 14 (.ladd) 1 := by unfold dk; decide +kernel
theorem dX6_drawOf_14 : dk cX6_drawOf 14 17 (.ldc2_w 93) 3 := by unfold dk; decide +kernel
theorem dX6_drawOf_17 : dk cX6_drawOf 17 18 (.land) 1 := by unfold dk; decide +kernel
theorem dX6_drawOf_18 : dk cX6_drawOf 18 19 (.l2i) 1 := by unfold dk; decide +kernel
theorem dX6_drawOf_19 : dk cX6_drawOf 19 22 (.putfield 86) 3 := by unfold dk; decide +kernel
theorem dX6_drawOf_22 : dk cX6_drawOf 22 23 (.iload_n 1) 1 := by unfold dk; decide +kernel
theorem dX6_drawOf_23 : dk cX6_drawOf 23 24 (.iconst 1) 1 := by unfold dk; decide +kernel
theorem dX6_drawOf_24 : bk cX6_drawOf 24 27 31 (.if_icmp .ge 7) (7) := by unfold bk; decide +kernel
theorem dX6_drawOf_31 : dk cX6_drawOf 31 32 (.aload_n 0) 1 := by unfold dk; decide +kernel
theorem dX6_drawOf_32 : dk cX6_drawOf 32 35 (.getfield 86) 3 := by unfold dk; decide +kernel
theorem dX6_drawOf_35 : dk cX6_drawOf 35 37 (.ldc 95) 2 := by unfold dk; decide +kernel
theorem dX6_drawOf_37 : dk cX6_drawOf 37 38 (.idiv) 1 := by unfold dk; decide +kernel
theorem dX6_drawOf_38 : dk cX6_drawOf 38 39 (.iload_n 1) 1 := by unfold dk; decide +kernel
theorem dX6_drawOf_39 : dk cX6_drawOf 39 40 (.irem) 1 := by unfold dk; decide +kernel
theorem dX6_drawOf_27 : dk cX6_drawOf 27 28 (.iconst 0) 1 := by unfold dk; decide +kernel
theorem dX6_drawOf_28 : bk cX6_drawOf 28 31 40 (.goto 12) (12) := by unfold bk; decide +kernel
theorem dX6_drawOf_40 : dk cX6_drawOf 40 41 (.ireturn) 1 := by unfold dk; decide +kernel
set_option maxHeartbeats 4000000 in
set_option maxRecDepth 100000 in
theorem kX6_drawOf {l : Launch} {G : Gl} {E : En} {a0 : Nat} {a1 : Int32} {σ σ' : Sg} {r : Int32} : fX6_drawOf E a0 a1 σ = some (r, σ') → CT l yX6_drawOf cX6_drawOf 2 (some .int) ({ frames := 0, cells := 0, slots := 0, locals := 0 } : Room) [.ref (G.1 + a0), .int a1] G E σ (some (.int r)) σ' := by
  intro h
  refine CT_of (lv0 := [(0, .ref (G.1 + a0)), (1, .int a1)]) (by decide) (Nat.le_of_ble_eq_true rfl) rfl (fun κ hl hR hr C => ?_)
  have C : Cx κ G cX6_drawOf RX6 2 := C
  revert h
  unfold fX6_drawOf
  refine R_tk (fun ha0 => ?_)
  refine R_aload_n C 0 rfl dX6_drawOf_0 ?_
  refine R_aload_n C 0 rfl dX6_drawOf_1 ?_
  refine R_geti C fl6_86 rfl ha0 dX6_drawOf_2 ?_
  refine R_i2l C dX6_drawOf_5 ?_
  refine R_ldc2 C cs6_89 dX6_drawOf_6 ?_
  refine R_lmul C dX6_drawOf_9 ?_
  refine R_ldc2 C cs6_91 dX6_drawOf_10 ?_
  refine R_ladd C dX6_drawOf_13 ?_
  refine R_ldc2 C cs6_93 dX6_drawOf_14 ?_
  refine R_land C dX6_drawOf_17 ?_
  refine R_l2i C dX6_drawOf_18 ?_
  refine S_puti C fl6_86 rfl ha0 rfl rfl dX6_drawOf_19 (fun s1 => ?_)
  refine R_iload_n C 1 rfl dX6_drawOf_22 ?_
  refine R_iconst C (1) dX6_drawOf_23 (by decide) ?_
  refine R_bdK (fun (w : Int32) (s : Sg) => V κ G (QQ κ G E (some (.int r)) σ') E s (false, 0, 0) 40 [] [.int w]) (fun w2 s3 => ?_) (fun w2 s3 Kw2 => ?_)
  · exact R_iret C hr dX6_drawOf_40
  · refine B_icmp_ge C dX6_drawOf_24 ?_ ?_
    · refine R_aload_n C 0 rfl dX6_drawOf_31 ?_
      refine R_geti C fl6_86 rfl ha0 dX6_drawOf_32 ?_
      refine R_ldc C cs6_95 dX6_drawOf_35 ?_
      refine R_idiv C dX6_drawOf_37 (by decide) ?_
      refine R_iload_n C 1 rfl dX6_drawOf_38 ?_
      refine R_nz (fun h4 => ?_)
      refine R_irem C dX6_drawOf_39 h4 ?_
      refine R_loc (lv2 := []) [] rfl ?_
      exact R_end (fun (w : Int32) (s : Sg) => V κ G (QQ κ G E (some (.int r)) σ') E s (false, 0, 0) 40 [] [.int w]) Kw2
    · refine R_iconst C (0) dX6_drawOf_27 (by decide) ?_
      refine R_goto C dX6_drawOf_28 ?_
      refine R_loc (lv2 := []) [] rfl ?_
      exact R_end (fun (w : Int32) (s : Sg) => V κ G (QQ κ G E (some (.int r)) σ') E s (false, 0, 0) 40 [] [.int w]) Kw2
theorem dX6_drawn_0 : dk cX6_drawn 0 1 (.iload_n 1) 1 := by unfold dk; decide +kernel
theorem dX6_drawn_1 : dk cX6_drawn 1 2 (.iconst 1) 1 := by unfold dk; decide +kernel
theorem dX6_drawn_41 : dk cX6_drawn 41 42 (.iconst (-1)) 1 := by unfold dk; decide +kernel
theorem dX6_drawn_42 : dk cX6_drawn 42 43 (.ireturn) 1 := by unfold dk; decide +kernel
theorem dX6_drawn_5 : dk cX6_drawn 5 6 (.iload_n 1) 1 := by unfold dk; decide +kernel
theorem dX6_drawn_6 : dk cX6_drawn 6 8 (.bipush 100) 2 := by unfold dk; decide +kernel
theorem dX6_drawn_11 : dk cX6_drawn 11 12 (.iload_n 2) 1 := by unfold dk; decide +kernel
theorem dX6_drawn_12 : dk cX6_drawn 12 13 (.iconst 1) 1 := by unfold dk; decide +kernel
theorem dX6_drawn_16 : dk cX6_drawn 16 17 (.iload_n 2) 1 := by unfold dk; decide +kernel
theorem dX6_drawn_17 : dk cX6_drawn 17 20 (.sipush 256) 3 := by unfold dk; decide +kernel
theorem dX6_drawn_23 : dk cX6_drawn 23 24 (.aload_n 0) 1 := by unfold dk; decide +kernel
theorem dX6_drawn_24 : dk cX6_drawn 24 27 (.getfield 16) 3 := by unfold dk; decide +kernel
theorem dX6_drawn_27 : dk cX6_drawn 27 30 (.getfield 64) 3 := by unfold dk; decide +kernel
theorem dX6_drawn_30 : dk cX6_drawn 30 33 (.getfield 68) 3 := by unfold dk; decide +kernel
theorem dX6_drawn_33 : dk cX6_drawn 33 34 (.iload_n 1) 1 := by unfold dk; decide +kernel
theorem dX6_drawn_34 : dk cX6_drawn 34 35 (.iadd) 1 := by unfold dk; decide +kernel
theorem dX6_drawn_35 : dk cX6_drawn 35 38 (.sipush 300) 3 := by unfold dk; decide +kernel
theorem dX6_drawn_43 : dk cX6_drawn 43 44 (.aload_n 0) 1 := by unfold dk; decide +kernel
theorem dX6_drawn_44 : dk cX6_drawn 44 47 (.invokevirtual 73) 3 := by unfold dk; decide +kernel
theorem dX6_drawn_47 : dk cX6_drawn 47 48 (.iconst 0) 1 := by unfold dk; decide +kernel
theorem dX6_drawn_48 : dk cX6_drawn 48 49 (.istore_n 3) 1 := by unfold dk; decide +kernel
theorem dX6_drawn_49 : dk cX6_drawn 49 50 (.iload_n 3) 1 := by unfold dk; decide +kernel
theorem dX6_drawn_50 : dk cX6_drawn 50 51 (.iload_n 1) 1 := by unfold dk; decide +kernel
theorem dX6_drawn_54 : dk cX6_drawn 54 55 (.aload_n 0) 1 := by unfold dk; decide +kernel
theorem dX6_drawn_55 : dk cX6_drawn 55 58 (.getfield 16) 3 := by unfold dk; decide +kernel
theorem dX6_drawn_58 : dk cX6_drawn 58 61 (.getfield 64) 3 := by unfold dk; decide +kernel
theorem dX6_drawn_61 : dk cX6_drawn 61 62 (.aload_n 0) 1 := by unfold dk; decide +kernel
theorem dX6_drawn_62 : dk cX6_drawn 62 63 (.iload_n 2) 1 := by unfold dk; decide +kernel
theorem dX6_drawn_63 : dk cX6_drawn 63 66 (.invokevirtual 82) 3 := by unfold dk; decide +kernel
theorem dX6_drawn_66 : dk cX6_drawn 66 69 (.invokevirtual 76) 3 := by unfold dk; decide +kernel
theorem dX6_drawn_69 : dk cX6_drawn 69 72 (.iinc 3 1) 3 := by unfold dk; decide +kernel
theorem dX6_drawn_72 : bk cX6_drawn 72 75 49 (.goto (-23)) (-23) := by unfold bk; decide +kernel
theorem dX6_drawn_51 : bk cX6_drawn 51 54 75 (.if_icmp .ge 24) (24) := by unfold bk; decide +kernel
theorem dX6_drawn_75 : dk cX6_drawn 75 76 (.aload_n 0) 1 := by unfold dk; decide +kernel
theorem dX6_drawn_76 : dk cX6_drawn 76 79 (.getfield 16) 3 := by unfold dk; decide +kernel
theorem dX6_drawn_79 : dk cX6_drawn 79 80 (.iconst 0) 1 := by unfold dk; decide +kernel
theorem dX6_drawn_80 : dk cX6_drawn 80 83 (.putfield 79) 3 := by unfold dk; decide +kernel
theorem dX6_drawn_83 : dk cX6_drawn 83 84 (.aload_n 0) 1 := by unfold dk; decide +kernel
theorem dX6_drawn_84 : dk cX6_drawn 84 87 (.getfield 16) 3 := by unfold dk; decide +kernel
theorem dX6_drawn_87 : dk cX6_drawn 87 90 (.getfield 64) 3 := by unfold dk; decide +kernel
theorem dX6_drawn_90 : dk cX6_drawn 90 93 (.getfield 68) 3 := by unfold dk; decide +kernel
theorem dX6_drawn_93 : dk cX6_drawn 93 94 (.ireturn) 1 := by unfold dk; decide +kernel
theorem dX6_drawn_38 : bk cX6_drawn 38 41 43 (.if_icmp .le 5) (5) := by unfold bk; decide +kernel
theorem dX6_drawn_20 : bk cX6_drawn 20 23 41 (.if_icmp .gt 21) (21) := by unfold bk; decide +kernel
theorem dX6_drawn_13 : bk cX6_drawn 13 16 41 (.if_icmp .lt 28) (28) := by unfold bk; decide +kernel
theorem dX6_drawn_8 : bk cX6_drawn 8 11 41 (.if_icmp .gt 33) (33) := by unfold bk; decide +kernel
theorem dX6_drawn_2 : bk cX6_drawn 2 5 41 (.if_icmp .lt 39) (39) := by unfold bk; decide +kernel
set_option maxHeartbeats 4000000 in
set_option maxRecDepth 100000 in
theorem kX6_drawn {l : Launch} {G : Gl} {E : En} {a0 : Nat} {a1 : Int32} {a2 : Int32} {σ σ' : Sg} {r : Int32} : fX6_drawn E a0 a1 a2 σ = some (r, σ') → CT l yX6_drawn cX6_drawn 4 (some .int) ({ frames := 5, cells := 0, slots := 0, locals := 144 } : Room) [.ref (G.1 + a0), .int a1, .int a2] G E σ (some (.int r)) σ' := by
  intro h
  refine CT_of (lv0 := [(0, .ref (G.1 + a0)), (1, .int a1), (2, .int a2)]) (by decide) (Nat.le_of_ble_eq_true rfl) rfl (fun κ hl hR hr C => ?_)
  have C : Cx κ G cX6_drawn RX6 4 := C
  revert h
  unfold fX6_drawn
  refine R_tk (fun ha0 => ?_)
  refine R_iload_n C 1 rfl dX6_drawn_0 ?_
  refine R_iconst C (1) dX6_drawn_1 (by decide) ?_
  refine B_icmp_lt C dX6_drawn_2 ?_ ?_
  · refine R_iconst C (-1) dX6_drawn_41 (by decide) ?_
    exact R_iret C hr dX6_drawn_42
  · refine R_iload_n C 1 rfl dX6_drawn_5 ?_
    refine R_bipush C (100) dX6_drawn_6 (by decide) ?_
    refine B_icmp_gt C dX6_drawn_8 ?_ ?_
    · refine R_iconst C (-1) dX6_drawn_41 (by decide) ?_
      exact R_iret C hr dX6_drawn_42
    · refine R_iload_n C 2 rfl dX6_drawn_11 ?_
      refine R_iconst C (1) dX6_drawn_12 (by decide) ?_
      refine B_icmp_lt C dX6_drawn_13 ?_ ?_
      · refine R_iconst C (-1) dX6_drawn_41 (by decide) ?_
        exact R_iret C hr dX6_drawn_42
      · refine R_iload_n C 2 rfl dX6_drawn_16 ?_
        refine R_sipush C (256) dX6_drawn_17 (by decide) ?_
        refine B_icmp_gt C dX6_drawn_20 ?_ ?_
        · refine R_iconst C (-1) dX6_drawn_41 (by decide) ?_
          exact R_iret C hr dX6_drawn_42
        · refine R_aload_n C 0 rfl dX6_drawn_23 ?_
          refine R_dr (fun x1 rx1 cx1 => ?_)
          refine R_getr C fl6_16 rfl ha0 rx1 dX6_drawn_24 ?_
          refine R_dr (fun x2 rx2 cx2 => ?_)
          refine R_getr C fl6_64 rfl cx1 rx2 dX6_drawn_27 ?_
          refine R_geti C fl6_68 rfl cx2 dX6_drawn_30 ?_
          refine R_iload_n C 1 rfl dX6_drawn_33 ?_
          refine R_iadd C dX6_drawn_34 ?_
          refine R_sipush C (300) dX6_drawn_35 (by decide) ?_
          refine B_icmp_le C dX6_drawn_38 ?_ ?_
          · refine R_aload_n C 0 rfl dX6_drawn_43 ?_
            refine R_bv (fun s3 q4 => ?_)
            refine R_callVv [] [] C ml6_73 (kX6_remember q4) (by rw [hR]; exact ⟨rfl, rfl, Nat.le_of_ble_eq_true rfl, Nat.le_of_ble_eq_true rfl, Nat.zero_le _, Nat.zero_le _⟩) ha0 rfl rfl (Nat.le_of_ble_eq_true rfl) dX6_drawn_44 ?_
            refine R_iconst C (0) dX6_drawn_47 (by decide) ?_
            refine R_istore_n (lv2 := [(3, .int (0 : Int32)), (0, .ref (G.1 + a0)), (1, .int a1), (2, .int a2)]) C dX6_drawn_48 rfl (by decide) rfl ?_
            refine R_loc (lv2 := [(0, .ref (G.1 + a0)), (1, .int a1), (2, .int a2), (3, .int (0 : Int32))]) [1, 2, 3, 0] rfl ?_
            refine R_loop (fun (a : (Int32) × Sg) => V κ G (QQ κ G E (some (.int r)) σ') E a.2 (false, 0, 0) 49 [(0, .ref (G.1 + a0)), (1, .int a1), (2, .int a2), (3, .int a.1)] []) (fun (o : (Int32)) (s : Sg) => V κ G (QQ κ G E (some (.int r)) σ') E s (false, 0, 0) 75 [(0, .ref (G.1 + a0))] []) ((0 : Int32), s3) (fun o17 s18 => ?_) (fun rec I10 a b8 s9 K7 => ?_)
            · refine R_aload_n C 0 rfl dX6_drawn_75 ?_
              refine R_getr C fl6_16 rfl ha0 rx1 dX6_drawn_76 ?_
              refine R_iconst C (0) dX6_drawn_79 (by decide) ?_
              refine S_puti C fl6_79 rfl cx1 rfl rfl dX6_drawn_80 (fun s19 => ?_)
              refine R_aload_n C 0 rfl dX6_drawn_83 ?_
              refine R_getr C fl6_16 rfl ha0 rx1 dX6_drawn_84 ?_
              refine R_getr C fl6_64 rfl cx1 rx2 dX6_drawn_87 ?_
              refine R_geti C fl6_68 rfl cx2 dX6_drawn_90 ?_
              exact R_iret C hr dX6_drawn_93
            · obtain ⟨v5, s6⟩ := a
              show bX6_drawn_49 E a1 a0 a2 x2 (fun u0 t => rec (u0, t)) v5 s6 = some (b8, s9) → V κ G (QQ κ G E (some (.int r)) σ') E s6 (false, 0, 0) 49 [(0, .ref (G.1 + a0)), (1, .int a1), (2, .int a2), (3, .int v5)] []
              unfold bX6_drawn_49
              refine R_iload_n C 3 rfl dX6_drawn_49 ?_
              refine R_iload_n C 1 rfl dX6_drawn_50 ?_
              refine B_icmp_ge C dX6_drawn_51 ?_ ?_
              · refine R_loc (lv2 := [(0, .ref (G.1 + a0))]) [0] rfl ?_
                exact R_end (fun (o : (Int32)) (s : Sg) => V κ G (QQ κ G E (some (.int r)) σ') E s (false, 0, 0) 75 [(0, .ref (G.1 + a0))] []) K7
              · refine R_aload_n C 0 rfl dX6_drawn_54 ?_
                refine R_getr C fl6_16 rfl ha0 rx1 dX6_drawn_55 ?_
                refine R_getr C fl6_64 rfl cx1 rx2 dX6_drawn_58 ?_
                refine R_aload_n C 0 rfl dX6_drawn_61 ?_
                refine R_iload_n C 2 rfl dX6_drawn_62 ?_
                refine R_bd (fun r13 s11 q12 => ?_)
                refine R_callVi [.int a2] [.ref (G.1 + x2)] C ml6_82 (kX6_drawOf q12) (by rw [hR]; exact ⟨rfl, rfl, Nat.le_of_ble_eq_true rfl, Nat.le_of_ble_eq_true rfl, Nat.zero_le _, Nat.zero_le _⟩) ha0 rfl rfl (Nat.le_of_ble_eq_true rfl) dX6_drawn_63 ?_
                refine R_bv (fun s14 q15 => ?_)
                refine R_callVv [.int r13] [] C ml6_76 (kX3_add q15) (by rw [hR]; exact ⟨rfl, rfl, Nat.le_of_ble_eq_true rfl, Nat.le_of_ble_eq_true rfl, Nat.zero_le _, Nat.zero_le _⟩) cx2 rfl rfl (Nat.le_of_ble_eq_true rfl) dX6_drawn_66 ?_
                refine S_iinc (fun v16 => [(3, .int v16), (0, .ref (G.1 + a0)), (1, .int a1), (2, .int a2)]) 3 C dX6_drawn_69 rfl (by decide) (by decide) (fun _ => rfl) (fun v16 => ?_)
                refine R_goto C dX6_drawn_72 ?_
                refine R_loc (lv2 := [(0, .ref (G.1 + a0)), (1, .int a1), (2, .int a2), (3, .int v16)]) [1, 2, 3, 0] rfl ?_
                exact I10 (v16, s14) b8 s9 K7
          · refine R_iconst C (-1) dX6_drawn_41 (by decide) ?_
            exact R_iret C hr dX6_drawn_42
theorem dX6_draws_0 : dk cX6_draws 0 1 (.iload_n 1) 1 := by unfold dk; decide +kernel
theorem dX6_draws_6 : dk cX6_draws 6 7 (.aload_n 0) 1 := by unfold dk; decide +kernel
theorem dX6_draws_7 : dk cX6_draws 7 10 (.getfield 86) 3 := by unfold dk; decide +kernel
theorem dX6_draws_10 : dk cX6_draws 10 11 (.istore_n 2) 1 := by unfold dk; decide +kernel
theorem dX6_draws_11 : dk cX6_draws 11 12 (.aload_n 0) 1 := by unfold dk; decide +kernel
theorem dX6_draws_12 : dk cX6_draws 12 13 (.iload_n 1) 1 := by unfold dk; decide +kernel
theorem dX6_draws_13 : dk cX6_draws 13 16 (.putfield 86) 3 := by unfold dk; decide +kernel
theorem dX6_draws_16 : dk cX6_draws 16 17 (.iload_n 2) 1 := by unfold dk; decide +kernel
theorem dX6_draws_17 : dk cX6_draws 17 18 (.ireturn) 1 := by unfold dk; decide +kernel
theorem dX6_draws_4 : dk cX6_draws 4 5 (.iconst (-1)) 1 := by unfold dk; decide +kernel
theorem dX6_draws_5 : dk cX6_draws 5 6 (.ireturn) 1 := by unfold dk; decide +kernel
theorem dX6_draws_1 : bk cX6_draws 1 4 6 (.ifCond .ge 5) (5) := by unfold bk; decide +kernel
set_option maxHeartbeats 4000000 in
set_option maxRecDepth 100000 in
theorem kX6_draws {l : Launch} {G : Gl} {E : En} {a0 : Nat} {a1 : Int32} {σ σ' : Sg} {r : Int32} : fX6_draws E a0 a1 σ = some (r, σ') → CT l yX6_draws cX6_draws 3 (some .int) ({ frames := 0, cells := 0, slots := 0, locals := 0 } : Room) [.ref (G.1 + a0), .int a1] G E σ (some (.int r)) σ' := by
  intro h
  refine CT_of (lv0 := [(0, .ref (G.1 + a0)), (1, .int a1)]) (by decide) (Nat.le_of_ble_eq_true rfl) rfl (fun κ hl hR hr C => ?_)
  have C : Cx κ G cX6_draws RX6 3 := C
  revert h
  unfold fX6_draws
  refine R_tk (fun ha0 => ?_)
  refine R_iload_n C 1 rfl dX6_draws_0 ?_
  refine B_if_ge C dX6_draws_1 ?_ ?_
  · refine R_aload_n C 0 rfl dX6_draws_6 ?_
    refine R_geti C fl6_86 rfl ha0 dX6_draws_7 ?_
    refine S_istore_n C dX6_draws_10 rfl (fun v1 => [(2, .int v1), (0, .ref (G.1 + a0)), (1, .int a1)]) (by decide) (fun _ => rfl) (fun v1 => ?_)
    refine R_aload_n C 1 rfl dX6_draws_11 ?_
    refine R_iload_n C 2 rfl dX6_draws_12 ?_
    refine S_puti C fl6_86 rfl ha0 rfl rfl dX6_draws_13 (fun s2 => ?_)
    refine R_iload_n C 0 rfl dX6_draws_16 ?_
    exact R_iret C hr dX6_draws_17
  · refine R_iconst C (-1) dX6_draws_4 (by decide) ?_
    exact R_iret C hr dX6_draws_5
theorem dX6_clear_0 : dk cX6_clear 0 1 (.aload_n 0) 1 := by unfold dk; decide +kernel
theorem dX6_clear_1 : dk cX6_clear 1 4 (.invokevirtual 73) 3 := by unfold dk; decide +kernel
theorem dX6_clear_4 : dk cX6_clear 4 5 (.aload_n 0) 1 := by unfold dk; decide +kernel
theorem dX6_clear_5 : dk cX6_clear 5 8 (.getfield 16) 3 := by unfold dk; decide +kernel
theorem dX6_clear_8 : dk cX6_clear 8 11 (.getfield 64) 3 := by unfold dk; decide +kernel
theorem dX6_clear_11 : dk cX6_clear 11 14 (.getfield 68) 3 := by unfold dk; decide +kernel
theorem dX6_clear_14 : dk cX6_clear 14 15 (.istore_n 1) 1 := by unfold dk; decide +kernel
theorem dX6_clear_15 : dk cX6_clear 15 16 (.aload_n 0) 1 := by unfold dk; decide +kernel
theorem dX6_clear_16 : dk cX6_clear 16 19 (.getfield 16) 3 := by unfold dk; decide +kernel
theorem dX6_clear_19 : dk cX6_clear 19 22 (.getfield 64) 3 := by unfold dk; decide +kernel
theorem dX6_clear_22 : dk cX6_clear 22 25 (.invokevirtual 96) 3 := by unfold dk; decide +kernel
theorem dX6_clear_25 : dk cX6_clear 25 26 (.aload_n 0) 1 := by unfold dk; decide +kernel
theorem dX6_clear_26 : dk cX6_clear 26 29 (.getfield 16) 3 := by unfold dk; decide +kernel
theorem dX6_clear_29 : dk cX6_clear 29 30 (.iconst 0) 1 := by unfold dk; decide +kernel
theorem dX6_clear_30 : dk cX6_clear 30 33 (.putfield 79) 3 := by unfold dk; decide +kernel
theorem dX6_clear_33 : dk cX6_clear 33 34 (.iload_n 1) 1 := by unfold dk; decide +kernel
theorem dX6_clear_34 : dk cX6_clear 34 35 (.ireturn) 1 := by unfold dk; decide +kernel
set_option maxHeartbeats 4000000 in
set_option maxRecDepth 100000 in
theorem kX6_clear {l : Launch} {G : Gl} {E : En} {a0 : Nat} {σ σ' : Sg} {r : Int32} : fX6_clear E a0 σ = some (r, σ') → CT l yX6_clear cX6_clear 2 (some .int) ({ frames := 5, cells := 0, slots := 0, locals := 144 } : Room) [.ref (G.1 + a0)] G E σ (some (.int r)) σ' := by
  intro h
  refine CT_of (lv0 := [(0, .ref (G.1 + a0))]) (by decide) (Nat.le_of_ble_eq_true rfl) rfl (fun κ hl hR hr C => ?_)
  have C : Cx κ G cX6_clear RX6 2 := C
  revert h
  unfold fX6_clear
  refine R_tk (fun ha0 => ?_)
  refine R_aload_n C 0 rfl dX6_clear_0 ?_
  refine R_bv (fun s1 q2 => ?_)
  refine R_callVv [] [] C ml6_73 (kX6_remember q2) (by rw [hR]; exact ⟨rfl, rfl, Nat.le_of_ble_eq_true rfl, Nat.le_of_ble_eq_true rfl, Nat.zero_le _, Nat.zero_le _⟩) ha0 rfl rfl (Nat.le_of_ble_eq_true rfl) dX6_clear_1 ?_
  refine R_aload_n C 0 rfl dX6_clear_4 ?_
  refine R_dr (fun x3 rx3 cx3 => ?_)
  refine R_getr C fl6_16 rfl ha0 rx3 dX6_clear_5 ?_
  refine R_dr (fun x4 rx4 cx4 => ?_)
  refine R_getr C fl6_64 rfl cx3 rx4 dX6_clear_8 ?_
  refine R_geti C fl6_68 rfl cx4 dX6_clear_11 ?_
  refine S_istore_n C dX6_clear_14 rfl (fun v5 => [(1, .int v5), (0, .ref (G.1 + a0))]) (by decide) (fun _ => rfl) (fun v5 => ?_)
  refine R_aload_n C 1 rfl dX6_clear_15 ?_
  refine R_getr C fl6_16 rfl ha0 rx3 dX6_clear_16 ?_
  refine R_getr C fl6_64 rfl cx3 rx4 dX6_clear_19 ?_
  refine R_bv (fun s6 q7 => ?_)
  refine R_callVv [] [] C ml6_96 (kX3_wipe q7) (by rw [hR]; exact ⟨rfl, rfl, Nat.le_of_ble_eq_true rfl, Nat.le_of_ble_eq_true rfl, Nat.zero_le _, Nat.zero_le _⟩) cx4 rfl rfl (Nat.le_of_ble_eq_true rfl) dX6_clear_22 ?_
  refine R_aload_n C 1 rfl dX6_clear_25 ?_
  refine R_getr C fl6_16 rfl ha0 rx3 dX6_clear_26 ?_
  refine R_iconst C (0) dX6_clear_29 (by decide) ?_
  refine S_puti C fl6_79 rfl cx3 rfl rfl dX6_clear_30 (fun s8 => ?_)
  refine R_iload_n C 0 rfl dX6_clear_33 ?_
  exact R_iret C hr dX6_clear_34
theorem dX6_fits_0 : dk cX6_fits 0 1 (.iload_n 0) 1 := by unfold dk; decide +kernel
theorem dX6_fits_1 : bk cX6_fits 1 4 32 (.ifCond .lt 31) (31) := by unfold bk; decide +kernel
theorem dX6_fits_32 : dk cX6_fits 32 33 (.iconst 0) 1 := by unfold dk; decide +kernel
theorem dX6_fits_4 : dk cX6_fits 4 5 (.iload_n 0) 1 := by unfold dk; decide +kernel
theorem dX6_fits_5 : dk cX6_fits 5 7 (.bipush 6) 2 := by unfold dk; decide +kernel
theorem dX6_fits_10 : dk cX6_fits 10 11 (.iload_n 1) 1 := by unfold dk; decide +kernel
theorem dX6_fits_11 : dk cX6_fits 11 14 (.getstatic 106) 3 := by unfold dk; decide +kernel
theorem dX6_fits_14 : dk cX6_fits 14 15 (.iload_n 0) 1 := by unfold dk; decide +kernel
theorem dX6_fits_15 : dk cX6_fits 15 16 (.iaload) 1 := by unfold dk; decide +kernel
theorem dX6_fits_19 : dk cX6_fits 19 20 (.iload_n 1) 1 := by unfold dk; decide +kernel
theorem dX6_fits_20 : dk cX6_fits 20 23 (.getstatic 109) 3 := by unfold dk; decide +kernel
theorem dX6_fits_23 : dk cX6_fits 23 24 (.iload_n 0) 1 := by unfold dk; decide +kernel
theorem dX6_fits_24 : dk cX6_fits 24 25 (.iaload) 1 := by unfold dk; decide +kernel
theorem dX6_fits_28 : dk cX6_fits 28 29 (.iconst 1) 1 := by unfold dk; decide +kernel
theorem dX6_fits_29 : bk cX6_fits 29 32 33 (.goto 4) (4) := by unfold bk; decide +kernel
theorem dX6_fits_25 : bk cX6_fits 25 28 32 (.if_icmp .gt 7) (7) := by unfold bk; decide +kernel
theorem dX6_fits_16 : bk cX6_fits 16 19 32 (.if_icmp .lt 16) (16) := by unfold bk; decide +kernel
theorem dX6_fits_7 : bk cX6_fits 7 10 32 (.if_icmp .ge 25) (25) := by unfold bk; decide +kernel
theorem dX6_fits_33 : dk cX6_fits 33 34 (.ireturn) 1 := by unfold dk; decide +kernel
set_option maxHeartbeats 4000000 in
set_option maxRecDepth 100000 in
theorem kX6_fits {l : Launch} {G : Gl} {E : En} {a0 : Int32} {a1 : Int32} {σ σ' : Sg} {r : Int32} : fX6_fits E a0 a1 σ = some (r, σ') → CT l yX6_fits cX6_fits 2 (some .boolean) ({ frames := 0, cells := 0, slots := 0, locals := 0 } : Room) [.int a0, .int a1] G E σ (some (.int r)) σ' := by
  intro h
  refine CT_of (lv0 := [(0, .int a0), (1, .int a1)]) (by decide) (Nat.le_of_ble_eq_true rfl) rfl (fun κ hl hR hr C => ?_)
  have C : Cx κ G cX6_fits RX6 2 := C
  revert h
  unfold fX6_fits
  refine R_iload_n C 0 rfl dX6_fits_0 ?_
  refine R_bdK (fun (w : Int32) (s : Sg) => V κ G (QQ κ G E (some (.int r)) σ') E s (false, 0, 0) 33 [] [.int w]) (fun w1 s2 => ?_) (fun w1 s2 Kw1 => ?_)
  · refine R_kb (fun h5 => ?_)
    exact R_zret C hr h5 dX6_fits_33
  · refine B_if_lt C dX6_fits_1 ?_ ?_
    · refine R_iconst C (0) dX6_fits_32 (by decide) ?_
      refine R_loc (lv2 := []) [] rfl ?_
      exact R_end (fun (w : Int32) (s : Sg) => V κ G (QQ κ G E (some (.int r)) σ') E s (false, 0, 0) 33 [] [.int w]) Kw1
    · refine R_iload_n C 0 rfl dX6_fits_4 ?_
      refine R_bipush C (6) dX6_fits_5 (by decide) ?_
      refine B_icmp_ge C dX6_fits_7 ?_ ?_
      · refine R_iconst C (0) dX6_fits_32 (by decide) ?_
        refine R_loc (lv2 := []) [] rfl ?_
        exact R_end (fun (w : Int32) (s : Sg) => V κ G (QQ κ G E (some (.int r)) σ') E s (false, 0, 0) 33 [] [.int w]) Kw1
      · refine R_iload_n C 1 rfl dX6_fits_10 ?_
        refine R_gets 1 (by omega) C gs6_106 dX6_fits_11 ?_
        refine R_iload_n C 0 rfl dX6_fits_14 ?_
        refine R_ck (fun h3 => ?_)
        refine R_tld 1 (by omega) C h3 dX6_fits_15 ?_
        refine B_icmp_lt C dX6_fits_16 ?_ ?_
        · refine R_iconst C (0) dX6_fits_32 (by decide) ?_
          refine R_loc (lv2 := []) [] rfl ?_
          exact R_end (fun (w : Int32) (s : Sg) => V κ G (QQ κ G E (some (.int r)) σ') E s (false, 0, 0) 33 [] [.int w]) Kw1
        · refine R_iload_n C 1 rfl dX6_fits_19 ?_
          refine R_gets 2 (by omega) C gs6_109 dX6_fits_20 ?_
          refine R_iload_n C 0 rfl dX6_fits_23 ?_
          refine R_ck (fun h4 => ?_)
          refine R_tld 2 (by omega) C h4 dX6_fits_24 ?_
          refine B_icmp_gt C dX6_fits_25 ?_ ?_
          · refine R_iconst C (0) dX6_fits_32 (by decide) ?_
            refine R_loc (lv2 := []) [] rfl ?_
            exact R_end (fun (w : Int32) (s : Sg) => V κ G (QQ κ G E (some (.int r)) σ') E s (false, 0, 0) 33 [] [.int w]) Kw1
          · refine R_iconst C (1) dX6_fits_28 (by decide) ?_
            refine R_goto C dX6_fits_29 ?_
            refine R_loc (lv2 := []) [] rfl ?_
            exact R_end (fun (w : Int32) (s : Sg) => V κ G (QQ κ G E (some (.int r)) σ') E s (false, 0, 0) 33 [] [.int w]) Kw1
theorem dX6_settle_0 : dk cX6_settle 0 1 (.iload_n 1) 1 := by unfold dk; decide +kernel
theorem dX6_settle_1 : dk cX6_settle 1 2 (.iload_n 2) 1 := by unfold dk; decide +kernel
theorem dX6_settle_2 : dk cX6_settle 2 5 (.invokestatic 99) 3 := by unfold dk; decide +kernel
theorem dX6_settle_10 : dk cX6_settle 10 11 (.aload_n 0) 1 := by unfold dk; decide +kernel
theorem dX6_settle_11 : dk cX6_settle 11 14 (.getfield 16) 3 := by unfold dk; decide +kernel
theorem dX6_settle_14 : dk cX6_settle 14 17 (.getfield 103) 3 := by unfold dk; decide +kernel
theorem dX6_settle_17 : dk cX6_settle 17 18 (.iload_n 1) 1 := by unfold dk; decide +kernel
theorem dX6_settle_18 : dk cX6_settle 18 19 (.iaload) 1 := by unfold dk; decide +kernel
theorem dX6_settle_19 : dk cX6_settle 19 20 (.istore_n 3) 1 := by unfold dk; decide +kernel
theorem dX6_settle_20 : dk cX6_settle 20 21 (.iload_n 3) 1 := by unfold dk; decide +kernel
theorem dX6_settle_21 : dk cX6_settle 21 22 (.iload_n 2) 1 := by unfold dk; decide +kernel
theorem dX6_settle_28 : dk cX6_settle 28 29 (.aload_n 0) 1 := by unfold dk; decide +kernel
theorem dX6_settle_29 : dk cX6_settle 29 32 (.invokevirtual 73) 3 := by unfold dk; decide +kernel
theorem dX6_settle_32 : dk cX6_settle 32 33 (.aload_n 0) 1 := by unfold dk; decide +kernel
theorem dX6_settle_33 : dk cX6_settle 33 36 (.getfield 16) 3 := by unfold dk; decide +kernel
theorem dX6_settle_36 : dk cX6_settle 36 39 (.getfield 103) 3 := by unfold dk; decide +kernel
theorem dX6_settle_39 : dk cX6_settle 39 40 (.iload_n 1) 1 := by unfold dk; decide +kernel
theorem dX6_settle_40 : dk cX6_settle 40 41 (.iload_n 2) 1 := by unfold dk; decide +kernel
theorem dX6_settle_41 : dk cX6_settle 41 42 (.iastore) 1 := by unfold dk; decide +kernel
theorem dX6_settle_42 : dk cX6_settle 42 43 (.aload_n 0) 1 := by unfold dk; decide +kernel
theorem dX6_settle_43 : dk cX6_settle 43 46 (.getfield 16) 3 := by unfold dk; decide +kernel
theorem dX6_settle_46 : dk cX6_settle 46 47 (.iconst 0) 1 := by unfold dk; decide +kernel
theorem dX6_settle_47 : dk cX6_settle 47 50 (.putfield 79) 3 := by unfold dk; decide +kernel
theorem dX6_settle_50 : dk cX6_settle 50 51 (.iload_n 3) 1 := by unfold dk; decide +kernel
theorem dX6_settle_51 : dk cX6_settle 51 52 (.ireturn) 1 := by unfold dk; decide +kernel
theorem dX6_settle_25 : dk cX6_settle 25 27 (.bipush (-2)) 2 := by unfold dk; decide +kernel
theorem dX6_settle_27 : dk cX6_settle 27 28 (.ireturn) 1 := by unfold dk; decide +kernel
theorem dX6_settle_22 : bk cX6_settle 22 25 28 (.if_icmp .ne 6) (6) := by unfold bk; decide +kernel
theorem dX6_settle_8 : dk cX6_settle 8 9 (.iconst (-1)) 1 := by unfold dk; decide +kernel
theorem dX6_settle_9 : dk cX6_settle 9 10 (.ireturn) 1 := by unfold dk; decide +kernel
theorem dX6_settle_5 : bk cX6_settle 5 8 10 (.ifCond .ne 5) (5) := by unfold bk; decide +kernel
set_option maxHeartbeats 4000000 in
set_option maxRecDepth 100000 in
theorem kX6_settle {l : Launch} {G : Gl} {E : En} {a0 : Nat} {a1 : Int32} {a2 : Int32} {σ σ' : Sg} {r : Int32} : fX6_settle E a0 a1 a2 σ = some (r, σ') → CT l yX6_settle cX6_settle 4 (some .int) ({ frames := 5, cells := 0, slots := 0, locals := 144 } : Room) [.ref (G.1 + a0), .int a1, .int a2] G E σ (some (.int r)) σ' := by
  intro h
  refine CT_of (lv0 := [(0, .ref (G.1 + a0)), (1, .int a1), (2, .int a2)]) (by decide) (Nat.le_of_ble_eq_true rfl) rfl (fun κ hl hR hr C => ?_)
  have C : Cx κ G cX6_settle RX6 4 := C
  revert h
  unfold fX6_settle
  refine R_tk (fun ha0 => ?_)
  refine R_iload_n C 1 rfl dX6_settle_0 ?_
  refine R_iload_n C 2 rfl dX6_settle_1 ?_
  refine R_bd (fun r3 s1 q2 => ?_)
  refine R_callSi [.int a1, .int a2] [] C ml6_99 (kX6_fits q2) (by rw [hR]; exact ⟨rfl, rfl, Nat.le_of_ble_eq_true rfl, Nat.le_of_ble_eq_true rfl, Nat.zero_le _, Nat.zero_le _⟩) rfl rfl (Nat.le_of_ble_eq_true rfl) dX6_settle_2 ?_
  refine B_if_ne C dX6_settle_5 ?_ ?_
  · refine R_aload_n C 0 rfl dX6_settle_10 ?_
    refine R_dr (fun x4 rx4 cx4 => ?_)
    refine R_getr C fl6_16 rfl ha0 rx4 dX6_settle_11 ?_
    refine R_dr (fun x5 rx5 cx5 => ?_)
    refine R_getr C fl6_103 rfl cx4 rx5 dX6_settle_14 ?_
    refine R_iload_n C 1 rfl dX6_settle_17 ?_
    refine R_ck (fun h6 => ?_)
    refine R_iald C cx5 h6 dX6_settle_18 ?_
    refine S_istore_n C dX6_settle_19 rfl (fun v7 => [(3, .int v7), (0, .ref (G.1 + a0)), (1, .int a1), (2, .int a2)]) (by decide) (fun _ => rfl) (fun v7 => ?_)
    refine R_iload_n C 0 rfl dX6_settle_20 ?_
    refine R_iload_n C 3 rfl dX6_settle_21 ?_
    refine B_icmp_ne C dX6_settle_22 ?_ ?_
    · refine R_aload_n C 1 rfl dX6_settle_28 ?_
      refine R_bv (fun s8 q9 => ?_)
      refine R_callVv [] [] C ml6_73 (kX6_remember q9) (by rw [hR]; exact ⟨rfl, rfl, Nat.le_of_ble_eq_true rfl, Nat.le_of_ble_eq_true rfl, Nat.zero_le _, Nat.zero_le _⟩) ha0 rfl rfl (Nat.le_of_ble_eq_true rfl) dX6_settle_29 ?_
      refine R_aload_n C 1 rfl dX6_settle_32 ?_
      refine R_getr C fl6_16 rfl ha0 rx4 dX6_settle_33 ?_
      refine R_getr C fl6_103 rfl cx4 rx5 dX6_settle_36 ?_
      refine R_iload_n C 2 rfl dX6_settle_39 ?_
      refine R_iload_n C 3 rfl dX6_settle_40 ?_
      refine R_ck (fun h10 => ?_)
      refine S_iast C cx5 h10 dX6_settle_41 (fun s11 => ?_)
      refine R_aload_n C 1 rfl dX6_settle_42 ?_
      refine R_getr C fl6_16 rfl ha0 rx4 dX6_settle_43 ?_
      refine R_iconst C (0) dX6_settle_46 (by decide) ?_
      refine S_puti C fl6_79 rfl cx4 rfl rfl dX6_settle_47 (fun s12 => ?_)
      refine R_iload_n C 0 rfl dX6_settle_50 ?_
      exact R_iret C hr dX6_settle_51
    · refine R_bipush C (-2) dX6_settle_25 (by decide) ?_
      exact R_iret C hr dX6_settle_27
  · refine R_iconst C (-1) dX6_settle_8 (by decide) ?_
    exact R_iret C hr dX6_settle_9
theorem dX6_grow_0 : dk cX6_grow 0 1 (.aload_n 0) 1 := by unfold dk; decide +kernel
theorem dX6_grow_1 : dk cX6_grow 1 4 (.getfield 16) 3 := by unfold dk; decide +kernel
theorem dX6_grow_4 : dk cX6_grow 4 7 (.getfield 79) 3 := by unfold dk; decide +kernel
theorem dX6_grow_7 : dk cX6_grow 7 8 (.iconst 1) 1 := by unfold dk; decide +kernel
theorem dX6_grow_14 : dk cX6_grow 14 15 (.aload_n 0) 1 := by unfold dk; decide +kernel
theorem dX6_grow_15 : dk cX6_grow 15 18 (.getfield 16) 3 := by unfold dk; decide +kernel
theorem dX6_grow_18 : dk cX6_grow 18 21 (.getfield 64) 3 := by unfold dk; decide +kernel
theorem dX6_grow_21 : dk cX6_grow 21 24 (.getfield 68) 3 := by unfold dk; decide +kernel
theorem dX6_grow_29 : dk cX6_grow 29 30 (.aload_n 0) 1 := by unfold dk; decide +kernel
theorem dX6_grow_30 : dk cX6_grow 30 33 (.invokevirtual 73) 3 := by unfold dk; decide +kernel
theorem dX6_grow_33 : dk cX6_grow 33 34 (.aload_n 0) 1 := by unfold dk; decide +kernel
theorem dX6_grow_34 : dk cX6_grow 34 37 (.getfield 16) 3 := by unfold dk; decide +kernel
theorem dX6_grow_37 : dk cX6_grow 37 40 (.invokevirtual 112) 3 := by unfold dk; decide +kernel
theorem dX6_grow_40 : dk cX6_grow 40 41 (.aload_n 0) 1 := by unfold dk; decide +kernel
theorem dX6_grow_41 : dk cX6_grow 41 44 (.getfield 16) 3 := by unfold dk; decide +kernel
theorem dX6_grow_44 : dk cX6_grow 44 47 (.getfield 115) 3 := by unfold dk; decide +kernel
theorem dX6_grow_47 : dk cX6_grow 47 50 (.getfield 119) 3 := by unfold dk; decide +kernel
theorem dX6_grow_50 : dk cX6_grow 50 51 (.ireturn) 1 := by unfold dk; decide +kernel
theorem dX6_grow_27 : dk cX6_grow 27 28 (.iconst (-1)) 1 := by unfold dk; decide +kernel
theorem dX6_grow_28 : dk cX6_grow 28 29 (.ireturn) 1 := by unfold dk; decide +kernel
theorem dX6_grow_24 : bk cX6_grow 24 27 29 (.ifCond .ne 5) (5) := by unfold bk; decide +kernel
theorem dX6_grow_11 : dk cX6_grow 11 13 (.bipush (-2)) 2 := by unfold dk; decide +kernel
theorem dX6_grow_13 : dk cX6_grow 13 14 (.ireturn) 1 := by unfold dk; decide +kernel
theorem dX6_grow_8 : bk cX6_grow 8 11 14 (.if_icmp .lt 6) (6) := by unfold bk; decide +kernel
set_option maxHeartbeats 4000000 in
set_option maxRecDepth 100000 in
theorem kX6_grow {l : Launch} {G : Gl} {E : En} {a0 : Nat} {σ σ' : Sg} {r : Int32} : fX6_grow E a0 σ = some (r, σ') → CT l yX6_grow cX6_grow 1 (some .int) ({ frames := 5, cells := 0, slots := 0, locals := 144 } : Room) [.ref (G.1 + a0)] G E σ (some (.int r)) σ' := by
  intro h
  refine CT_of (lv0 := [(0, .ref (G.1 + a0))]) (by decide) (Nat.le_of_ble_eq_true rfl) rfl (fun κ hl hR hr C => ?_)
  have C : Cx κ G cX6_grow RX6 1 := C
  revert h
  unfold fX6_grow
  refine R_tk (fun ha0 => ?_)
  refine R_aload_n C 0 rfl dX6_grow_0 ?_
  refine R_dr (fun x1 rx1 cx1 => ?_)
  refine R_getr C fl6_16 rfl ha0 rx1 dX6_grow_1 ?_
  refine R_geti C fl6_79 rfl cx1 dX6_grow_4 ?_
  refine R_iconst C (1) dX6_grow_7 (by decide) ?_
  refine B_icmp_lt C dX6_grow_8 ?_ ?_
  · refine R_aload_n C 0 rfl dX6_grow_14 ?_
    refine R_getr C fl6_16 rfl ha0 rx1 dX6_grow_15 ?_
    refine R_dr (fun x2 rx2 cx2 => ?_)
    refine R_getr C fl6_64 rfl cx1 rx2 dX6_grow_18 ?_
    refine R_geti C fl6_68 rfl cx2 dX6_grow_21 ?_
    refine B_if_ne C dX6_grow_24 ?_ ?_
    · refine R_aload_n C 0 rfl dX6_grow_29 ?_
      refine R_bv (fun s3 q4 => ?_)
      refine R_callVv [] [] C ml6_73 (kX6_remember q4) (by rw [hR]; exact ⟨rfl, rfl, Nat.le_of_ble_eq_true rfl, Nat.le_of_ble_eq_true rfl, Nat.zero_le _, Nat.zero_le _⟩) ha0 rfl rfl (Nat.le_of_ble_eq_true rfl) dX6_grow_30 ?_
      refine R_aload_n C 0 rfl dX6_grow_33 ?_
      refine R_getr C fl6_16 rfl ha0 rx1 dX6_grow_34 ?_
      refine R_bv (fun s5 q6 => ?_)
      refine R_callVv [] [] C ml6_112 (kX4_growRuns q6) (by rw [hR]; exact ⟨rfl, rfl, Nat.le_of_ble_eq_true rfl, Nat.le_of_ble_eq_true rfl, Nat.zero_le _, Nat.zero_le _⟩) cx1 rfl rfl (Nat.le_of_ble_eq_true rfl) dX6_grow_37 ?_
      refine R_aload_n C 0 rfl dX6_grow_40 ?_
      refine R_getr C fl6_16 rfl ha0 rx1 dX6_grow_41 ?_
      refine R_dr (fun x7 rx7 cx7 => ?_)
      refine R_getr C fl6_115 rfl cx1 rx7 dX6_grow_44 ?_
      refine R_geti C fl6_119 rfl cx7 dX6_grow_47 ?_
      exact R_iret C hr dX6_grow_50
    · refine R_iconst C (-1) dX6_grow_27 (by decide) ?_
      exact R_iret C hr dX6_grow_28
  · refine R_bipush C (-2) dX6_grow_11 (by decide) ?_
    exact R_iret C hr dX6_grow_13
theorem dX6_canSpread_0 : dk cX6_canSpread 0 1 (.iload_n 0) 1 := by unfold dk; decide +kernel
theorem dX6_canSpread_1 : dk cX6_canSpread 1 2 (.iconst 1) 1 := by unfold dk; decide +kernel
theorem dX6_canSpread_2 : bk cX6_canSpread 2 5 10 (.if_icmp .ne 8) (8) := by unfold bk; decide +kernel
theorem dX6_canSpread_10 : dk cX6_canSpread 10 11 (.iconst 1) 1 := by unfold dk; decide +kernel
theorem dX6_canSpread_11 : bk cX6_canSpread 11 14 15 (.goto 4) (4) := by unfold bk; decide +kernel
theorem dX6_canSpread_5 : dk cX6_canSpread 5 6 (.iload_n 1) 1 := by unfold dk; decide +kernel
theorem dX6_canSpread_6 : dk cX6_canSpread 6 7 (.iconst 3) 1 := by unfold dk; decide +kernel
theorem dX6_canSpread_14 : dk cX6_canSpread 14 15 (.iconst 0) 1 := by unfold dk; decide +kernel
theorem dX6_canSpread_7 : bk cX6_canSpread 7 10 14 (.if_icmp .le 7) (7) := by unfold bk; decide +kernel
theorem dX6_canSpread_15 : dk cX6_canSpread 15 16 (.ireturn) 1 := by unfold dk; decide +kernel
set_option maxHeartbeats 4000000 in
set_option maxRecDepth 100000 in
theorem kX6_canSpread {l : Launch} {G : Gl} {E : En} {a0 : Int32} {a1 : Int32} {σ σ' : Sg} {r : Int32} : fX6_canSpread E a0 a1 σ = some (r, σ') → CT l yX6_canSpread cX6_canSpread 2 (some .boolean) ({ frames := 0, cells := 0, slots := 0, locals := 0 } : Room) [.int a0, .int a1] G E σ (some (.int r)) σ' := by
  intro h
  refine CT_of (lv0 := [(0, .int a0), (1, .int a1)]) (by decide) (Nat.le_of_ble_eq_true rfl) rfl (fun κ hl hR hr C => ?_)
  have C : Cx κ G cX6_canSpread RX6 2 := C
  revert h
  unfold fX6_canSpread
  refine R_iload_n C 0 rfl dX6_canSpread_0 ?_
  refine R_iconst C (1) dX6_canSpread_1 (by decide) ?_
  refine R_bdK (fun (w : Int32) (s : Sg) => V κ G (QQ κ G E (some (.int r)) σ') E s (false, 0, 0) 15 [] [.int w]) (fun w1 s2 => ?_) (fun w1 s2 Kw1 => ?_)
  · refine R_kb (fun h3 => ?_)
    exact R_zret C hr h3 dX6_canSpread_15
  · refine B_icmp_ne C dX6_canSpread_2 ?_ ?_
    · refine R_iconst C (1) dX6_canSpread_10 (by decide) ?_
      refine R_goto C dX6_canSpread_11 ?_
      refine R_loc (lv2 := []) [] rfl ?_
      exact R_end (fun (w : Int32) (s : Sg) => V κ G (QQ κ G E (some (.int r)) σ') E s (false, 0, 0) 15 [] [.int w]) Kw1
    · refine R_iload_n C 1 rfl dX6_canSpread_5 ?_
      refine R_iconst C (3) dX6_canSpread_6 (by decide) ?_
      refine B_icmp_le C dX6_canSpread_7 ?_ ?_
      · refine R_iconst C (0) dX6_canSpread_14 (by decide) ?_
        refine R_loc (lv2 := []) [] rfl ?_
        exact R_end (fun (w : Int32) (s : Sg) => V κ G (QQ κ G E (some (.int r)) σ') E s (false, 0, 0) 15 [] [.int w]) Kw1
      · refine R_iconst C (1) dX6_canSpread_10 (by decide) ?_
        refine R_goto C dX6_canSpread_11 ?_
        refine R_loc (lv2 := []) [] rfl ?_
        exact R_end (fun (w : Int32) (s : Sg) => V κ G (QQ κ G E (some (.int r)) σ') E s (false, 0, 0) 15 [] [.int w]) Kw1
theorem dX6_canPlan_0 : dk cX6_canPlan 0 1 (.aload_n 0) 1 := by unfold dk; decide +kernel
theorem dX6_canPlan_1 : dk cX6_canPlan 1 4 (.getfield 16) 3 := by unfold dk; decide +kernel
theorem dX6_canPlan_4 : dk cX6_canPlan 4 7 (.getfield 79) 3 := by unfold dk; decide +kernel
theorem dX6_canPlan_7 : dk cX6_canPlan 7 8 (.iconst 1) 1 := by unfold dk; decide +kernel
theorem dX6_canPlan_8 : bk cX6_canPlan 8 11 39 (.if_icmp .lt 31) (31) := by unfold bk; decide +kernel
theorem dX6_canPlan_39 : dk cX6_canPlan 39 40 (.iconst 0) 1 := by unfold dk; decide +kernel
theorem dX6_canPlan_11 : dk cX6_canPlan 11 12 (.aload_n 0) 1 := by unfold dk; decide +kernel
theorem dX6_canPlan_12 : dk cX6_canPlan 12 15 (.getfield 16) 3 := by unfold dk; decide +kernel
theorem dX6_canPlan_15 : dk cX6_canPlan 15 18 (.getfield 103) 3 := by unfold dk; decide +kernel
theorem dX6_canPlan_18 : dk cX6_canPlan 18 19 (.iconst 2) 1 := by unfold dk; decide +kernel
theorem dX6_canPlan_19 : dk cX6_canPlan 19 20 (.iaload) 1 := by unfold dk; decide +kernel
theorem dX6_canPlan_20 : dk cX6_canPlan 20 21 (.aload_n 0) 1 := by unfold dk; decide +kernel
theorem dX6_canPlan_21 : dk cX6_canPlan 21 24 (.getfield 16) 3 := by unfold dk; decide +kernel
theorem dX6_canPlan_24 : dk cX6_canPlan 24 27 (.getfield 103) 3 := by unfold dk; decide +kernel
theorem dX6_canPlan_27 : dk cX6_canPlan 27 28 (.iconst 1) 1 := by unfold dk; decide +kernel
theorem dX6_canPlan_28 : dk cX6_canPlan 28 29 (.iaload) 1 := by unfold dk; decide +kernel
theorem dX6_canPlan_29 : dk cX6_canPlan 29 32 (.invokestatic 221) 3 := by unfold dk; decide +kernel
theorem dX6_canPlan_35 : dk cX6_canPlan 35 36 (.iconst 1) 1 := by unfold dk; decide +kernel
theorem dX6_canPlan_36 : bk cX6_canPlan 36 39 40 (.goto 4) (4) := by unfold bk; decide +kernel
theorem dX6_canPlan_32 : bk cX6_canPlan 32 35 39 (.ifCond .eq 7) (7) := by unfold bk; decide +kernel
theorem dX6_canPlan_40 : dk cX6_canPlan 40 41 (.ireturn) 1 := by unfold dk; decide +kernel
set_option maxHeartbeats 4000000 in
set_option maxRecDepth 100000 in
theorem kX6_canPlan {l : Launch} {G : Gl} {E : En} {a0 : Nat} {σ σ' : Sg} {r : Int32} : fX6_canPlan E a0 σ = some (r, σ') → CT l yX6_canPlan cX6_canPlan 1 (some .boolean) ({ frames := 1, cells := 0, slots := 0, locals := 21 } : Room) [.ref (G.1 + a0)] G E σ (some (.int r)) σ' := by
  intro h
  refine CT_of (lv0 := [(0, .ref (G.1 + a0))]) (by decide) (Nat.le_of_ble_eq_true rfl) rfl (fun κ hl hR hr C => ?_)
  have C : Cx κ G cX6_canPlan RX6 1 := C
  revert h
  unfold fX6_canPlan
  refine R_tk (fun ha0 => ?_)
  refine R_aload_n C 0 rfl dX6_canPlan_0 ?_
  refine R_dr (fun x1 rx1 cx1 => ?_)
  refine R_getr C fl6_16 rfl ha0 rx1 dX6_canPlan_1 ?_
  refine R_geti C fl6_79 rfl cx1 dX6_canPlan_4 ?_
  refine R_iconst C (1) dX6_canPlan_7 (by decide) ?_
  refine R_bdK (fun (w : Int32) (s : Sg) => V κ G (QQ κ G E (some (.int r)) σ') E s (false, 0, 0) 40 [] [.int w]) (fun w2 s3 => ?_) (fun w2 s3 Kw2 => ?_)
  · refine R_kb (fun h10 => ?_)
    exact R_zret C hr h10 dX6_canPlan_40
  · refine B_icmp_lt C dX6_canPlan_8 ?_ ?_
    · refine R_iconst C (0) dX6_canPlan_39 (by decide) ?_
      refine R_loc (lv2 := []) [] rfl ?_
      exact R_end (fun (w : Int32) (s : Sg) => V κ G (QQ κ G E (some (.int r)) σ') E s (false, 0, 0) 40 [] [.int w]) Kw2
    · refine R_aload_n C 0 rfl dX6_canPlan_11 ?_
      refine R_getr C fl6_16 rfl ha0 rx1 dX6_canPlan_12 ?_
      refine R_dr (fun x4 rx4 cx4 => ?_)
      refine R_getr C fl6_103 rfl cx1 rx4 dX6_canPlan_15 ?_
      refine R_iconst C (2) dX6_canPlan_18 (by decide) ?_
      refine R_ck (fun h5 => ?_)
      refine R_iald C cx4 h5 dX6_canPlan_19 ?_
      refine R_aload_n C 0 rfl dX6_canPlan_20 ?_
      refine R_getr C fl6_16 rfl ha0 rx1 dX6_canPlan_21 ?_
      refine R_getr C fl6_103 rfl cx1 rx4 dX6_canPlan_24 ?_
      refine R_iconst C (1) dX6_canPlan_27 (by decide) ?_
      refine R_ck (fun h6 => ?_)
      refine R_iald C cx4 h6 dX6_canPlan_28 ?_
      refine R_bd (fun r9 s7 q8 => ?_)
      refine R_callSi [.int (gi σ x4 (2 : Int32).toNatClampNeg), .int (gi σ x4 (1 : Int32).toNatClampNeg)] [] C ml6_221 (kX6_canSpread q8) (by rw [hR]; exact ⟨rfl, rfl, Nat.le_of_ble_eq_true rfl, Nat.le_of_ble_eq_true rfl, Nat.zero_le _, Nat.zero_le _⟩) rfl rfl (Nat.le_of_ble_eq_true rfl) dX6_canPlan_29 ?_
      refine B_if_eq C dX6_canPlan_32 ?_ ?_
      · refine R_iconst C (0) dX6_canPlan_39 (by decide) ?_
        refine R_loc (lv2 := []) [] rfl ?_
        exact R_end (fun (w : Int32) (s : Sg) => V κ G (QQ κ G E (some (.int r)) σ') E s (false, 0, 0) 40 [] [.int w]) Kw2
      · refine R_iconst C (1) dX6_canPlan_35 (by decide) ?_
        refine R_goto C dX6_canPlan_36 ?_
        refine R_loc (lv2 := []) [] rfl ?_
        exact R_end (fun (w : Int32) (s : Sg) => V κ G (QQ κ G E (some (.int r)) σ') E s (false, 0, 0) 40 [] [.int w]) Kw2
theorem dX6_spread_0 : dk cX6_spread 0 1 (.aload_n 0) 1 := by unfold dk; decide +kernel
theorem dX6_spread_1 : dk cX6_spread 1 4 (.getfield 16) 3 := by unfold dk; decide +kernel
theorem dX6_spread_4 : dk cX6_spread 4 7 (.getfield 79) 3 := by unfold dk; decide +kernel
theorem dX6_spread_7 : dk cX6_spread 7 8 (.iconst 2) 1 := by unfold dk; decide +kernel
theorem dX6_spread_14 : dk cX6_spread 14 15 (.aload_n 0) 1 := by unfold dk; decide +kernel
theorem dX6_spread_15 : dk cX6_spread 15 18 (.invokevirtual 122) 3 := by unfold dk; decide +kernel
theorem dX6_spread_23 : dk cX6_spread 23 24 (.aload_n 0) 1 := by unfold dk; decide +kernel
theorem dX6_spread_24 : dk cX6_spread 24 27 (.invokevirtual 73) 3 := by unfold dk; decide +kernel
theorem dX6_spread_27 : dk cX6_spread 27 28 (.aload_n 0) 1 := by unfold dk; decide +kernel
theorem dX6_spread_28 : dk cX6_spread 28 31 (.getfield 16) 3 := by unfold dk; decide +kernel
theorem dX6_spread_31 : dk cX6_spread 31 34 (.invokevirtual 126) 3 := by unfold dk; decide +kernel
theorem dX6_spread_34 : dk cX6_spread 34 35 (.aload_n 0) 1 := by unfold dk; decide +kernel
theorem dX6_spread_35 : dk cX6_spread 35 38 (.getfield 16) 3 := by unfold dk; decide +kernel
theorem dX6_spread_38 : dk cX6_spread 38 41 (.getfield 129) 3 := by unfold dk; decide +kernel
theorem dX6_spread_41 : dk cX6_spread 41 44 (.getfield 132) 3 := by unfold dk; decide +kernel
theorem dX6_spread_44 : dk cX6_spread 44 45 (.iconst 4) 1 := by unfold dk; decide +kernel
theorem dX6_spread_45 : dk cX6_spread 45 46 (.iaload) 1 := by unfold dk; decide +kernel
theorem dX6_spread_46 : dk cX6_spread 46 47 (.ireturn) 1 := by unfold dk; decide +kernel
theorem dX6_spread_21 : dk cX6_spread 21 22 (.iconst (-1)) 1 := by unfold dk; decide +kernel
theorem dX6_spread_22 : dk cX6_spread 22 23 (.ireturn) 1 := by unfold dk; decide +kernel
theorem dX6_spread_18 : bk cX6_spread 18 21 23 (.ifCond .ne 5) (5) := by unfold bk; decide +kernel
theorem dX6_spread_11 : dk cX6_spread 11 13 (.bipush (-2)) 2 := by unfold dk; decide +kernel
theorem dX6_spread_13 : dk cX6_spread 13 14 (.ireturn) 1 := by unfold dk; decide +kernel
theorem dX6_spread_8 : bk cX6_spread 8 11 14 (.if_icmp .lt 6) (6) := by unfold bk; decide +kernel
set_option maxHeartbeats 4000000 in
set_option maxRecDepth 100000 in
theorem kX6_spread {l : Launch} {G : Gl} {E : En} {a0 : Nat} {σ σ' : Sg} {r : Int32} : fX6_spread E a0 σ = some (r, σ') → CT l yX6_spread cX6_spread 1 (some .int) ({ frames := 6, cells := 0, slots := 0, locals := 144 } : Room) [.ref (G.1 + a0)] G E σ (some (.int r)) σ' := by
  intro h
  refine CT_of (lv0 := [(0, .ref (G.1 + a0))]) (by decide) (Nat.le_of_ble_eq_true rfl) rfl (fun κ hl hR hr C => ?_)
  have C : Cx κ G cX6_spread RX6 1 := C
  revert h
  unfold fX6_spread
  refine R_tk (fun ha0 => ?_)
  refine R_aload_n C 0 rfl dX6_spread_0 ?_
  refine R_dr (fun x1 rx1 cx1 => ?_)
  refine R_getr C fl6_16 rfl ha0 rx1 dX6_spread_1 ?_
  refine R_geti C fl6_79 rfl cx1 dX6_spread_4 ?_
  refine R_iconst C (2) dX6_spread_7 (by decide) ?_
  refine B_icmp_lt C dX6_spread_8 ?_ ?_
  · refine R_aload_n C 0 rfl dX6_spread_14 ?_
    refine R_bd (fun r4 s2 q3 => ?_)
    refine R_callVi [] [] C ml6_122 (kX6_canPlan q3) (by rw [hR]; exact ⟨rfl, rfl, Nat.le_of_ble_eq_true rfl, Nat.le_of_ble_eq_true rfl, Nat.zero_le _, Nat.zero_le _⟩) ha0 rfl rfl (Nat.le_of_ble_eq_true rfl) dX6_spread_15 ?_
    refine B_if_ne C dX6_spread_18 ?_ ?_
    · refine R_aload_n C 0 rfl dX6_spread_23 ?_
      refine R_bv (fun s5 q6 => ?_)
      refine R_callVv [] [] C ml6_73 (kX6_remember q6) (by rw [hR]; exact ⟨rfl, rfl, Nat.le_of_ble_eq_true rfl, Nat.le_of_ble_eq_true rfl, Nat.zero_le _, Nat.zero_le _⟩) ha0 rfl rfl (Nat.le_of_ble_eq_true rfl) dX6_spread_24 ?_
      refine R_aload_n C 0 rfl dX6_spread_27 ?_
      refine R_getr C fl6_16 rfl ha0 rx1 dX6_spread_28 ?_
      refine R_bv (fun s7 q8 => ?_)
      refine R_callVv [] [] C ml6_126 (kX4_spreadRuns q8) (by rw [hR]; exact ⟨rfl, rfl, Nat.le_of_ble_eq_true rfl, Nat.le_of_ble_eq_true rfl, Nat.zero_le _, Nat.zero_le _⟩) cx1 rfl rfl (Nat.le_of_ble_eq_true rfl) dX6_spread_31 ?_
      refine R_aload_n C 0 rfl dX6_spread_34 ?_
      refine R_getr C fl6_16 rfl ha0 rx1 dX6_spread_35 ?_
      refine R_dr (fun x9 rx9 cx9 => ?_)
      refine R_getr C fl6_129 rfl cx1 rx9 dX6_spread_38 ?_
      refine R_dr (fun x10 rx10 cx10 => ?_)
      refine R_getr C fl6_132 rfl cx9 rx10 dX6_spread_41 ?_
      refine R_iconst C (4) dX6_spread_44 (by decide) ?_
      refine R_ck (fun h11 => ?_)
      refine R_iald C cx10 h11 dX6_spread_45 ?_
      exact R_iret C hr dX6_spread_46
    · refine R_iconst C (-1) dX6_spread_21 (by decide) ?_
      exact R_iret C hr dX6_spread_22
  · refine R_bipush C (-2) dX6_spread_11 (by decide) ?_
    exact R_iret C hr dX6_spread_13
theorem dX6_whyNoStep_0 : dk cX6_whyNoStep 0 1 (.aload_n 0) 1 := by unfold dk; decide +kernel
theorem dX6_whyNoStep_1 : dk cX6_whyNoStep 1 4 (.getfield 16) 3 := by unfold dk; decide +kernel
theorem dX6_whyNoStep_4 : dk cX6_whyNoStep 4 7 (.getfield 79) 3 := by unfold dk; decide +kernel
theorem dX6_whyNoStep_7 : dk cX6_whyNoStep 7 8 (.iconst 3) 1 := by unfold dk; decide +kernel
theorem dX6_whyNoStep_14 : dk cX6_whyNoStep 14 15 (.aload_n 0) 1 := by unfold dk; decide +kernel
theorem dX6_whyNoStep_15 : dk cX6_whyNoStep 15 18 (.getfield 16) 3 := by unfold dk; decide +kernel
theorem dX6_whyNoStep_18 : dk cX6_whyNoStep 18 21 (.getfield 79) 3 := by unfold dk; decide +kernel
theorem dX6_whyNoStep_21 : dk cX6_whyNoStep 21 22 (.iconst 2) 1 := by unfold dk; decide +kernel
theorem dX6_whyNoStep_22 : bk cX6_whyNoStep 22 25 29 (.if_icmp .ne 7) (7) := by unfold bk; decide +kernel
theorem dX6_whyNoStep_29 : dk cX6_whyNoStep 29 30 (.iconst (-1)) 1 := by unfold dk; decide +kernel
theorem dX6_whyNoStep_25 : dk cX6_whyNoStep 25 26 (.iconst 0) 1 := by unfold dk; decide +kernel
theorem dX6_whyNoStep_26 : bk cX6_whyNoStep 26 29 30 (.goto 4) (4) := by unfold bk; decide +kernel
theorem dX6_whyNoStep_30 : dk cX6_whyNoStep 30 31 (.ireturn) 1 := by unfold dk; decide +kernel
theorem dX6_whyNoStep_11 : dk cX6_whyNoStep 11 13 (.bipush (-2)) 2 := by unfold dk; decide +kernel
theorem dX6_whyNoStep_13 : dk cX6_whyNoStep 13 14 (.ireturn) 1 := by unfold dk; decide +kernel
theorem dX6_whyNoStep_8 : bk cX6_whyNoStep 8 11 14 (.if_icmp .ne 6) (6) := by unfold bk; decide +kernel
set_option maxHeartbeats 4000000 in
set_option maxRecDepth 100000 in
theorem kX6_whyNoStep {l : Launch} {G : Gl} {E : En} {a0 : Nat} {σ σ' : Sg} {r : Int32} : fX6_whyNoStep E a0 σ = some (r, σ') → CT l yX6_whyNoStep cX6_whyNoStep 1 (some .int) ({ frames := 0, cells := 0, slots := 0, locals := 0 } : Room) [.ref (G.1 + a0)] G E σ (some (.int r)) σ' := by
  intro h
  refine CT_of (lv0 := [(0, .ref (G.1 + a0))]) (by decide) (Nat.le_of_ble_eq_true rfl) rfl (fun κ hl hR hr C => ?_)
  have C : Cx κ G cX6_whyNoStep RX6 1 := C
  revert h
  unfold fX6_whyNoStep
  refine R_tk (fun ha0 => ?_)
  refine R_aload_n C 0 rfl dX6_whyNoStep_0 ?_
  refine R_dr (fun x1 rx1 cx1 => ?_)
  refine R_getr C fl6_16 rfl ha0 rx1 dX6_whyNoStep_1 ?_
  refine R_geti C fl6_79 rfl cx1 dX6_whyNoStep_4 ?_
  refine R_iconst C (3) dX6_whyNoStep_7 (by decide) ?_
  refine B_icmp_ne C dX6_whyNoStep_8 ?_ ?_
  · refine R_aload_n C 0 rfl dX6_whyNoStep_14 ?_
    refine R_getr C fl6_16 rfl ha0 rx1 dX6_whyNoStep_15 ?_
    refine R_geti C fl6_79 rfl cx1 dX6_whyNoStep_18 ?_
    refine R_iconst C (2) dX6_whyNoStep_21 (by decide) ?_
    refine R_bdK (fun (w : Int32) (s : Sg) => V κ G (QQ κ G E (some (.int r)) σ') E s (false, 0, 0) 30 [] [.int w]) (fun w2 s3 => ?_) (fun w2 s3 Kw2 => ?_)
    · exact R_iret C hr dX6_whyNoStep_30
    · refine B_icmp_ne C dX6_whyNoStep_22 ?_ ?_
      · refine R_iconst C (-1) dX6_whyNoStep_29 (by decide) ?_
        refine R_loc (lv2 := []) [] rfl ?_
        exact R_end (fun (w : Int32) (s : Sg) => V κ G (QQ κ G E (some (.int r)) σ') E s (false, 0, 0) 30 [] [.int w]) Kw2
      · refine R_iconst C (0) dX6_whyNoStep_25 (by decide) ?_
        refine R_goto C dX6_whyNoStep_26 ?_
        refine R_loc (lv2 := []) [] rfl ?_
        exact R_end (fun (w : Int32) (s : Sg) => V κ G (QQ κ G E (some (.int r)) σ') E s (false, 0, 0) 30 [] [.int w]) Kw2
  · refine R_bipush C (-2) dX6_whyNoStep_11 (by decide) ?_
    exact R_iret C hr dX6_whyNoStep_13
theorem dX6_step_0 : dk cX6_step 0 1 (.aload_n 0) 1 := by unfold dk; decide +kernel
theorem dX6_step_1 : dk cX6_step 1 4 (.invokevirtual 135) 3 := by unfold dk; decide +kernel
theorem dX6_step_4 : dk cX6_step 4 5 (.istore_n 1) 1 := by unfold dk; decide +kernel
theorem dX6_step_5 : dk cX6_step 5 6 (.iload_n 1) 1 := by unfold dk; decide +kernel
theorem dX6_step_11 : dk cX6_step 11 12 (.aload_n 0) 1 := by unfold dk; decide +kernel
theorem dX6_step_12 : dk cX6_step 12 15 (.invokevirtual 73) 3 := by unfold dk; decide +kernel
theorem dX6_step_15 : dk cX6_step 15 16 (.aload_n 0) 1 := by unfold dk; decide +kernel
theorem dX6_step_16 : dk cX6_step 16 19 (.getfield 16) 3 := by unfold dk; decide +kernel
theorem dX6_step_19 : dk cX6_step 19 22 (.getfield 129) 3 := by unfold dk; decide +kernel
theorem dX6_step_22 : dk cX6_step 22 25 (.getfield 132) 3 := by unfold dk; decide +kernel
theorem dX6_step_25 : dk cX6_step 25 26 (.iconst 0) 1 := by unfold dk; decide +kernel
theorem dX6_step_26 : dk cX6_step 26 27 (.iaload) 1 := by unfold dk; decide +kernel
theorem dX6_step_27 : dk cX6_step 27 28 (.istore_n 2) 1 := by unfold dk; decide +kernel
theorem dX6_step_28 : dk cX6_step 28 29 (.aload_n 0) 1 := by unfold dk; decide +kernel
theorem dX6_step_29 : dk cX6_step 29 32 (.getfield 16) 3 := by unfold dk; decide +kernel
theorem dX6_step_32 : dk cX6_step 32 35 (.invokevirtual 139) 3 := by unfold dk; decide +kernel
theorem dX6_step_35 : dk cX6_step 35 36 (.aload_n 0) 1 := by unfold dk; decide +kernel
theorem dX6_step_36 : dk cX6_step 36 39 (.getfield 16) 3 := by unfold dk; decide +kernel
theorem dX6_step_39 : dk cX6_step 39 42 (.getfield 129) 3 := by unfold dk; decide +kernel
theorem dX6_step_42 : dk cX6_step 42 45 (.getfield 132) 3 := by unfold dk; decide +kernel
theorem dX6_step_45 : dk cX6_step 45 46 (.iconst 0) 1 := by unfold dk; decide +kernel
theorem dX6_step_46 : dk cX6_step 46 47 (.iaload) 1 := by unfold dk; decide +kernel
theorem dX6_step_47 : dk cX6_step 47 48 (.iload_n 2) 1 := by unfold dk; decide +kernel
theorem dX6_step_48 : dk cX6_step 48 49 (.isub) 1 := by unfold dk; decide +kernel
theorem dX6_step_49 : dk cX6_step 49 50 (.ireturn) 1 := by unfold dk; decide +kernel
theorem dX6_step_9 : dk cX6_step 9 10 (.iload_n 1) 1 := by unfold dk; decide +kernel
theorem dX6_step_10 : dk cX6_step 10 11 (.ireturn) 1 := by unfold dk; decide +kernel
theorem dX6_step_6 : bk cX6_step 6 9 11 (.ifCond .eq 5) (5) := by unfold bk; decide +kernel
set_option maxHeartbeats 4000000 in
set_option maxRecDepth 100000 in
theorem kX6_step {l : Launch} {G : Gl} {E : En} {a0 : Nat} {σ σ' : Sg} {r : Int32} : fX6_step E a0 σ = some (r, σ') → CT l yX6_step cX6_step 3 (some .int) ({ frames := 6, cells := 0, slots := 0, locals := 144 } : Room) [.ref (G.1 + a0)] G E σ (some (.int r)) σ' := by
  intro h
  refine CT_of (lv0 := [(0, .ref (G.1 + a0))]) (by decide) (Nat.le_of_ble_eq_true rfl) rfl (fun κ hl hR hr C => ?_)
  have C : Cx κ G cX6_step RX6 3 := C
  revert h
  unfold fX6_step
  refine R_tk (fun ha0 => ?_)
  refine R_aload_n C 0 rfl dX6_step_0 ?_
  refine R_bd (fun r3 s1 q2 => ?_)
  refine R_callVi [] [] C ml6_135 (kX6_whyNoStep q2) (by rw [hR]; exact ⟨rfl, rfl, Nat.le_of_ble_eq_true rfl, Nat.le_of_ble_eq_true rfl, Nat.zero_le _, Nat.zero_le _⟩) ha0 rfl rfl (Nat.le_of_ble_eq_true rfl) dX6_step_1 ?_
  refine R_istore_n (lv2 := [(1, .int r3), (0, .ref (G.1 + a0))]) C dX6_step_4 rfl (by decide) rfl ?_
  refine R_iload_n C 0 rfl dX6_step_5 ?_
  refine B_if_eq C dX6_step_6 ?_ ?_
  · refine R_aload_n C 1 rfl dX6_step_11 ?_
    refine R_bv (fun s4 q5 => ?_)
    refine R_callVv [] [] C ml6_73 (kX6_remember q5) (by rw [hR]; exact ⟨rfl, rfl, Nat.le_of_ble_eq_true rfl, Nat.le_of_ble_eq_true rfl, Nat.zero_le _, Nat.zero_le _⟩) ha0 rfl rfl (Nat.le_of_ble_eq_true rfl) dX6_step_12 ?_
    refine R_aload_n C 1 rfl dX6_step_15 ?_
    refine R_dr (fun x6 rx6 cx6 => ?_)
    refine R_getr C fl6_16 rfl ha0 rx6 dX6_step_16 ?_
    refine R_dr (fun x7 rx7 cx7 => ?_)
    refine R_getr C fl6_129 rfl cx6 rx7 dX6_step_19 ?_
    refine R_dr (fun x8 rx8 cx8 => ?_)
    refine R_getr C fl6_132 rfl cx7 rx8 dX6_step_22 ?_
    refine R_iconst C (0) dX6_step_25 (by decide) ?_
    refine R_ck (fun h9 => ?_)
    refine R_iald C cx8 h9 dX6_step_26 ?_
    refine S_istore_n C dX6_step_27 rfl (fun v10 => [(2, .int v10), (1, .int r3), (0, .ref (G.1 + a0))]) (by decide) (fun _ => rfl) (fun v10 => ?_)
    refine R_aload_n C 2 rfl dX6_step_28 ?_
    refine R_getr C fl6_16 rfl ha0 rx6 dX6_step_29 ?_
    refine R_bv (fun s11 q12 => ?_)
    refine R_callVv [] [] C ml6_139 (kX4_mergeOnce q12) (by rw [hR]; exact ⟨rfl, rfl, Nat.le_of_ble_eq_true rfl, Nat.le_of_ble_eq_true rfl, Nat.zero_le _, Nat.zero_le _⟩) cx6 rfl rfl (Nat.le_of_ble_eq_true rfl) dX6_step_32 ?_
    refine R_aload_n C 2 rfl dX6_step_35 ?_
    refine R_getr C fl6_16 rfl ha0 rx6 dX6_step_36 ?_
    refine R_getr C fl6_129 rfl cx6 rx7 dX6_step_39 ?_
    refine R_getr C fl6_132 rfl cx7 rx8 dX6_step_42 ?_
    refine R_iconst C (0) dX6_step_45 (by decide) ?_
    refine R_ck (fun h13 => ?_)
    refine R_iald C cx8 h13 dX6_step_46 ?_
    refine R_iload_n C 0 rfl dX6_step_47 ?_
    refine R_isub C dX6_step_48 ?_
    exact R_iret C hr dX6_step_49
  · refine R_iload_n C 0 rfl dX6_step_9 ?_
    exact R_iret C hr dX6_step_10
theorem dX6_phase_0 : dk cX6_phase 0 1 (.aload_n 0) 1 := by unfold dk; decide +kernel
theorem dX6_phase_1 : dk cX6_phase 1 4 (.invokevirtual 135) 3 := by unfold dk; decide +kernel
theorem dX6_phase_4 : dk cX6_phase 4 5 (.istore_n 1) 1 := by unfold dk; decide +kernel
theorem dX6_phase_5 : dk cX6_phase 5 6 (.iload_n 1) 1 := by unfold dk; decide +kernel
theorem dX6_phase_11 : dk cX6_phase 11 12 (.aload_n 0) 1 := by unfold dk; decide +kernel
theorem dX6_phase_12 : dk cX6_phase 12 15 (.invokevirtual 73) 3 := by unfold dk; decide +kernel
theorem dX6_phase_15 : dk cX6_phase 15 16 (.aload_n 0) 1 := by unfold dk; decide +kernel
theorem dX6_phase_16 : dk cX6_phase 16 19 (.getfield 16) 3 := by unfold dk; decide +kernel
theorem dX6_phase_19 : dk cX6_phase 19 22 (.getfield 129) 3 := by unfold dk; decide +kernel
theorem dX6_phase_22 : dk cX6_phase 22 25 (.getfield 132) 3 := by unfold dk; decide +kernel
theorem dX6_phase_25 : dk cX6_phase 25 26 (.iconst 2) 1 := by unfold dk; decide +kernel
theorem dX6_phase_26 : dk cX6_phase 26 27 (.iaload) 1 := by unfold dk; decide +kernel
theorem dX6_phase_27 : dk cX6_phase 27 28 (.istore_n 2) 1 := by unfold dk; decide +kernel
theorem dX6_phase_28 : dk cX6_phase 28 29 (.aload_n 0) 1 := by unfold dk; decide +kernel
theorem dX6_phase_29 : dk cX6_phase 29 32 (.getfield 16) 3 := by unfold dk; decide +kernel
theorem dX6_phase_32 : dk cX6_phase 32 35 (.getfield 129) 3 := by unfold dk; decide +kernel
theorem dX6_phase_35 : dk cX6_phase 35 38 (.getfield 132) 3 := by unfold dk; decide +kernel
theorem dX6_phase_38 : dk cX6_phase 38 39 (.iconst 1) 1 := by unfold dk; decide +kernel
theorem dX6_phase_39 : dk cX6_phase 39 40 (.iaload) 1 := by unfold dk; decide +kernel
theorem dX6_phase_40 : dk cX6_phase 40 41 (.istore_n 3) 1 := by unfold dk; decide +kernel
theorem dX6_phase_41 : dk cX6_phase 41 42 (.iconst 0) 1 := by unfold dk; decide +kernel
theorem dX6_phase_42 : dk cX6_phase 42 44 (.istore 4) 2 := by unfold dk; decide +kernel
theorem dX6_phase_44 : dk cX6_phase 44 46 (.iload 4) 2 := by unfold dk; decide +kernel
theorem dX6_phase_46 : dk cX6_phase 46 48 (.ldc 142) 2 := by unfold dk; decide +kernel
theorem dX6_phase_51 : dk cX6_phase 51 52 (.aload_n 0) 1 := by unfold dk; decide +kernel
theorem dX6_phase_52 : dk cX6_phase 52 55 (.getfield 16) 3 := by unfold dk; decide +kernel
theorem dX6_phase_55 : dk cX6_phase 55 58 (.getfield 79) 3 := by unfold dk; decide +kernel
theorem dX6_phase_58 : dk cX6_phase 58 59 (.iconst 2) 1 := by unfold dk; decide +kernel
theorem dX6_phase_62 : dk cX6_phase 62 63 (.aload_n 0) 1 := by unfold dk; decide +kernel
theorem dX6_phase_63 : dk cX6_phase 63 66 (.getfield 16) 3 := by unfold dk; decide +kernel
theorem dX6_phase_66 : dk cX6_phase 66 69 (.getfield 129) 3 := by unfold dk; decide +kernel
theorem dX6_phase_69 : dk cX6_phase 69 72 (.getfield 132) 3 := by unfold dk; decide +kernel
theorem dX6_phase_72 : dk cX6_phase 72 73 (.iconst 2) 1 := by unfold dk; decide +kernel
theorem dX6_phase_73 : dk cX6_phase 73 74 (.iaload) 1 := by unfold dk; decide +kernel
theorem dX6_phase_74 : dk cX6_phase 74 75 (.iload_n 2) 1 := by unfold dk; decide +kernel
theorem dX6_phase_78 : dk cX6_phase 78 79 (.aload_n 0) 1 := by unfold dk; decide +kernel
theorem dX6_phase_79 : dk cX6_phase 79 82 (.getfield 16) 3 := by unfold dk; decide +kernel
theorem dX6_phase_82 : dk cX6_phase 82 85 (.invokevirtual 139) 3 := by unfold dk; decide +kernel
theorem dX6_phase_85 : dk cX6_phase 85 88 (.iinc 4 1) 3 := by unfold dk; decide +kernel
theorem dX6_phase_88 : bk cX6_phase 88 91 44 (.goto (-44)) (-44) := by unfold bk; decide +kernel
theorem dX6_phase_75 : bk cX6_phase 75 78 91 (.if_icmp .ne 16) (16) := by unfold bk; decide +kernel
theorem dX6_phase_59 : bk cX6_phase 59 62 91 (.if_icmp .ne 32) (32) := by unfold bk; decide +kernel
theorem dX6_phase_48 : bk cX6_phase 48 51 91 (.if_icmp .ge 43) (43) := by unfold bk; decide +kernel
theorem dX6_phase_91 : dk cX6_phase 91 92 (.aload_n 0) 1 := by unfold dk; decide +kernel
theorem dX6_phase_92 : dk cX6_phase 92 95 (.getfield 16) 3 := by unfold dk; decide +kernel
theorem dX6_phase_95 : dk cX6_phase 95 98 (.getfield 129) 3 := by unfold dk; decide +kernel
theorem dX6_phase_98 : dk cX6_phase 98 101 (.getfield 132) 3 := by unfold dk; decide +kernel
theorem dX6_phase_101 : dk cX6_phase 101 102 (.iconst 1) 1 := by unfold dk; decide +kernel
theorem dX6_phase_102 : dk cX6_phase 102 103 (.iaload) 1 := by unfold dk; decide +kernel
theorem dX6_phase_103 : dk cX6_phase 103 104 (.iload_n 3) 1 := by unfold dk; decide +kernel
theorem dX6_phase_104 : dk cX6_phase 104 105 (.isub) 1 := by unfold dk; decide +kernel
theorem dX6_phase_105 : dk cX6_phase 105 106 (.ireturn) 1 := by unfold dk; decide +kernel
theorem dX6_phase_9 : dk cX6_phase 9 10 (.iload_n 1) 1 := by unfold dk; decide +kernel
theorem dX6_phase_10 : dk cX6_phase 10 11 (.ireturn) 1 := by unfold dk; decide +kernel
theorem dX6_phase_6 : bk cX6_phase 6 9 11 (.ifCond .eq 5) (5) := by unfold bk; decide +kernel
set_option maxHeartbeats 4000000 in
set_option maxRecDepth 100000 in
theorem kX6_phase {l : Launch} {G : Gl} {E : En} {a0 : Nat} {σ σ' : Sg} {r : Int32} : fX6_phase E a0 σ = some (r, σ') → CT l yX6_phase cX6_phase 5 (some .int) ({ frames := 6, cells := 0, slots := 0, locals := 144 } : Room) [.ref (G.1 + a0)] G E σ (some (.int r)) σ' := by
  intro h
  refine CT_of (lv0 := [(0, .ref (G.1 + a0))]) (by decide) (Nat.le_of_ble_eq_true rfl) rfl (fun κ hl hR hr C => ?_)
  have C : Cx κ G cX6_phase RX6 5 := C
  revert h
  unfold fX6_phase
  refine R_tk (fun ha0 => ?_)
  refine R_aload_n C 0 rfl dX6_phase_0 ?_
  refine R_bd (fun r3 s1 q2 => ?_)
  refine R_callVi [] [] C ml6_135 (kX6_whyNoStep q2) (by rw [hR]; exact ⟨rfl, rfl, Nat.le_of_ble_eq_true rfl, Nat.le_of_ble_eq_true rfl, Nat.zero_le _, Nat.zero_le _⟩) ha0 rfl rfl (Nat.le_of_ble_eq_true rfl) dX6_phase_1 ?_
  refine R_istore_n (lv2 := [(1, .int r3), (0, .ref (G.1 + a0))]) C dX6_phase_4 rfl (by decide) rfl ?_
  refine R_iload_n C 0 rfl dX6_phase_5 ?_
  refine B_if_eq C dX6_phase_6 ?_ ?_
  · refine R_aload_n C 1 rfl dX6_phase_11 ?_
    refine R_bv (fun s4 q5 => ?_)
    refine R_callVv [] [] C ml6_73 (kX6_remember q5) (by rw [hR]; exact ⟨rfl, rfl, Nat.le_of_ble_eq_true rfl, Nat.le_of_ble_eq_true rfl, Nat.zero_le _, Nat.zero_le _⟩) ha0 rfl rfl (Nat.le_of_ble_eq_true rfl) dX6_phase_12 ?_
    refine R_aload_n C 1 rfl dX6_phase_15 ?_
    refine R_dr (fun x6 rx6 cx6 => ?_)
    refine R_getr C fl6_16 rfl ha0 rx6 dX6_phase_16 ?_
    refine R_dr (fun x7 rx7 cx7 => ?_)
    refine R_getr C fl6_129 rfl cx6 rx7 dX6_phase_19 ?_
    refine R_dr (fun x8 rx8 cx8 => ?_)
    refine R_getr C fl6_132 rfl cx7 rx8 dX6_phase_22 ?_
    refine R_iconst C (2) dX6_phase_25 (by decide) ?_
    refine R_ck (fun h9 => ?_)
    refine R_iald C cx8 h9 dX6_phase_26 ?_
    refine S_istore_n C dX6_phase_27 rfl (fun v10 => [(2, .int v10), (1, .int r3), (0, .ref (G.1 + a0))]) (by decide) (fun _ => rfl) (fun v10 => ?_)
    refine R_aload_n C 2 rfl dX6_phase_28 ?_
    refine R_getr C fl6_16 rfl ha0 rx6 dX6_phase_29 ?_
    refine R_getr C fl6_129 rfl cx6 rx7 dX6_phase_32 ?_
    refine R_getr C fl6_132 rfl cx7 rx8 dX6_phase_35 ?_
    refine R_iconst C (1) dX6_phase_38 (by decide) ?_
    refine R_ck (fun h11 => ?_)
    refine R_iald C cx8 h11 dX6_phase_39 ?_
    refine S_istore_n C dX6_phase_40 rfl (fun v12 => [(3, .int v12), (2, .int v10), (1, .int r3), (0, .ref (G.1 + a0))]) (by decide) (fun _ => rfl) (fun v12 => ?_)
    refine R_iconst C (0) dX6_phase_41 (by decide) ?_
    refine R_istore (lv2 := [(4, .int (0 : Int32)), (3, .int v12), (2, .int v10), (1, .int r3), (0, .ref (G.1 + a0))]) C dX6_phase_42 (by decide) rfl ?_
    refine R_loc (lv2 := [(3, .int v12), (2, .int v10), (0, .ref (G.1 + a0)), (4, .int (0 : Int32))]) [1, 2, 4, 0] rfl ?_
    refine R_loop (fun (a : (Int32) × Sg) => V κ G (QQ κ G E (some (.int r)) σ') E a.2 (false, 0, 0) 44 [(3, .int v12), (2, .int v10), (0, .ref (G.1 + a0)), (4, .int a.1)] []) (fun (o : (Int32)) (s : Sg) => V κ G (QQ κ G E (some (.int r)) σ') E s (false, 0, 0) 91 [(3, .int v12), (0, .ref (G.1 + a0))] []) ((0 : Int32), s4) (fun o23 s24 => ?_) (fun rec I18 a b16 s17 K15 => ?_)
    · refine R_aload_n C 1 rfl dX6_phase_91 ?_
      refine R_getr C fl6_16 rfl ha0 rx6 dX6_phase_92 ?_
      refine R_getr C fl6_129 rfl cx6 rx7 dX6_phase_95 ?_
      refine R_getr C fl6_132 rfl cx7 rx8 dX6_phase_98 ?_
      refine R_iconst C (1) dX6_phase_101 (by decide) ?_
      refine R_ck (fun h25 => ?_)
      refine R_iald C cx8 h25 dX6_phase_102 ?_
      refine R_iload_n C 0 rfl dX6_phase_103 ?_
      refine R_isub C dX6_phase_104 ?_
      exact R_iret C hr dX6_phase_105
    · obtain ⟨v13, s14⟩ := a
      show bX6_phase_44 E x6 x8 v10 (fun u0 t => rec (u0, t)) v13 s14 = some (b16, s17) → V κ G (QQ κ G E (some (.int r)) σ') E s14 (false, 0, 0) 44 [(3, .int v12), (2, .int v10), (0, .ref (G.1 + a0)), (4, .int v13)] []
      unfold bX6_phase_44
      refine R_iload C 3 rfl dX6_phase_44 ?_
      refine R_ldc C cs6_142 dX6_phase_46 ?_
      refine B_icmp_ge C dX6_phase_48 ?_ ?_
      · refine R_loc (lv2 := [(3, .int v12), (0, .ref (G.1 + a0))]) [0, 2] rfl ?_
        exact R_end (fun (o : (Int32)) (s : Sg) => V κ G (QQ κ G E (some (.int r)) σ') E s (false, 0, 0) 91 [(3, .int v12), (0, .ref (G.1 + a0))] []) K15
      · refine R_aload_n C 2 rfl dX6_phase_51 ?_
        refine R_getr C fl6_16 rfl ha0 rx6 dX6_phase_52 ?_
        refine R_geti C fl6_79 rfl cx6 dX6_phase_55 ?_
        refine R_iconst C (2) dX6_phase_58 (by decide) ?_
        refine B_icmp_ne C dX6_phase_59 ?_ ?_
        · refine R_loc (lv2 := [(3, .int v12), (0, .ref (G.1 + a0))]) [0, 2] rfl ?_
          exact R_end (fun (o : (Int32)) (s : Sg) => V κ G (QQ κ G E (some (.int r)) σ') E s (false, 0, 0) 91 [(3, .int v12), (0, .ref (G.1 + a0))] []) K15
        · refine R_aload_n C 2 rfl dX6_phase_62 ?_
          refine R_getr C fl6_16 rfl ha0 rx6 dX6_phase_63 ?_
          refine R_getr C fl6_129 rfl cx6 rx7 dX6_phase_66 ?_
          refine R_getr C fl6_132 rfl cx7 rx8 dX6_phase_69 ?_
          refine R_iconst C (2) dX6_phase_72 (by decide) ?_
          refine R_ck (fun h19 => ?_)
          refine R_iald C cx8 h19 dX6_phase_73 ?_
          refine R_iload_n C 1 rfl dX6_phase_74 ?_
          refine B_icmp_ne C dX6_phase_75 ?_ ?_
          · refine R_loc (lv2 := [(3, .int v12), (0, .ref (G.1 + a0))]) [0, 2] rfl ?_
            exact R_end (fun (o : (Int32)) (s : Sg) => V κ G (QQ κ G E (some (.int r)) σ') E s (false, 0, 0) 91 [(3, .int v12), (0, .ref (G.1 + a0))] []) K15
          · refine R_aload_n C 2 rfl dX6_phase_78 ?_
            refine R_getr C fl6_16 rfl ha0 rx6 dX6_phase_79 ?_
            refine R_bv (fun s20 q21 => ?_)
            refine R_callVv [] [] C ml6_139 (kX4_mergeOnce q21) (by rw [hR]; exact ⟨rfl, rfl, Nat.le_of_ble_eq_true rfl, Nat.le_of_ble_eq_true rfl, Nat.zero_le _, Nat.zero_le _⟩) cx6 rfl rfl (Nat.le_of_ble_eq_true rfl) dX6_phase_82 ?_
            refine S_iinc (fun v22 => [(4, .int v22), (3, .int v12), (2, .int v10), (0, .ref (G.1 + a0))]) 3 C dX6_phase_85 rfl (by decide) (by decide) (fun _ => rfl) (fun v22 => ?_)
            refine R_goto C dX6_phase_88 ?_
            refine R_loc (lv2 := [(3, .int v12), (2, .int v10), (0, .ref (G.1 + a0)), (4, .int v22)]) [1, 2, 3, 0] rfl ?_
            exact I18 (v22, s20) b16 s17 K15
  · refine R_iload_n C 0 rfl dX6_phase_9 ?_
    exact R_iret C hr dX6_phase_10
theorem dX6_all_0 : dk cX6_all 0 1 (.aload_n 0) 1 := by unfold dk; decide +kernel
theorem dX6_all_1 : dk cX6_all 1 4 (.invokevirtual 135) 3 := by unfold dk; decide +kernel
theorem dX6_all_4 : dk cX6_all 4 5 (.istore_n 1) 1 := by unfold dk; decide +kernel
theorem dX6_all_5 : dk cX6_all 5 6 (.iload_n 1) 1 := by unfold dk; decide +kernel
theorem dX6_all_11 : dk cX6_all 11 12 (.aload_n 0) 1 := by unfold dk; decide +kernel
theorem dX6_all_12 : dk cX6_all 12 15 (.invokevirtual 73) 3 := by unfold dk; decide +kernel
theorem dX6_all_15 : dk cX6_all 15 16 (.aload_n 0) 1 := by unfold dk; decide +kernel
theorem dX6_all_16 : dk cX6_all 16 19 (.getfield 16) 3 := by unfold dk; decide +kernel
theorem dX6_all_19 : dk cX6_all 19 22 (.getfield 129) 3 := by unfold dk; decide +kernel
theorem dX6_all_22 : dk cX6_all 22 25 (.getfield 132) 3 := by unfold dk; decide +kernel
theorem dX6_all_25 : dk cX6_all 25 26 (.iconst 1) 1 := by unfold dk; decide +kernel
theorem dX6_all_26 : dk cX6_all 26 27 (.iaload) 1 := by unfold dk; decide +kernel
theorem dX6_all_27 : dk cX6_all 27 28 (.istore_n 2) 1 := by unfold dk; decide +kernel
theorem dX6_all_28 : dk cX6_all 28 29 (.iconst 0) 1 := by unfold dk; decide +kernel
theorem dX6_all_29 : dk cX6_all 29 30 (.istore_n 3) 1 := by unfold dk; decide +kernel
theorem dX6_all_30 : dk cX6_all 30 31 (.iload_n 3) 1 := by unfold dk; decide +kernel
theorem dX6_all_31 : dk cX6_all 31 33 (.ldc 142) 2 := by unfold dk; decide +kernel
theorem dX6_all_36 : dk cX6_all 36 37 (.aload_n 0) 1 := by unfold dk; decide +kernel
theorem dX6_all_37 : dk cX6_all 37 40 (.getfield 16) 3 := by unfold dk; decide +kernel
theorem dX6_all_40 : dk cX6_all 40 43 (.getfield 79) 3 := by unfold dk; decide +kernel
theorem dX6_all_43 : dk cX6_all 43 44 (.iconst 2) 1 := by unfold dk; decide +kernel
theorem dX6_all_47 : dk cX6_all 47 48 (.aload_n 0) 1 := by unfold dk; decide +kernel
theorem dX6_all_48 : dk cX6_all 48 51 (.getfield 16) 3 := by unfold dk; decide +kernel
theorem dX6_all_51 : dk cX6_all 51 54 (.invokevirtual 139) 3 := by unfold dk; decide +kernel
theorem dX6_all_54 : dk cX6_all 54 57 (.iinc 3 1) 3 := by unfold dk; decide +kernel
theorem dX6_all_57 : bk cX6_all 57 60 30 (.goto (-27)) (-27) := by unfold bk; decide +kernel
theorem dX6_all_44 : bk cX6_all 44 47 60 (.if_icmp .ne 16) (16) := by unfold bk; decide +kernel
theorem dX6_all_33 : bk cX6_all 33 36 60 (.if_icmp .ge 27) (27) := by unfold bk; decide +kernel
theorem dX6_all_60 : dk cX6_all 60 61 (.aload_n 0) 1 := by unfold dk; decide +kernel
theorem dX6_all_61 : dk cX6_all 61 64 (.getfield 16) 3 := by unfold dk; decide +kernel
theorem dX6_all_64 : dk cX6_all 64 67 (.getfield 129) 3 := by unfold dk; decide +kernel
theorem dX6_all_67 : dk cX6_all 67 70 (.getfield 132) 3 := by unfold dk; decide +kernel
theorem dX6_all_70 : dk cX6_all 70 71 (.iconst 1) 1 := by unfold dk; decide +kernel
theorem dX6_all_71 : dk cX6_all 71 72 (.iaload) 1 := by unfold dk; decide +kernel
theorem dX6_all_72 : dk cX6_all 72 73 (.iload_n 2) 1 := by unfold dk; decide +kernel
theorem dX6_all_73 : dk cX6_all 73 74 (.isub) 1 := by unfold dk; decide +kernel
theorem dX6_all_74 : dk cX6_all 74 75 (.ireturn) 1 := by unfold dk; decide +kernel
theorem dX6_all_9 : dk cX6_all 9 10 (.iload_n 1) 1 := by unfold dk; decide +kernel
theorem dX6_all_10 : dk cX6_all 10 11 (.ireturn) 1 := by unfold dk; decide +kernel
theorem dX6_all_6 : bk cX6_all 6 9 11 (.ifCond .eq 5) (5) := by unfold bk; decide +kernel
set_option maxHeartbeats 4000000 in
set_option maxRecDepth 100000 in
theorem kX6_all {l : Launch} {G : Gl} {E : En} {a0 : Nat} {σ σ' : Sg} {r : Int32} : fX6_all E a0 σ = some (r, σ') → CT l yX6_all cX6_all 4 (some .int) ({ frames := 6, cells := 0, slots := 0, locals := 144 } : Room) [.ref (G.1 + a0)] G E σ (some (.int r)) σ' := by
  intro h
  refine CT_of (lv0 := [(0, .ref (G.1 + a0))]) (by decide) (Nat.le_of_ble_eq_true rfl) rfl (fun κ hl hR hr C => ?_)
  have C : Cx κ G cX6_all RX6 4 := C
  revert h
  unfold fX6_all
  refine R_tk (fun ha0 => ?_)
  refine R_aload_n C 0 rfl dX6_all_0 ?_
  refine R_bd (fun r3 s1 q2 => ?_)
  refine R_callVi [] [] C ml6_135 (kX6_whyNoStep q2) (by rw [hR]; exact ⟨rfl, rfl, Nat.le_of_ble_eq_true rfl, Nat.le_of_ble_eq_true rfl, Nat.zero_le _, Nat.zero_le _⟩) ha0 rfl rfl (Nat.le_of_ble_eq_true rfl) dX6_all_1 ?_
  refine R_istore_n (lv2 := [(1, .int r3), (0, .ref (G.1 + a0))]) C dX6_all_4 rfl (by decide) rfl ?_
  refine R_iload_n C 0 rfl dX6_all_5 ?_
  refine B_if_eq C dX6_all_6 ?_ ?_
  · refine R_aload_n C 1 rfl dX6_all_11 ?_
    refine R_bv (fun s4 q5 => ?_)
    refine R_callVv [] [] C ml6_73 (kX6_remember q5) (by rw [hR]; exact ⟨rfl, rfl, Nat.le_of_ble_eq_true rfl, Nat.le_of_ble_eq_true rfl, Nat.zero_le _, Nat.zero_le _⟩) ha0 rfl rfl (Nat.le_of_ble_eq_true rfl) dX6_all_12 ?_
    refine R_aload_n C 1 rfl dX6_all_15 ?_
    refine R_dr (fun x6 rx6 cx6 => ?_)
    refine R_getr C fl6_16 rfl ha0 rx6 dX6_all_16 ?_
    refine R_dr (fun x7 rx7 cx7 => ?_)
    refine R_getr C fl6_129 rfl cx6 rx7 dX6_all_19 ?_
    refine R_dr (fun x8 rx8 cx8 => ?_)
    refine R_getr C fl6_132 rfl cx7 rx8 dX6_all_22 ?_
    refine R_iconst C (1) dX6_all_25 (by decide) ?_
    refine R_ck (fun h9 => ?_)
    refine R_iald C cx8 h9 dX6_all_26 ?_
    refine S_istore_n C dX6_all_27 rfl (fun v10 => [(2, .int v10), (1, .int r3), (0, .ref (G.1 + a0))]) (by decide) (fun _ => rfl) (fun v10 => ?_)
    refine R_iconst C (0) dX6_all_28 (by decide) ?_
    refine R_istore_n (lv2 := [(3, .int (0 : Int32)), (2, .int v10), (1, .int r3), (0, .ref (G.1 + a0))]) C dX6_all_29 rfl (by decide) rfl ?_
    refine R_loc (lv2 := [(2, .int v10), (0, .ref (G.1 + a0)), (3, .int (0 : Int32))]) [1, 3, 0] rfl ?_
    refine R_loop (fun (a : (Int32) × Sg) => V κ G (QQ κ G E (some (.int r)) σ') E a.2 (false, 0, 0) 30 [(2, .int v10), (0, .ref (G.1 + a0)), (3, .int a.1)] []) (fun (o : (Int32)) (s : Sg) => V κ G (QQ κ G E (some (.int r)) σ') E s (false, 0, 0) 60 [(2, .int v10), (0, .ref (G.1 + a0))] []) ((0 : Int32), s4) (fun o20 s21 => ?_) (fun rec I16 a b14 s15 K13 => ?_)
    · refine R_aload_n C 1 rfl dX6_all_60 ?_
      refine R_getr C fl6_16 rfl ha0 rx6 dX6_all_61 ?_
      refine R_getr C fl6_129 rfl cx6 rx7 dX6_all_64 ?_
      refine R_getr C fl6_132 rfl cx7 rx8 dX6_all_67 ?_
      refine R_iconst C (1) dX6_all_70 (by decide) ?_
      refine R_ck (fun h22 => ?_)
      refine R_iald C cx8 h22 dX6_all_71 ?_
      refine R_iload_n C 0 rfl dX6_all_72 ?_
      refine R_isub C dX6_all_73 ?_
      exact R_iret C hr dX6_all_74
    · obtain ⟨v11, s12⟩ := a
      show bX6_all_30 E x6 (fun u0 t => rec (u0, t)) v11 s12 = some (b14, s15) → V κ G (QQ κ G E (some (.int r)) σ') E s12 (false, 0, 0) 30 [(2, .int v10), (0, .ref (G.1 + a0)), (3, .int v11)] []
      unfold bX6_all_30
      refine R_iload_n C 2 rfl dX6_all_30 ?_
      refine R_ldc C cs6_142 dX6_all_31 ?_
      refine B_icmp_ge C dX6_all_33 ?_ ?_
      · refine R_loc (lv2 := [(2, .int v10), (0, .ref (G.1 + a0))]) [0, 1] rfl ?_
        exact R_end (fun (o : (Int32)) (s : Sg) => V κ G (QQ κ G E (some (.int r)) σ') E s (false, 0, 0) 60 [(2, .int v10), (0, .ref (G.1 + a0))] []) K13
      · refine R_aload_n C 1 rfl dX6_all_36 ?_
        refine R_getr C fl6_16 rfl ha0 rx6 dX6_all_37 ?_
        refine R_geti C fl6_79 rfl cx6 dX6_all_40 ?_
        refine R_iconst C (2) dX6_all_43 (by decide) ?_
        refine B_icmp_ne C dX6_all_44 ?_ ?_
        · refine R_loc (lv2 := [(2, .int v10), (0, .ref (G.1 + a0))]) [0, 1] rfl ?_
          exact R_end (fun (o : (Int32)) (s : Sg) => V κ G (QQ κ G E (some (.int r)) σ') E s (false, 0, 0) 60 [(2, .int v10), (0, .ref (G.1 + a0))] []) K13
        · refine R_aload_n C 1 rfl dX6_all_47 ?_
          refine R_getr C fl6_16 rfl ha0 rx6 dX6_all_48 ?_
          refine R_bv (fun s17 q18 => ?_)
          refine R_callVv [] [] C ml6_139 (kX4_mergeOnce q18) (by rw [hR]; exact ⟨rfl, rfl, Nat.le_of_ble_eq_true rfl, Nat.le_of_ble_eq_true rfl, Nat.zero_le _, Nat.zero_le _⟩) cx6 rfl rfl (Nat.le_of_ble_eq_true rfl) dX6_all_51 ?_
          refine S_iinc (fun v19 => [(3, .int v19), (2, .int v10), (0, .ref (G.1 + a0))]) 2 C dX6_all_54 rfl (by decide) (by decide) (fun _ => rfl) (fun v19 => ?_)
          refine R_goto C dX6_all_57 ?_
          refine R_loc (lv2 := [(2, .int v10), (0, .ref (G.1 + a0)), (3, .int v19)]) [1, 2, 0] rfl ?_
          exact I16 (v19, s17) b14 s15 K13
  · refine R_iload_n C 0 rfl dX6_all_9 ?_
    exact R_iret C hr dX6_all_10
theorem dX6_record_0 : dk cX6_record 0 1 (.iload_n 1) 1 := by unfold dk; decide +kernel
theorem dX6_record_18 : dk cX6_record 18 19 (.iconst (-1)) 1 := by unfold dk; decide +kernel
theorem dX6_record_19 : dk cX6_record 19 20 (.ireturn) 1 := by unfold dk; decide +kernel
theorem dX6_record_4 : dk cX6_record 4 5 (.iload_n 1) 1 := by unfold dk; decide +kernel
theorem dX6_record_5 : dk cX6_record 5 6 (.aload_n 0) 1 := by unfold dk; decide +kernel
theorem dX6_record_6 : dk cX6_record 6 9 (.getfield 16) 3 := by unfold dk; decide +kernel
theorem dX6_record_9 : dk cX6_record 9 12 (.getfield 64) 3 := by unfold dk; decide +kernel
theorem dX6_record_12 : dk cX6_record 12 15 (.getfield 68) 3 := by unfold dk; decide +kernel
theorem dX6_record_20 : dk cX6_record 20 21 (.iload_n 2) 1 := by unfold dk; decide +kernel
theorem dX6_record_37 : dk cX6_record 37 38 (.iload_n 2) 1 := by unfold dk; decide +kernel
theorem dX6_record_38 : dk cX6_record 38 39 (.iconst 1) 1 := by unfold dk; decide +kernel
theorem dX6_record_39 : bk cX6_record 39 42 68 (.if_icmp .ne 29) (29) := by unfold bk; decide +kernel
theorem dX6_record_68 : dk cX6_record 68 69 (.iconst (-1)) 1 := by unfold dk; decide +kernel
theorem dX6_record_42 : dk cX6_record 42 43 (.aload_n 0) 1 := by unfold dk; decide +kernel
theorem dX6_record_43 : dk cX6_record 43 46 (.getfield 16) 3 := by unfold dk; decide +kernel
theorem dX6_record_46 : dk cX6_record 46 49 (.getfield 79) 3 := by unfold dk; decide +kernel
theorem dX6_record_49 : dk cX6_record 49 50 (.iconst 1) 1 := by unfold dk; decide +kernel
theorem dX6_record_53 : dk cX6_record 53 54 (.aload_n 0) 1 := by unfold dk; decide +kernel
theorem dX6_record_54 : dk cX6_record 54 57 (.getfield 16) 3 := by unfold dk; decide +kernel
theorem dX6_record_57 : dk cX6_record 57 60 (.getfield 115) 3 := by unfold dk; decide +kernel
theorem dX6_record_60 : dk cX6_record 60 63 (.getfield 146) 3 := by unfold dk; decide +kernel
theorem dX6_record_63 : dk cX6_record 63 64 (.iload_n 1) 1 := by unfold dk; decide +kernel
theorem dX6_record_64 : dk cX6_record 64 65 (.iaload) 1 := by unfold dk; decide +kernel
theorem dX6_record_65 : bk cX6_record 65 68 69 (.goto 4) (4) := by unfold bk; decide +kernel
theorem dX6_record_50 : bk cX6_record 50 53 68 (.if_icmp .lt 18) (18) := by unfold bk; decide +kernel
theorem dX6_record_69 : dk cX6_record 69 70 (.ireturn) 1 := by unfold dk; decide +kernel
theorem dX6_record_24 : dk cX6_record 24 25 (.aload_n 0) 1 := by unfold dk; decide +kernel
theorem dX6_record_25 : dk cX6_record 25 28 (.getfield 16) 3 := by unfold dk; decide +kernel
theorem dX6_record_28 : dk cX6_record 28 31 (.getfield 64) 3 := by unfold dk; decide +kernel
theorem dX6_record_31 : dk cX6_record 31 34 (.getfield 143) 3 := by unfold dk; decide +kernel
theorem dX6_record_34 : dk cX6_record 34 35 (.iload_n 1) 1 := by unfold dk; decide +kernel
theorem dX6_record_35 : dk cX6_record 35 36 (.iaload) 1 := by unfold dk; decide +kernel
theorem dX6_record_36 : dk cX6_record 36 37 (.ireturn) 1 := by unfold dk; decide +kernel
theorem dX6_record_21 : bk cX6_record 21 24 37 (.ifCond .ne 16) (16) := by unfold bk; decide +kernel
theorem dX6_record_15 : bk cX6_record 15 18 20 (.if_icmp .lt 5) (5) := by unfold bk; decide +kernel
theorem dX6_record_1 : bk cX6_record 1 4 18 (.ifCond .lt 17) (17) := by unfold bk; decide +kernel
set_option maxHeartbeats 4000000 in
set_option maxRecDepth 100000 in
theorem kX6_record {l : Launch} {G : Gl} {E : En} {a0 : Nat} {a1 : Int32} {a2 : Int32} {σ σ' : Sg} {r : Int32} : fX6_record E a0 a1 a2 σ = some (r, σ') → CT l yX6_record cX6_record 3 (some .int) ({ frames := 0, cells := 0, slots := 0, locals := 0 } : Room) [.ref (G.1 + a0), .int a1, .int a2] G E σ (some (.int r)) σ' := by
  intro h
  refine CT_of (lv0 := [(0, .ref (G.1 + a0)), (1, .int a1), (2, .int a2)]) (by decide) (Nat.le_of_ble_eq_true rfl) rfl (fun κ hl hR hr C => ?_)
  have C : Cx κ G cX6_record RX6 3 := C
  revert h
  unfold fX6_record
  refine R_tk (fun ha0 => ?_)
  refine R_iload_n C 1 rfl dX6_record_0 ?_
  refine B_if_lt C dX6_record_1 ?_ ?_
  · refine R_iconst C (-1) dX6_record_18 (by decide) ?_
    exact R_iret C hr dX6_record_19
  · refine R_iload_n C 1 rfl dX6_record_4 ?_
    refine R_aload_n C 0 rfl dX6_record_5 ?_
    refine R_dr (fun x1 rx1 cx1 => ?_)
    refine R_getr C fl6_16 rfl ha0 rx1 dX6_record_6 ?_
    refine R_dr (fun x2 rx2 cx2 => ?_)
    refine R_getr C fl6_64 rfl cx1 rx2 dX6_record_9 ?_
    refine R_geti C fl6_68 rfl cx2 dX6_record_12 ?_
    refine B_icmp_lt C dX6_record_15 ?_ ?_
    · refine R_iload_n C 2 rfl dX6_record_20 ?_
      refine B_if_ne C dX6_record_21 ?_ ?_
      · refine R_iload_n C 2 rfl dX6_record_37 ?_
        refine R_iconst C (1) dX6_record_38 (by decide) ?_
        refine R_bdK (fun (w : Int32) (s : Sg) => V κ G (QQ κ G E (some (.int r)) σ') E s (false, 0, 0) 69 [] [.int w]) (fun w3 s4 => ?_) (fun w3 s4 Kw3 => ?_)
        · exact R_iret C hr dX6_record_69
        · refine B_icmp_ne C dX6_record_39 ?_ ?_
          · refine R_iconst C (-1) dX6_record_68 (by decide) ?_
            refine R_loc (lv2 := []) [] rfl ?_
            exact R_end (fun (w : Int32) (s : Sg) => V κ G (QQ κ G E (some (.int r)) σ') E s (false, 0, 0) 69 [] [.int w]) Kw3
          · refine R_aload_n C 0 rfl dX6_record_42 ?_
            refine R_getr C fl6_16 rfl ha0 rx1 dX6_record_43 ?_
            refine R_geti C fl6_79 rfl cx1 dX6_record_46 ?_
            refine R_iconst C (1) dX6_record_49 (by decide) ?_
            refine B_icmp_lt C dX6_record_50 ?_ ?_
            · refine R_iconst C (-1) dX6_record_68 (by decide) ?_
              refine R_loc (lv2 := []) [] rfl ?_
              exact R_end (fun (w : Int32) (s : Sg) => V κ G (QQ κ G E (some (.int r)) σ') E s (false, 0, 0) 69 [] [.int w]) Kw3
            · refine R_aload_n C 0 rfl dX6_record_53 ?_
              refine R_getr C fl6_16 rfl ha0 rx1 dX6_record_54 ?_
              refine R_dr (fun x5 rx5 cx5 => ?_)
              refine R_getr C fl6_115 rfl cx1 rx5 dX6_record_57 ?_
              refine R_dr (fun x6 rx6 cx6 => ?_)
              refine R_getr C fl6_146 rfl cx5 rx6 dX6_record_60 ?_
              refine R_iload_n C 1 rfl dX6_record_63 ?_
              refine R_ck (fun h7 => ?_)
              refine R_iald C cx6 h7 dX6_record_64 ?_
              refine R_goto C dX6_record_65 ?_
              refine R_loc (lv2 := []) [] rfl ?_
              exact R_end (fun (w : Int32) (s : Sg) => V κ G (QQ κ G E (some (.int r)) σ') E s (false, 0, 0) 69 [] [.int w]) Kw3
      · refine R_aload_n C 0 rfl dX6_record_24 ?_
        refine R_getr C fl6_16 rfl ha0 rx1 dX6_record_25 ?_
        refine R_getr C fl6_64 rfl cx1 rx2 dX6_record_28 ?_
        refine R_dr (fun x8 rx8 cx8 => ?_)
        refine R_getr C fl6_143 rfl cx2 rx8 dX6_record_31 ?_
        refine R_iload_n C 1 rfl dX6_record_34 ?_
        refine R_ck (fun h9 => ?_)
        refine R_iald C cx8 h9 dX6_record_35 ?_
        exact R_iret C hr dX6_record_36
    · refine R_iconst C (-1) dX6_record_18 (by decide) ?_
      exact R_iret C hr dX6_record_19
theorem dX6_isRun_0 : dk cX6_isRun 0 1 (.aload_n 0) 1 := by unfold dk; decide +kernel
theorem dX6_isRun_1 : dk cX6_isRun 1 4 (.getfield 16) 3 := by unfold dk; decide +kernel
theorem dX6_isRun_4 : dk cX6_isRun 4 7 (.getfield 79) 3 := by unfold dk; decide +kernel
theorem dX6_isRun_7 : dk cX6_isRun 7 8 (.iconst 1) 1 := by unfold dk; decide +kernel
theorem dX6_isRun_8 : bk cX6_isRun 8 11 33 (.if_icmp .lt 25) (25) := by unfold bk; decide +kernel
theorem dX6_isRun_33 : dk cX6_isRun 33 34 (.iconst 0) 1 := by unfold dk; decide +kernel
theorem dX6_isRun_11 : dk cX6_isRun 11 12 (.iload_n 1) 1 := by unfold dk; decide +kernel
theorem dX6_isRun_15 : dk cX6_isRun 15 16 (.iload_n 1) 1 := by unfold dk; decide +kernel
theorem dX6_isRun_16 : dk cX6_isRun 16 17 (.aload_n 0) 1 := by unfold dk; decide +kernel
theorem dX6_isRun_17 : dk cX6_isRun 17 20 (.getfield 16) 3 := by unfold dk; decide +kernel
theorem dX6_isRun_20 : dk cX6_isRun 20 23 (.getfield 115) 3 := by unfold dk; decide +kernel
theorem dX6_isRun_23 : dk cX6_isRun 23 26 (.getfield 119) 3 := by unfold dk; decide +kernel
theorem dX6_isRun_29 : dk cX6_isRun 29 30 (.iconst 1) 1 := by unfold dk; decide +kernel
theorem dX6_isRun_30 : bk cX6_isRun 30 33 34 (.goto 4) (4) := by unfold bk; decide +kernel
theorem dX6_isRun_26 : bk cX6_isRun 26 29 33 (.if_icmp .ge 7) (7) := by unfold bk; decide +kernel
theorem dX6_isRun_12 : bk cX6_isRun 12 15 33 (.ifCond .lt 21) (21) := by unfold bk; decide +kernel
theorem dX6_isRun_34 : dk cX6_isRun 34 35 (.ireturn) 1 := by unfold dk; decide +kernel
set_option maxHeartbeats 4000000 in
set_option maxRecDepth 100000 in
theorem kX6_isRun {l : Launch} {G : Gl} {E : En} {a0 : Nat} {a1 : Int32} {σ σ' : Sg} {r : Int32} : fX6_isRun E a0 a1 σ = some (r, σ') → CT l yX6_isRun cX6_isRun 2 (some .boolean) ({ frames := 0, cells := 0, slots := 0, locals := 0 } : Room) [.ref (G.1 + a0), .int a1] G E σ (some (.int r)) σ' := by
  intro h
  refine CT_of (lv0 := [(0, .ref (G.1 + a0)), (1, .int a1)]) (by decide) (Nat.le_of_ble_eq_true rfl) rfl (fun κ hl hR hr C => ?_)
  have C : Cx κ G cX6_isRun RX6 2 := C
  revert h
  unfold fX6_isRun
  refine R_tk (fun ha0 => ?_)
  refine R_aload_n C 0 rfl dX6_isRun_0 ?_
  refine R_dr (fun x1 rx1 cx1 => ?_)
  refine R_getr C fl6_16 rfl ha0 rx1 dX6_isRun_1 ?_
  refine R_geti C fl6_79 rfl cx1 dX6_isRun_4 ?_
  refine R_iconst C (1) dX6_isRun_7 (by decide) ?_
  refine R_bdK (fun (w : Int32) (s : Sg) => V κ G (QQ κ G E (some (.int r)) σ') E s (false, 0, 0) 34 [] [.int w]) (fun w2 s3 => ?_) (fun w2 s3 Kw2 => ?_)
  · refine R_kb (fun h5 => ?_)
    exact R_zret C hr h5 dX6_isRun_34
  · refine B_icmp_lt C dX6_isRun_8 ?_ ?_
    · refine R_iconst C (0) dX6_isRun_33 (by decide) ?_
      refine R_loc (lv2 := []) [] rfl ?_
      exact R_end (fun (w : Int32) (s : Sg) => V κ G (QQ κ G E (some (.int r)) σ') E s (false, 0, 0) 34 [] [.int w]) Kw2
    · refine R_iload_n C 1 rfl dX6_isRun_11 ?_
      refine B_if_lt C dX6_isRun_12 ?_ ?_
      · refine R_iconst C (0) dX6_isRun_33 (by decide) ?_
        refine R_loc (lv2 := []) [] rfl ?_
        exact R_end (fun (w : Int32) (s : Sg) => V κ G (QQ κ G E (some (.int r)) σ') E s (false, 0, 0) 34 [] [.int w]) Kw2
      · refine R_iload_n C 1 rfl dX6_isRun_15 ?_
        refine R_aload_n C 0 rfl dX6_isRun_16 ?_
        refine R_getr C fl6_16 rfl ha0 rx1 dX6_isRun_17 ?_
        refine R_dr (fun x4 rx4 cx4 => ?_)
        refine R_getr C fl6_115 rfl cx1 rx4 dX6_isRun_20 ?_
        refine R_geti C fl6_119 rfl cx4 dX6_isRun_23 ?_
        refine B_icmp_ge C dX6_isRun_26 ?_ ?_
        · refine R_iconst C (0) dX6_isRun_33 (by decide) ?_
          refine R_loc (lv2 := []) [] rfl ?_
          exact R_end (fun (w : Int32) (s : Sg) => V κ G (QQ κ G E (some (.int r)) σ') E s (false, 0, 0) 34 [] [.int w]) Kw2
        · refine R_iconst C (1) dX6_isRun_29 (by decide) ?_
          refine R_goto C dX6_isRun_30 ?_
          refine R_loc (lv2 := []) [] rfl ?_
          exact R_end (fun (w : Int32) (s : Sg) => V κ G (QQ κ G E (some (.int r)) σ') E s (false, 0, 0) 34 [] [.int w]) Kw2
theorem dX6_run_0 : dk cX6_run 0 1 (.aload_n 0) 1 := by unfold dk; decide +kernel
theorem dX6_run_1 : dk cX6_run 1 2 (.iload_n 1) 1 := by unfold dk; decide +kernel
theorem dX6_run_2 : dk cX6_run 2 5 (.invokevirtual 149) 3 := by unfold dk; decide +kernel
theorem dX6_run_14 : dk cX6_run 14 15 (.iconst (-1)) 1 := by unfold dk; decide +kernel
theorem dX6_run_15 : dk cX6_run 15 16 (.ireturn) 1 := by unfold dk; decide +kernel
theorem dX6_run_8 : dk cX6_run 8 9 (.iload_n 2) 1 := by unfold dk; decide +kernel
theorem dX6_run_9 : dk cX6_run 9 11 (.bipush (-2)) 2 := by unfold dk; decide +kernel
theorem dX6_run_16 : dk cX6_run 16 17 (.aload_n 0) 1 := by unfold dk; decide +kernel
theorem dX6_run_17 : dk cX6_run 17 20 (.getfield 16) 3 := by unfold dk; decide +kernel
theorem dX6_run_20 : dk cX6_run 20 23 (.getfield 115) 3 := by unfold dk; decide +kernel
theorem dX6_run_23 : dk cX6_run 23 24 (.iload_n 1) 1 := by unfold dk; decide +kernel
theorem dX6_run_24 : dk cX6_run 24 27 (.invokevirtual 153) 3 := by unfold dk; decide +kernel
theorem dX6_run_27 : dk cX6_run 27 28 (.istore_n 3) 1 := by unfold dk; decide +kernel
theorem dX6_run_28 : dk cX6_run 28 29 (.iload_n 2) 1 := by unfold dk; decide +kernel
theorem dX6_run_29 : dk cX6_run 29 31 (.bipush (-2)) 2 := by unfold dk; decide +kernel
theorem dX6_run_44 : dk cX6_run 44 45 (.iload_n 2) 1 := by unfold dk; decide +kernel
theorem dX6_run_45 : dk cX6_run 45 46 (.iconst (-1)) 1 := by unfold dk; decide +kernel
theorem dX6_run_62 : dk cX6_run 62 63 (.iload_n 2) 1 := by unfold dk; decide +kernel
theorem dX6_run_63 : dk cX6_run 63 64 (.aload_n 0) 1 := by unfold dk; decide +kernel
theorem dX6_run_64 : dk cX6_run 64 67 (.getfield 16) 3 := by unfold dk; decide +kernel
theorem dX6_run_67 : dk cX6_run 67 70 (.getfield 115) 3 := by unfold dk; decide +kernel
theorem dX6_run_70 : dk cX6_run 70 73 (.getfield 156) 3 := by unfold dk; decide +kernel
theorem dX6_run_73 : dk cX6_run 73 74 (.iload_n 1) 1 := by unfold dk; decide +kernel
theorem dX6_run_74 : dk cX6_run 74 75 (.iaload) 1 := by unfold dk; decide +kernel
theorem dX6_run_75 : bk cX6_run 75 78 90 (.if_icmp .ge 15) (15) := by unfold bk; decide +kernel
theorem dX6_run_90 : dk cX6_run 90 92 (.bipush (-3)) 2 := by unfold dk; decide +kernel
theorem dX6_run_78 : dk cX6_run 78 79 (.aload_n 0) 1 := by unfold dk; decide +kernel
theorem dX6_run_79 : dk cX6_run 79 82 (.getfield 16) 3 := by unfold dk; decide +kernel
theorem dX6_run_82 : dk cX6_run 82 83 (.iload_n 1) 1 := by unfold dk; decide +kernel
theorem dX6_run_83 : dk cX6_run 83 84 (.iload_n 2) 1 := by unfold dk; decide +kernel
theorem dX6_run_84 : dk cX6_run 84 87 (.invokevirtual 159) 3 := by unfold dk; decide +kernel
theorem dX6_run_87 : bk cX6_run 87 90 92 (.goto 5) (5) := by unfold bk; decide +kernel
theorem dX6_run_92 : dk cX6_run 92 93 (.ireturn) 1 := by unfold dk; decide +kernel
theorem dX6_run_49 : dk cX6_run 49 50 (.aload_n 0) 1 := by unfold dk; decide +kernel
theorem dX6_run_50 : dk cX6_run 50 53 (.getfield 16) 3 := by unfold dk; decide +kernel
theorem dX6_run_53 : dk cX6_run 53 56 (.getfield 115) 3 := by unfold dk; decide +kernel
theorem dX6_run_56 : dk cX6_run 56 59 (.getfield 156) 3 := by unfold dk; decide +kernel
theorem dX6_run_59 : dk cX6_run 59 60 (.iload_n 1) 1 := by unfold dk; decide +kernel
theorem dX6_run_60 : dk cX6_run 60 61 (.iaload) 1 := by unfold dk; decide +kernel
theorem dX6_run_61 : dk cX6_run 61 62 (.ireturn) 1 := by unfold dk; decide +kernel
theorem dX6_run_46 : bk cX6_run 46 49 62 (.if_icmp .ne 16) (16) := by unfold bk; decide +kernel
theorem dX6_run_34 : dk cX6_run 34 35 (.iload_n 3) 1 := by unfold dk; decide +kernel
theorem dX6_run_35 : bk cX6_run 35 38 42 (.ifCond .eq 7) (7) := by unfold bk; decide +kernel
theorem dX6_run_42 : dk cX6_run 42 43 (.iconst 0) 1 := by unfold dk; decide +kernel
theorem dX6_run_38 : dk cX6_run 38 39 (.iconst 1) 1 := by unfold dk; decide +kernel
theorem dX6_run_39 : bk cX6_run 39 42 43 (.goto 4) (4) := by unfold bk; decide +kernel
theorem dX6_run_43 : dk cX6_run 43 44 (.ireturn) 1 := by unfold dk; decide +kernel
theorem dX6_run_31 : bk cX6_run 31 34 44 (.if_icmp .ne 13) (13) := by unfold bk; decide +kernel
theorem dX6_run_11 : bk cX6_run 11 14 16 (.if_icmp .ge 5) (5) := by unfold bk; decide +kernel
theorem dX6_run_5 : bk cX6_run 5 8 14 (.ifCond .eq 9) (9) := by unfold bk; decide +kernel
set_option maxHeartbeats 4000000 in
set_option maxRecDepth 100000 in
theorem kX6_run {l : Launch} {G : Gl} {E : En} {a0 : Nat} {a1 : Int32} {a2 : Int32} {σ σ' : Sg} {r : Int32} : fX6_run E a0 a1 a2 σ = some (r, σ') → CT l yX6_run cX6_run 4 (some .int) ({ frames := 2, cells := 0, slots := 0, locals := 47 } : Room) [.ref (G.1 + a0), .int a1, .int a2] G E σ (some (.int r)) σ' := by
  intro h
  refine CT_of (lv0 := [(0, .ref (G.1 + a0)), (1, .int a1), (2, .int a2)]) (by decide) (Nat.le_of_ble_eq_true rfl) rfl (fun κ hl hR hr C => ?_)
  have C : Cx κ G cX6_run RX6 4 := C
  revert h
  unfold fX6_run
  refine R_tk (fun ha0 => ?_)
  refine R_aload_n C 0 rfl dX6_run_0 ?_
  refine R_iload_n C 1 rfl dX6_run_1 ?_
  refine R_bd (fun r3 s1 q2 => ?_)
  refine R_callVi [.int a1] [] C ml6_149 (kX6_isRun q2) (by rw [hR]; exact ⟨rfl, rfl, Nat.le_of_ble_eq_true rfl, Nat.le_of_ble_eq_true rfl, Nat.zero_le _, Nat.zero_le _⟩) ha0 rfl rfl (Nat.le_of_ble_eq_true rfl) dX6_run_2 ?_
  refine B_if_eq C dX6_run_5 ?_ ?_
  · refine R_iconst C (-1) dX6_run_14 (by decide) ?_
    exact R_iret C hr dX6_run_15
  · refine R_iload_n C 2 rfl dX6_run_8 ?_
    refine R_bipush C (-2) dX6_run_9 (by decide) ?_
    refine B_icmp_ge C dX6_run_11 ?_ ?_
    · refine R_aload_n C 0 rfl dX6_run_16 ?_
      refine R_dr (fun x4 rx4 cx4 => ?_)
      refine R_getr C fl6_16 rfl ha0 rx4 dX6_run_17 ?_
      refine R_dr (fun x5 rx5 cx5 => ?_)
      refine R_getr C fl6_115 rfl cx4 rx5 dX6_run_20 ?_
      refine R_iload_n C 1 rfl dX6_run_23 ?_
      refine R_bd (fun r8 s6 q7 => ?_)
      refine R_callVi [.int a1] [] C ml6_153 (kX0_falls q7) (by rw [hR]; exact ⟨rfl, rfl, Nat.le_of_ble_eq_true rfl, Nat.le_of_ble_eq_true rfl, Nat.zero_le _, Nat.zero_le _⟩) cx5 rfl rfl (Nat.le_of_ble_eq_true rfl) dX6_run_24 ?_
      refine R_istore_n (lv2 := [(3, .int r8), (0, .ref (G.1 + a0)), (1, .int a1), (2, .int a2)]) C dX6_run_27 rfl (by decide) rfl ?_
      refine R_iload_n C 3 rfl dX6_run_28 ?_
      refine R_bipush C (-2) dX6_run_29 (by decide) ?_
      refine B_icmp_ne C dX6_run_31 ?_ ?_
      · refine R_iload_n C 3 rfl dX6_run_44 ?_
        refine R_iconst C (-1) dX6_run_45 (by decide) ?_
        refine B_icmp_ne C dX6_run_46 ?_ ?_
        · refine R_iload_n C 3 rfl dX6_run_62 ?_
          refine R_aload_n C 1 rfl dX6_run_63 ?_
          refine R_getr C fl6_16 rfl ha0 rx4 dX6_run_64 ?_
          refine R_getr C fl6_115 rfl cx4 rx5 dX6_run_67 ?_
          refine R_dr (fun x9 rx9 cx9 => ?_)
          refine R_getr C fl6_156 rfl cx5 rx9 dX6_run_70 ?_
          refine R_iload_n C 2 rfl dX6_run_73 ?_
          refine R_ck (fun h10 => ?_)
          refine R_iald C cx9 h10 dX6_run_74 ?_
          refine R_bdK (fun (w : Int32) (s : Sg) => V κ G (QQ κ G E (some (.int r)) σ') E s (false, 0, 0) 92 [] [.int w]) (fun w11 s12 => ?_) (fun w11 s12 Kw11 => ?_)
          · exact R_iret C hr dX6_run_92
          · refine B_icmp_ge C dX6_run_75 ?_ ?_
            · refine R_bipush C (-3) dX6_run_90 (by decide) ?_
              refine R_loc (lv2 := []) [] rfl ?_
              exact R_end (fun (w : Int32) (s : Sg) => V κ G (QQ κ G E (some (.int r)) σ') E s (false, 0, 0) 92 [] [.int w]) Kw11
            · refine R_aload_n C 1 rfl dX6_run_78 ?_
              refine R_getr C fl6_16 rfl ha0 rx4 dX6_run_79 ?_
              refine R_iload_n C 2 rfl dX6_run_82 ?_
              refine R_iload_n C 3 rfl dX6_run_83 ?_
              refine R_bd (fun r15 s13 q14 => ?_)
              refine R_callVi [.int a1, .int a2] [] C ml6_159 (kX4_grownRecord q14) (by rw [hR]; exact ⟨rfl, rfl, Nat.le_of_ble_eq_true rfl, Nat.le_of_ble_eq_true rfl, Nat.zero_le _, Nat.zero_le _⟩) cx4 rfl rfl (Nat.le_of_ble_eq_true rfl) dX6_run_84 ?_
              refine R_goto C dX6_run_87 ?_
              refine R_loc (lv2 := []) [] rfl ?_
              exact R_end (fun (w : Int32) (s : Sg) => V κ G (QQ κ G E (some (.int r)) σ') E s (false, 0, 0) 92 [] [.int w]) Kw11
        · refine R_aload_n C 1 rfl dX6_run_49 ?_
          refine R_getr C fl6_16 rfl ha0 rx4 dX6_run_50 ?_
          refine R_getr C fl6_115 rfl cx4 rx5 dX6_run_53 ?_
          refine R_dr (fun x16 rx16 cx16 => ?_)
          refine R_getr C fl6_156 rfl cx5 rx16 dX6_run_56 ?_
          refine R_iload_n C 2 rfl dX6_run_59 ?_
          refine R_ck (fun h17 => ?_)
          refine R_iald C cx16 h17 dX6_run_60 ?_
          exact R_iret C hr dX6_run_61
      · refine R_iload_n C 0 rfl dX6_run_34 ?_
        refine R_bdK (fun (w : Int32) (s : Sg) => V κ G (QQ κ G E (some (.int r)) σ') E s (false, 0, 0) 43 [] [.int w]) (fun w18 s19 => ?_) (fun w18 s19 Kw18 => ?_)
        · exact R_iret C hr dX6_run_43
        · refine B_if_eq C dX6_run_35 ?_ ?_
          · refine R_iconst C (0) dX6_run_42 (by decide) ?_
            refine R_loc (lv2 := []) [] rfl ?_
            exact R_end (fun (w : Int32) (s : Sg) => V κ G (QQ κ G E (some (.int r)) σ') E s (false, 0, 0) 43 [] [.int w]) Kw18
          · refine R_iconst C (1) dX6_run_38 (by decide) ?_
            refine R_goto C dX6_run_39 ?_
            refine R_loc (lv2 := []) [] rfl ?_
            exact R_end (fun (w : Int32) (s : Sg) => V κ G (QQ κ G E (some (.int r)) σ') E s (false, 0, 0) 43 [] [.int w]) Kw18
    · refine R_iconst C (-1) dX6_run_14 (by decide) ?_
      exact R_iret C hr dX6_run_15
