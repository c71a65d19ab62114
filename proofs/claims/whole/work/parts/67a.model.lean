theorem dX7_in_0 : dk cX7_in 0 1 (.iload_n 0) 1 := by unfold dk; decide +kernel
theorem dX7_in_1 : dk cX7_in 1 2 (.iload_n 1) 1 := by unfold dk; decide +kernel
theorem dX7_in_2 : bk cX7_in 2 5 14 (.if_icmp .lt 12) (12) := by unfold bk; decide +kernel
theorem dX7_in_14 : dk cX7_in 14 15 (.iconst 0) 1 := by unfold dk; decide +kernel
theorem dX7_in_5 : dk cX7_in 5 6 (.iload_n 0) 1 := by unfold dk; decide +kernel
theorem dX7_in_6 : dk cX7_in 6 7 (.iload_n 2) 1 := by unfold dk; decide +kernel
theorem dX7_in_10 : dk cX7_in 10 11 (.iconst 1) 1 := by unfold dk; decide +kernel
theorem dX7_in_11 : bk cX7_in 11 14 15 (.goto 4) (4) := by unfold bk; decide +kernel
theorem dX7_in_7 : bk cX7_in 7 10 14 (.if_icmp .gt 7) (7) := by unfold bk; decide +kernel
theorem dX7_in_15 : dk cX7_in 15 16 (.ireturn) 1 := by unfold dk; decide +kernel
set_option maxHeartbeats 4000000 in
set_option maxRecDepth 100000 in
theorem kX7_in {l : Launch} {G : Gl} {E : En} {a0 : Int32} {a1 : Int32} {a2 : Int32} {σ σ' : Sg} {r : Int32} : fX7_in E a0 a1 a2 σ = some (r, σ') → CT l yX7_in cX7_in 3 (some .boolean) ({ frames := 0, cells := 0, slots := 0, locals := 0 } : Room) [.int a0, .int a1, .int a2] G E σ (some (.int r)) σ' := by
  intro h
  refine CT_of (lv0 := [(0, .int a0), (1, .int a1), (2, .int a2)]) (by decide) (Nat.le_of_ble_eq_true rfl) rfl (fun κ hl hR hr C => ?_)
  have C : Cx κ G cX7_in RX7 3 := C
  revert h
  unfold fX7_in
  refine R_iload_n C 0 rfl dX7_in_0 ?_
  refine R_iload_n C 1 rfl dX7_in_1 ?_
  refine R_bdK (fun (w : Int32) (s : Sg) => V κ G (QQ κ G E (some (.int r)) σ') E s (false, 0, 0) 15 [] [.int w]) (fun w1 s2 => ?_) (fun w1 s2 Kw1 => ?_)
  · refine R_kb (fun h3 => ?_)
    exact R_zret C hr h3 dX7_in_15
  · refine B_icmp_lt C dX7_in_2 ?_ ?_
    · refine R_iconst C (0) dX7_in_14 (by decide) ?_
      refine R_loc (lv2 := []) [] rfl ?_
      exact R_end (fun (w : Int32) (s : Sg) => V κ G (QQ κ G E (some (.int r)) σ') E s (false, 0, 0) 15 [] [.int w]) Kw1
    · refine R_iload_n C 0 rfl dX7_in_5 ?_
      refine R_iload_n C 2 rfl dX7_in_6 ?_
      refine B_icmp_gt C dX7_in_7 ?_ ?_
      · refine R_iconst C (0) dX7_in_14 (by decide) ?_
        refine R_loc (lv2 := []) [] rfl ?_
        exact R_end (fun (w : Int32) (s : Sg) => V κ G (QQ κ G E (some (.int r)) σ') E s (false, 0, 0) 15 [] [.int w]) Kw1
      · refine R_iconst C (1) dX7_in_10 (by decide) ?_
        refine R_goto C dX7_in_11 ?_
        refine R_loc (lv2 := []) [] rfl ?_
        exact R_end (fun (w : Int32) (s : Sg) => V κ G (QQ κ G E (some (.int r)) σ') E s (false, 0, 0) 15 [] [.int w]) Kw1
theorem dX7_truth_0 : dk cX7_truth 0 1 (.iload_n 0) 1 := by unfold dk; decide +kernel
theorem dX7_truth_1 : bk cX7_truth 1 4 8 (.ifCond .eq 7) (7) := by unfold bk; decide +kernel
theorem dX7_truth_8 : dk cX7_truth 8 9 (.iconst 0) 1 := by unfold dk; decide +kernel
theorem dX7_truth_4 : dk cX7_truth 4 5 (.iconst 1) 1 := by unfold dk; decide +kernel
theorem dX7_truth_5 : bk cX7_truth 5 8 9 (.goto 4) (4) := by unfold bk; decide +kernel
theorem dX7_truth_9 : dk cX7_truth 9 10 (.ireturn) 1 := by unfold dk; decide +kernel
set_option maxHeartbeats 4000000 in
set_option maxRecDepth 100000 in
theorem kX7_truth {l : Launch} {G : Gl} {E : En} {a0 : Int32} {σ σ' : Sg} {r : Int32} : fX7_truth E a0 σ = some (r, σ') → CT l yX7_truth cX7_truth 1 (some .int) ({ frames := 0, cells := 0, slots := 0, locals := 0 } : Room) [.int a0] G E σ (some (.int r)) σ' := by
  intro h
  refine CT_of (lv0 := [(0, .int a0)]) (by decide) (Nat.le_of_ble_eq_true rfl) rfl (fun κ hl hR hr C => ?_)
  have C : Cx κ G cX7_truth RX7 1 := C
  revert h
  unfold fX7_truth
  refine R_iload_n C 0 rfl dX7_truth_0 ?_
  refine R_bdK (fun (w : Int32) (s : Sg) => V κ G (QQ κ G E (some (.int r)) σ') E s (false, 0, 0) 9 [] [.int w]) (fun w1 s2 => ?_) (fun w1 s2 Kw1 => ?_)
  · exact R_iret C hr dX7_truth_9
  · refine B_if_eq C dX7_truth_1 ?_ ?_
    · refine R_iconst C (0) dX7_truth_8 (by decide) ?_
      refine R_loc (lv2 := []) [] rfl ?_
      exact R_end (fun (w : Int32) (s : Sg) => V κ G (QQ κ G E (some (.int r)) σ') E s (false, 0, 0) 9 [] [.int w]) Kw1
    · refine R_iconst C (1) dX7_truth_4 (by decide) ?_
      refine R_goto C dX7_truth_5 ?_
      refine R_loc (lv2 := []) [] rfl ?_
      exact R_end (fun (w : Int32) (s : Sg) => V κ G (QQ κ G E (some (.int r)) σ') E s (false, 0, 0) 9 [] [.int w]) Kw1
theorem dX7_keepsIn_0 : dk cX7_keepsIn 0 1 (.iconst 0) 1 := by unfold dk; decide +kernel
theorem dX7_keepsIn_1 : dk cX7_keepsIn 1 2 (.istore_n 3) 1 := by unfold dk; decide +kernel
theorem dX7_keepsIn_2 : dk cX7_keepsIn 2 3 (.iload_n 3) 1 := by unfold dk; decide +kernel
theorem dX7_keepsIn_3 : dk cX7_keepsIn 3 6 (.sipush 7827) 3 := by unfold dk; decide +kernel
theorem dX7_keepsIn_9 : dk cX7_keepsIn 9 10 (.aload_n 1) 1 := by unfold dk; decide +kernel
theorem dX7_keepsIn_10 : dk cX7_keepsIn 10 11 (.iload_n 2) 1 := by unfold dk; decide +kernel
theorem dX7_keepsIn_11 : dk cX7_keepsIn 11 12 (.iload_n 3) 1 := by unfold dk; decide +kernel
theorem dX7_keepsIn_12 : dk cX7_keepsIn 12 13 (.iadd) 1 := by unfold dk; decide +kernel
theorem dX7_keepsIn_13 : dk cX7_keepsIn 13 14 (.aload_n 0) 1 := by unfold dk; decide +kernel
theorem dX7_keepsIn_14 : dk cX7_keepsIn 14 17 (.getfield 9) 3 := by unfold dk; decide +kernel
theorem dX7_keepsIn_17 : dk cX7_keepsIn 17 18 (.iload_n 3) 1 := by unfold dk; decide +kernel
theorem dX7_keepsIn_18 : dk cX7_keepsIn 18 19 (.iaload) 1 := by unfold dk; decide +kernel
theorem dX7_keepsIn_19 : dk cX7_keepsIn 19 20 (.iastore) 1 := by unfold dk; decide +kernel
theorem dX7_keepsIn_20 : dk cX7_keepsIn 20 23 (.iinc 3 1) 3 := by unfold dk; decide +kernel
theorem dX7_keepsIn_23 : bk cX7_keepsIn 23 26 2 (.goto (-21)) (-21) := by unfold bk; decide +kernel
theorem dX7_keepsIn_6 : bk cX7_keepsIn 6 9 26 (.if_icmp .ge 20) (20) := by unfold bk; decide +kernel
theorem dX7_keepsIn_26 : dk cX7_keepsIn 26 27 (.return_) 1 := by unfold dk; decide +kernel
set_option maxHeartbeats 4000000 in
set_option maxRecDepth 100000 in
theorem kX7_keepsIn {l : Launch} {G : Gl} {E : En} {a0 : Nat} {a1 : Nat} {a2 : Int32} {σ σ' : Sg} : fX7_keepsIn E a0 a1 a2 σ = some σ' → CT l yX7_keepsIn cX7_keepsIn 4 none ({ frames := 0, cells := 0, slots := 0, locals := 0 } : Room) [.ref (G.1 + a0), .ref (G.1 + a1), .int a2] G E σ none σ' := by
  intro h
  refine CT_of (lv0 := [(0, .ref (G.1 + a0)), (1, .ref (G.1 + a1)), (2, .int a2)]) (by decide) (Nat.le_of_ble_eq_true rfl) rfl (fun κ hl hR hr C => ?_)
  have C : Cx κ G cX7_keepsIn RX7 4 := C
  revert h
  unfold fX7_keepsIn
  refine R_tk (fun ha0 => ?_)
  refine R_tk (fun ha1 => ?_)
  refine R_iconst C (0) dX7_keepsIn_0 (by decide) ?_
  refine R_istore_n (lv2 := [(3, .int (0 : Int32)), (0, .ref (G.1 + a0)), (1, .ref (G.1 + a1)), (2, .int a2)]) C dX7_keepsIn_1 rfl (by decide) rfl ?_
  refine R_loc (lv2 := [(0, .ref (G.1 + a0)), (1, .ref (G.1 + a1)), (2, .int a2), (3, .int (0 : Int32))]) [1, 2, 3, 0] rfl ?_
  refine R_loop (fun (a : (Int32) × Sg) => V κ G (QQ κ G E none σ') E a.2 (false, 0, 0) 2 [(0, .ref (G.1 + a0)), (1, .ref (G.1 + a1)), (2, .int a2), (3, .int a.1)] []) (fun (o : (Int32)) (s : Sg) => V κ G (QQ κ G E none σ') E s (false, 0, 0) 26 [] []) ((0 : Int32), σ) (fun o12 s13 => ?_) (fun rec I6 a b4 s5 K3 => ?_)
  · exact R_vret C hr dX7_keepsIn_26
  · obtain ⟨v1, s2⟩ := a
    show bX7_keepsIn_2 E a0 a2 a1 (fun u0 t => rec (u0, t)) v1 s2 = some (b4, s5) → V κ G (QQ κ G E none σ') E s2 (false, 0, 0) 2 [(0, .ref (G.1 + a0)), (1, .ref (G.1 + a1)), (2, .int a2), (3, .int v1)] []
    unfold bX7_keepsIn_2
    refine R_iload_n C 3 rfl dX7_keepsIn_2 ?_
    refine R_sipush C (7827) dX7_keepsIn_3 (by decide) ?_
    refine B_icmp_ge C dX7_keepsIn_6 ?_ ?_
    · refine R_loc (lv2 := []) [] rfl ?_
      exact R_end (fun (o : (Int32)) (s : Sg) => V κ G (QQ κ G E none σ') E s (false, 0, 0) 26 [] []) K3
    · refine R_aload_n C 1 rfl dX7_keepsIn_9 ?_
      refine R_iload_n C 2 rfl dX7_keepsIn_10 ?_
      refine R_iload_n C 3 rfl dX7_keepsIn_11 ?_
      refine R_iadd C dX7_keepsIn_12 ?_
      refine R_aload_n C 0 rfl dX7_keepsIn_13 ?_
      refine R_dr (fun x7 rx7 cx7 => ?_)
      refine R_getr C fl7_9 rfl ha0 rx7 dX7_keepsIn_14 ?_
      refine R_iload_n C 3 rfl dX7_keepsIn_17 ?_
      refine R_ck (fun h8 => ?_)
      refine R_iald C cx7 h8 dX7_keepsIn_18 ?_
      refine R_ck (fun h9 => ?_)
      refine S_iast C ha1 h9 dX7_keepsIn_19 (fun s10 => ?_)
      refine S_iinc (fun v11 => [(3, .int v11), (0, .ref (G.1 + a0)), (1, .ref (G.1 + a1)), (2, .int a2)]) 3 C dX7_keepsIn_20 rfl (by decide) (by decide) (fun _ => rfl) (fun v11 => ?_)
      refine R_goto C dX7_keepsIn_23 ?_
      refine R_loc (lv2 := [(0, .ref (G.1 + a0)), (1, .ref (G.1 + a1)), (2, .int a2), (3, .int v11)]) [1, 2, 3, 0] rfl ?_
      exact I6 (v11, s10) b4 s5 K3
theorem dX7_laysFrom_0 : dk cX7_laysFrom 0 1 (.iconst 0) 1 := by unfold dk; decide +kernel
theorem dX7_laysFrom_1 : dk cX7_laysFrom 1 2 (.istore_n 3) 1 := by unfold dk; decide +kernel
theorem dX7_laysFrom_2 : dk cX7_laysFrom 2 3 (.iload_n 3) 1 := by unfold dk; decide +kernel
theorem dX7_laysFrom_3 : dk cX7_laysFrom 3 6 (.sipush 7827) 3 := by unfold dk; decide +kernel
theorem dX7_laysFrom_9 : dk cX7_laysFrom 9 10 (.aload_n 0) 1 := by unfold dk; decide +kernel
theorem dX7_laysFrom_10 : dk cX7_laysFrom 10 13 (.getfield 9) 3 := by unfold dk; decide +kernel
theorem dX7_laysFrom_13 : dk cX7_laysFrom 13 14 (.iload_n 3) 1 := by unfold dk; decide +kernel
theorem dX7_laysFrom_14 : dk cX7_laysFrom 14 15 (.aload_n 1) 1 := by unfold dk; decide +kernel
theorem dX7_laysFrom_15 : dk cX7_laysFrom 15 16 (.iload_n 2) 1 := by unfold dk; decide +kernel
theorem dX7_laysFrom_16 : dk cX7_laysFrom 16 17 (.iload_n 3) 1 := by unfold dk; decide +kernel
theorem dX7_laysFrom_17 : dk cX7_laysFrom 17 18 (.iadd) 1 := by unfold dk; decide +kernel
theorem dX7_laysFrom_18 : dk cX7_laysFrom 18 19 (.iaload) 1 := by unfold dk; decide +kernel
theorem dX7_laysFrom_19 : dk cX7_laysFrom 19 20 (.iastore) 1 := by unfold dk; decide +kernel
theorem dX7_laysFrom_20 : dk cX7_laysFrom 20 23 (.iinc 3 1) 3 := by unfold dk; decide +kernel
theorem dX7_laysFrom_23 : bk cX7_laysFrom 23 26 2 (.goto (-21)) (-21) := by unfold bk; decide +kernel
theorem dX7_laysFrom_6 : bk cX7_laysFrom 6 9 26 (.if_icmp .ge 20) (20) := by unfold bk; decide +kernel
theorem dX7_laysFrom_26 : dk cX7_laysFrom 26 27 (.return_) 1 := by unfold dk; decide +kernel
set_option maxHeartbeats 4000000 in
set_option maxRecDepth 100000 in
theorem kX7_laysFrom {l : Launch} {G : Gl} {E : En} {a0 : Nat} {a1 : Nat} {a2 : Int32} {σ σ' : Sg} : fX7_laysFrom E a0 a1 a2 σ = some σ' → CT l yX7_laysFrom cX7_laysFrom 4 none ({ frames := 0, cells := 0, slots := 0, locals := 0 } : Room) [.ref (G.1 + a0), .ref (G.1 + a1), .int a2] G E σ none σ' := by
  intro h
  refine CT_of (lv0 := [(0, .ref (G.1 + a0)), (1, .ref (G.1 + a1)), (2, .int a2)]) (by decide) (Nat.le_of_ble_eq_true rfl) rfl (fun κ hl hR hr C => ?_)
  have C : Cx κ G cX7_laysFrom RX7 4 := C
  revert h
  unfold fX7_laysFrom
  refine R_tk (fun ha0 => ?_)
  refine R_tk (fun ha1 => ?_)
  refine R_iconst C (0) dX7_laysFrom_0 (by decide) ?_
  refine R_istore_n (lv2 := [(3, .int (0 : Int32)), (0, .ref (G.1 + a0)), (1, .ref (G.1 + a1)), (2, .int a2)]) C dX7_laysFrom_1 rfl (by decide) rfl ?_
  refine R_loc (lv2 := [(0, .ref (G.1 + a0)), (1, .ref (G.1 + a1)), (2, .int a2), (3, .int (0 : Int32))]) [1, 2, 3, 0] rfl ?_
  refine R_loop (fun (a : (Int32) × Sg) => V κ G (QQ κ G E none σ') E a.2 (false, 0, 0) 2 [(0, .ref (G.1 + a0)), (1, .ref (G.1 + a1)), (2, .int a2), (3, .int a.1)] []) (fun (o : (Int32)) (s : Sg) => V κ G (QQ κ G E none σ') E s (false, 0, 0) 26 [] []) ((0 : Int32), σ) (fun o12 s13 => ?_) (fun rec I6 a b4 s5 K3 => ?_)
  · exact R_vret C hr dX7_laysFrom_26
  · obtain ⟨v1, s2⟩ := a
    show bX7_laysFrom_2 E a0 a2 a1 (fun u0 t => rec (u0, t)) v1 s2 = some (b4, s5) → V κ G (QQ κ G E none σ') E s2 (false, 0, 0) 2 [(0, .ref (G.1 + a0)), (1, .ref (G.1 + a1)), (2, .int a2), (3, .int v1)] []
    unfold bX7_laysFrom_2
    refine R_iload_n C 3 rfl dX7_laysFrom_2 ?_
    refine R_sipush C (7827) dX7_laysFrom_3 (by decide) ?_
    refine B_icmp_ge C dX7_laysFrom_6 ?_ ?_
    · refine R_loc (lv2 := []) [] rfl ?_
      exact R_end (fun (o : (Int32)) (s : Sg) => V κ G (QQ κ G E none σ') E s (false, 0, 0) 26 [] []) K3
    · refine R_aload_n C 0 rfl dX7_laysFrom_9 ?_
      refine R_dr (fun x7 rx7 cx7 => ?_)
      refine R_getr C fl7_9 rfl ha0 rx7 dX7_laysFrom_10 ?_
      refine R_iload_n C 3 rfl dX7_laysFrom_13 ?_
      refine R_aload_n C 1 rfl dX7_laysFrom_14 ?_
      refine R_iload_n C 2 rfl dX7_laysFrom_15 ?_
      refine R_iload_n C 3 rfl dX7_laysFrom_16 ?_
      refine R_iadd C dX7_laysFrom_17 ?_
      refine R_ck (fun h8 => ?_)
      refine R_iald C ha1 h8 dX7_laysFrom_18 ?_
      refine R_ck (fun h9 => ?_)
      refine S_iast C cx7 h9 dX7_laysFrom_19 (fun s10 => ?_)
      refine S_iinc (fun v11 => [(3, .int v11), (0, .ref (G.1 + a0)), (1, .ref (G.1 + a1)), (2, .int a2)]) 3 C dX7_laysFrom_20 rfl (by decide) (by decide) (fun _ => rfl) (fun v11 => ?_)
      refine R_goto C dX7_laysFrom_23 ?_
      refine R_loc (lv2 := [(0, .ref (G.1 + a0)), (1, .ref (G.1 + a1)), (2, .int a2), (3, .int v11)]) [1, 2, 3, 0] rfl ?_
      exact I6 (v11, s10) b4 s5 K3
theorem dX7_remembers_0 : dk cX7_remembers 0 1 (.aload_n 0) 1 := by unfold dk; decide +kernel
theorem dX7_remembers_1 : dk cX7_remembers 1 4 (.getfield 75) 3 := by unfold dk; decide +kernel
theorem dX7_remembers_4 : dk cX7_remembers 4 6 (.bipush 8) 2 := by unfold dk; decide +kernel
theorem dX7_remembers_6 : bk cX7_remembers 6 9 51 (.if_icmp .ne 45) (45) := by unfold bk; decide +kernel
theorem dX7_remembers_9 : dk cX7_remembers 9 12 (.sipush 7827) 3 := by unfold dk; decide +kernel
theorem dX7_remembers_12 : dk cX7_remembers 12 13 (.istore_n 1) 1 := by unfold dk; decide +kernel
theorem dX7_remembers_13 : dk cX7_remembers 13 14 (.iload_n 1) 1 := by unfold dk; decide +kernel
theorem dX7_remembers_14 : dk cX7_remembers 14 16 (.ldc 16) 2 := by unfold dk; decide +kernel
theorem dX7_remembers_19 : dk cX7_remembers 19 20 (.aload_n 0) 1 := by unfold dk; decide +kernel
theorem dX7_remembers_20 : dk cX7_remembers 20 23 (.getfield 17) 3 := by unfold dk; decide +kernel
theorem dX7_remembers_23 : dk cX7_remembers 23 24 (.iload_n 1) 1 := by unfold dk; decide +kernel
theorem dX7_remembers_24 : dk cX7_remembers 24 27 (.sipush 7827) 3 := by unfold dk; decide +kernel
theorem dX7_remembers_27 : dk cX7_remembers 27 28 (.isub) 1 := by unfold dk; decide +kernel
theorem dX7_remembers_28 : dk cX7_remembers 28 29 (.aload_n 0) 1 := by unfold dk; decide +kernel
theorem dX7_remembers_29 : dk cX7_remembers 29 32 (.getfield 17) 3 := by unfold dk; decide +kernel
theorem dX7_remembers_32 : dk cX7_remembers 32 33 (.iload_n 1) 1 := by unfold dk; decide +kernel
theorem dX7_remembers_33 : dk cX7_remembers 33 34 (.iaload) 1 := by unfold dk; decide +kernel
theorem dX7_remembers_34 : dk cX7_remembers 34 35 (.iastore) 1 := by unfold dk; decide +kernel
theorem dX7_remembers_35 : dk cX7_remembers 35 38 (.iinc 1 1) 3 := by unfold dk; decide +kernel
theorem dX7_remembers_38 : bk cX7_remembers 38 41 13 (.goto (-25)) (-25) := by unfold bk; decide +kernel
theorem dX7_remembers_16 : bk cX7_remembers 16 19 41 (.if_icmp .ge 25) (25) := by unfold bk; decide +kernel
theorem dX7_remembers_41 : dk cX7_remembers 41 42 (.aload_n 0) 1 := by unfold dk; decide +kernel
theorem dX7_remembers_42 : dk cX7_remembers 42 43 (.dup) 1 := by unfold dk; decide +kernel
theorem dX7_remembers_43 : dk cX7_remembers 43 46 (.getfield 75) 3 := by unfold dk; decide +kernel
theorem dX7_remembers_46 : dk cX7_remembers 46 47 (.iconst 1) 1 := by unfold dk; decide +kernel
theorem dX7_remembers_47 : dk cX7_remembers 47 48 (.isub) 1 := by unfold dk; decide +kernel
theorem dX7_remembers_48 : dk cX7_remembers 48 51 (.putfield 75) 3 := by unfold dk; decide +kernel
theorem dX7_remembers_51 : dk cX7_remembers 51 52 (.aload_n 0) 1 := by unfold dk; decide +kernel
theorem dX7_remembers_52 : dk cX7_remembers 52 53 (.aload_n 0) 1 := by unfold dk; decide +kernel
theorem dX7_remembers_53 : dk cX7_remembers 53 56 (.getfield 17) 3 := by unfold dk; decide +kernel
theorem dX7_remembers_56 : dk cX7_remembers 56 59 (.sipush 7827) 3 := by unfold dk; decide +kernel
theorem dX7_remembers_59 : dk cX7_remembers 59 60 (.aload_n 0) 1 := by unfold dk; decide +kernel
theorem dX7_remembers_60 : dk cX7_remembers 60 63 (.getfield 75) 3 := by unfold dk; decide +kernel
theorem dX7_remembers_63 : dk cX7_remembers 63 64 (.imul) 1 := by unfold dk; decide +kernel
theorem dX7_remembers_64 : dk cX7_remembers 64 67 (.invokevirtual 79) 3 := by unfold dk; decide +kernel
theorem dX7_remembers_67 : dk cX7_remembers 67 68 (.aload_n 0) 1 := by unfold dk; decide +kernel
theorem dX7_remembers_68 : dk cX7_remembers 68 69 (.dup) 1 := by unfold dk; decide +kernel
theorem dX7_remembers_69 : dk cX7_remembers 69 72 (.getfield 75) 3 := by unfold dk; decide +kernel
theorem dX7_remembers_72 : dk cX7_remembers 72 73 (.iconst 1) 1 := by unfold dk; decide +kernel
theorem dX7_remembers_73 : dk cX7_remembers 73 74 (.iadd) 1 := by unfold dk; decide +kernel
theorem dX7_remembers_74 : dk cX7_remembers 74 77 (.putfield 75) 3 := by unfold dk; decide +kernel
theorem dX7_remembers_77 : dk cX7_remembers 77 78 (.return_) 1 := by unfold dk; decide +kernel
set_option maxHeartbeats 4000000 in
set_option maxRecDepth 100000 in
theorem kX7_remembers {l : Launch} {G : Gl} {E : En} {a0 : Nat} {σ σ' : Sg} : fX7_remembers E a0 σ = some σ' → CT l yX7_remembers cX7_remembers 2 none ({ frames := 1, cells := 0, slots := 0, locals := 23 } : Room) [.ref (G.1 + a0)] G E σ none σ' := by
  intro h
  refine CT_of (lv0 := [(0, .ref (G.1 + a0))]) (by decide) (Nat.le_of_ble_eq_true rfl) rfl (fun κ hl hR hr C => ?_)
  have C : Cx κ G cX7_remembers RX7 2 := C
  revert h
  unfold fX7_remembers
  refine R_tk (fun ha0 => ?_)
  refine R_aload_n C 0 rfl dX7_remembers_0 ?_
  refine R_geti C fl7_75 rfl ha0 dX7_remembers_1 ?_
  refine R_bipush C (8) dX7_remembers_4 (by decide) ?_
  refine R_bdK (fun (w : Unit) (s : Sg) => V κ G (QQ κ G E none σ') E s (false, 0, 0) 51 [(0, .ref (G.1 + a0))] []) (fun w1 s2 => ?_) (fun w1 s2 Kw1 => ?_)
  · refine R_aload_n C 0 rfl dX7_remembers_51 ?_
    refine R_aload_n C 0 rfl dX7_remembers_52 ?_
    refine R_dr (fun x17 rx17 cx17 => ?_)
    refine R_getr C fl7_17 rfl ha0 rx17 dX7_remembers_53 ?_
    refine R_sipush C (7827) dX7_remembers_56 (by decide) ?_
    refine R_aload_n C 0 rfl dX7_remembers_59 ?_
    refine R_geti C fl7_75 rfl ha0 dX7_remembers_60 ?_
    refine R_imul C dX7_remembers_63 ?_
    refine R_bv (fun s18 q19 => ?_)
    refine R_callVv [.ref (G.1 + x17), .int ((7827 : Int32) * (gi s2 a0 4))] [] C ml7_79 (kX7_keepsIn q19) (by rw [hR]; exact ⟨rfl, rfl, Nat.le_of_ble_eq_true rfl, Nat.le_of_ble_eq_true rfl, Nat.zero_le _, Nat.zero_le _⟩) ha0 rfl rfl (Nat.le_of_ble_eq_true rfl) dX7_remembers_64 ?_
    refine R_aload_n C 0 rfl dX7_remembers_67 ?_
    refine R_dup C dX7_remembers_68 rfl ?_
    refine R_geti C fl7_75 rfl ha0 dX7_remembers_69 ?_
    refine R_iconst C (1) dX7_remembers_72 (by decide) ?_
    refine R_iadd C dX7_remembers_73 ?_
    refine S_puti C fl7_75 rfl ha0 rfl rfl dX7_remembers_74 (fun s20 => ?_)
    exact R_vret C hr dX7_remembers_77
  · refine B_icmp_ne C dX7_remembers_6 ?_ ?_
    · exact R_end (fun (w : Unit) (s : Sg) => V κ G (QQ κ G E none σ') E s (false, 0, 0) 51 [(0, .ref (G.1 + a0))] []) Kw1
    · refine R_sipush C (7827) dX7_remembers_9 (by decide) ?_
      refine R_istore_n (lv2 := [(1, .int (7827 : Int32)), (0, .ref (G.1 + a0))]) C dX7_remembers_12 rfl (by decide) rfl ?_
      refine R_loc (lv2 := [(0, .ref (G.1 + a0)), (1, .int (7827 : Int32))]) [1, 0] rfl ?_
      refine R_loop (fun (a : (Int32) × Sg) => V κ G (QQ κ G E none σ') E a.2 (false, 0, 0) 13 [(0, .ref (G.1 + a0)), (1, .int a.1)] []) (fun (o : (Int32)) (s : Sg) => V κ G (QQ κ G E none σ') E s (false, 0, 0) 41 [(0, .ref (G.1 + a0))] []) ((7827 : Int32), σ) (fun o14 s15 => ?_) (fun rec I8 a b6 s7 K5 => ?_)
      · refine R_aload_n C 0 rfl dX7_remembers_41 ?_
        refine R_dup C dX7_remembers_42 rfl ?_
        refine R_geti C fl7_75 rfl ha0 dX7_remembers_43 ?_
        refine R_iconst C (1) dX7_remembers_46 (by decide) ?_
        refine R_isub C dX7_remembers_47 ?_
        refine S_puti C fl7_75 rfl ha0 rfl rfl dX7_remembers_48 (fun s16 => ?_)
        exact R_end (fun (w : Unit) (s : Sg) => V κ G (QQ κ G E none σ') E s (false, 0, 0) 51 [(0, .ref (G.1 + a0))] []) Kw1
      · obtain ⟨v3, s4⟩ := a
        show bX7_remembers_13 E a0 (fun u0 t => rec (u0, t)) v3 s4 = some (b6, s7) → V κ G (QQ κ G E none σ') E s4 (false, 0, 0) 13 [(0, .ref (G.1 + a0)), (1, .int v3)] []
        unfold bX7_remembers_13
        refine R_iload_n C 1 rfl dX7_remembers_13 ?_
        refine R_ldc C cs7_16 dX7_remembers_14 ?_
        refine B_icmp_ge C dX7_remembers_16 ?_ ?_
        · refine R_loc (lv2 := [(0, .ref (G.1 + a0))]) [0] rfl ?_
          exact R_end (fun (o : (Int32)) (s : Sg) => V κ G (QQ κ G E none σ') E s (false, 0, 0) 41 [(0, .ref (G.1 + a0))] []) K5
        · refine R_aload_n C 0 rfl dX7_remembers_19 ?_
          refine R_dr (fun x9 rx9 cx9 => ?_)
          refine R_getr C fl7_17 rfl ha0 rx9 dX7_remembers_20 ?_
          refine R_iload_n C 1 rfl dX7_remembers_23 ?_
          refine R_sipush C (7827) dX7_remembers_24 (by decide) ?_
          refine R_isub C dX7_remembers_27 ?_
          refine R_aload_n C 0 rfl dX7_remembers_28 ?_
          refine R_getr C fl7_17 rfl ha0 rx9 dX7_remembers_29 ?_
          refine R_iload_n C 1 rfl dX7_remembers_32 ?_
          refine R_ck (fun h10 => ?_)
          refine R_iald C cx9 h10 dX7_remembers_33 ?_
          refine R_ck (fun h11 => ?_)
          refine S_iast C cx9 h11 dX7_remembers_34 (fun s12 => ?_)
          refine S_iinc (fun v13 => [(1, .int v13), (0, .ref (G.1 + a0))]) 1 C dX7_remembers_35 rfl (by decide) (by decide) (fun _ => rfl) (fun v13 => ?_)
          refine R_goto C dX7_remembers_38 ?_
          refine R_loc (lv2 := [(0, .ref (G.1 + a0)), (1, .int v13)]) [1, 0] rfl ?_
          exact I8 (v13, s12) b6 s7 K5
theorem dX7_undo_0 : dk cX7_undo 0 1 (.aload_n 0) 1 := by unfold dk; decide +kernel
theorem dX7_undo_1 : dk cX7_undo 1 4 (.getfield 75) 3 := by unfold dk; decide +kernel
theorem dX7_undo_9 : dk cX7_undo 9 10 (.aload_n 0) 1 := by unfold dk; decide +kernel
theorem dX7_undo_10 : dk cX7_undo 10 11 (.dup) 1 := by unfold dk; decide +kernel
theorem dX7_undo_11 : dk cX7_undo 11 14 (.getfield 75) 3 := by unfold dk; decide +kernel
theorem dX7_undo_14 : dk cX7_undo 14 15 (.iconst 1) 1 := by unfold dk; decide +kernel
theorem dX7_undo_15 : dk cX7_undo 15 16 (.isub) 1 := by unfold dk; decide +kernel
theorem dX7_undo_16 : dk cX7_undo 16 19 (.putfield 75) 3 := by unfold dk; decide +kernel
theorem dX7_undo_19 : dk cX7_undo 19 20 (.aload_n 0) 1 := by unfold dk; decide +kernel
theorem dX7_undo_20 : dk cX7_undo 20 21 (.aload_n 0) 1 := by unfold dk; decide +kernel
theorem dX7_undo_21 : dk cX7_undo 21 24 (.getfield 17) 3 := by unfold dk; decide +kernel
theorem dX7_undo_24 : dk cX7_undo 24 27 (.sipush 7827) 3 := by unfold dk; decide +kernel
theorem dX7_undo_27 : dk cX7_undo 27 28 (.aload_n 0) 1 := by unfold dk; decide +kernel
theorem dX7_undo_28 : dk cX7_undo 28 31 (.getfield 75) 3 := by unfold dk; decide +kernel
theorem dX7_undo_31 : dk cX7_undo 31 32 (.imul) 1 := by unfold dk; decide +kernel
theorem dX7_undo_32 : dk cX7_undo 32 35 (.invokevirtual 83) 3 := by unfold dk; decide +kernel
theorem dX7_undo_35 : dk cX7_undo 35 36 (.aload_n 0) 1 := by unfold dk; decide +kernel
theorem dX7_undo_36 : dk cX7_undo 36 39 (.getfield 75) 3 := by unfold dk; decide +kernel
theorem dX7_undo_39 : dk cX7_undo 39 40 (.ireturn) 1 := by unfold dk; decide +kernel
theorem dX7_undo_7 : dk cX7_undo 7 8 (.iconst (-1)) 1 := by unfold dk; decide +kernel
theorem dX7_undo_8 : dk cX7_undo 8 9 (.ireturn) 1 := by unfold dk; decide +kernel
theorem dX7_undo_4 : bk cX7_undo 4 7 9 (.ifCond .ne 5) (5) := by unfold bk; decide +kernel
set_option maxHeartbeats 4000000 in
set_option maxRecDepth 100000 in
theorem kX7_undo {l : Launch} {G : Gl} {E : En} {a0 : Nat} {σ σ' : Sg} {r : Int32} : fX7_undo E a0 σ = some (r, σ') → CT l yX7_undo cX7_undo 1 (some .int) ({ frames := 1, cells := 0, slots := 0, locals := 23 } : Room) [.ref (G.1 + a0)] G E σ (some (.int r)) σ' := by
  intro h
  refine CT_of (lv0 := [(0, .ref (G.1 + a0))]) (by decide) (Nat.le_of_ble_eq_true rfl) rfl (fun κ hl hR hr C => ?_)
  have C : Cx κ G cX7_undo RX7 1 := C
  revert h
  unfold fX7_undo
  refine R_tk (fun ha0 => ?_)
  refine R_aload_n C 0 rfl dX7_undo_0 ?_
  refine R_geti C fl7_75 rfl ha0 dX7_undo_1 ?_
  refine B_if_ne C dX7_undo_4 ?_ ?_
  · refine R_aload_n C 0 rfl dX7_undo_9 ?_
    refine R_dup C dX7_undo_10 rfl ?_
    refine R_geti C fl7_75 rfl ha0 dX7_undo_11 ?_
    refine R_iconst C (1) dX7_undo_14 (by decide) ?_
    refine R_isub C dX7_undo_15 ?_
    refine S_puti C fl7_75 rfl ha0 rfl rfl dX7_undo_16 (fun s1 => ?_)
    refine R_aload_n C 0 rfl dX7_undo_19 ?_
    refine R_aload_n C 0 rfl dX7_undo_20 ?_
    refine R_dr (fun x2 rx2 cx2 => ?_)
    refine R_getr C fl7_17 rfl ha0 rx2 dX7_undo_21 ?_
    refine R_sipush C (7827) dX7_undo_24 (by decide) ?_
    refine R_aload_n C 0 rfl dX7_undo_27 ?_
    refine R_geti C fl7_75 rfl ha0 dX7_undo_28 ?_
    refine R_imul C dX7_undo_31 ?_
    refine R_bv (fun s3 q4 => ?_)
    refine R_callVv [.ref (G.1 + x2), .int ((7827 : Int32) * (gi s1 a0 4))] [] C ml7_83 (kX7_laysFrom q4) (by rw [hR]; exact ⟨rfl, rfl, Nat.le_of_ble_eq_true rfl, Nat.le_of_ble_eq_true rfl, Nat.zero_le _, Nat.zero_le _⟩) ha0 rfl rfl (Nat.le_of_ble_eq_true rfl) dX7_undo_32 ?_
    refine R_aload_n C 0 rfl dX7_undo_35 ?_
    refine R_geti C fl7_75 rfl ha0 dX7_undo_36 ?_
    exact R_iret C hr dX7_undo_39
  · refine R_iconst C (-1) dX7_undo_7 (by decide) ?_
    exact R_iret C hr dX7_undo_8
theorem dX7_puts_0 : dk cX7_puts 0 2 (.bipush 24) 2 := by unfold dk; decide +kernel
theorem dX7_puts_2 : dk cX7_puts 2 3 (.istore_n 2) 1 := by unfold dk; decide +kernel
theorem dX7_puts_3 : dk cX7_puts 3 4 (.iload_n 2) 1 := by unfold dk; decide +kernel
theorem dX7_puts_7 : dk cX7_puts 7 8 (.aload_n 0) 1 := by unfold dk; decide +kernel
theorem dX7_puts_8 : dk cX7_puts 8 11 (.getfield 23) 3 := by unfold dk; decide +kernel
theorem dX7_puts_11 : dk cX7_puts 11 12 (.aload_n 0) 1 := by unfold dk; decide +kernel
theorem dX7_puts_12 : dk cX7_puts 12 15 (.getfield 86) 3 := by unfold dk; decide +kernel
theorem dX7_puts_15 : dk cX7_puts 15 16 (.iload_n 1) 1 := by unfold dk; decide +kernel
theorem dX7_puts_16 : dk cX7_puts 16 17 (.iload_n 2) 1 := by unfold dk; decide +kernel
theorem dX7_puts_17 : dk cX7_puts 17 18 (.ishr) 1 := by unfold dk; decide +kernel
theorem dX7_puts_18 : dk cX7_puts 18 19 (.i2b) 1 := by unfold dk; decide +kernel
theorem dX7_puts_19 : dk cX7_puts 19 20 (.bastore) 1 := by unfold dk; decide +kernel
theorem dX7_puts_20 : dk cX7_puts 20 21 (.aload_n 0) 1 := by unfold dk; decide +kernel
theorem dX7_puts_21 : dk cX7_puts 21 22 (.dup) 1 := by unfold dk; decide +kernel
theorem dX7_puts_22 : dk cX7_puts 22 25 (.getfield 86) 3 := by unfold dk; decide +kernel
theorem dX7_puts_25 : dk cX7_puts 25 26 (.iconst 1) 1 := by unfold dk; decide +kernel
theorem dX7_puts_26 : dk cX7_puts 26 27 (.iadd) 1 := by unfold dk; decide +kernel
theorem dX7_puts_27 : dk cX7_puts 27 30 (.putfield 86) 3 := by unfold dk; decide +kernel
theorem dX7_puts_30 : dk cX7_puts 30 33 (.iinc 2 (-8)) 3 := by unfold dk; decide +kernel
theorem dX7_puts_33 : bk cX7_puts 33 36 3 (.goto (-30)) (-30) := by unfold bk; decide +kernel
theorem dX7_puts_4 : bk cX7_puts 4 7 36 (.ifCond .lt 32) (32) := by unfold bk; decide +kernel
theorem dX7_puts_36 : dk cX7_puts 36 37 (.return_) 1 := by unfold dk; decide +kernel
set_option maxHeartbeats 4000000 in
set_option maxRecDepth 100000 in
theorem kX7_puts {l : Launch} {G : Gl} {E : En} {a0 : Nat} {a1 : Int32} {σ σ' : Sg} : fX7_puts E a0 a1 σ = some σ' → CT l yX7_puts cX7_puts 3 none ({ frames := 0, cells := 0, slots := 0, locals := 0 } : Room) [.ref (G.1 + a0), .int a1] G E σ none σ' := by
  intro h
  refine CT_of (lv0 := [(0, .ref (G.1 + a0)), (1, .int a1)]) (by decide) (Nat.le_of_ble_eq_true rfl) rfl (fun κ hl hR hr C => ?_)
  have C : Cx κ G cX7_puts RX7 3 := C
  revert h
  unfold fX7_puts
  refine R_tk (fun ha0 => ?_)
  refine R_bipush C (24) dX7_puts_0 (by decide) ?_
  refine R_istore_n (lv2 := [(2, .int (24 : Int32)), (0, .ref (G.1 + a0)), (1, .int a1)]) C dX7_puts_2 rfl (by decide) rfl ?_
  refine R_loc (lv2 := [(0, .ref (G.1 + a0)), (1, .int a1), (2, .int (24 : Int32))]) [1, 2, 0] rfl ?_
  refine R_loop (fun (a : (Int32) × Sg) => V κ G (QQ κ G E none σ') E a.2 (false, 0, 0) 3 [(0, .ref (G.1 + a0)), (1, .int a1), (2, .int a.1)] []) (fun (o : (Int32)) (s : Sg) => V κ G (QQ κ G E none σ') E s (false, 0, 0) 36 [] []) ((24 : Int32), σ) (fun o12 s13 => ?_) (fun rec I6 a b4 s5 K3 => ?_)
  · exact R_vret C hr dX7_puts_36
  · obtain ⟨v1, s2⟩ := a
    show bX7_puts_3 E a0 a1 (fun u0 t => rec (u0, t)) v1 s2 = some (b4, s5) → V κ G (QQ κ G E none σ') E s2 (false, 0, 0) 3 [(0, .ref (G.1 + a0)), (1, .int a1), (2, .int v1)] []
    unfold bX7_puts_3
    refine R_iload_n C 2 rfl dX7_puts_3 ?_
    refine B_if_lt C dX7_puts_4 ?_ ?_
    · refine R_loc (lv2 := []) [] rfl ?_
      exact R_end (fun (o : (Int32)) (s : Sg) => V κ G (QQ κ G E none σ') E s (false, 0, 0) 36 [] []) K3
    · refine R_aload_n C 0 rfl dX7_puts_7 ?_
      refine R_dr (fun x7 rx7 cx7 => ?_)
      refine R_getr C fl7_23 rfl ha0 rx7 dX7_puts_8 ?_
      refine R_aload_n C 0 rfl dX7_puts_11 ?_
      refine R_geti C fl7_86 rfl ha0 dX7_puts_12 ?_
      refine R_iload_n C 1 rfl dX7_puts_15 ?_
      refine R_iload_n C 2 rfl dX7_puts_16 ?_
      refine R_ishr C dX7_puts_17 ?_
      refine R_i2b C dX7_puts_18 ?_
      refine R_ck (fun h8 => ?_)
      refine S_bast C cx7 h8 dX7_puts_19 (fun s9 => ?_)
      refine R_aload_n C 0 rfl dX7_puts_20 ?_
      refine R_dup C dX7_puts_21 rfl ?_
      refine R_geti C fl7_86 rfl ha0 dX7_puts_22 ?_
      refine R_iconst C (1) dX7_puts_25 (by decide) ?_
      refine R_iadd C dX7_puts_26 ?_
      refine S_puti C fl7_86 rfl ha0 rfl rfl dX7_puts_27 (fun s10 => ?_)
      refine S_iinc (fun v11 => [(2, .int v11), (0, .ref (G.1 + a0)), (1, .int a1)]) 2 C dX7_puts_30 rfl (by decide) (by decide) (fun _ => rfl) (fun v11 => ?_)
      refine R_goto C dX7_puts_33 ?_
      refine R_loc (lv2 := [(0, .ref (G.1 + a0)), (1, .int a1), (2, .int v11)]) [1, 2, 0] rfl ?_
      exact I6 (v11, s10) b4 s5 K3
theorem dX7_feed_0 : dk cX7_feed 0 1 (.aload_n 0) 1 := by unfold dk; decide +kernel
theorem dX7_feed_1 : dk cX7_feed 1 4 (.getfield 86) 3 := by unfold dk; decide +kernel
theorem dX7_feed_4 : dk cX7_feed 4 6 (.bipush 20) 2 := by unfold dk; decide +kernel
theorem dX7_feed_6 : dk cX7_feed 6 7 (.iadd) 1 := by unfold dk; decide +kernel
theorem dX7_feed_7 : dk cX7_feed 7 10 (.sipush 200) 3 := by unfold dk; decide +kernel
theorem dX7_feed_15 : dk cX7_feed 15 16 (.aload_n 0) 1 := by unfold dk; decide +kernel
theorem dX7_feed_16 : dk cX7_feed 16 17 (.iload_n 1) 1 := by unfold dk; decide +kernel
theorem dX7_feed_17 : dk cX7_feed 17 20 (.invokevirtual 89) 3 := by unfold dk; decide +kernel
theorem dX7_feed_20 : dk cX7_feed 20 21 (.aload_n 0) 1 := by unfold dk; decide +kernel
theorem dX7_feed_21 : dk cX7_feed 21 22 (.iload_n 2) 1 := by unfold dk; decide +kernel
theorem dX7_feed_22 : dk cX7_feed 22 25 (.invokevirtual 89) 3 := by unfold dk; decide +kernel
theorem dX7_feed_25 : dk cX7_feed 25 26 (.aload_n 0) 1 := by unfold dk; decide +kernel
theorem dX7_feed_26 : dk cX7_feed 26 27 (.iload_n 3) 1 := by unfold dk; decide +kernel
theorem dX7_feed_27 : dk cX7_feed 27 30 (.invokevirtual 89) 3 := by unfold dk; decide +kernel
theorem dX7_feed_30 : dk cX7_feed 30 31 (.aload_n 0) 1 := by unfold dk; decide +kernel
theorem dX7_feed_31 : dk cX7_feed 31 33 (.iload 4) 2 := by unfold dk; decide +kernel
theorem dX7_feed_33 : dk cX7_feed 33 36 (.invokevirtual 89) 3 := by unfold dk; decide +kernel
theorem dX7_feed_36 : dk cX7_feed 36 37 (.aload_n 0) 1 := by unfold dk; decide +kernel
theorem dX7_feed_37 : dk cX7_feed 37 39 (.iload 5) 2 := by unfold dk; decide +kernel
theorem dX7_feed_39 : dk cX7_feed 39 42 (.invokevirtual 89) 3 := by unfold dk; decide +kernel
theorem dX7_feed_42 : dk cX7_feed 42 43 (.aload_n 0) 1 := by unfold dk; decide +kernel
theorem dX7_feed_43 : dk cX7_feed 43 46 (.getfield 86) 3 := by unfold dk; decide +kernel
theorem dX7_feed_46 : dk cX7_feed 46 47 (.ireturn) 1 := by unfold dk; decide +kernel
theorem dX7_feed_13 : dk cX7_feed 13 14 (.iconst (-1)) 1 := by unfold dk; decide +kernel
theorem dX7_feed_14 : dk cX7_feed 14 15 (.ireturn) 1 := by unfold dk; decide +kernel
theorem dX7_feed_10 : bk cX7_feed 10 13 15 (.if_icmp .le 5) (5) := by unfold bk; decide +kernel
set_option maxHeartbeats 4000000 in
set_option maxRecDepth 100000 in
theorem kX7_feed {l : Launch} {G : Gl} {E : En} {a0 : Nat} {a1 : Int32} {a2 : Int32} {a3 : Int32} {a4 : Int32} {a5 : Int32} {σ σ' : Sg} {r : Int32} : fX7_feed E a0 a1 a2 a3 a4 a5 σ = some (r, σ') → CT l yX7_feed cX7_feed 6 (some .int) ({ frames := 1, cells := 0, slots := 0, locals := 22 } : Room) [.ref (G.1 + a0), .int a1, .int a2, .int a3, .int a4, .int a5] G E σ (some (.int r)) σ' := by
  intro h
  refine CT_of (lv0 := [(0, .ref (G.1 + a0)), (1, .int a1), (2, .int a2), (3, .int a3), (4, .int a4), (5, .int a5)]) (by decide) (Nat.le_of_ble_eq_true rfl) rfl (fun κ hl hR hr C => ?_)
  have C : Cx κ G cX7_feed RX7 6 := C
  revert h
  unfold fX7_feed
  refine R_tk (fun ha0 => ?_)
  refine R_aload_n C 0 rfl dX7_feed_0 ?_
  refine R_geti C fl7_86 rfl ha0 dX7_feed_1 ?_
  refine R_bipush C (20) dX7_feed_4 (by decide) ?_
  refine R_iadd C dX7_feed_6 ?_
  refine R_sipush C (200) dX7_feed_7 (by decide) ?_
  refine B_icmp_le C dX7_feed_10 ?_ ?_
  · refine R_aload_n C 0 rfl dX7_feed_15 ?_
    refine R_iload_n C 1 rfl dX7_feed_16 ?_
    refine R_bv (fun s1 q2 => ?_)
    refine R_callVv [.int a1] [] C ml7_89 (kX7_puts q2) (by rw [hR]; exact ⟨rfl, rfl, Nat.le_of_ble_eq_true rfl, Nat.le_of_ble_eq_true rfl, Nat.zero_le _, Nat.zero_le _⟩) ha0 rfl rfl (Nat.le_of_ble_eq_true rfl) dX7_feed_17 ?_
    refine R_aload_n C 0 rfl dX7_feed_20 ?_
    refine R_iload_n C 2 rfl dX7_feed_21 ?_
    refine R_bv (fun s3 q4 => ?_)
    refine R_callVv [.int a2] [] C ml7_89 (kX7_puts q4) (by rw [hR]; exact ⟨rfl, rfl, Nat.le_of_ble_eq_true rfl, Nat.le_of_ble_eq_true rfl, Nat.zero_le _, Nat.zero_le _⟩) ha0 rfl rfl (Nat.le_of_ble_eq_true rfl) dX7_feed_22 ?_
    refine R_aload_n C 0 rfl dX7_feed_25 ?_
    refine R_iload_n C 3 rfl dX7_feed_26 ?_
    refine R_bv (fun s5 q6 => ?_)
    refine R_callVv [.int a3] [] C ml7_89 (kX7_puts q6) (by rw [hR]; exact ⟨rfl, rfl, Nat.le_of_ble_eq_true rfl, Nat.le_of_ble_eq_true rfl, Nat.zero_le _, Nat.zero_le _⟩) ha0 rfl rfl (Nat.le_of_ble_eq_true rfl) dX7_feed_27 ?_
    refine R_aload_n C 0 rfl dX7_feed_30 ?_
    refine R_iload C 4 rfl dX7_feed_31 ?_
    refine R_bv (fun s7 q8 => ?_)
    refine R_callVv [.int a4] [] C ml7_89 (kX7_puts q8) (by rw [hR]; exact ⟨rfl, rfl, Nat.le_of_ble_eq_true rfl, Nat.le_of_ble_eq_true rfl, Nat.zero_le _, Nat.zero_le _⟩) ha0 rfl rfl (Nat.le_of_ble_eq_true rfl) dX7_feed_33 ?_
    refine R_aload_n C 0 rfl dX7_feed_36 ?_
    refine R_iload C 5 rfl dX7_feed_37 ?_
    refine R_bv (fun s9 q10 => ?_)
    refine R_callVv [.int a5] [] C ml7_89 (kX7_puts q10) (by rw [hR]; exact ⟨rfl, rfl, Nat.le_of_ble_eq_true rfl, Nat.le_of_ble_eq_true rfl, Nat.zero_le _, Nat.zero_le _⟩) ha0 rfl rfl (Nat.le_of_ble_eq_true rfl) dX7_feed_39 ?_
    refine R_aload_n C 0 rfl dX7_feed_42 ?_
    refine R_geti C fl7_86 rfl ha0 dX7_feed_43 ?_
    exact R_iret C hr dX7_feed_46
  · refine R_iconst C (-1) dX7_feed_13 (by decide) ?_
    exact R_iret C hr dX7_feed_14
theorem dX7_end_0 : dk cX7_end 0 1 (.iload_n 1) 1 := by unfold dk; decide +kernel
theorem dX7_end_12 : dk cX7_end 12 13 (.iconst (-1)) 1 := by unfold dk; decide +kernel
theorem dX7_end_13 : dk cX7_end 13 14 (.ireturn) 1 := by unfold dk; decide +kernel
theorem dX7_end_4 : dk cX7_end 4 5 (.iload_n 1) 1 := by unfold dk; decide +kernel
theorem dX7_end_5 : dk cX7_end 5 6 (.aload_n 0) 1 := by unfold dk; decide +kernel
theorem dX7_end_6 : dk cX7_end 6 9 (.getfield 86) 3 := by unfold dk; decide +kernel
theorem dX7_end_14 : dk cX7_end 14 15 (.aload_n 0) 1 := by unfold dk; decide +kernel
theorem dX7_end_15 : dk cX7_end 15 16 (.iload_n 1) 1 := by unfold dk; decide +kernel
theorem dX7_end_16 : dk cX7_end 16 19 (.putfield 86) 3 := by unfold dk; decide +kernel
theorem dX7_end_19 : dk cX7_end 19 20 (.iload_n 1) 1 := by unfold dk; decide +kernel
theorem dX7_end_20 : dk cX7_end 20 21 (.ireturn) 1 := by unfold dk; decide +kernel
theorem dX7_end_9 : bk cX7_end 9 12 14 (.if_icmp .le 5) (5) := by unfold bk; decide +kernel
theorem dX7_end_1 : bk cX7_end 1 4 12 (.ifCond .lt 11) (11) := by unfold bk; decide +kernel
set_option maxHeartbeats 4000000 in
set_option maxRecDepth 100000 in
theorem kX7_end {l : Launch} {G : Gl} {E : En} {a0 : Nat} {a1 : Int32} {σ σ' : Sg} {r : Int32} : fX7_end E a0 a1 σ = some (r, σ') → CT l yX7_end cX7_end 2 (some .int) ({ frames := 0, cells := 0, slots := 0, locals := 0 } : Room) [.ref (G.1 + a0), .int a1] G E σ (some (.int r)) σ' := by
  intro h
  refine CT_of (lv0 := [(0, .ref (G.1 + a0)), (1, .int a1)]) (by decide) (Nat.le_of_ble_eq_true rfl) rfl (fun κ hl hR hr C => ?_)
  have C : Cx κ G cX7_end RX7 2 := C
  revert h
  unfold fX7_end
  refine R_tk (fun ha0 => ?_)
  refine R_iload_n C 1 rfl dX7_end_0 ?_
  refine B_if_lt C dX7_end_1 ?_ ?_
  · refine R_iconst C (-1) dX7_end_12 (by decide) ?_
    exact R_iret C hr dX7_end_13
  · refine R_iload_n C 1 rfl dX7_end_4 ?_
    refine R_aload_n C 0 rfl dX7_end_5 ?_
    refine R_geti C fl7_86 rfl ha0 dX7_end_6 ?_
    refine B_icmp_le C dX7_end_9 ?_ ?_
    · refine R_aload_n C 0 rfl dX7_end_14 ?_
      refine R_iload_n C 1 rfl dX7_end_15 ?_
      refine S_puti C fl7_86 rfl ha0 rfl rfl dX7_end_16 (fun s1 => ?_)
      refine R_iload_n C 1 rfl dX7_end_19 ?_
      exact R_iret C hr dX7_end_20
    · refine R_iconst C (-1) dX7_end_12 (by decide) ?_
      exact R_iret C hr dX7_end_13
theorem dX7_many_0 : dk cX7_many 0 1 (.aload_n 0) 1 := by unfold dk; decide +kernel
theorem dX7_many_1 : dk cX7_many 1 4 (.getfield 9) 3 := by unfold dk; decide +kernel
theorem dX7_many_4 : dk cX7_many 4 5 (.iconst 0) 1 := by unfold dk; decide +kernel
theorem dX7_many_5 : dk cX7_many 5 6 (.iaload) 1 := by unfold dk; decide +kernel
theorem dX7_many_6 : dk cX7_many 6 7 (.ireturn) 1 := by unfold dk; decide +kernel
set_option maxHeartbeats 4000000 in
set_option maxRecDepth 100000 in
theorem kX7_many {l : Launch} {G : Gl} {E : En} {a0 : Nat} {σ σ' : Sg} {r : Int32} : fX7_many E a0 σ = some (r, σ') → CT l yX7_many cX7_many 1 (some .int) ({ frames := 0, cells := 0, slots := 0, locals := 0 } : Room) [.ref (G.1 + a0)] G E σ (some (.int r)) σ' := by
  intro h
  refine CT_of (lv0 := [(0, .ref (G.1 + a0))]) (by decide) (Nat.le_of_ble_eq_true rfl) rfl (fun κ hl hR hr C => ?_)
  have C : Cx κ G cX7_many RX7 1 := C
  revert h
  unfold fX7_many
  refine R_tk (fun ha0 => ?_)
  refine R_aload_n C 0 rfl dX7_many_0 ?_
  refine R_dr (fun x1 rx1 cx1 => ?_)
  refine R_getr C fl7_9 rfl ha0 rx1 dX7_many_1 ?_
  refine R_iconst C (0) dX7_many_4 (by decide) ?_
  refine R_ck (fun h2 => ?_)
  refine R_iald C cx1 h2 dX7_many_5 ?_
  exact R_iret C hr dX7_many_6
theorem dX7_comes_0 : dk cX7_comes 0 1 (.aload_n 0) 1 := by unfold dk; decide +kernel
theorem dX7_comes_1 : dk cX7_comes 1 4 (.getfield 9) 3 := by unfold dk; decide +kernel
theorem dX7_comes_4 : dk cX7_comes 4 6 (.bipush 26) 2 := by unfold dk; decide +kernel
theorem dX7_comes_6 : dk cX7_comes 6 7 (.aload_n 0) 1 := by unfold dk; decide +kernel
theorem dX7_comes_7 : dk cX7_comes 7 10 (.invokevirtual 93) 3 := by unfold dk; decide +kernel
theorem dX7_comes_10 : dk cX7_comes 10 11 (.iadd) 1 := by unfold dk; decide +kernel
theorem dX7_comes_11 : dk cX7_comes 11 12 (.iload_n 1) 1 := by unfold dk; decide +kernel
theorem dX7_comes_12 : dk cX7_comes 12 13 (.iastore) 1 := by unfold dk; decide +kernel
theorem dX7_comes_13 : dk cX7_comes 13 14 (.aload_n 0) 1 := by unfold dk; decide +kernel
theorem dX7_comes_14 : dk cX7_comes 14 17 (.getfield 9) 3 := by unfold dk; decide +kernel
theorem dX7_comes_17 : dk cX7_comes 17 18 (.iconst 0) 1 := by unfold dk; decide +kernel
theorem dX7_comes_18 : dk cX7_comes 18 19 (.dup2) 1 := by unfold dk; decide +kernel
theorem dX7_comes_19 : dk cX7_comes 19 20 (.iaload) 1 := by unfold dk; decide +kernel
theorem dX7_comes_20 : dk cX7_comes 20 21 (.iconst 1) 1 := by unfold dk; decide +kernel
theorem dX7_comes_21 : dk cX7_comes 21 22 (.iadd) 1 := by unfold dk; decide +kernel
theorem dX7_comes_22 : dk cX7_comes 22 23 (.iastore) 1 := by unfold dk; decide +kernel
theorem dX7_comes_23 : dk cX7_comes 23 24 (.return_) 1 := by unfold dk; decide +kernel
set_option maxHeartbeats 4000000 in
set_option maxRecDepth 100000 in
theorem kX7_comes {l : Launch} {G : Gl} {E : En} {a0 : Nat} {a1 : Int32} {σ σ' : Sg} : fX7_comes E a0 a1 σ = some σ' → CT l yX7_comes cX7_comes 2 none ({ frames := 1, cells := 0, slots := 0, locals := 20 } : Room) [.ref (G.1 + a0), .int a1] G E σ none σ' := by
  intro h
  refine CT_of (lv0 := [(0, .ref (G.1 + a0)), (1, .int a1)]) (by decide) (Nat.le_of_ble_eq_true rfl) rfl (fun κ hl hR hr C => ?_)
  have C : Cx κ G cX7_comes RX7 2 := C
  revert h
  unfold fX7_comes
  refine R_tk (fun ha0 => ?_)
  refine R_aload_n C 0 rfl dX7_comes_0 ?_
  refine R_dr (fun x1 rx1 cx1 => ?_)
  refine R_getr C fl7_9 rfl ha0 rx1 dX7_comes_1 ?_
  refine R_bipush C (26) dX7_comes_4 (by decide) ?_
  refine R_aload_n C 0 rfl dX7_comes_6 ?_
  refine R_bd (fun r4 s2 q3 => ?_)
  refine R_callVi [] [.int (26 : Int32), .ref (G.1 + x1)] C ml7_93 (kX7_many q3) (by rw [hR]; exact ⟨rfl, rfl, Nat.le_of_ble_eq_true rfl, Nat.le_of_ble_eq_true rfl, Nat.zero_le _, Nat.zero_le _⟩) ha0 rfl rfl (Nat.le_of_ble_eq_true rfl) dX7_comes_7 ?_
  refine R_iadd C dX7_comes_10 ?_
  refine R_iload_n C 1 rfl dX7_comes_11 ?_
  refine R_ck (fun h5 => ?_)
  refine S_iast C cx1 h5 dX7_comes_12 (fun s6 => ?_)
  refine R_aload_n C 0 rfl dX7_comes_13 ?_
  refine R_getr C fl7_9 rfl ha0 rx1 dX7_comes_14 ?_
  refine R_iconst C (0) dX7_comes_17 (by decide) ?_
  refine R_dup2 C dX7_comes_18 rfl rfl ?_
  refine R_ck (fun h7 => ?_)
  refine R_iald C cx1 h7 dX7_comes_19 ?_
  refine R_iconst C (1) dX7_comes_20 (by decide) ?_
  refine R_iadd C dX7_comes_21 ?_
  refine R_ck (fun h8 => ?_)
  refine S_iast C cx1 h8 dX7_comes_22 (fun s9 => ?_)
  exact R_vret C hr dX7_comes_23
theorem dX7_clearsCounts_0 : dk cX7_clearsCounts 0 1 (.aload_n 0) 1 := by unfold dk; decide +kernel
theorem dX7_clearsCounts_1 : dk cX7_clearsCounts 1 4 (.getfield 9) 3 := by unfold dk; decide +kernel
theorem dX7_clearsCounts_4 : dk cX7_clearsCounts 4 6 (.bipush 9) 2 := by unfold dk; decide +kernel
theorem dX7_clearsCounts_6 : dk cX7_clearsCounts 6 7 (.iconst 0) 1 := by unfold dk; decide +kernel
theorem dX7_clearsCounts_7 : dk cX7_clearsCounts 7 8 (.iastore) 1 := by unfold dk; decide +kernel
theorem dX7_clearsCounts_8 : dk cX7_clearsCounts 8 9 (.aload_n 0) 1 := by unfold dk; decide +kernel
theorem dX7_clearsCounts_9 : dk cX7_clearsCounts 9 12 (.getfield 9) 3 := by unfold dk; decide +kernel
theorem dX7_clearsCounts_12 : dk cX7_clearsCounts 12 14 (.bipush 10) 2 := by unfold dk; decide +kernel
theorem dX7_clearsCounts_14 : dk cX7_clearsCounts 14 15 (.iconst 0) 1 := by unfold dk; decide +kernel
theorem dX7_clearsCounts_15 : dk cX7_clearsCounts 15 16 (.iastore) 1 := by unfold dk; decide +kernel
theorem dX7_clearsCounts_16 : dk cX7_clearsCounts 16 17 (.aload_n 0) 1 := by unfold dk; decide +kernel
theorem dX7_clearsCounts_17 : dk cX7_clearsCounts 17 20 (.getfield 9) 3 := by unfold dk; decide +kernel
theorem dX7_clearsCounts_20 : dk cX7_clearsCounts 20 22 (.bipush 11) 2 := by unfold dk; decide +kernel
theorem dX7_clearsCounts_22 : dk cX7_clearsCounts 22 23 (.iconst 0) 1 := by unfold dk; decide +kernel
theorem dX7_clearsCounts_23 : dk cX7_clearsCounts 23 24 (.iastore) 1 := by unfold dk; decide +kernel
theorem dX7_clearsCounts_24 : dk cX7_clearsCounts 24 25 (.aload_n 0) 1 := by unfold dk; decide +kernel
theorem dX7_clearsCounts_25 : dk cX7_clearsCounts 25 28 (.getfield 9) 3 := by unfold dk; decide +kernel
theorem dX7_clearsCounts_28 : dk cX7_clearsCounts 28 30 (.bipush 12) 2 := by unfold dk; decide +kernel
theorem dX7_clearsCounts_30 : dk cX7_clearsCounts 30 31 (.iconst 0) 1 := by unfold dk; decide +kernel
theorem dX7_clearsCounts_31 : dk cX7_clearsCounts 31 32 (.iastore) 1 := by unfold dk; decide +kernel
theorem dX7_clearsCounts_32 : dk cX7_clearsCounts 32 33 (.return_) 1 := by unfold dk; decide +kernel
set_option maxHeartbeats 4000000 in
set_option maxRecDepth 100000 in
theorem kX7_clearsCounts {l : Launch} {G : Gl} {E : En} {a0 : Nat} {σ σ' : Sg} : fX7_clearsCounts E a0 σ = some σ' → CT l yX7_clearsCounts cX7_clearsCounts 1 none ({ frames := 0, cells := 0, slots := 0, locals := 0 } : Room) [.ref (G.1 + a0)] G E σ none σ' := by
  intro h
  refine CT_of (lv0 := [(0, .ref (G.1 + a0))]) (by decide) (Nat.le_of_ble_eq_true rfl) rfl (fun κ hl hR hr C => ?_)
  have C : Cx κ G cX7_clearsCounts RX7 1 := C
  revert h
  unfold fX7_clearsCounts
  refine R_tk (fun ha0 => ?_)
  refine R_aload_n C 0 rfl dX7_clearsCounts_0 ?_
  refine R_dr (fun x1 rx1 cx1 => ?_)
  refine R_getr C fl7_9 rfl ha0 rx1 dX7_clearsCounts_1 ?_
  refine R_bipush C (9) dX7_clearsCounts_4 (by decide) ?_
  refine R_iconst C (0) dX7_clearsCounts_6 (by decide) ?_
  refine R_ck (fun h2 => ?_)
  refine S_iast C cx1 h2 dX7_clearsCounts_7 (fun s3 => ?_)
  refine R_aload_n C 0 rfl dX7_clearsCounts_8 ?_
  refine R_getr C fl7_9 rfl ha0 rx1 dX7_clearsCounts_9 ?_
  refine R_bipush C (10) dX7_clearsCounts_12 (by decide) ?_
  refine R_iconst C (0) dX7_clearsCounts_14 (by decide) ?_
  refine R_ck (fun h4 => ?_)
  refine S_iast C cx1 h4 dX7_clearsCounts_15 (fun s5 => ?_)
  refine R_aload_n C 0 rfl dX7_clearsCounts_16 ?_
  refine R_getr C fl7_9 rfl ha0 rx1 dX7_clearsCounts_17 ?_
  refine R_bipush C (11) dX7_clearsCounts_20 (by decide) ?_
  refine R_iconst C (0) dX7_clearsCounts_22 (by decide) ?_
  refine R_ck (fun h6 => ?_)
  refine S_iast C cx1 h6 dX7_clearsCounts_23 (fun s7 => ?_)
  refine R_aload_n C 0 rfl dX7_clearsCounts_24 ?_
  refine R_getr C fl7_9 rfl ha0 rx1 dX7_clearsCounts_25 ?_
  refine R_bipush C (12) dX7_clearsCounts_28 (by decide) ?_
  refine R_iconst C (0) dX7_clearsCounts_30 (by decide) ?_
  refine R_ck (fun h8 => ?_)
  refine S_iast C cx1 h8 dX7_clearsCounts_31 (fun s9 => ?_)
  exact R_vret C hr dX7_clearsCounts_32
theorem dX7_begins_0 : dk cX7_begins 0 1 (.aload_n 0) 1 := by unfold dk; decide +kernel
theorem dX7_begins_1 : dk cX7_begins 1 4 (.getfield 9) 3 := by unfold dk; decide +kernel
theorem dX7_begins_4 : dk cX7_begins 4 6 (.bipush 7) 2 := by unfold dk; decide +kernel
theorem dX7_begins_6 : dk cX7_begins 6 7 (.iconst 0) 1 := by unfold dk; decide +kernel
theorem dX7_begins_7 : dk cX7_begins 7 8 (.iastore) 1 := by unfold dk; decide +kernel
theorem dX7_begins_8 : dk cX7_begins 8 9 (.aload_n 0) 1 := by unfold dk; decide +kernel
theorem dX7_begins_9 : dk cX7_begins 9 12 (.getfield 9) 3 := by unfold dk; decide +kernel
theorem dX7_begins_12 : dk cX7_begins 12 14 (.bipush 14) 2 := by unfold dk; decide +kernel
theorem dX7_begins_14 : dk cX7_begins 14 15 (.iconst 0) 1 := by unfold dk; decide +kernel
theorem dX7_begins_15 : dk cX7_begins 15 16 (.iastore) 1 := by unfold dk; decide +kernel
theorem dX7_begins_16 : dk cX7_begins 16 17 (.aload_n 0) 1 := by unfold dk; decide +kernel
theorem dX7_begins_17 : dk cX7_begins 17 20 (.getfield 9) 3 := by unfold dk; decide +kernel
theorem dX7_begins_20 : dk cX7_begins 20 22 (.bipush 18) 2 := by unfold dk; decide +kernel
theorem dX7_begins_22 : dk cX7_begins 22 23 (.iconst 0) 1 := by unfold dk; decide +kernel
theorem dX7_begins_23 : dk cX7_begins 23 24 (.iastore) 1 := by unfold dk; decide +kernel
theorem dX7_begins_24 : dk cX7_begins 24 25 (.aload_n 0) 1 := by unfold dk; decide +kernel
theorem dX7_begins_25 : dk cX7_begins 25 28 (.invokevirtual 97) 3 := by unfold dk; decide +kernel
theorem dX7_begins_28 : dk cX7_begins 28 29 (.return_) 1 := by unfold dk; decide +kernel
set_option maxHeartbeats 4000000 in
set_option maxRecDepth 100000 in
theorem kX7_begins {l : Launch} {G : Gl} {E : En} {a0 : Nat} {σ σ' : Sg} : fX7_begins E a0 σ = some σ' → CT l yX7_begins cX7_begins 1 none ({ frames := 1, cells := 0, slots := 0, locals := 20 } : Room) [.ref (G.1 + a0)] G E σ none σ' := by
  intro h
  refine CT_of (lv0 := [(0, .ref (G.1 + a0))]) (by decide) (Nat.le_of_ble_eq_true rfl) rfl (fun κ hl hR hr C => ?_)
  have C : Cx κ G cX7_begins RX7 1 := C
  revert h
  unfold fX7_begins
  refine R_tk (fun ha0 => ?_)
  refine R_aload_n C 0 rfl dX7_begins_0 ?_
  refine R_dr (fun x1 rx1 cx1 => ?_)
  refine R_getr C fl7_9 rfl ha0 rx1 dX7_begins_1 ?_
  refine R_bipush C (7) dX7_begins_4 (by decide) ?_
  refine R_iconst C (0) dX7_begins_6 (by decide) ?_
  refine R_ck (fun h2 => ?_)
  refine S_iast C cx1 h2 dX7_begins_7 (fun s3 => ?_)
  refine R_aload_n C 0 rfl dX7_begins_8 ?_
  refine R_getr C fl7_9 rfl ha0 rx1 dX7_begins_9 ?_
  refine R_bipush C (14) dX7_begins_12 (by decide) ?_
  refine R_iconst C (0) dX7_begins_14 (by decide) ?_
  refine R_ck (fun h4 => ?_)
  refine S_iast C cx1 h4 dX7_begins_15 (fun s5 => ?_)
  refine R_aload_n C 0 rfl dX7_begins_16 ?_
  refine R_getr C fl7_9 rfl ha0 rx1 dX7_begins_17 ?_
  refine R_bipush C (18) dX7_begins_20 (by decide) ?_
  refine R_iconst C (0) dX7_begins_22 (by decide) ?_
  refine R_ck (fun h6 => ?_)
  refine S_iast C cx1 h6 dX7_begins_23 (fun s7 => ?_)
  refine R_aload_n C 0 rfl dX7_begins_24 ?_
  refine R_bv (fun s8 q9 => ?_)
  refine R_callVv [] [] C ml7_97 (kX7_clearsCounts q9) (by rw [hR]; exact ⟨rfl, rfl, Nat.le_of_ble_eq_true rfl, Nat.le_of_ble_eq_true rfl, Nat.zero_le _, Nat.zero_le _⟩) ha0 rfl rfl (Nat.le_of_ble_eq_true rfl) dX7_begins_25 ?_
  exact R_vret C hr dX7_begins_28
theorem dX7_tell_0 : dk cX7_tell 0 1 (.aload_n 0) 1 := by unfold dk; decide +kernel
theorem dX7_tell_1 : dk cX7_tell 1 4 (.getfield 86) 3 := by unfold dk; decide +kernel
theorem dX7_tell_22 : dk cX7_tell 22 23 (.iconst (-1)) 1 := by unfold dk; decide +kernel
theorem dX7_tell_23 : dk cX7_tell 23 24 (.ireturn) 1 := by unfold dk; decide +kernel
theorem dX7_tell_7 : dk cX7_tell 7 8 (.aload_n 0) 1 := by unfold dk; decide +kernel
theorem dX7_tell_8 : dk cX7_tell 8 11 (.invokevirtual 93) 3 := by unfold dk; decide +kernel
theorem dX7_tell_11 : dk cX7_tell 11 12 (.aload_n 0) 1 := by unfold dk; decide +kernel
theorem dX7_tell_12 : dk cX7_tell 12 15 (.getfield 86) 3 := by unfold dk; decide +kernel
theorem dX7_tell_15 : dk cX7_tell 15 16 (.iadd) 1 := by unfold dk; decide +kernel
theorem dX7_tell_16 : dk cX7_tell 16 19 (.sipush 300) 3 := by unfold dk; decide +kernel
theorem dX7_tell_24 : dk cX7_tell 24 25 (.aload_n 0) 1 := by unfold dk; decide +kernel
theorem dX7_tell_25 : dk cX7_tell 25 28 (.invokevirtual 100) 3 := by unfold dk; decide +kernel
theorem dX7_tell_28 : dk cX7_tell 28 29 (.iconst 0) 1 := by unfold dk; decide +kernel
theorem dX7_tell_29 : dk cX7_tell 29 30 (.istore_n 1) 1 := by unfold dk; decide +kernel
theorem dX7_tell_30 : dk cX7_tell 30 31 (.iload_n 1) 1 := by unfold dk; decide +kernel
theorem dX7_tell_31 : dk cX7_tell 31 32 (.aload_n 0) 1 := by unfold dk; decide +kernel
theorem dX7_tell_32 : dk cX7_tell 32 35 (.getfield 86) 3 := by unfold dk; decide +kernel
theorem dX7_tell_38 : dk cX7_tell 38 39 (.aload_n 0) 1 := by unfold dk; decide +kernel
theorem dX7_tell_39 : dk cX7_tell 39 40 (.aload_n 0) 1 := by unfold dk; decide +kernel
theorem dX7_tell_40 : dk cX7_tell 40 43 (.getfield 23) 3 := by unfold dk; decide +kernel
theorem dX7_tell_43 : dk cX7_tell 43 44 (.iload_n 1) 1 := by unfold dk; decide +kernel
theorem dX7_tell_44 : dk cX7_tell 44 45 (.baload) 1 := by unfold dk; decide +kernel
theorem dX7_tell_45 : dk cX7_tell 45 48 (.sipush 255) 3 := by unfold dk; decide +kernel
theorem dX7_tell_48 : dk cX7_tell 48 49 (.iand) 1 := by unfold dk; decide +kernel
theorem dX7_tell_49 : dk cX7_tell 49 52 (.invokevirtual 103) 3 := by unfold dk; decide +kernel
theorem dX7_tell_52 : dk cX7_tell 52 55 (.iinc 1 1) 3 := by unfold dk; decide +kernel
theorem dX7_tell_55 : bk cX7_tell 55 58 30 (.goto (-25)) (-25) := by unfold bk; decide +kernel
theorem dX7_tell_35 : bk cX7_tell 35 38 58 (.if_icmp .ge 23) (23) := by unfold bk; decide +kernel
theorem dX7_tell_58 : dk cX7_tell 58 59 (.aload_n 0) 1 := by unfold dk; decide +kernel
theorem dX7_tell_59 : dk cX7_tell 59 60 (.iconst 0) 1 := by unfold dk; decide +kernel
theorem dX7_tell_60 : dk cX7_tell 60 63 (.putfield 86) 3 := by unfold dk; decide +kernel
theorem dX7_tell_63 : dk cX7_tell 63 64 (.aload_n 0) 1 := by unfold dk; decide +kernel
theorem dX7_tell_64 : dk cX7_tell 64 67 (.invokevirtual 106) 3 := by unfold dk; decide +kernel
theorem dX7_tell_67 : dk cX7_tell 67 68 (.aload_n 0) 1 := by unfold dk; decide +kernel
theorem dX7_tell_68 : dk cX7_tell 68 71 (.invokevirtual 93) 3 := by unfold dk; decide +kernel
theorem dX7_tell_71 : dk cX7_tell 71 72 (.ireturn) 1 := by unfold dk; decide +kernel
theorem dX7_tell_19 : bk cX7_tell 19 22 24 (.if_icmp .le 5) (5) := by unfold bk; decide +kernel
theorem dX7_tell_4 : bk cX7_tell 4 7 22 (.ifCond .eq 18) (18) := by unfold bk; decide +kernel
set_option maxHeartbeats 4000000 in
set_option maxRecDepth 100000 in
theorem kX7_tell {l : Launch} {G : Gl} {E : En} {a0 : Nat} {σ σ' : Sg} {r : Int32} : fX7_tell E a0 σ = some (r, σ') → CT l yX7_tell cX7_tell 2 (some .int) ({ frames := 2, cells := 0, slots := 0, locals := 44 } : Room) [.ref (G.1 + a0)] G E σ (some (.int r)) σ' := by
  intro h
  refine CT_of (lv0 := [(0, .ref (G.1 + a0))]) (by decide) (Nat.le_of_ble_eq_true rfl) rfl (fun κ hl hR hr C => ?_)
  have C : Cx κ G cX7_tell RX7 2 := C
  revert h
  unfold fX7_tell
  refine R_tk (fun ha0 => ?_)
  refine R_aload_n C 0 rfl dX7_tell_0 ?_
  refine R_geti C fl7_86 rfl ha0 dX7_tell_1 ?_
  refine B_if_eq C dX7_tell_4 ?_ ?_
  · refine R_iconst C (-1) dX7_tell_22 (by decide) ?_
    exact R_iret C hr dX7_tell_23
  · refine R_aload_n C 0 rfl dX7_tell_7 ?_
    refine R_bd (fun r3 s1 q2 => ?_)
    refine R_callVi [] [] C ml7_93 (kX7_many q2) (by rw [hR]; exact ⟨rfl, rfl, Nat.le_of_ble_eq_true rfl, Nat.le_of_ble_eq_true rfl, Nat.zero_le _, Nat.zero_le _⟩) ha0 rfl rfl (Nat.le_of_ble_eq_true rfl) dX7_tell_8 ?_
    refine R_aload_n C 0 rfl dX7_tell_11 ?_
    refine R_geti C fl7_86 rfl ha0 dX7_tell_12 ?_
    refine R_iadd C dX7_tell_15 ?_
    refine R_sipush C (300) dX7_tell_16 (by decide) ?_
    refine B_icmp_le C dX7_tell_19 ?_ ?_
    · refine R_aload_n C 0 rfl dX7_tell_24 ?_
      refine R_bv (fun s4 q5 => ?_)
      refine R_callVv [] [] C ml7_100 (kX7_remembers q5) (by rw [hR]; exact ⟨rfl, rfl, Nat.le_of_ble_eq_true rfl, Nat.le_of_ble_eq_true rfl, Nat.zero_le _, Nat.zero_le _⟩) ha0 rfl rfl (Nat.le_of_ble_eq_true rfl) dX7_tell_25 ?_
      refine R_iconst C (0) dX7_tell_28 (by decide) ?_
      refine R_istore_n (lv2 := [(1, .int (0 : Int32)), (0, .ref (G.1 + a0))]) C dX7_tell_29 rfl (by decide) rfl ?_
      refine R_loc (lv2 := [(0, .ref (G.1 + a0)), (1, .int (0 : Int32))]) [1, 0] rfl ?_
      refine R_loop (fun (a : (Int32) × Sg) => V κ G (QQ κ G E (some (.int r)) σ') E a.2 (false, 0, 0) 30 [(0, .ref (G.1 + a0)), (1, .int a.1)] []) (fun (o : (Int32)) (s : Sg) => V κ G (QQ κ G E (some (.int r)) σ') E s (false, 0, 0) 58 [(0, .ref (G.1 + a0))] []) ((0 : Int32), s4) (fun o17 s18 => ?_) (fun rec I11 a b9 s10 K8 => ?_)
      · refine R_aload_n C 0 rfl dX7_tell_58 ?_
        refine R_iconst C (0) dX7_tell_59 (by decide) ?_
        refine S_puti C fl7_86 rfl ha0 rfl rfl dX7_tell_60 (fun s19 => ?_)
        refine R_aload_n C 0 rfl dX7_tell_63 ?_
        refine R_bv (fun s20 q21 => ?_)
        refine R_callVv [] [] C ml7_106 (kX7_begins q21) (by rw [hR]; exact ⟨rfl, rfl, Nat.le_of_ble_eq_true rfl, Nat.le_of_ble_eq_true rfl, Nat.zero_le _, Nat.zero_le _⟩) ha0 rfl rfl (Nat.le_of_ble_eq_true rfl) dX7_tell_64 ?_
        refine R_aload_n C 0 rfl dX7_tell_67 ?_
        refine R_bd (fun r24 s22 q23 => ?_)
        refine R_callVi [] [] C ml7_93 (kX7_many q23) (by rw [hR]; exact ⟨rfl, rfl, Nat.le_of_ble_eq_true rfl, Nat.le_of_ble_eq_true rfl, Nat.zero_le _, Nat.zero_le _⟩) ha0 rfl rfl (Nat.le_of_ble_eq_true rfl) dX7_tell_68 ?_
        exact R_iret C hr dX7_tell_71
      · obtain ⟨v6, s7⟩ := a
        show bX7_tell_30 E a0 (fun u0 t => rec (u0, t)) v6 s7 = some (b9, s10) → V κ G (QQ κ G E (some (.int r)) σ') E s7 (false, 0, 0) 30 [(0, .ref (G.1 + a0)), (1, .int v6)] []
        unfold bX7_tell_30
        refine R_iload_n C 1 rfl dX7_tell_30 ?_
        refine R_aload_n C 0 rfl dX7_tell_31 ?_
        refine R_geti C fl7_86 rfl ha0 dX7_tell_32 ?_
        refine B_icmp_ge C dX7_tell_35 ?_ ?_
        · refine R_loc (lv2 := [(0, .ref (G.1 + a0))]) [0] rfl ?_
          exact R_end (fun (o : (Int32)) (s : Sg) => V κ G (QQ κ G E (some (.int r)) σ') E s (false, 0, 0) 58 [(0, .ref (G.1 + a0))] []) K8
        · refine R_aload_n C 0 rfl dX7_tell_38 ?_
          refine R_aload_n C 0 rfl dX7_tell_39 ?_
          refine R_dr (fun x12 rx12 cx12 => ?_)
          refine R_getr C fl7_23 rfl ha0 rx12 dX7_tell_40 ?_
          refine R_iload_n C 1 rfl dX7_tell_43 ?_
          refine R_ck (fun h13 => ?_)
          refine R_bald C cx12 h13 dX7_tell_44 ?_
          refine R_sipush C (255) dX7_tell_45 (by decide) ?_
          refine R_iand C dX7_tell_48 ?_
          refine R_bv (fun s14 q15 => ?_)
          refine R_callVv [.int ((gi s7 x12 v6.toNatClampNeg) &&& (255 : Int32))] [] C ml7_103 (kX7_comes q15) (by rw [hR]; exact ⟨rfl, rfl, Nat.le_of_ble_eq_true rfl, Nat.le_of_ble_eq_true rfl, Nat.zero_le _, Nat.zero_le _⟩) ha0 rfl rfl (Nat.le_of_ble_eq_true rfl) dX7_tell_49 ?_
          refine S_iinc (fun v16 => [(1, .int v16), (0, .ref (G.1 + a0))]) 1 C dX7_tell_52 rfl (by decide) (by decide) (fun _ => rfl) (fun v16 => ?_)
          refine R_goto C dX7_tell_55 ?_
          refine R_loc (lv2 := [(0, .ref (G.1 + a0)), (1, .int v16)]) [1, 0] rfl ?_
          exact I11 (v16, s14) b9 s10 K8
    · refine R_iconst C (-1) dX7_tell_22 (by decide) ?_
      exact R_iret C hr dX7_tell_23
theorem dX7_drawnOf_0 : dk cX7_drawnOf 0 1 (.aload_n 0) 1 := by unfold dk; decide +kernel
theorem dX7_drawnOf_1 : dk cX7_drawnOf 1 4 (.getfield 9) 3 := by unfold dk; decide +kernel
theorem dX7_drawnOf_4 : dk cX7_drawnOf 4 6 (.bipush 8) 2 := by unfold dk; decide +kernel
theorem dX7_drawnOf_6 : dk cX7_drawnOf 6 7 (.aload_n 0) 1 := by unfold dk; decide +kernel
theorem dX7_drawnOf_7 : dk cX7_drawnOf 7 10 (.getfield 9) 3 := by unfold dk; decide +kernel
theorem dX7_drawnOf_10 : dk cX7_drawnOf 10 12 (.bipush 8) 2 := by unfold dk; decide +kernel
theorem dX7_drawnOf_12 : dk cX7_drawnOf 12 13 (.iaload) 1 := by unfold dk; decide +kernel
theorem dX7_drawnOf_13 : dk cX7_drawnOf 13 14 (.i2l) 1 := by unfold dk; decide +kernel
theorem dX7_drawnOf_14 : dk cX7_drawnOf 14 17 (.ldc2_w 109) 3 := by unfold dk; decide +kernel
theorem dX7_drawnOf_17 : dk cX7_drawnOf 17 18 (.lmul) 1 := by unfold dk; decide +kernel
theorem dX7_drawnOf_18 : dk cX7_drawnOf 18 21 (.ldc2_w 111) 3 := by unfold dk; decide +kernel
theorem dX7_drawnOf_21 : dk cX7_drawnOf 21 22 (.ladd) 1 := by unfold dk; decide +kernel
theorem dX7_drawnOf_22 : dk cX7_drawnOf 22 25 (.ldc2_w 113) 3 := by unfold dk; decide +kernel
theorem dX7_drawnOf_25 : dk cX7_drawnOf 25 26 (.lrem) 1 := by unfold dk; decide +kernel
theorem dX7_drawnOf_26 : dk cX7_drawnOf 26 27 (.l2i) 1 := by unfold dk; decide +kernel
theorem dX7_drawnOf_27 : dk cX7_drawnOf 27 28 (.iastore) 1 := by unfold dk; decide +kernel
theorem dX7_drawnOf_28 : dk cX7_drawnOf 28 29 (.aload_n 0) 1 := by unfold dk; decide +kernel
theorem dX7_drawnOf_29 : dk cX7_drawnOf 29 32 (.getfield 9) 3 := by unfold dk; decide +kernel
theorem dX7_drawnOf_32 : dk cX7_drawnOf 32 34 (.bipush 8) 2 := by unfold dk; decide +kernel
theorem dX7_drawnOf_34 : dk cX7_drawnOf 34 35 (.iaload) 1 := by unfold dk; decide +kernel
theorem dX7_drawnOf_35 : dk cX7_drawnOf 35 37 (.ldc 115) 2 := by unfold dk; decide +kernel
theorem dX7_drawnOf_37 : dk cX7_drawnOf 37 38 (.idiv) 1 := by unfold dk; decide +kernel
theorem dX7_drawnOf_38 : dk cX7_drawnOf 38 39 (.iload_n 1) 1 := by unfold dk; decide +kernel
theorem dX7_drawnOf_39 : dk cX7_drawnOf 39 40 (.irem) 1 := by unfold dk; decide +kernel
theorem dX7_drawnOf_40 : dk cX7_drawnOf 40 41 (.ireturn) 1 := by unfold dk; decide +kernel
set_option maxHeartbeats 4000000 in
set_option maxRecDepth 100000 in
theorem kX7_drawnOf {l : Launch} {G : Gl} {E : En} {a0 : Nat} {a1 : Int32} {σ σ' : Sg} {r : Int32} : fX7_drawnOf E a0 a1 σ = some (r, σ') → CT l yX7_drawnOf cX7_drawnOf 2 (some .int) ({ frames := 0, cells := 0, slots := 0, locals := 0 } : Room) [.ref (G.1 + a0), .int a1] G E σ (some (.int r)) σ' := by
  intro h
  refine CT_of (lv0 := [(0, .ref (G.1 + a0)), (1, .int a1)]) (by decide) (Nat.le_of_ble_eq_true rfl) rfl (fun κ hl hR hr C => ?_)
  have C : Cx κ G cX7_drawnOf RX7 2 := C
  revert h
  unfold fX7_drawnOf
  refine R_tk (fun ha0 => ?_)
  refine R_aload_n C 0 rfl dX7_drawnOf_0 ?_
  refine R_dr (fun x1 rx1 cx1 => ?_)
  refine R_getr C fl7_9 rfl ha0 rx1 dX7_drawnOf_1 ?_
  refine R_bipush C (8) dX7_drawnOf_4 (by decide) ?_
  refine R_aload_n C 0 rfl dX7_drawnOf_6 ?_
  refine R_getr C fl7_9 rfl ha0 rx1 dX7_drawnOf_7 ?_
  refine R_bipush C (8) dX7_drawnOf_10 (by decide) ?_
  refine R_ck (fun h2 => ?_)
  refine R_iald C cx1 h2 dX7_drawnOf_12 ?_
  refine R_i2l C dX7_drawnOf_13 ?_
  refine R_ldc2 C cs7_109 dX7_drawnOf_14 ?_
  refine R_lmul C dX7_drawnOf_17 ?_
  refine R_ldc2 C cs7_111 dX7_drawnOf_18 ?_
  refine R_ladd C dX7_drawnOf_21 ?_
  refine R_ldc2 C cs7_113 dX7_drawnOf_22 ?_
  refine R_lrem C dX7_drawnOf_25 (by decide) ?_
  refine R_l2i C dX7_drawnOf_26 ?_
  refine R_ck (fun h3 => ?_)
  refine S_iast C cx1 h3 dX7_drawnOf_27 (fun s4 => ?_)
  refine R_aload_n C 0 rfl dX7_drawnOf_28 ?_
  refine R_getr C fl7_9 rfl ha0 rx1 dX7_drawnOf_29 ?_
  refine R_bipush C (8) dX7_drawnOf_32 (by decide) ?_
  refine R_ck (fun h5 => ?_)
  refine R_iald C cx1 h5 dX7_drawnOf_34 ?_
  refine R_ldc C cs7_115 dX7_drawnOf_35 ?_
  refine R_idiv C dX7_drawnOf_37 (by decide) ?_
  refine R_iload_n C 1 rfl dX7_drawnOf_38 ?_
  refine R_nz (fun h6 => ?_)
  refine R_irem C dX7_drawnOf_39 h6 ?_
  exact R_iret C hr dX7_drawnOf_40
theorem dX7_drawn_0 : dk cX7_drawn 0 1 (.iload_n 1) 1 := by unfold dk; decide +kernel
theorem dX7_drawn_1 : dk cX7_drawn 1 2 (.iconst 1) 1 := by unfold dk; decide +kernel
theorem dX7_drawn_2 : dk cX7_drawn 2 4 (.bipush 100) 2 := by unfold dk; decide +kernel
theorem dX7_drawn_4 : dk cX7_drawn 4 7 (.invokestatic 116) 3 := by unfold dk; decide +kernel
theorem dX7_drawn_33 : dk cX7_drawn 33 34 (.iconst (-1)) 1 := by unfold dk; decide +kernel
theorem dX7_drawn_34 : dk cX7_drawn 34 35 (.ireturn) 1 := by unfold dk; decide +kernel
theorem dX7_drawn_10 : dk cX7_drawn 10 11 (.iload_n 2) 1 := by unfold dk; decide +kernel
theorem dX7_drawn_11 : dk cX7_drawn 11 12 (.iconst 1) 1 := by unfold dk; decide +kernel
theorem dX7_drawn_12 : dk cX7_drawn 12 15 (.sipush 256) 3 := by unfold dk; decide +kernel
theorem dX7_drawn_15 : dk cX7_drawn 15 18 (.invokestatic 116) 3 := by unfold dk; decide +kernel
theorem dX7_drawn_21 : dk cX7_drawn 21 22 (.aload_n 0) 1 := by unfold dk; decide +kernel
theorem dX7_drawn_22 : dk cX7_drawn 22 25 (.invokevirtual 93) 3 := by unfold dk; decide +kernel
theorem dX7_drawn_25 : dk cX7_drawn 25 26 (.iload_n 1) 1 := by unfold dk; decide +kernel
theorem dX7_drawn_26 : dk cX7_drawn 26 27 (.iadd) 1 := by unfold dk; decide +kernel
theorem dX7_drawn_27 : dk cX7_drawn 27 30 (.sipush 300) 3 := by unfold dk; decide +kernel
theorem dX7_drawn_35 : dk cX7_drawn 35 36 (.aload_n 0) 1 := by unfold dk; decide +kernel
theorem dX7_drawn_36 : dk cX7_drawn 36 39 (.invokevirtual 100) 3 := by unfold dk; decide +kernel
theorem dX7_drawn_39 : dk cX7_drawn 39 40 (.iconst 0) 1 := by unfold dk; decide +kernel
theorem dX7_drawn_40 : dk cX7_drawn 40 41 (.istore_n 3) 1 := by unfold dk; decide +kernel
theorem dX7_drawn_41 : dk cX7_drawn 41 42 (.iload_n 3) 1 := by unfold dk; decide +kernel
theorem dX7_drawn_42 : dk cX7_drawn 42 43 (.iload_n 1) 1 := by unfold dk; decide +kernel
theorem dX7_drawn_46 : dk cX7_drawn 46 47 (.aload_n 0) 1 := by unfold dk; decide +kernel
theorem dX7_drawn_47 : dk cX7_drawn 47 48 (.aload_n 0) 1 := by unfold dk; decide +kernel
theorem dX7_drawn_48 : dk cX7_drawn 48 49 (.iload_n 2) 1 := by unfold dk; decide +kernel
theorem dX7_drawn_49 : dk cX7_drawn 49 52 (.invokevirtual 120) 3 := by unfold dk; decide +kernel
theorem dX7_drawn_52 : dk cX7_drawn 52 55 (.invokevirtual 103) 3 := by unfold dk; decide +kernel
theorem dX7_drawn_55 : dk cX7_drawn 55 58 (.iinc 3 1) 3 := by unfold dk; decide +kernel
theorem dX7_drawn_58 : bk cX7_drawn 58 61 41 (.goto (-17)) (-17) := by unfold bk; decide +kernel
theorem dX7_drawn_43 : bk cX7_drawn 43 46 61 (.if_icmp .ge 18) (18) := by unfold bk; decide +kernel
theorem dX7_drawn_61 : dk cX7_drawn 61 62 (.aload_n 0) 1 := by unfold dk; decide +kernel
theorem dX7_drawn_62 : dk cX7_drawn 62 65 (.invokevirtual 106) 3 := by unfold dk; decide +kernel
theorem dX7_drawn_65 : dk cX7_drawn 65 66 (.aload_n 0) 1 := by unfold dk; decide +kernel
theorem dX7_drawn_66 : dk cX7_drawn 66 69 (.invokevirtual 93) 3 := by unfold dk; decide +kernel
theorem dX7_drawn_69 : dk cX7_drawn 69 70 (.ireturn) 1 := by unfold dk; decide +kernel
theorem dX7_drawn_30 : bk cX7_drawn 30 33 35 (.if_icmp .le 5) (5) := by unfold bk; decide +kernel
theorem dX7_drawn_18 : bk cX7_drawn 18 21 33 (.ifCond .eq 15) (15) := by unfold bk; decide +kernel
theorem dX7_drawn_7 : bk cX7_drawn 7 10 33 (.ifCond .eq 26) (26) := by unfold bk; decide +kernel
set_option maxHeartbeats 4000000 in
set_option maxRecDepth 100000 in
theorem kX7_drawn {l : Launch} {G : Gl} {E : En} {a0 : Nat} {a1 : Int32} {a2 : Int32} {σ σ' : Sg} {r : Int32} : fX7_drawn E a0 a1 a2 σ = some (r, σ') → CT l yX7_drawn cX7_drawn 4 (some .int) ({ frames := 2, cells := 0, slots := 0, locals := 44 } : Room) [.ref (G.1 + a0), .int a1, .int a2] G E σ (some (.int r)) σ' := by
  intro h
  refine CT_of (lv0 := [(0, .ref (G.1 + a0)), (1, .int a1), (2, .int a2)]) (by decide) (Nat.le_of_ble_eq_true rfl) rfl (fun κ hl hR hr C => ?_)
  have C : Cx κ G cX7_drawn RX7 4 := C
  revert h
  unfold fX7_drawn
  refine R_tk (fun ha0 => ?_)
  refine R_iload_n C 1 rfl dX7_drawn_0 ?_
  refine R_iconst C (1) dX7_drawn_1 (by decide) ?_
  refine R_bipush C (100) dX7_drawn_2 (by decide) ?_
  refine R_bd (fun r3 s1 q2 => ?_)
  refine R_callSi [.int a1, .int (1 : Int32), .int (100 : Int32)] [] C ml7_116 (kX7_in q2) (by rw [hR]; exact ⟨rfl, rfl, Nat.le_of_ble_eq_true rfl, Nat.le_of_ble_eq_true rfl, Nat.zero_le _, Nat.zero_le _⟩) rfl rfl (Nat.le_of_ble_eq_true rfl) dX7_drawn_4 ?_
  refine B_if_eq C dX7_drawn_7 ?_ ?_
  · refine R_iconst C (-1) dX7_drawn_33 (by decide) ?_
    exact R_iret C hr dX7_drawn_34
  · refine R_iload_n C 2 rfl dX7_drawn_10 ?_
    refine R_iconst C (1) dX7_drawn_11 (by decide) ?_
    refine R_sipush C (256) dX7_drawn_12 (by decide) ?_
    refine R_bd (fun r6 s4 q5 => ?_)
    refine R_callSi [.int a2, .int (1 : Int32), .int (256 : Int32)] [] C ml7_116 (kX7_in q5) (by rw [hR]; exact ⟨rfl, rfl, Nat.le_of_ble_eq_true rfl, Nat.le_of_ble_eq_true rfl, Nat.zero_le _, Nat.zero_le _⟩) rfl rfl (Nat.le_of_ble_eq_true rfl) dX7_drawn_15 ?_
    refine B_if_eq C dX7_drawn_18 ?_ ?_
    · refine R_iconst C (-1) dX7_drawn_33 (by decide) ?_
      exact R_iret C hr dX7_drawn_34
    · refine R_aload_n C 0 rfl dX7_drawn_21 ?_
      refine R_bd (fun r9 s7 q8 => ?_)
      refine R_callVi [] [] C ml7_93 (kX7_many q8) (by rw [hR]; exact ⟨rfl, rfl, Nat.le_of_ble_eq_true rfl, Nat.le_of_ble_eq_true rfl, Nat.zero_le _, Nat.zero_le _⟩) ha0 rfl rfl (Nat.le_of_ble_eq_true rfl) dX7_drawn_22 ?_
      refine R_iload_n C 1 rfl dX7_drawn_25 ?_
      refine R_iadd C dX7_drawn_26 ?_
      refine R_sipush C (300) dX7_drawn_27 (by decide) ?_
      refine B_icmp_le C dX7_drawn_30 ?_ ?_
      · refine R_aload_n C 0 rfl dX7_drawn_35 ?_
        refine R_bv (fun s10 q11 => ?_)
        refine R_callVv [] [] C ml7_100 (kX7_remembers q11) (by rw [hR]; exact ⟨rfl, rfl, Nat.le_of_ble_eq_true rfl, Nat.le_of_ble_eq_true rfl, Nat.zero_le _, Nat.zero_le _⟩) ha0 rfl rfl (Nat.le_of_ble_eq_true rfl) dX7_drawn_36 ?_
        refine R_iconst C (0) dX7_drawn_39 (by decide) ?_
        refine R_istore_n (lv2 := [(3, .int (0 : Int32)), (0, .ref (G.1 + a0)), (1, .int a1), (2, .int a2)]) C dX7_drawn_40 rfl (by decide) rfl ?_
        refine R_loc (lv2 := [(0, .ref (G.1 + a0)), (1, .int a1), (2, .int a2), (3, .int (0 : Int32))]) [1, 2, 3, 0] rfl ?_
        refine R_loop (fun (a : (Int32) × Sg) => V κ G (QQ κ G E (some (.int r)) σ') E a.2 (false, 0, 0) 41 [(0, .ref (G.1 + a0)), (1, .int a1), (2, .int a2), (3, .int a.1)] []) (fun (o : (Int32)) (s : Sg) => V κ G (QQ κ G E (some (.int r)) σ') E s (false, 0, 0) 61 [(0, .ref (G.1 + a0))] []) ((0 : Int32), s10) (fun o24 s25 => ?_) (fun rec I17 a b15 s16 K14 => ?_)
        · refine R_aload_n C 0 rfl dX7_drawn_61 ?_
          refine R_bv (fun s26 q27 => ?_)
          refine R_callVv [] [] C ml7_106 (kX7_begins q27) (by rw [hR]; exact ⟨rfl, rfl, Nat.le_of_ble_eq_true rfl, Nat.le_of_ble_eq_true rfl, Nat.zero_le _, Nat.zero_le _⟩) ha0 rfl rfl (Nat.le_of_ble_eq_true rfl) dX7_drawn_62 ?_
          refine R_aload_n C 0 rfl dX7_drawn_65 ?_
          refine R_bd (fun r30 s28 q29 => ?_)
          refine R_callVi [] [] C ml7_93 (kX7_many q29) (by rw [hR]; exact ⟨rfl, rfl, Nat.le_of_ble_eq_true rfl, Nat.le_of_ble_eq_true rfl, Nat.zero_le _, Nat.zero_le _⟩) ha0 rfl rfl (Nat.le_of_ble_eq_true rfl) dX7_drawn_66 ?_
          exact R_iret C hr dX7_drawn_69
        · obtain ⟨v12, s13⟩ := a
          show bX7_drawn_41 E a1 a0 a2 (fun u0 t => rec (u0, t)) v12 s13 = some (b15, s16) → V κ G (QQ κ G E (some (.int r)) σ') E s13 (false, 0, 0) 41 [(0, .ref (G.1 + a0)), (1, .int a1), (2, .int a2), (3, .int v12)] []
          unfold bX7_drawn_41
          refine R_iload_n C 3 rfl dX7_drawn_41 ?_
          refine R_iload_n C 1 rfl dX7_drawn_42 ?_
          refine B_icmp_ge C dX7_drawn_43 ?_ ?_
          · refine R_loc (lv2 := [(0, .ref (G.1 + a0))]) [0] rfl ?_
            exact R_end (fun (o : (Int32)) (s : Sg) => V κ G (QQ κ G E (some (.int r)) σ') E s (false, 0, 0) 61 [(0, .ref (G.1 + a0))] []) K14
          · refine R_aload_n C 0 rfl dX7_drawn_46 ?_
            refine R_aload_n C 0 rfl dX7_drawn_47 ?_
            refine R_iload_n C 2 rfl dX7_drawn_48 ?_
            refine R_bd (fun r20 s18 q19 => ?_)
            refine R_callVi [.int a2] [.ref (G.1 + a0)] C ml7_120 (kX7_drawnOf q19) (by rw [hR]; exact ⟨rfl, rfl, Nat.le_of_ble_eq_true rfl, Nat.le_of_ble_eq_true rfl, Nat.zero_le _, Nat.zero_le _⟩) ha0 rfl rfl (Nat.le_of_ble_eq_true rfl) dX7_drawn_49 ?_
            refine R_bv (fun s21 q22 => ?_)
            refine R_callVv [.int r20] [] C ml7_103 (kX7_comes q22) (by rw [hR]; exact ⟨rfl, rfl, Nat.le_of_ble_eq_true rfl, Nat.le_of_ble_eq_true rfl, Nat.zero_le _, Nat.zero_le _⟩) ha0 rfl rfl (Nat.le_of_ble_eq_true rfl) dX7_drawn_52 ?_
            refine S_iinc (fun v23 => [(3, .int v23), (0, .ref (G.1 + a0)), (1, .int a1), (2, .int a2)]) 3 C dX7_drawn_55 rfl (by decide) (by decide) (fun _ => rfl) (fun v23 => ?_)
            refine R_goto C dX7_drawn_58 ?_
            refine R_loc (lv2 := [(0, .ref (G.1 + a0)), (1, .int a1), (2, .int a2), (3, .int v23)]) [1, 2, 3, 0] rfl ?_
            exact I17 (v23, s21) b15 s16 K14
      · refine R_iconst C (-1) dX7_drawn_33 (by decide) ?_
        exact R_iret C hr dX7_drawn_34
theorem dX7_draws_0 : dk cX7_draws 0 1 (.iload_n 1) 1 := by unfold dk; decide +kernel
theorem dX7_draws_6 : dk cX7_draws 6 7 (.aload_n 0) 1 := by unfold dk; decide +kernel
theorem dX7_draws_7 : dk cX7_draws 7 10 (.getfield 9) 3 := by unfold dk; decide +kernel
theorem dX7_draws_10 : dk cX7_draws 10 12 (.bipush 8) 2 := by unfold dk; decide +kernel
theorem dX7_draws_12 : dk cX7_draws 12 13 (.iaload) 1 := by unfold dk; decide +kernel
theorem dX7_draws_13 : dk cX7_draws 13 14 (.istore_n 2) 1 := by unfold dk; decide +kernel
theorem dX7_draws_14 : dk cX7_draws 14 15 (.aload_n 0) 1 := by unfold dk; decide +kernel
theorem dX7_draws_15 : dk cX7_draws 15 18 (.getfield 9) 3 := by unfold dk; decide +kernel
theorem dX7_draws_18 : dk cX7_draws 18 20 (.bipush 8) 2 := by unfold dk; decide +kernel
theorem dX7_draws_20 : dk cX7_draws 20 21 (.iload_n 1) 1 := by unfold dk; decide +kernel
theorem dX7_draws_21 : dk cX7_draws 21 22 (.iastore) 1 := by unfold dk; decide +kernel
theorem dX7_draws_22 : dk cX7_draws 22 23 (.iload_n 2) 1 := by unfold dk; decide +kernel
theorem dX7_draws_23 : dk cX7_draws 23 24 (.ireturn) 1 := by unfold dk; decide +kernel
theorem dX7_draws_4 : dk cX7_draws 4 5 (.iconst (-1)) 1 := by unfold dk; decide +kernel
theorem dX7_draws_5 : dk cX7_draws 5 6 (.ireturn) 1 := by unfold dk; decide +kernel
theorem dX7_draws_1 : bk cX7_draws 1 4 6 (.ifCond .ge 5) (5) := by unfold bk; decide +kernel
set_option maxHeartbeats 4000000 in
set_option maxRecDepth 100000 in
theorem kX7_draws {l : Launch} {G : Gl} {E : En} {a0 : Nat} {a1 : Int32} {σ σ' : Sg} {r : Int32} : fX7_draws E a0 a1 σ = some (r, σ') → CT l yX7_draws cX7_draws 3 (some .int) ({ frames := 0, cells := 0, slots := 0, locals := 0 } : Room) [.ref (G.1 + a0), .int a1] G E σ (some (.int r)) σ' := by
  intro h
  refine CT_of (lv0 := [(0, .ref (G.1 + a0)), (1, .int a1)]) (by decide) (Nat.le_of_ble_eq_true rfl) rfl (fun κ hl hR hr C => ?_)
  have C : Cx κ G cX7_draws RX7 3 := C
  revert h
  unfold fX7_draws
  refine R_tk (fun ha0 => ?_)
  refine R_iload_n C 1 rfl dX7_draws_0 ?_
  refine B_if_ge C dX7_draws_1 ?_ ?_
  · refine R_aload_n C 0 rfl dX7_draws_6 ?_
    refine R_dr (fun x1 rx1 cx1 => ?_)
    refine R_getr C fl7_9 rfl ha0 rx1 dX7_draws_7 ?_
    refine R_bipush C (8) dX7_draws_10 (by decide) ?_
    refine R_ck (fun h2 => ?_)
    refine R_iald C cx1 h2 dX7_draws_12 ?_
    refine S_istore_n C dX7_draws_13 rfl (fun v3 => [(2, .int v3), (0, .ref (G.1 + a0)), (1, .int a1)]) (by decide) (fun _ => rfl) (fun v3 => ?_)
    refine R_aload_n C 1 rfl dX7_draws_14 ?_
    refine R_getr C fl7_9 rfl ha0 rx1 dX7_draws_15 ?_
    refine R_bipush C (8) dX7_draws_18 (by decide) ?_
    refine R_iload_n C 2 rfl dX7_draws_20 ?_
    refine R_ck (fun h4 => ?_)
    refine S_iast C cx1 h4 dX7_draws_21 (fun s5 => ?_)
    refine R_iload_n C 0 rfl dX7_draws_22 ?_
    exact R_iret C hr dX7_draws_23
  · refine R_iconst C (-1) dX7_draws_4 (by decide) ?_
    exact R_iret C hr dX7_draws_5
theorem dX7_clear_0 : dk cX7_clear 0 1 (.aload_n 0) 1 := by unfold dk; decide +kernel
theorem dX7_clear_1 : dk cX7_clear 1 4 (.invokevirtual 100) 3 := by unfold dk; decide +kernel
theorem dX7_clear_4 : dk cX7_clear 4 5 (.aload_n 0) 1 := by unfold dk; decide +kernel
theorem dX7_clear_5 : dk cX7_clear 5 8 (.invokevirtual 93) 3 := by unfold dk; decide +kernel
theorem dX7_clear_8 : dk cX7_clear 8 9 (.istore_n 1) 1 := by unfold dk; decide +kernel
theorem dX7_clear_9 : dk cX7_clear 9 10 (.aload_n 0) 1 := by unfold dk; decide +kernel
theorem dX7_clear_10 : dk cX7_clear 10 13 (.getfield 9) 3 := by unfold dk; decide +kernel
theorem dX7_clear_13 : dk cX7_clear 13 14 (.iconst 0) 1 := by unfold dk; decide +kernel
theorem dX7_clear_14 : dk cX7_clear 14 15 (.iconst 0) 1 := by unfold dk; decide +kernel
theorem dX7_clear_15 : dk cX7_clear 15 16 (.iastore) 1 := by unfold dk; decide +kernel
theorem dX7_clear_16 : dk cX7_clear 16 17 (.aload_n 0) 1 := by unfold dk; decide +kernel
theorem dX7_clear_17 : dk cX7_clear 17 20 (.invokevirtual 106) 3 := by unfold dk; decide +kernel
theorem dX7_clear_20 : dk cX7_clear 20 21 (.iload_n 1) 1 := by unfold dk; decide +kernel
theorem dX7_clear_21 : dk cX7_clear 21 22 (.ireturn) 1 := by unfold dk; decide +kernel
set_option maxHeartbeats 4000000 in
set_option maxRecDepth 100000 in
theorem kX7_clear {l : Launch} {G : Gl} {E : En} {a0 : Nat} {σ σ' : Sg} {r : Int32} : fX7_clear E a0 σ = some (r, σ') → CT l yX7_clear cX7_clear 2 (some .int) ({ frames := 2, cells := 0, slots := 0, locals := 44 } : Room) [.ref (G.1 + a0)] G E σ (some (.int r)) σ' := by
  intro h
  refine CT_of (lv0 := [(0, .ref (G.1 + a0))]) (by decide) (Nat.le_of_ble_eq_true rfl) rfl (fun κ hl hR hr C => ?_)
  have C : Cx κ G cX7_clear RX7 2 := C
  revert h
  unfold fX7_clear
  refine R_tk (fun ha0 => ?_)
  refine R_aload_n C 0 rfl dX7_clear_0 ?_
  refine R_bv (fun s1 q2 => ?_)
  refine R_callVv [] [] C ml7_100 (kX7_remembers q2) (by rw [hR]; exact ⟨rfl, rfl, Nat.le_of_ble_eq_true rfl, Nat.le_of_ble_eq_true rfl, Nat.zero_le _, Nat.zero_le _⟩) ha0 rfl rfl (Nat.le_of_ble_eq_true rfl) dX7_clear_1 ?_
  refine R_aload_n C 0 rfl dX7_clear_4 ?_
  refine R_bd (fun r5 s3 q4 => ?_)
  refine R_callVi [] [] C ml7_93 (kX7_many q4) (by rw [hR]; exact ⟨rfl, rfl, Nat.le_of_ble_eq_true rfl, Nat.le_of_ble_eq_true rfl, Nat.zero_le _, Nat.zero_le _⟩) ha0 rfl rfl (Nat.le_of_ble_eq_true rfl) dX7_clear_5 ?_
  refine R_istore_n (lv2 := [(1, .int r5), (0, .ref (G.1 + a0))]) C dX7_clear_8 rfl (by decide) rfl ?_
  refine R_aload_n C 1 rfl dX7_clear_9 ?_
  refine R_dr (fun x6 rx6 cx6 => ?_)
  refine R_getr C fl7_9 rfl ha0 rx6 dX7_clear_10 ?_
  refine R_iconst C (0) dX7_clear_13 (by decide) ?_
  refine R_iconst C (0) dX7_clear_14 (by decide) ?_
  refine R_ck (fun h7 => ?_)
  refine S_iast C cx6 h7 dX7_clear_15 (fun s8 => ?_)
  refine R_aload_n C 1 rfl dX7_clear_16 ?_
  refine R_bv (fun s9 q10 => ?_)
  refine R_callVv [] [] C ml7_106 (kX7_begins q10) (by rw [hR]; exact ⟨rfl, rfl, Nat.le_of_ble_eq_true rfl, Nat.le_of_ble_eq_true rfl, Nat.zero_le _, Nat.zero_le _⟩) ha0 rfl rfl (Nat.le_of_ble_eq_true rfl) dX7_clear_17 ?_
  refine R_iload_n C 0 rfl dX7_clear_20 ?_
  exact R_iret C hr dX7_clear_21
theorem dX7_canSet_0 : dk cX7_canSet 0 1 (.iload_n 0) 1 := by unfold dk; decide +kernel
theorem dX7_canSet_1 : dk cX7_canSet 1 40 (.tableswitch 69 0 5 #[39, 47, 55, 62, 62, 62]) 39 := by unfold dk; decide +kernel
theorem dX7_canSet_40 : dk cX7_canSet 40 41 (.iload_n 1) 1 := by unfold dk; decide +kernel
theorem dX7_canSet_41 : dk cX7_canSet 41 42 (.iconst 2) 1 := by unfold dk; decide +kernel
theorem dX7_canSet_42 : dk cX7_canSet 42 44 (.bipush 16) 2 := by unfold dk; decide +kernel
theorem dX7_canSet_44 : dk cX7_canSet 44 47 (.invokestatic 116) 3 := by unfold dk; decide +kernel
theorem dX7_canSet_47 : dk cX7_canSet 47 48 (.ireturn) 1 := by unfold dk; decide +kernel
theorem dX7_canSet_48 : dk cX7_canSet 48 49 (.iload_n 1) 1 := by unfold dk; decide +kernel
theorem dX7_canSet_49 : dk cX7_canSet 49 50 (.iconst 3) 1 := by unfold dk; decide +kernel
theorem dX7_canSet_50 : dk cX7_canSet 50 52 (.bipush 6) 2 := by unfold dk; decide +kernel
theorem dX7_canSet_52 : dk cX7_canSet 52 55 (.invokestatic 116) 3 := by unfold dk; decide +kernel
theorem dX7_canSet_55 : dk cX7_canSet 55 56 (.ireturn) 1 := by unfold dk; decide +kernel
theorem dX7_canSet_56 : dk cX7_canSet 56 57 (.iload_n 1) 1 := by unfold dk; decide +kernel
theorem dX7_canSet_57 : dk cX7_canSet 57 58 (.iconst 0) 1 := by unfold dk; decide +kernel
theorem dX7_canSet_58 : dk cX7_canSet 58 59 (.iconst 2) 1 := by unfold dk; decide +kernel
theorem dX7_canSet_59 : dk cX7_canSet 59 62 (.invokestatic 116) 3 := by unfold dk; decide +kernel
theorem dX7_canSet_62 : dk cX7_canSet 62 63 (.ireturn) 1 := by unfold dk; decide +kernel
theorem dX7_canSet_63 : dk cX7_canSet 63 64 (.iload_n 1) 1 := by unfold dk; decide +kernel
theorem dX7_canSet_64 : dk cX7_canSet 64 65 (.iconst 0) 1 := by unfold dk; decide +kernel
theorem dX7_canSet_65 : dk cX7_canSet 65 66 (.iconst 1) 1 := by unfold dk; decide +kernel
theorem dX7_canSet_66 : dk cX7_canSet 66 69 (.invokestatic 116) 3 := by unfold dk; decide +kernel
theorem dX7_canSet_69 : dk cX7_canSet 69 70 (.ireturn) 1 := by unfold dk; decide +kernel
theorem dX7_canSet_70 : dk cX7_canSet 70 71 (.iconst 0) 1 := by unfold dk; decide +kernel
theorem dX7_canSet_71 : dk cX7_canSet 71 72 (.ireturn) 1 := by unfold dk; decide +kernel
set_option maxHeartbeats 4000000 in
set_option maxRecDepth 100000 in
theorem kX7_canSet {l : Launch} {G : Gl} {E : En} {a0 : Int32} {a1 : Int32} {σ σ' : Sg} {r : Int32} : fX7_canSet E a0 a1 σ = some (r, σ') → CT l yX7_canSet cX7_canSet 2 (some .boolean) ({ frames := 1, cells := 0, slots := 0, locals := 22 } : Room) [.int a0, .int a1] G E σ (some (.int r)) σ' := by
  intro h
  refine CT_of (lv0 := [(0, .int a0), (1, .int a1)]) (by decide) (Nat.le_of_ble_eq_true rfl) rfl (fun κ hl hR hr C => ?_)
  have C : Cx κ G cX7_canSet RX7 2 := C
  revert h
  unfold fX7_canSet
  refine R_iload_n C 0 rfl dX7_canSet_0 ?_
  refine R_if (fun h1 => ?_) (fun h1 => ?_)
  · refine R_tsIn (off := 39) (t := 40) C dX7_canSet_1 h1 (by decide) ?_
    refine R_iload_n C 1 rfl dX7_canSet_40 ?_
    refine R_iconst C (2) dX7_canSet_41 (by decide) ?_
    refine R_bipush C (16) dX7_canSet_42 (by decide) ?_
    refine R_bd (fun r4 s2 q3 => ?_)
    refine R_callSi [.int a1, .int (2 : Int32), .int (16 : Int32)] [] C ml7_116 (kX7_in q3) (by rw [hR]; exact ⟨rfl, rfl, Nat.le_of_ble_eq_true rfl, Nat.le_of_ble_eq_true rfl, Nat.zero_le _, Nat.zero_le _⟩) rfl rfl (Nat.le_of_ble_eq_true rfl) dX7_canSet_44 ?_
    refine R_kb (fun h5 => ?_)
    exact R_zret C hr h5 dX7_canSet_47
  refine R_if (fun h6 => ?_) (fun h6 => ?_)
  · refine R_tsIn (off := 47) (t := 48) C dX7_canSet_1 h6 (by decide) ?_
    refine R_iload_n C 1 rfl dX7_canSet_48 ?_
    refine R_iconst C (3) dX7_canSet_49 (by decide) ?_
    refine R_bipush C (6) dX7_canSet_50 (by decide) ?_
    refine R_bd (fun r9 s7 q8 => ?_)
    refine R_callSi [.int a1, .int (3 : Int32), .int (6 : Int32)] [] C ml7_116 (kX7_in q8) (by rw [hR]; exact ⟨rfl, rfl, Nat.le_of_ble_eq_true rfl, Nat.le_of_ble_eq_true rfl, Nat.zero_le _, Nat.zero_le _⟩) rfl rfl (Nat.le_of_ble_eq_true rfl) dX7_canSet_52 ?_
    refine R_kb (fun h10 => ?_)
    exact R_zret C hr h10 dX7_canSet_55
  refine R_if (fun h11 => ?_) (fun h11 => ?_)
  · refine R_tsIn (off := 55) (t := 56) C dX7_canSet_1 h11 (by decide) ?_
    refine R_iload_n C 1 rfl dX7_canSet_56 ?_
    refine R_iconst C (0) dX7_canSet_57 (by decide) ?_
    refine R_iconst C (2) dX7_canSet_58 (by decide) ?_
    refine R_bd (fun r14 s12 q13 => ?_)
    refine R_callSi [.int a1, .int (0 : Int32), .int (2 : Int32)] [] C ml7_116 (kX7_in q13) (by rw [hR]; exact ⟨rfl, rfl, Nat.le_of_ble_eq_true rfl, Nat.le_of_ble_eq_true rfl, Nat.zero_le _, Nat.zero_le _⟩) rfl rfl (Nat.le_of_ble_eq_true rfl) dX7_canSet_59 ?_
    refine R_kb (fun h15 => ?_)
    exact R_zret C hr h15 dX7_canSet_62
  refine R_if (fun h16 => ?_) (fun h16 => ?_)
  · refine R_tsIn (off := 62) (t := 63) C dX7_canSet_1 h16 (by decide) ?_
    refine R_iload_n C 1 rfl dX7_canSet_63 ?_
    refine R_iconst C (0) dX7_canSet_64 (by decide) ?_
    refine R_iconst C (1) dX7_canSet_65 (by decide) ?_
    refine R_bd (fun r19 s17 q18 => ?_)
    refine R_callSi [.int a1, .int (0 : Int32), .int (1 : Int32)] [] C ml7_116 (kX7_in q18) (by rw [hR]; exact ⟨rfl, rfl, Nat.le_of_ble_eq_true rfl, Nat.le_of_ble_eq_true rfl, Nat.zero_le _, Nat.zero_le _⟩) rfl rfl (Nat.le_of_ble_eq_true rfl) dX7_canSet_66 ?_
    refine R_kb (fun h20 => ?_)
    exact R_zret C hr h20 dX7_canSet_69
  refine R_if (fun h21 => ?_) (fun h21 => ?_)
  · refine R_tsIn (off := 62) (t := 63) C dX7_canSet_1 h21 (by decide) ?_
    refine R_iload_n C 1 rfl dX7_canSet_63 ?_
    refine R_iconst C (0) dX7_canSet_64 (by decide) ?_
    refine R_iconst C (1) dX7_canSet_65 (by decide) ?_
    refine R_bd (fun r24 s22 q23 => ?_)
    refine R_callSi [.int a1, .int (0 : Int32), .int (1 : Int32)] [] C ml7_116 (kX7_in q23) (by rw [hR]; exact ⟨rfl, rfl, Nat.le_of_ble_eq_true rfl, Nat.le_of_ble_eq_true rfl, Nat.zero_le _, Nat.zero_le _⟩) rfl rfl (Nat.le_of_ble_eq_true rfl) dX7_canSet_66 ?_
    refine R_kb (fun h25 => ?_)
    exact R_zret C hr h25 dX7_canSet_69
  refine R_if (fun h26 => ?_) (fun h26 => ?_)
  · refine R_tsIn (off := 62) (t := 63) C dX7_canSet_1 h26 (by decide) ?_
    refine R_iload_n C 1 rfl dX7_canSet_63 ?_
    refine R_iconst C (0) dX7_canSet_64 (by decide) ?_
    refine R_iconst C (1) dX7_canSet_65 (by decide) ?_
    refine R_bd (fun r29 s27 q28 => ?_)
    refine R_callSi [.int a1, .int (0 : Int32), .int (1 : Int32)] [] C ml7_116 (kX7_in q28) (by rw [hR]; exact ⟨rfl, rfl, Nat.le_of_ble_eq_true rfl, Nat.le_of_ble_eq_true rfl, Nat.zero_le _, Nat.zero_le _⟩) rfl rfl (Nat.le_of_ble_eq_true rfl) dX7_canSet_66 ?_
    refine R_kb (fun h30 => ?_)
    exact R_zret C hr h30 dX7_canSet_69
  · refine R_tsOut (t := 70) C dX7_canSet_1 (by have ah1 := lv_neT (a := 0) h1 (by decide); have ah6 := lv_neT (a := 1) h6 (by decide); have ah11 := lv_neT (a := 2) h11 (by decide); have ah16 := lv_neT (a := 3) h16 (by decide); have ah21 := lv_neT (a := 4) h21 (by decide); have ah26 := lv_neT (a := 5) h26 (by decide); omega) (by decide) ?_
    refine R_iconst C (0) dX7_canSet_70 (by decide) ?_
    exact R_zret C hr (Or.inl rfl) dX7_canSet_71
theorem dX7_settle_0 : dk cX7_settle 0 1 (.iload_n 1) 1 := by unfold dk; decide +kernel
theorem dX7_settle_1 : dk cX7_settle 1 2 (.iload_n 2) 1 := by unfold dk; decide +kernel
theorem dX7_settle_2 : dk cX7_settle 2 5 (.invokestatic 124) 3 := by unfold dk; decide +kernel
theorem dX7_settle_10 : dk cX7_settle 10 11 (.aload_n 0) 1 := by unfold dk; decide +kernel
theorem dX7_settle_11 : dk cX7_settle 11 14 (.getfield 9) 3 := by unfold dk; decide +kernel
theorem dX7_settle_14 : dk cX7_settle 14 15 (.iconst 1) 1 := by unfold dk; decide +kernel
theorem dX7_settle_15 : dk cX7_settle 15 16 (.iload_n 1) 1 := by unfold dk; decide +kernel
theorem dX7_settle_16 : dk cX7_settle 16 17 (.iadd) 1 := by unfold dk; decide +kernel
theorem dX7_settle_17 : dk cX7_settle 17 18 (.iaload) 1 := by unfold dk; decide +kernel
theorem dX7_settle_18 : dk cX7_settle 18 19 (.istore_n 3) 1 := by unfold dk; decide +kernel
theorem dX7_settle_19 : dk cX7_settle 19 20 (.iload_n 3) 1 := by unfold dk; decide +kernel
theorem dX7_settle_20 : dk cX7_settle 20 21 (.iload_n 2) 1 := by unfold dk; decide +kernel
theorem dX7_settle_27 : dk cX7_settle 27 28 (.aload_n 0) 1 := by unfold dk; decide +kernel
theorem dX7_settle_28 : dk cX7_settle 28 31 (.invokevirtual 100) 3 := by unfold dk; decide +kernel
theorem dX7_settle_31 : dk cX7_settle 31 32 (.aload_n 0) 1 := by unfold dk; decide +kernel
theorem dX7_settle_32 : dk cX7_settle 32 35 (.getfield 9) 3 := by unfold dk; decide +kernel
theorem dX7_settle_35 : dk cX7_settle 35 36 (.iconst 1) 1 := by unfold dk; decide +kernel
theorem dX7_settle_36 : dk cX7_settle 36 37 (.iload_n 1) 1 := by unfold dk; decide +kernel
theorem dX7_settle_37 : dk cX7_settle 37 38 (.iadd) 1 := by unfold dk; decide +kernel
theorem dX7_settle_38 : dk cX7_settle 38 39 (.iload_n 2) 1 := by unfold dk; decide +kernel
theorem dX7_settle_39 : dk cX7_settle 39 40 (.iastore) 1 := by unfold dk; decide +kernel
theorem dX7_settle_40 : dk cX7_settle 40 41 (.aload_n 0) 1 := by unfold dk; decide +kernel
theorem dX7_settle_41 : dk cX7_settle 41 44 (.invokevirtual 106) 3 := by unfold dk; decide +kernel
theorem dX7_settle_44 : dk cX7_settle 44 45 (.iload_n 3) 1 := by unfold dk; decide +kernel
theorem dX7_settle_45 : dk cX7_settle 45 46 (.ireturn) 1 := by unfold dk; decide +kernel
theorem dX7_settle_24 : dk cX7_settle 24 26 (.bipush (-2)) 2 := by unfold dk; decide +kernel
theorem dX7_settle_26 : dk cX7_settle 26 27 (.ireturn) 1 := by unfold dk; decide +kernel
theorem dX7_settle_21 : bk cX7_settle 21 24 27 (.if_icmp .ne 6) (6) := by unfold bk; decide +kernel
theorem dX7_settle_8 : dk cX7_settle 8 9 (.iconst (-1)) 1 := by unfold dk; decide +kernel
theorem dX7_settle_9 : dk cX7_settle 9 10 (.ireturn) 1 := by unfold dk; decide +kernel
theorem dX7_settle_5 : bk cX7_settle 5 8 10 (.ifCond .ne 5) (5) := by unfold bk; decide +kernel
set_option maxHeartbeats 4000000 in
set_option maxRecDepth 100000 in
theorem kX7_settle {l : Launch} {G : Gl} {E : En} {a0 : Nat} {a1 : Int32} {a2 : Int32} {σ σ' : Sg} {r : Int32} : fX7_settle E a0 a1 a2 σ = some (r, σ') → CT l yX7_settle cX7_settle 4 (some .int) ({ frames := 2, cells := 0, slots := 0, locals := 44 } : Room) [.ref (G.1 + a0), .int a1, .int a2] G E σ (some (.int r)) σ' := by
  intro h
  refine CT_of (lv0 := [(0, .ref (G.1 + a0)), (1, .int a1), (2, .int a2)]) (by decide) (Nat.le_of_ble_eq_true rfl) rfl (fun κ hl hR hr C => ?_)
  have C : Cx κ G cX7_settle RX7 4 := C
  revert h
  unfold fX7_settle
  refine R_tk (fun ha0 => ?_)
  refine R_iload_n C 1 rfl dX7_settle_0 ?_
  refine R_iload_n C 2 rfl dX7_settle_1 ?_
  refine R_bd (fun r3 s1 q2 => ?_)
  refine R_callSi [.int a1, .int a2] [] C ml7_124 (kX7_canSet q2) (by rw [hR]; exact ⟨rfl, rfl, Nat.le_of_ble_eq_true rfl, Nat.le_of_ble_eq_true rfl, Nat.zero_le _, Nat.zero_le _⟩) rfl rfl (Nat.le_of_ble_eq_true rfl) dX7_settle_2 ?_
  refine B_if_ne C dX7_settle_5 ?_ ?_
  · refine R_aload_n C 0 rfl dX7_settle_10 ?_
    refine R_dr (fun x4 rx4 cx4 => ?_)
    refine R_getr C fl7_9 rfl ha0 rx4 dX7_settle_11 ?_
    refine R_iconst C (1) dX7_settle_14 (by decide) ?_
    refine R_iload_n C 1 rfl dX7_settle_15 ?_
    refine R_iadd C dX7_settle_16 ?_
    refine R_ck (fun h5 => ?_)
    refine R_iald C cx4 h5 dX7_settle_17 ?_
    refine S_istore_n C dX7_settle_18 rfl (fun v6 => [(3, .int v6), (0, .ref (G.1 + a0)), (1, .int a1), (2, .int a2)]) (by decide) (fun _ => rfl) (fun v6 => ?_)
    refine R_iload_n C 0 rfl dX7_settle_19 ?_
    refine R_iload_n C 3 rfl dX7_settle_20 ?_
    refine B_icmp_ne C dX7_settle_21 ?_ ?_
    · refine R_aload_n C 1 rfl dX7_settle_27 ?_
      refine R_bv (fun s7 q8 => ?_)
      refine R_callVv [] [] C ml7_100 (kX7_remembers q8) (by rw [hR]; exact ⟨rfl, rfl, Nat.le_of_ble_eq_true rfl, Nat.le_of_ble_eq_true rfl, Nat.zero_le _, Nat.zero_le _⟩) ha0 rfl rfl (Nat.le_of_ble_eq_true rfl) dX7_settle_28 ?_
      refine R_aload_n C 1 rfl dX7_settle_31 ?_
      refine R_getr C fl7_9 rfl ha0 rx4 dX7_settle_32 ?_
      refine R_iconst C (1) dX7_settle_35 (by decide) ?_
      refine R_iload_n C 2 rfl dX7_settle_36 ?_
      refine R_iadd C dX7_settle_37 ?_
      refine R_iload_n C 3 rfl dX7_settle_38 ?_
      refine R_ck (fun h9 => ?_)
      refine S_iast C cx4 h9 dX7_settle_39 (fun s10 => ?_)
      refine R_aload_n C 1 rfl dX7_settle_40 ?_
      refine R_bv (fun s11 q12 => ?_)
      refine R_callVv [] [] C ml7_106 (kX7_begins q12) (by rw [hR]; exact ⟨rfl, rfl, Nat.le_of_ble_eq_true rfl, Nat.le_of_ble_eq_true rfl, Nat.zero_le _, Nat.zero_le _⟩) ha0 rfl rfl (Nat.le_of_ble_eq_true rfl) dX7_settle_41 ?_
      refine R_iload_n C 0 rfl dX7_settle_44 ?_
      exact R_iret C hr dX7_settle_45
    · refine R_bipush C (-2) dX7_settle_24 (by decide) ?_
      exact R_iret C hr dX7_settle_26
  · refine R_iconst C (-1) dX7_settle_8 (by decide) ?_
    exact R_iret C hr dX7_settle_9
theorem dX7_room_0 : dk cX7_room 0 1 (.aload_n 0) 1 := by unfold dk; decide +kernel
theorem dX7_room_1 : dk cX7_room 1 4 (.getfield 9) 3 := by unfold dk; decide +kernel
theorem dX7_room_4 : dk cX7_room 4 5 (.iconst 1) 1 := by unfold dk; decide +kernel
theorem dX7_room_5 : dk cX7_room 5 6 (.iaload) 1 := by unfold dk; decide +kernel
theorem dX7_room_6 : dk cX7_room 6 7 (.ireturn) 1 := by unfold dk; decide +kernel
set_option maxHeartbeats 4000000 in
set_option maxRecDepth 100000 in
theorem kX7_room {l : Launch} {G : Gl} {E : En} {a0 : Nat} {σ σ' : Sg} {r : Int32} : fX7_room E a0 σ = some (r, σ') → CT l yX7_room cX7_room 1 (some .int) ({ frames := 0, cells := 0, slots := 0, locals := 0 } : Room) [.ref (G.1 + a0)] G E σ (some (.int r)) σ' := by
  intro h
  refine CT_of (lv0 := [(0, .ref (G.1 + a0))]) (by decide) (Nat.le_of_ble_eq_true rfl) rfl (fun κ hl hR hr C => ?_)
  have C : Cx κ G cX7_room RX7 1 := C
  revert h
  unfold fX7_room
  refine R_tk (fun ha0 => ?_)
  refine R_aload_n C 0 rfl dX7_room_0 ?_
  refine R_dr (fun x1 rx1 cx1 => ?_)
  refine R_getr C fl7_9 rfl ha0 rx1 dX7_room_1 ?_
  refine R_iconst C (1) dX7_room_4 (by decide) ?_
  refine R_ck (fun h2 => ?_)
  refine R_iald C cx1 h2 dX7_room_5 ?_
  exact R_iret C hr dX7_room_6
theorem dX7_tapes_0 : dk cX7_tapes 0 1 (.aload_n 0) 1 := by unfold dk; decide +kernel
theorem dX7_tapes_1 : dk cX7_tapes 1 4 (.getfield 9) 3 := by unfold dk; decide +kernel
theorem dX7_tapes_4 : dk cX7_tapes 4 5 (.iconst 2) 1 := by unfold dk; decide +kernel
theorem dX7_tapes_5 : dk cX7_tapes 5 6 (.iaload) 1 := by unfold dk; decide +kernel
theorem dX7_tapes_6 : dk cX7_tapes 6 7 (.ireturn) 1 := by unfold dk; decide +kernel
set_option maxHeartbeats 4000000 in
set_option maxRecDepth 100000 in
theorem kX7_tapes {l : Launch} {G : Gl} {E : En} {a0 : Nat} {σ σ' : Sg} {r : Int32} : fX7_tapes E a0 σ = some (r, σ') → CT l yX7_tapes cX7_tapes 1 (some .int) ({ frames := 0, cells := 0, slots := 0, locals := 0 } : Room) [.ref (G.1 + a0)] G E σ (some (.int r)) σ' := by
  intro h
  refine CT_of (lv0 := [(0, .ref (G.1 + a0))]) (by decide) (Nat.le_of_ble_eq_true rfl) rfl (fun κ hl hR hr C => ?_)
  have C : Cx κ G cX7_tapes RX7 1 := C
  revert h
  unfold fX7_tapes
  refine R_tk (fun ha0 => ?_)
  refine R_aload_n C 0 rfl dX7_tapes_0 ?_
  refine R_dr (fun x1 rx1 cx1 => ?_)
  refine R_getr C fl7_9 rfl ha0 rx1 dX7_tapes_1 ?_
  refine R_iconst C (2) dX7_tapes_4 (by decide) ?_
  refine R_ck (fun h2 => ?_)
  refine R_iald C cx1 h2 dX7_tapes_5 ?_
  exact R_iret C hr dX7_tapes_6
theorem dX7_way_0 : dk cX7_way 0 1 (.aload_n 0) 1 := by unfold dk; decide +kernel
theorem dX7_way_1 : dk cX7_way 1 4 (.getfield 9) 3 := by unfold dk; decide +kernel
theorem dX7_way_4 : dk cX7_way 4 5 (.iconst 3) 1 := by unfold dk; decide +kernel
theorem dX7_way_5 : dk cX7_way 5 6 (.iaload) 1 := by unfold dk; decide +kernel
theorem dX7_way_6 : dk cX7_way 6 7 (.ireturn) 1 := by unfold dk; decide +kernel
set_option maxHeartbeats 4000000 in
set_option maxRecDepth 100000 in
theorem kX7_way {l : Launch} {G : Gl} {E : En} {a0 : Nat} {σ σ' : Sg} {r : Int32} : fX7_way E a0 σ = some (r, σ') → CT l yX7_way cX7_way 1 (some .int) ({ frames := 0, cells := 0, slots := 0, locals := 0 } : Room) [.ref (G.1 + a0)] G E σ (some (.int r)) σ' := by
  intro h
  refine CT_of (lv0 := [(0, .ref (G.1 + a0))]) (by decide) (Nat.le_of_ble_eq_true rfl) rfl (fun κ hl hR hr C => ?_)
  have C : Cx κ G cX7_way RX7 1 := C
  revert h
  unfold fX7_way
  refine R_tk (fun ha0 => ?_)
  refine R_aload_n C 0 rfl dX7_way_0 ?_
  refine R_dr (fun x1 rx1 cx1 => ?_)
  refine R_getr C fl7_9 rfl ha0 rx1 dX7_way_1 ?_
  refine R_iconst C (3) dX7_way_4 (by decide) ?_
  refine R_ck (fun h2 => ?_)
  refine R_iald C cx1 h2 dX7_way_5 ?_
  exact R_iret C hr dX7_way_6
theorem dX7_isFront_0 : dk cX7_isFront 0 1 (.aload_n 0) 1 := by unfold dk; decide +kernel
theorem dX7_isFront_1 : dk cX7_isFront 1 4 (.getfield 9) 3 := by unfold dk; decide +kernel
theorem dX7_isFront_4 : dk cX7_isFront 4 5 (.iconst 4) 1 := by unfold dk; decide +kernel
theorem dX7_isFront_5 : dk cX7_isFront 5 6 (.iaload) 1 := by unfold dk; decide +kernel
theorem dX7_isFront_6 : dk cX7_isFront 6 7 (.iconst 1) 1 := by unfold dk; decide +kernel
theorem dX7_isFront_7 : bk cX7_isFront 7 10 14 (.if_icmp .ne 7) (7) := by unfold bk; decide +kernel
theorem dX7_isFront_14 : dk cX7_isFront 14 15 (.iconst 0) 1 := by unfold dk; decide +kernel
theorem dX7_isFront_10 : dk cX7_isFront 10 11 (.iconst 1) 1 := by unfold dk; decide +kernel
theorem dX7_isFront_11 : bk cX7_isFront 11 14 15 (.goto 4) (4) := by unfold bk; decide +kernel
theorem dX7_isFront_15 : dk cX7_isFront 15 16 (.ireturn) 1 := by unfold dk; decide +kernel
set_option maxHeartbeats 4000000 in
set_option maxRecDepth 100000 in
theorem kX7_isFront {l : Launch} {G : Gl} {E : En} {a0 : Nat} {σ σ' : Sg} {r : Int32} : fX7_isFront E a0 σ = some (r, σ') → CT l yX7_isFront cX7_isFront 1 (some .boolean) ({ frames := 0, cells := 0, slots := 0, locals := 0 } : Room) [.ref (G.1 + a0)] G E σ (some (.int r)) σ' := by
  intro h
  refine CT_of (lv0 := [(0, .ref (G.1 + a0))]) (by decide) (Nat.le_of_ble_eq_true rfl) rfl (fun κ hl hR hr C => ?_)
  have C : Cx κ G cX7_isFront RX7 1 := C
  revert h
  unfold fX7_isFront
  refine R_tk (fun ha0 => ?_)
  refine R_aload_n C 0 rfl dX7_isFront_0 ?_
  refine R_dr (fun x1 rx1 cx1 => ?_)
  refine R_getr C fl7_9 rfl ha0 rx1 dX7_isFront_1 ?_
  refine R_iconst C (4) dX7_isFront_4 (by decide) ?_
  refine R_ck (fun h2 => ?_)
  refine R_iald C cx1 h2 dX7_isFront_5 ?_
  refine R_iconst C (1) dX7_isFront_6 (by decide) ?_
  refine R_bdK (fun (w : Int32) (s : Sg) => V κ G (QQ κ G E (some (.int r)) σ') E s (false, 0, 0) 15 [] [.int w]) (fun w3 s4 => ?_) (fun w3 s4 Kw3 => ?_)
  · refine R_kb (fun h5 => ?_)
    exact R_zret C hr h5 dX7_isFront_15
  · refine B_icmp_ne C dX7_isFront_7 ?_ ?_
    · refine R_iconst C (0) dX7_isFront_14 (by decide) ?_
      refine R_loc (lv2 := []) [] rfl ?_
      exact R_end (fun (w : Int32) (s : Sg) => V κ G (QQ κ G E (some (.int r)) σ') E s (false, 0, 0) 15 [] [.int w]) Kw3
    · refine R_iconst C (1) dX7_isFront_10 (by decide) ?_
      refine R_goto C dX7_isFront_11 ?_
      refine R_loc (lv2 := []) [] rfl ?_
      exact R_end (fun (w : Int32) (s : Sg) => V κ G (QQ κ G E (some (.int r)) σ') E s (false, 0, 0) 15 [] [.int w]) Kw3
theorem dX7_isBack_0 : dk cX7_isBack 0 1 (.aload_n 0) 1 := by unfold dk; decide +kernel
theorem dX7_isBack_1 : dk cX7_isBack 1 4 (.getfield 9) 3 := by unfold dk; decide +kernel
theorem dX7_isBack_4 : dk cX7_isBack 4 5 (.iconst 5) 1 := by unfold dk; decide +kernel
theorem dX7_isBack_5 : dk cX7_isBack 5 6 (.iaload) 1 := by unfold dk; decide +kernel
theorem dX7_isBack_6 : dk cX7_isBack 6 7 (.iconst 1) 1 := by unfold dk; decide +kernel
theorem dX7_isBack_7 : bk cX7_isBack 7 10 14 (.if_icmp .ne 7) (7) := by unfold bk; decide +kernel
theorem dX7_isBack_14 : dk cX7_isBack 14 15 (.iconst 0) 1 := by unfold dk; decide +kernel
theorem dX7_isBack_10 : dk cX7_isBack 10 11 (.iconst 1) 1 := by unfold dk; decide +kernel
theorem dX7_isBack_11 : bk cX7_isBack 11 14 15 (.goto 4) (4) := by unfold bk; decide +kernel
theorem dX7_isBack_15 : dk cX7_isBack 15 16 (.ireturn) 1 := by unfold dk; decide +kernel
set_option maxHeartbeats 4000000 in
set_option maxRecDepth 100000 in
theorem kX7_isBack {l : Launch} {G : Gl} {E : En} {a0 : Nat} {σ σ' : Sg} {r : Int32} : fX7_isBack E a0 σ = some (r, σ') → CT l yX7_isBack cX7_isBack 1 (some .boolean) ({ frames := 0, cells := 0, slots := 0, locals := 0 } : Room) [.ref (G.1 + a0)] G E σ (some (.int r)) σ' := by
  intro h
  refine CT_of (lv0 := [(0, .ref (G.1 + a0))]) (by decide) (Nat.le_of_ble_eq_true rfl) rfl (fun κ hl hR hr C => ?_)
  have C : Cx κ G cX7_isBack RX7 1 := C
  revert h
  unfold fX7_isBack
  refine R_tk (fun ha0 => ?_)
  refine R_aload_n C 0 rfl dX7_isBack_0 ?_
  refine R_dr (fun x1 rx1 cx1 => ?_)
  refine R_getr C fl7_9 rfl ha0 rx1 dX7_isBack_1 ?_
  refine R_iconst C (5) dX7_isBack_4 (by decide) ?_
  refine R_ck (fun h2 => ?_)
  refine R_iald C cx1 h2 dX7_isBack_5 ?_
  refine R_iconst C (1) dX7_isBack_6 (by decide) ?_
  refine R_bdK (fun (w : Int32) (s : Sg) => V κ G (QQ κ G E (some (.int r)) σ') E s (false, 0, 0) 15 [] [.int w]) (fun w3 s4 => ?_) (fun w3 s4 Kw3 => ?_)
  · refine R_kb (fun h5 => ?_)
    exact R_zret C hr h5 dX7_isBack_15
  · refine B_icmp_ne C dX7_isBack_7 ?_ ?_
    · refine R_iconst C (0) dX7_isBack_14 (by decide) ?_
      refine R_loc (lv2 := []) [] rfl ?_
      exact R_end (fun (w : Int32) (s : Sg) => V κ G (QQ κ G E (some (.int r)) σ') E s (false, 0, 0) 15 [] [.int w]) Kw3
    · refine R_iconst C (1) dX7_isBack_10 (by decide) ?_
      refine R_goto C dX7_isBack_11 ?_
      refine R_loc (lv2 := []) [] rfl ?_
      exact R_end (fun (w : Int32) (s : Sg) => V κ G (QQ κ G E (some (.int r)) σ') E s (false, 0, 0) 15 [] [.int w]) Kw3
theorem dX7_doesFall_0 : dk cX7_doesFall 0 1 (.aload_n 0) 1 := by unfold dk; decide +kernel
theorem dX7_doesFall_1 : dk cX7_doesFall 1 4 (.getfield 9) 3 := by unfold dk; decide +kernel
theorem dX7_doesFall_4 : dk cX7_doesFall 4 6 (.bipush 6) 2 := by unfold dk; decide +kernel
theorem dX7_doesFall_6 : dk cX7_doesFall 6 7 (.iaload) 1 := by unfold dk; decide +kernel
theorem dX7_doesFall_7 : dk cX7_doesFall 7 8 (.iconst 1) 1 := by unfold dk; decide +kernel
theorem dX7_doesFall_8 : bk cX7_doesFall 8 11 22 (.if_icmp .ne 14) (14) := by unfold bk; decide +kernel
theorem dX7_doesFall_22 : dk cX7_doesFall 22 23 (.iconst 0) 1 := by unfold dk; decide +kernel
theorem dX7_doesFall_11 : dk cX7_doesFall 11 12 (.iload_n 1) 1 := by unfold dk; decide +kernel
theorem dX7_doesFall_12 : dk cX7_doesFall 12 13 (.iconst 2) 1 := by unfold dk; decide +kernel
theorem dX7_doesFall_13 : dk cX7_doesFall 13 14 (.irem) 1 := by unfold dk; decide +kernel
theorem dX7_doesFall_14 : dk cX7_doesFall 14 15 (.iconst 1) 1 := by unfold dk; decide +kernel
theorem dX7_doesFall_18 : dk cX7_doesFall 18 19 (.iconst 1) 1 := by unfold dk; decide +kernel
theorem dX7_doesFall_19 : bk cX7_doesFall 19 22 23 (.goto 4) (4) := by unfold bk; decide +kernel
theorem dX7_doesFall_15 : bk cX7_doesFall 15 18 22 (.if_icmp .ne 7) (7) := by unfold bk; decide +kernel
theorem dX7_doesFall_23 : dk cX7_doesFall 23 24 (.ireturn) 1 := by unfold dk; decide +kernel
set_option maxHeartbeats 4000000 in
set_option maxRecDepth 100000 in
theorem kX7_doesFall {l : Launch} {G : Gl} {E : En} {a0 : Nat} {a1 : Int32} {σ σ' : Sg} {r : Int32} : fX7_doesFall E a0 a1 σ = some (r, σ') → CT l yX7_doesFall cX7_doesFall 2 (some .boolean) ({ frames := 0, cells := 0, slots := 0, locals := 0 } : Room) [.ref (G.1 + a0), .int a1] G E σ (some (.int r)) σ' := by
  intro h
  refine CT_of (lv0 := [(0, .ref (G.1 + a0)), (1, .int a1)]) (by decide) (Nat.le_of_ble_eq_true rfl) rfl (fun κ hl hR hr C => ?_)
  have C : Cx κ G cX7_doesFall RX7 2 := C
  revert h
  unfold fX7_doesFall
  refine R_tk (fun ha0 => ?_)
  refine R_aload_n C 0 rfl dX7_doesFall_0 ?_
  refine R_dr (fun x1 rx1 cx1 => ?_)
  refine R_getr C fl7_9 rfl ha0 rx1 dX7_doesFall_1 ?_
  refine R_bipush C (6) dX7_doesFall_4 (by decide) ?_
  refine R_ck (fun h2 => ?_)
  refine R_iald C cx1 h2 dX7_doesFall_6 ?_
  refine R_iconst C (1) dX7_doesFall_7 (by decide) ?_
  refine R_bdK (fun (w : Int32) (s : Sg) => V κ G (QQ κ G E (some (.int r)) σ') E s (false, 0, 0) 23 [] [.int w]) (fun w3 s4 => ?_) (fun w3 s4 Kw3 => ?_)
  · refine R_kb (fun h5 => ?_)
    exact R_zret C hr h5 dX7_doesFall_23
  · refine B_icmp_ne C dX7_doesFall_8 ?_ ?_
    · refine R_iconst C (0) dX7_doesFall_22 (by decide) ?_
      refine R_loc (lv2 := []) [] rfl ?_
      exact R_end (fun (w : Int32) (s : Sg) => V κ G (QQ κ G E (some (.int r)) σ') E s (false, 0, 0) 23 [] [.int w]) Kw3
    · refine R_iload_n C 1 rfl dX7_doesFall_11 ?_
      refine R_iconst C (2) dX7_doesFall_12 (by decide) ?_
      refine R_irem C dX7_doesFall_13 (by decide) ?_
      refine R_iconst C (1) dX7_doesFall_14 (by decide) ?_
      refine B_icmp_ne C dX7_doesFall_15 ?_ ?_
      · refine R_iconst C (0) dX7_doesFall_22 (by decide) ?_
        refine R_loc (lv2 := []) [] rfl ?_
        exact R_end (fun (w : Int32) (s : Sg) => V κ G (QQ κ G E (some (.int r)) σ') E s (false, 0, 0) 23 [] [.int w]) Kw3
      · refine R_iconst C (1) dX7_doesFall_18 (by decide) ?_
        refine R_goto C dX7_doesFall_19 ?_
        refine R_loc (lv2 := []) [] rfl ?_
        exact R_end (fun (w : Int32) (s : Sg) => V κ G (QQ κ G E (some (.int r)) σ') E s (false, 0, 0) 23 [] [.int w]) Kw3
theorem dX7_isLess_0 : dk cX7_isLess 0 1 (.aload_n 0) 1 := by unfold dk; decide +kernel
theorem dX7_isLess_1 : dk cX7_isLess 1 4 (.getfield 9) 3 := by unfold dk; decide +kernel
theorem dX7_isLess_4 : dk cX7_isLess 4 6 (.bipush 26) 2 := by unfold dk; decide +kernel
theorem dX7_isLess_6 : dk cX7_isLess 6 7 (.iload_n 1) 1 := by unfold dk; decide +kernel
theorem dX7_isLess_7 : dk cX7_isLess 7 8 (.iadd) 1 := by unfold dk; decide +kernel
theorem dX7_isLess_8 : dk cX7_isLess 8 9 (.iaload) 1 := by unfold dk; decide +kernel
theorem dX7_isLess_9 : dk cX7_isLess 9 10 (.aload_n 0) 1 := by unfold dk; decide +kernel
theorem dX7_isLess_10 : dk cX7_isLess 10 13 (.getfield 9) 3 := by unfold dk; decide +kernel
theorem dX7_isLess_13 : dk cX7_isLess 13 15 (.bipush 26) 2 := by unfold dk; decide +kernel
theorem dX7_isLess_15 : dk cX7_isLess 15 16 (.iload_n 2) 1 := by unfold dk; decide +kernel
theorem dX7_isLess_16 : dk cX7_isLess 16 17 (.iadd) 1 := by unfold dk; decide +kernel
theorem dX7_isLess_17 : dk cX7_isLess 17 18 (.iaload) 1 := by unfold dk; decide +kernel
theorem dX7_isLess_18 : bk cX7_isLess 18 21 50 (.if_icmp .eq 32) (32) := by unfold bk; decide +kernel
theorem dX7_isLess_50 : dk cX7_isLess 50 51 (.iload_n 1) 1 := by unfold dk; decide +kernel
theorem dX7_isLess_51 : dk cX7_isLess 51 52 (.iload_n 2) 1 := by unfold dk; decide +kernel
theorem dX7_isLess_59 : dk cX7_isLess 59 60 (.iconst 0) 1 := by unfold dk; decide +kernel
theorem dX7_isLess_55 : dk cX7_isLess 55 56 (.iconst 1) 1 := by unfold dk; decide +kernel
theorem dX7_isLess_56 : bk cX7_isLess 56 59 60 (.goto 4) (4) := by unfold bk; decide +kernel
theorem dX7_isLess_52 : bk cX7_isLess 52 55 59 (.if_icmp .ge 7) (7) := by unfold bk; decide +kernel
theorem dX7_isLess_21 : dk cX7_isLess 21 22 (.aload_n 0) 1 := by unfold dk; decide +kernel
theorem dX7_isLess_22 : dk cX7_isLess 22 25 (.getfield 9) 3 := by unfold dk; decide +kernel
theorem dX7_isLess_25 : dk cX7_isLess 25 27 (.bipush 26) 2 := by unfold dk; decide +kernel
theorem dX7_isLess_27 : dk cX7_isLess 27 28 (.iload_n 1) 1 := by unfold dk; decide +kernel
theorem dX7_isLess_28 : dk cX7_isLess 28 29 (.iadd) 1 := by unfold dk; decide +kernel
theorem dX7_isLess_29 : dk cX7_isLess 29 30 (.iaload) 1 := by unfold dk; decide +kernel
theorem dX7_isLess_30 : dk cX7_isLess 30 31 (.aload_n 0) 1 := by unfold dk; decide +kernel
theorem dX7_isLess_31 : dk cX7_isLess 31 34 (.getfield 9) 3 := by unfold dk; decide +kernel
theorem dX7_isLess_34 : dk cX7_isLess 34 36 (.bipush 26) 2 := by unfold dk; decide +kernel
theorem dX7_isLess_36 : dk cX7_isLess 36 37 (.iload_n 2) 1 := by unfold dk; decide +kernel
theorem dX7_isLess_37 : dk cX7_isLess 37 38 (.iadd) 1 := by unfold dk; decide +kernel
theorem dX7_isLess_38 : dk cX7_isLess 38 39 (.iaload) 1 := by unfold dk; decide +kernel
theorem dX7_isLess_46 : dk cX7_isLess 46 47 (.iconst 0) 1 := by unfold dk; decide +kernel
theorem dX7_isLess_47 : bk cX7_isLess 47 50 60 (.goto 13) (13) := by unfold bk; decide +kernel
theorem dX7_isLess_42 : dk cX7_isLess 42 43 (.iconst 1) 1 := by unfold dk; decide +kernel
theorem dX7_isLess_43 : bk cX7_isLess 43 46 60 (.goto 17) (17) := by unfold bk; decide +kernel
theorem dX7_isLess_39 : bk cX7_isLess 39 42 46 (.if_icmp .ge 7) (7) := by unfold bk; decide +kernel
theorem dX7_isLess_60 : dk cX7_isLess 60 61 (.ireturn) 1 := by unfold dk; decide +kernel
set_option maxHeartbeats 4000000 in
set_option maxRecDepth 100000 in
theorem kX7_isLess {l : Launch} {G : Gl} {E : En} {a0 : Nat} {a1 : Int32} {a2 : Int32} {σ σ' : Sg} {r : Int32} : fX7_isLess E a0 a1 a2 σ = some (r, σ') → CT l yX7_isLess cX7_isLess 3 (some .boolean) ({ frames := 0, cells := 0, slots := 0, locals := 0 } : Room) [.ref (G.1 + a0), .int a1, .int a2] G E σ (some (.int r)) σ' := by
  intro h
  refine CT_of (lv0 := [(0, .ref (G.1 + a0)), (1, .int a1), (2, .int a2)]) (by decide) (Nat.le_of_ble_eq_true rfl) rfl (fun κ hl hR hr C => ?_)
  have C : Cx κ G cX7_isLess RX7 3 := C
  revert h
  unfold fX7_isLess
  refine R_tk (fun ha0 => ?_)
  refine R_aload_n C 0 rfl dX7_isLess_0 ?_
  refine R_dr (fun x1 rx1 cx1 => ?_)
  refine R_getr C fl7_9 rfl ha0 rx1 dX7_isLess_1 ?_
  refine R_bipush C (26) dX7_isLess_4 (by decide) ?_
  refine R_iload_n C 1 rfl dX7_isLess_6 ?_
  refine R_iadd C dX7_isLess_7 ?_
  refine R_ck (fun h2 => ?_)
  refine R_iald C cx1 h2 dX7_isLess_8 ?_
  refine R_aload_n C 0 rfl dX7_isLess_9 ?_
  refine R_getr C fl7_9 rfl ha0 rx1 dX7_isLess_10 ?_
  refine R_bipush C (26) dX7_isLess_13 (by decide) ?_
  refine R_iload_n C 2 rfl dX7_isLess_15 ?_
  refine R_iadd C dX7_isLess_16 ?_
  refine R_ck (fun h3 => ?_)
  refine R_iald C cx1 h3 dX7_isLess_17 ?_
  refine R_bdK (fun (w : Int32) (s : Sg) => V κ G (QQ κ G E (some (.int r)) σ') E s (false, 0, 0) 60 [] [.int w]) (fun w4 s5 => ?_) (fun w4 s5 Kw4 => ?_)
  · refine R_kb (fun h8 => ?_)
    exact R_zret C hr h8 dX7_isLess_60
  · refine B_icmp_eq C dX7_isLess_18 ?_ ?_
    · refine R_iload_n C 1 rfl dX7_isLess_50 ?_
      refine R_iload_n C 2 rfl dX7_isLess_51 ?_
      refine B_icmp_ge C dX7_isLess_52 ?_ ?_
      · refine R_iconst C (0) dX7_isLess_59 (by decide) ?_
        refine R_loc (lv2 := []) [] rfl ?_
        exact R_end (fun (w : Int32) (s : Sg) => V κ G (QQ κ G E (some (.int r)) σ') E s (false, 0, 0) 60 [] [.int w]) Kw4
      · refine R_iconst C (1) dX7_isLess_55 (by decide) ?_
        refine R_goto C dX7_isLess_56 ?_
        refine R_loc (lv2 := []) [] rfl ?_
        exact R_end (fun (w : Int32) (s : Sg) => V κ G (QQ κ G E (some (.int r)) σ') E s (false, 0, 0) 60 [] [.int w]) Kw4
    · refine R_aload_n C 0 rfl dX7_isLess_21 ?_
      refine R_getr C fl7_9 rfl ha0 rx1 dX7_isLess_22 ?_
      refine R_bipush C (26) dX7_isLess_25 (by decide) ?_
      refine R_iload_n C 1 rfl dX7_isLess_27 ?_
      refine R_iadd C dX7_isLess_28 ?_
      refine R_ck (fun h6 => ?_)
      refine R_iald C cx1 h6 dX7_isLess_29 ?_
      refine R_aload_n C 0 rfl dX7_isLess_30 ?_
      refine R_getr C fl7_9 rfl ha0 rx1 dX7_isLess_31 ?_
      refine R_bipush C (26) dX7_isLess_34 (by decide) ?_
      refine R_iload_n C 2 rfl dX7_isLess_36 ?_
      refine R_iadd C dX7_isLess_37 ?_
      refine R_ck (fun h7 => ?_)
      refine R_iald C cx1 h7 dX7_isLess_38 ?_
      refine B_icmp_ge C dX7_isLess_39 ?_ ?_
      · refine R_iconst C (0) dX7_isLess_46 (by decide) ?_
        refine R_goto C dX7_isLess_47 ?_
        refine R_loc (lv2 := []) [] rfl ?_
        exact R_end (fun (w : Int32) (s : Sg) => V κ G (QQ κ G E (some (.int r)) σ') E s (false, 0, 0) 60 [] [.int w]) Kw4
      · refine R_iconst C (1) dX7_isLess_42 (by decide) ?_
        refine R_goto C dX7_isLess_43 ?_
        refine R_loc (lv2 := []) [] rfl ?_
        exact R_end (fun (w : Int32) (s : Sg) => V κ G (QQ κ G E (some (.int r)) σ') E s (false, 0, 0) 60 [] [.int w]) Kw4
theorem dX7_comesIn_0 : dk cX7_comesIn 0 1 (.aload_n 0) 1 := by unfold dk; decide +kernel
theorem dX7_comesIn_1 : dk cX7_comesIn 1 4 (.getfield 27) 3 := by unfold dk; decide +kernel
theorem dX7_comesIn_4 : dk cX7_comesIn 4 5 (.aload_n 0) 1 := by unfold dk; decide +kernel
theorem dX7_comesIn_5 : dk cX7_comesIn 5 8 (.getfield 128) 3 := by unfold dk; decide +kernel
theorem dX7_comesIn_8 : dk cX7_comesIn 8 9 (.iload_n 1) 1 := by unfold dk; decide +kernel
theorem dX7_comesIn_9 : dk cX7_comesIn 9 10 (.iastore) 1 := by unfold dk; decide +kernel
theorem dX7_comesIn_10 : dk cX7_comesIn 10 11 (.aload_n 0) 1 := by unfold dk; decide +kernel
theorem dX7_comesIn_11 : dk cX7_comesIn 11 14 (.getfield 30) 3 := by unfold dk; decide +kernel
theorem dX7_comesIn_14 : dk cX7_comesIn 14 15 (.aload_n 0) 1 := by unfold dk; decide +kernel
theorem dX7_comesIn_15 : dk cX7_comesIn 15 18 (.getfield 128) 3 := by unfold dk; decide +kernel
theorem dX7_comesIn_18 : dk cX7_comesIn 18 19 (.iload_n 2) 1 := by unfold dk; decide +kernel
theorem dX7_comesIn_19 : dk cX7_comesIn 19 20 (.iastore) 1 := by unfold dk; decide +kernel
theorem dX7_comesIn_20 : dk cX7_comesIn 20 21 (.aload_n 0) 1 := by unfold dk; decide +kernel
theorem dX7_comesIn_21 : dk cX7_comesIn 21 22 (.dup) 1 := by unfold dk; decide +kernel
theorem dX7_comesIn_22 : dk cX7_comesIn 22 25 (.getfield 128) 3 := by unfold dk; decide +kernel
theorem dX7_comesIn_25 : dk cX7_comesIn 25 26 (.iconst 1) 1 := by unfold dk; decide +kernel
theorem dX7_comesIn_26 : dk cX7_comesIn 26 27 (.iadd) 1 := by unfold dk; decide +kernel
theorem dX7_comesIn_27 : dk cX7_comesIn 27 30 (.putfield 128) 3 := by unfold dk; decide +kernel
theorem dX7_comesIn_30 : dk cX7_comesIn 30 31 (.return_) 1 := by unfold dk; decide +kernel
set_option maxHeartbeats 4000000 in
set_option maxRecDepth 100000 in
theorem kX7_comesIn {l : Launch} {G : Gl} {E : En} {a0 : Nat} {a1 : Int32} {a2 : Int32} {σ σ' : Sg} : fX7_comesIn E a0 a1 a2 σ = some σ' → CT l yX7_comesIn cX7_comesIn 3 none ({ frames := 0, cells := 0, slots := 0, locals := 0 } : Room) [.ref (G.1 + a0), .int a1, .int a2] G E σ none σ' := by
  intro h
  refine CT_of (lv0 := [(0, .ref (G.1 + a0)), (1, .int a1), (2, .int a2)]) (by decide) (Nat.le_of_ble_eq_true rfl) rfl (fun κ hl hR hr C => ?_)
  have C : Cx κ G cX7_comesIn RX7 3 := C
  revert h
  unfold fX7_comesIn
  refine R_tk (fun ha0 => ?_)
  refine R_aload_n C 0 rfl dX7_comesIn_0 ?_
  refine R_dr (fun x1 rx1 cx1 => ?_)
  refine R_getr C fl7_27 rfl ha0 rx1 dX7_comesIn_1 ?_
  refine R_aload_n C 0 rfl dX7_comesIn_4 ?_
  refine R_geti C fl7_128 rfl ha0 dX7_comesIn_5 ?_
  refine R_iload_n C 1 rfl dX7_comesIn_8 ?_
  refine R_ck (fun h2 => ?_)
  refine S_iast C cx1 h2 dX7_comesIn_9 (fun s3 => ?_)
  refine R_aload_n C 0 rfl dX7_comesIn_10 ?_
  refine R_dr (fun x4 rx4 cx4 => ?_)
  refine R_getr C fl7_30 rfl ha0 rx4 dX7_comesIn_11 ?_
  refine R_aload_n C 0 rfl dX7_comesIn_14 ?_
  refine R_geti C fl7_128 rfl ha0 dX7_comesIn_15 ?_
  refine R_iload_n C 2 rfl dX7_comesIn_18 ?_
  refine R_ck (fun h5 => ?_)
  refine S_iast C cx4 h5 dX7_comesIn_19 (fun s6 => ?_)
  refine R_aload_n C 0 rfl dX7_comesIn_20 ?_
  refine R_dup C dX7_comesIn_21 rfl ?_
  refine R_geti C fl7_128 rfl ha0 dX7_comesIn_22 ?_
  refine R_iconst C (1) dX7_comesIn_25 (by decide) ?_
  refine R_iadd C dX7_comesIn_26 ?_
  refine S_puti C fl7_128 rfl ha0 rfl rfl dX7_comesIn_27 (fun s7 => ?_)
  exact R_vret C hr dX7_comesIn_30
theorem dX7_firstOf_0 : dk cX7_firstOf 0 1 (.iconst (-1)) 1 := by unfold dk; decide +kernel
theorem dX7_firstOf_1 : dk cX7_firstOf 1 2 (.istore_n 2) 1 := by unfold dk; decide +kernel
theorem dX7_firstOf_2 : dk cX7_firstOf 2 3 (.iconst 0) 1 := by unfold dk; decide +kernel
theorem dX7_firstOf_3 : dk cX7_firstOf 3 4 (.istore_n 3) 1 := by unfold dk; decide +kernel
theorem dX7_firstOf_4 : dk cX7_firstOf 4 5 (.iload_n 3) 1 := by unfold dk; decide +kernel
theorem dX7_firstOf_5 : dk cX7_firstOf 5 6 (.aload_n 0) 1 := by unfold dk; decide +kernel
theorem dX7_firstOf_6 : dk cX7_firstOf 6 9 (.getfield 128) 3 := by unfold dk; decide +kernel
theorem dX7_firstOf_12 : dk cX7_firstOf 12 13 (.aload_n 0) 1 := by unfold dk; decide +kernel
theorem dX7_firstOf_13 : dk cX7_firstOf 13 16 (.getfield 30) 3 := by unfold dk; decide +kernel
theorem dX7_firstOf_16 : dk cX7_firstOf 16 17 (.iload_n 3) 1 := by unfold dk; decide +kernel
theorem dX7_firstOf_17 : dk cX7_firstOf 17 18 (.iaload) 1 := by unfold dk; decide +kernel
theorem dX7_firstOf_18 : dk cX7_firstOf 18 19 (.iload_n 1) 1 := by unfold dk; decide +kernel
theorem dX7_firstOf_19 : bk cX7_firstOf 19 22 53 (.if_icmp .ne 34) (34) := by unfold bk; decide +kernel
theorem dX7_firstOf_22 : dk cX7_firstOf 22 23 (.iload_n 2) 1 := by unfold dk; decide +kernel
theorem dX7_firstOf_23 : dk cX7_firstOf 23 24 (.iconst (-1)) 1 := by unfold dk; decide +kernel
theorem dX7_firstOf_51 : dk cX7_firstOf 51 52 (.iload_n 3) 1 := by unfold dk; decide +kernel
theorem dX7_firstOf_52 : dk cX7_firstOf 52 53 (.istore_n 2) 1 := by unfold dk; decide +kernel
theorem dX7_firstOf_27 : dk cX7_firstOf 27 28 (.aload_n 0) 1 := by unfold dk; decide +kernel
theorem dX7_firstOf_28 : dk cX7_firstOf 28 29 (.aload_n 0) 1 := by unfold dk; decide +kernel
theorem dX7_firstOf_29 : dk cX7_firstOf 29 32 (.getfield 27) 3 := by unfold dk; decide +kernel
theorem dX7_firstOf_32 : dk cX7_firstOf 32 33 (.iload_n 3) 1 := by unfold dk; decide +kernel
theorem dX7_firstOf_33 : dk cX7_firstOf 33 34 (.iaload) 1 := by unfold dk; decide +kernel
theorem dX7_firstOf_34 : dk cX7_firstOf 34 35 (.aload_n 0) 1 := by unfold dk; decide +kernel
theorem dX7_firstOf_35 : dk cX7_firstOf 35 38 (.getfield 27) 3 := by unfold dk; decide +kernel
theorem dX7_firstOf_38 : dk cX7_firstOf 38 39 (.iload_n 2) 1 := by unfold dk; decide +kernel
theorem dX7_firstOf_39 : dk cX7_firstOf 39 40 (.iaload) 1 := by unfold dk; decide +kernel
theorem dX7_firstOf_40 : dk cX7_firstOf 40 43 (.invokevirtual 131) 3 := by unfold dk; decide +kernel
theorem dX7_firstOf_43 : dk cX7_firstOf 43 44 (.aload_n 0) 1 := by unfold dk; decide +kernel
theorem dX7_firstOf_44 : dk cX7_firstOf 44 45 (.iload_n 1) 1 := by unfold dk; decide +kernel
theorem dX7_firstOf_45 : dk cX7_firstOf 45 48 (.invokevirtual 134) 3 := by unfold dk; decide +kernel
theorem dX7_firstOf_48 : bk cX7_firstOf 48 51 53 (.if_icmp .eq 5) (5) := by unfold bk; decide +kernel
theorem dX7_firstOf_24 : bk cX7_firstOf 24 27 51 (.if_icmp .eq 27) (27) := by unfold bk; decide +kernel
theorem dX7_firstOf_53 : dk cX7_firstOf 53 56 (.iinc 3 1) 3 := by unfold dk; decide +kernel
theorem dX7_firstOf_56 : bk cX7_firstOf 56 59 4 (.goto (-52)) (-52) := by unfold bk; decide +kernel
theorem dX7_firstOf_9 : bk cX7_firstOf 9 12 59 (.if_icmp .ge 50) (50) := by unfold bk; decide +kernel
theorem dX7_firstOf_59 : dk cX7_firstOf 59 60 (.iload_n 2) 1 := by unfold dk; decide +kernel
theorem dX7_firstOf_60 : dk cX7_firstOf 60 61 (.ireturn) 1 := by unfold dk; decide +kernel
set_option maxHeartbeats 4000000 in
set_option maxRecDepth 100000 in
theorem kX7_firstOf {l : Launch} {G : Gl} {E : En} {a0 : Nat} {a1 : Int32} {σ σ' : Sg} {r : Int32} : fX7_firstOf E a0 a1 σ = some (r, σ') → CT l yX7_firstOf cX7_firstOf 4 (some .int) ({ frames := 1, cells := 0, slots := 0, locals := 22 } : Room) [.ref (G.1 + a0), .int a1] G E σ (some (.int r)) σ' := by
  intro h
  refine CT_of (lv0 := [(0, .ref (G.1 + a0)), (1, .int a1)]) (by decide) (Nat.le_of_ble_eq_true rfl) rfl (fun κ hl hR hr C => ?_)
  have C : Cx κ G cX7_firstOf RX7 4 := C
  revert h
  unfold fX7_firstOf
  refine R_tk (fun ha0 => ?_)
  refine R_iconst C (-1) dX7_firstOf_0 (by decide) ?_
  refine R_istore_n (lv2 := [(2, .int (-1 : Int32)), (0, .ref (G.1 + a0)), (1, .int a1)]) C dX7_firstOf_1 rfl (by decide) rfl ?_
  refine R_iconst C (0) dX7_firstOf_2 (by decide) ?_
  refine R_istore_n (lv2 := [(3, .int (0 : Int32)), (2, .int (-1 : Int32)), (0, .ref (G.1 + a0)), (1, .int a1)]) C dX7_firstOf_3 rfl (by decide) rfl ?_
  refine R_loc (lv2 := [(0, .ref (G.1 + a0)), (1, .int a1), (2, .int (-1 : Int32)), (3, .int (0 : Int32))]) [2, 3, 1, 0] rfl ?_
  refine R_loop (fun (a : (Int32 × Int32) × Sg) => V κ G (QQ κ G E (some (.int r)) σ') E a.2 (false, 0, 0) 4 [(0, .ref (G.1 + a0)), (1, .int a1), (2, .int a.1.1), (3, .int a.1.2)] []) (fun (o : (Int32 × Int32)) (s : Sg) => V κ G (QQ κ G E (some (.int r)) σ') E s (false, 0, 0) 59 [(2, .int o.1)] []) (((-1 : Int32), (0 : Int32)), σ) (fun o22 s23 => ?_) (fun rec I7 a b5 s6 K4 => ?_)
  · refine R_iload_n C 0 rfl dX7_firstOf_59 ?_
    exact R_iret C hr dX7_firstOf_60
  · obtain ⟨⟨v1, v2⟩, s3⟩ := a
    show bX7_firstOf_4 E a0 a1 (fun u0 u1 t => rec ((u0, u1), t)) v1 v2 s3 = some (b5, s6) → V κ G (QQ κ G E (some (.int r)) σ') E s3 (false, 0, 0) 4 [(0, .ref (G.1 + a0)), (1, .int a1), (2, .int v1), (3, .int v2)] []
    unfold bX7_firstOf_4
    refine R_iload_n C 3 rfl dX7_firstOf_4 ?_
    refine R_aload_n C 0 rfl dX7_firstOf_5 ?_
    refine R_geti C fl7_128 rfl ha0 dX7_firstOf_6 ?_
    refine B_icmp_ge C dX7_firstOf_9 ?_ ?_
    · refine R_loc (lv2 := [(2, .int v1)]) [2] rfl ?_
      exact R_end (fun (o : (Int32 × Int32)) (s : Sg) => V κ G (QQ κ G E (some (.int r)) σ') E s (false, 0, 0) 59 [(2, .int o.1)] []) K4
    · refine R_aload_n C 0 rfl dX7_firstOf_12 ?_
      refine R_dr (fun x8 rx8 cx8 => ?_)
      refine R_getr C fl7_30 rfl ha0 rx8 dX7_firstOf_13 ?_
      refine R_iload_n C 3 rfl dX7_firstOf_16 ?_
      refine R_ck (fun h9 => ?_)
      refine R_iald C cx8 h9 dX7_firstOf_17 ?_
      refine R_iload_n C 1 rfl dX7_firstOf_18 ?_
      refine R_bdK (fun (w : Int32) (s : Sg) => V κ G (QQ κ G E (some (.int r)) σ') E s (false, 0, 0) 53 [(0, .ref (G.1 + a0)), (1, .int a1), (3, .int v2), (2, .int w)] []) (fun w10 s11 => ?_) (fun w10 s11 Kw10 => ?_)
      · refine S_iinc (fun v21 => [(3, .int v21), (0, .ref (G.1 + a0)), (1, .int a1), (2, .int w10)]) 2 C dX7_firstOf_53 rfl (by decide) (by decide) (fun _ => rfl) (fun v21 => ?_)
        refine R_goto C dX7_firstOf_56 ?_
        refine R_loc (lv2 := [(0, .ref (G.1 + a0)), (1, .int a1), (2, .int w10), (3, .int v21)]) [1, 2, 3, 0] rfl ?_
        exact I7 ((w10, v21), s11) b5 s6 K4
      · refine B_icmp_ne C dX7_firstOf_19 ?_ ?_
        · refine R_loc (lv2 := [(0, .ref (G.1 + a0)), (1, .int a1), (3, .int v2), (2, .int v1)]) [0, 1, 3, 2] rfl ?_
          exact R_end (fun (w : Int32) (s : Sg) => V κ G (QQ κ G E (some (.int r)) σ') E s (false, 0, 0) 53 [(0, .ref (G.1 + a0)), (1, .int a1), (3, .int v2), (2, .int w)] []) Kw10
        · refine R_iload_n C 2 rfl dX7_firstOf_22 ?_
          refine R_iconst C (-1) dX7_firstOf_23 (by decide) ?_
          refine B_icmp_eq C dX7_firstOf_24 ?_ ?_
          · refine R_iload_n C 3 rfl dX7_firstOf_51 ?_
            refine R_istore_n (lv2 := [(2, .int v2), (0, .ref (G.1 + a0)), (1, .int a1), (3, .int v2)]) C dX7_firstOf_52 rfl (by decide) rfl ?_
            refine R_loc (lv2 := [(0, .ref (G.1 + a0)), (1, .int a1), (3, .int v2), (2, .int v2)]) [1, 2, 3, 0] rfl ?_
            exact R_end (fun (w : Int32) (s : Sg) => V κ G (QQ κ G E (some (.int r)) σ') E s (false, 0, 0) 53 [(0, .ref (G.1 + a0)), (1, .int a1), (3, .int v2), (2, .int w)] []) Kw10
          · refine R_aload_n C 0 rfl dX7_firstOf_27 ?_
            refine R_aload_n C 0 rfl dX7_firstOf_28 ?_
            refine R_dr (fun x12 rx12 cx12 => ?_)
            refine R_getr C fl7_27 rfl ha0 rx12 dX7_firstOf_29 ?_
            refine R_iload_n C 3 rfl dX7_firstOf_32 ?_
            refine R_ck (fun h13 => ?_)
            refine R_iald C cx12 h13 dX7_firstOf_33 ?_
            refine R_aload_n C 0 rfl dX7_firstOf_34 ?_
            refine R_getr C fl7_27 rfl ha0 rx12 dX7_firstOf_35 ?_
            refine R_iload_n C 2 rfl dX7_firstOf_38 ?_
            refine R_ck (fun h14 => ?_)
            refine R_iald C cx12 h14 dX7_firstOf_39 ?_
            refine R_bd (fun r17 s15 q16 => ?_)
            refine R_callVi [.int (gi s3 x12 v2.toNatClampNeg), .int (gi s3 x12 v1.toNatClampNeg)] [] C ml7_131 (kX7_isLess q16) (by rw [hR]; exact ⟨rfl, rfl, Nat.le_of_ble_eq_true rfl, Nat.le_of_ble_eq_true rfl, Nat.zero_le _, Nat.zero_le _⟩) ha0 rfl rfl (Nat.le_of_ble_eq_true rfl) dX7_firstOf_40 ?_
            refine R_aload_n C 0 rfl dX7_firstOf_43 ?_
            refine R_iload_n C 1 rfl dX7_firstOf_44 ?_
            refine R_bd (fun r20 s18 q19 => ?_)
            refine R_callVi [.int a1] [.int r17] C ml7_134 (kX7_doesFall q19) (by rw [hR]; exact ⟨rfl, rfl, Nat.le_of_ble_eq_true rfl, Nat.le_of_ble_eq_true rfl, Nat.zero_le _, Nat.zero_le _⟩) ha0 rfl rfl (Nat.le_of_ble_eq_true rfl) dX7_firstOf_45 ?_
            refine B_icmp_eq C dX7_firstOf_48 ?_ ?_
            · refine R_loc (lv2 := [(0, .ref (G.1 + a0)), (1, .int a1), (3, .int v2), (2, .int v1)]) [0, 1, 3, 2] rfl ?_
              exact R_end (fun (w : Int32) (s : Sg) => V κ G (QQ κ G E (some (.int r)) σ') E s (false, 0, 0) 53 [(0, .ref (G.1 + a0)), (1, .int a1), (3, .int v2), (2, .int w)] []) Kw10
            · refine R_iload_n C 3 rfl dX7_firstOf_51 ?_
              refine R_istore_n (lv2 := [(2, .int v2), (0, .ref (G.1 + a0)), (1, .int a1), (3, .int v2)]) C dX7_firstOf_52 rfl (by decide) rfl ?_
              refine R_loc (lv2 := [(0, .ref (G.1 + a0)), (1, .int a1), (3, .int v2), (2, .int v2)]) [1, 2, 3, 0] rfl ?_
              exact R_end (fun (w : Int32) (s : Sg) => V κ G (QQ κ G E (some (.int r)) σ') E s (false, 0, 0) 53 [(0, .ref (G.1 + a0)), (1, .int a1), (3, .int v2), (2, .int w)] []) Kw10
theorem dX7_laysRuns_0 : dk cX7_laysRuns 0 1 (.aload_n 0) 1 := by unfold dk; decide +kernel
theorem dX7_laysRuns_1 : dk cX7_laysRuns 1 2 (.iconst 0) 1 := by unfold dk; decide +kernel
theorem dX7_laysRuns_2 : dk cX7_laysRuns 2 5 (.putfield 128) 3 := by unfold dk; decide +kernel
theorem dX7_laysRuns_5 : dk cX7_laysRuns 5 6 (.iconst 0) 1 := by unfold dk; decide +kernel
theorem dX7_laysRuns_6 : dk cX7_laysRuns 6 7 (.istore_n 1) 1 := by unfold dk; decide +kernel
theorem dX7_laysRuns_7 : dk cX7_laysRuns 7 8 (.iload_n 1) 1 := by unfold dk; decide +kernel
theorem dX7_laysRuns_8 : dk cX7_laysRuns 8 9 (.aload_n 0) 1 := by unfold dk; decide +kernel
theorem dX7_laysRuns_9 : dk cX7_laysRuns 9 12 (.invokevirtual 93) 3 := by unfold dk; decide +kernel
theorem dX7_laysRuns_15 : dk cX7_laysRuns 15 16 (.aload_n 0) 1 := by unfold dk; decide +kernel
theorem dX7_laysRuns_16 : dk cX7_laysRuns 16 19 (.getfield 128) 3 := by unfold dk; decide +kernel
theorem dX7_laysRuns_19 : dk cX7_laysRuns 19 20 (.aload_n 0) 1 := by unfold dk; decide +kernel
theorem dX7_laysRuns_20 : dk cX7_laysRuns 20 23 (.invokevirtual 138) 3 := by unfold dk; decide +kernel
theorem dX7_laysRuns_26 : dk cX7_laysRuns 26 27 (.aload_n 0) 1 := by unfold dk; decide +kernel
theorem dX7_laysRuns_27 : dk cX7_laysRuns 27 28 (.iload_n 1) 1 := by unfold dk; decide +kernel
theorem dX7_laysRuns_28 : dk cX7_laysRuns 28 29 (.iconst 0) 1 := by unfold dk; decide +kernel
theorem dX7_laysRuns_29 : dk cX7_laysRuns 29 32 (.invokevirtual 141) 3 := by unfold dk; decide +kernel
theorem dX7_laysRuns_32 : dk cX7_laysRuns 32 35 (.iinc 1 1) 3 := by unfold dk; decide +kernel
theorem dX7_laysRuns_35 : bk cX7_laysRuns 35 38 7 (.goto (-28)) (-28) := by unfold bk; decide +kernel
theorem dX7_laysRuns_23 : bk cX7_laysRuns 23 26 38 (.if_icmp .ge 15) (15) := by unfold bk; decide +kernel
theorem dX7_laysRuns_12 : bk cX7_laysRuns 12 15 38 (.if_icmp .ge 26) (26) := by unfold bk; decide +kernel
theorem dX7_laysRuns_38 : dk cX7_laysRuns 38 39 (.iconst 0) 1 := by unfold dk; decide +kernel
theorem dX7_laysRuns_39 : dk cX7_laysRuns 39 40 (.istore_n 2) 1 := by unfold dk; decide +kernel
theorem dX7_laysRuns_40 : dk cX7_laysRuns 40 41 (.aload_n 0) 1 := by unfold dk; decide +kernel
theorem dX7_laysRuns_41 : dk cX7_laysRuns 41 44 (.getfield 9) 3 := by unfold dk; decide +kernel
theorem dX7_laysRuns_44 : dk cX7_laysRuns 44 47 (.sipush 926) 3 := by unfold dk; decide +kernel
theorem dX7_laysRuns_47 : dk cX7_laysRuns 47 48 (.iconst 0) 1 := by unfold dk; decide +kernel
theorem dX7_laysRuns_48 : dk cX7_laysRuns 48 49 (.iastore) 1 := by unfold dk; decide +kernel
theorem dX7_laysRuns_49 : dk cX7_laysRuns 49 50 (.iconst 0) 1 := by unfold dk; decide +kernel
theorem dX7_laysRuns_50 : dk cX7_laysRuns 50 51 (.istore_n 3) 1 := by unfold dk; decide +kernel
theorem dX7_laysRuns_51 : dk cX7_laysRuns 51 52 (.iload_n 3) 1 := by unfold dk; decide +kernel
theorem dX7_laysRuns_52 : dk cX7_laysRuns 52 53 (.aload_n 0) 1 := by unfold dk; decide +kernel
theorem dX7_laysRuns_53 : dk cX7_laysRuns 53 56 (.invokevirtual 93) 3 := by unfold dk; decide +kernel
theorem dX7_laysRuns_59 : dk cX7_laysRuns 59 60 (.aload_n 0) 1 := by unfold dk; decide +kernel
theorem dX7_laysRuns_60 : dk cX7_laysRuns 60 61 (.iload_n 2) 1 := by unfold dk; decide +kernel
theorem dX7_laysRuns_61 : dk cX7_laysRuns 61 64 (.invokevirtual 145) 3 := by unfold dk; decide +kernel
theorem dX7_laysRuns_64 : dk cX7_laysRuns 64 66 (.istore 4) 2 := by unfold dk; decide +kernel
theorem dX7_laysRuns_66 : dk cX7_laysRuns 66 68 (.iload 4) 2 := by unfold dk; decide +kernel
theorem dX7_laysRuns_68 : dk cX7_laysRuns 68 69 (.iconst (-1)) 1 := by unfold dk; decide +kernel
theorem dX7_laysRuns_69 : bk cX7_laysRuns 69 72 93 (.if_icmp .ne 24) (24) := by unfold bk; decide +kernel
theorem dX7_laysRuns_72 : dk cX7_laysRuns 72 75 (.iinc 2 1) 3 := by unfold dk; decide +kernel
theorem dX7_laysRuns_75 : dk cX7_laysRuns 75 76 (.aload_n 0) 1 := by unfold dk; decide +kernel
theorem dX7_laysRuns_76 : dk cX7_laysRuns 76 79 (.getfield 9) 3 := by unfold dk; decide +kernel
theorem dX7_laysRuns_79 : dk cX7_laysRuns 79 82 (.sipush 926) 3 := by unfold dk; decide +kernel
theorem dX7_laysRuns_82 : dk cX7_laysRuns 82 83 (.iload_n 2) 1 := by unfold dk; decide +kernel
theorem dX7_laysRuns_83 : dk cX7_laysRuns 83 84 (.iadd) 1 := by unfold dk; decide +kernel
theorem dX7_laysRuns_84 : dk cX7_laysRuns 84 85 (.iload_n 3) 1 := by unfold dk; decide +kernel
theorem dX7_laysRuns_85 : dk cX7_laysRuns 85 86 (.iastore) 1 := by unfold dk; decide +kernel
theorem dX7_laysRuns_86 : dk cX7_laysRuns 86 87 (.aload_n 0) 1 := by unfold dk; decide +kernel
theorem dX7_laysRuns_87 : dk cX7_laysRuns 87 88 (.iload_n 2) 1 := by unfold dk; decide +kernel
theorem dX7_laysRuns_88 : dk cX7_laysRuns 88 91 (.invokevirtual 145) 3 := by unfold dk; decide +kernel
theorem dX7_laysRuns_91 : dk cX7_laysRuns 91 93 (.istore 4) 2 := by unfold dk; decide +kernel
theorem dX7_laysRuns_93 : dk cX7_laysRuns 93 94 (.aload_n 0) 1 := by unfold dk; decide +kernel
theorem dX7_laysRuns_94 : dk cX7_laysRuns 94 97 (.getfield 27) 3 := by unfold dk; decide +kernel
theorem dX7_laysRuns_97 : dk cX7_laysRuns 97 99 (.iload 4) 2 := by unfold dk; decide +kernel
theorem dX7_laysRuns_99 : dk cX7_laysRuns 99 100 (.iaload) 1 := by unfold dk; decide +kernel
theorem dX7_laysRuns_100 : dk cX7_laysRuns 100 102 (.istore 5) 2 := by unfold dk; decide +kernel
theorem dX7_laysRuns_102 : dk cX7_laysRuns 102 103 (.aload_n 0) 1 := by unfold dk; decide +kernel
theorem dX7_laysRuns_103 : dk cX7_laysRuns 103 106 (.getfield 9) 3 := by unfold dk; decide +kernel
theorem dX7_laysRuns_106 : dk cX7_laysRuns 106 109 (.sipush 626) 3 := by unfold dk; decide +kernel
theorem dX7_laysRuns_109 : dk cX7_laysRuns 109 110 (.iload_n 3) 1 := by unfold dk; decide +kernel
theorem dX7_laysRuns_110 : dk cX7_laysRuns 110 111 (.iadd) 1 := by unfold dk; decide +kernel
theorem dX7_laysRuns_111 : dk cX7_laysRuns 111 113 (.iload 5) 2 := by unfold dk; decide +kernel
theorem dX7_laysRuns_113 : dk cX7_laysRuns 113 114 (.iastore) 1 := by unfold dk; decide +kernel
theorem dX7_laysRuns_114 : dk cX7_laysRuns 114 115 (.aload_n 0) 1 := by unfold dk; decide +kernel
theorem dX7_laysRuns_115 : dk cX7_laysRuns 115 118 (.getfield 9) 3 := by unfold dk; decide +kernel
theorem dX7_laysRuns_118 : dk cX7_laysRuns 118 121 (.sipush 326) 3 := by unfold dk; decide +kernel
theorem dX7_laysRuns_121 : dk cX7_laysRuns 121 123 (.iload 5) 2 := by unfold dk; decide +kernel
theorem dX7_laysRuns_123 : dk cX7_laysRuns 123 124 (.iadd) 1 := by unfold dk; decide +kernel
theorem dX7_laysRuns_124 : dk cX7_laysRuns 124 125 (.iload_n 2) 1 := by unfold dk; decide +kernel
theorem dX7_laysRuns_125 : dk cX7_laysRuns 125 126 (.iastore) 1 := by unfold dk; decide +kernel
theorem dX7_laysRuns_126 : dk cX7_laysRuns 126 127 (.aload_n 0) 1 := by unfold dk; decide +kernel
theorem dX7_laysRuns_127 : dk cX7_laysRuns 127 128 (.dup) 1 := by unfold dk; decide +kernel
theorem dX7_laysRuns_128 : dk cX7_laysRuns 128 131 (.getfield 128) 3 := by unfold dk; decide +kernel
theorem dX7_laysRuns_131 : dk cX7_laysRuns 131 132 (.iconst 1) 1 := by unfold dk; decide +kernel
theorem dX7_laysRuns_132 : dk cX7_laysRuns 132 133 (.isub) 1 := by unfold dk; decide +kernel
theorem dX7_laysRuns_133 : dk cX7_laysRuns 133 136 (.putfield 128) 3 := by unfold dk; decide +kernel
theorem dX7_laysRuns_136 : dk cX7_laysRuns 136 137 (.aload_n 0) 1 := by unfold dk; decide +kernel
theorem dX7_laysRuns_137 : dk cX7_laysRuns 137 140 (.getfield 27) 3 := by unfold dk; decide +kernel
theorem dX7_laysRuns_140 : dk cX7_laysRuns 140 142 (.iload 4) 2 := by unfold dk; decide +kernel
theorem dX7_laysRuns_142 : dk cX7_laysRuns 142 143 (.aload_n 0) 1 := by unfold dk; decide +kernel
theorem dX7_laysRuns_143 : dk cX7_laysRuns 143 146 (.getfield 27) 3 := by unfold dk; decide +kernel
theorem dX7_laysRuns_146 : dk cX7_laysRuns 146 147 (.aload_n 0) 1 := by unfold dk; decide +kernel
theorem dX7_laysRuns_147 : dk cX7_laysRuns 147 150 (.getfield 128) 3 := by unfold dk; decide +kernel
theorem dX7_laysRuns_150 : dk cX7_laysRuns 150 151 (.iaload) 1 := by unfold dk; decide +kernel
theorem dX7_laysRuns_151 : dk cX7_laysRuns 151 152 (.iastore) 1 := by unfold dk; decide +kernel
theorem dX7_laysRuns_152 : dk cX7_laysRuns 152 153 (.aload_n 0) 1 := by unfold dk; decide +kernel
theorem dX7_laysRuns_153 : dk cX7_laysRuns 153 156 (.getfield 30) 3 := by unfold dk; decide +kernel
theorem dX7_laysRuns_156 : dk cX7_laysRuns 156 158 (.iload 4) 2 := by unfold dk; decide +kernel
theorem dX7_laysRuns_158 : dk cX7_laysRuns 158 159 (.aload_n 0) 1 := by unfold dk; decide +kernel
theorem dX7_laysRuns_159 : dk cX7_laysRuns 159 162 (.getfield 30) 3 := by unfold dk; decide +kernel
theorem dX7_laysRuns_162 : dk cX7_laysRuns 162 163 (.aload_n 0) 1 := by unfold dk; decide +kernel
theorem dX7_laysRuns_163 : dk cX7_laysRuns 163 166 (.getfield 128) 3 := by unfold dk; decide +kernel
theorem dX7_laysRuns_166 : dk cX7_laysRuns 166 167 (.iaload) 1 := by unfold dk; decide +kernel
theorem dX7_laysRuns_167 : dk cX7_laysRuns 167 168 (.iastore) 1 := by unfold dk; decide +kernel
theorem dX7_laysRuns_168 : dk cX7_laysRuns 168 169 (.iload_n 1) 1 := by unfold dk; decide +kernel
theorem dX7_laysRuns_169 : dk cX7_laysRuns 169 170 (.aload_n 0) 1 := by unfold dk; decide +kernel
theorem dX7_laysRuns_170 : dk cX7_laysRuns 170 173 (.invokevirtual 93) 3 := by unfold dk; decide +kernel
theorem dX7_laysRuns_173 : bk cX7_laysRuns 173 176 206 (.if_icmp .ge 33) (33) := by unfold bk; decide +kernel
theorem dX7_laysRuns_176 : dk cX7_laysRuns 176 177 (.aload_n 0) 1 := by unfold dk; decide +kernel
theorem dX7_laysRuns_177 : dk cX7_laysRuns 177 178 (.iload_n 1) 1 := by unfold dk; decide +kernel
theorem dX7_laysRuns_178 : dk cX7_laysRuns 178 179 (.aload_n 0) 1 := by unfold dk; decide +kernel
theorem dX7_laysRuns_179 : dk cX7_laysRuns 179 180 (.iload_n 1) 1 := by unfold dk; decide +kernel
theorem dX7_laysRuns_180 : dk cX7_laysRuns 180 182 (.iload 5) 2 := by unfold dk; decide +kernel
theorem dX7_laysRuns_182 : dk cX7_laysRuns 182 185 (.invokevirtual 131) 3 := by unfold dk; decide +kernel
theorem dX7_laysRuns_185 : dk cX7_laysRuns 185 186 (.aload_n 0) 1 := by unfold dk; decide +kernel
theorem dX7_laysRuns_186 : dk cX7_laysRuns 186 187 (.iload_n 2) 1 := by unfold dk; decide +kernel
theorem dX7_laysRuns_187 : dk cX7_laysRuns 187 190 (.invokevirtual 134) 3 := by unfold dk; decide +kernel
theorem dX7_laysRuns_190 : bk cX7_laysRuns 190 193 197 (.if_icmp .ne 7) (7) := by unfold bk; decide +kernel
theorem dX7_laysRuns_197 : dk cX7_laysRuns 197 198 (.iload_n 2) 1 := by unfold dk; decide +kernel
theorem dX7_laysRuns_198 : dk cX7_laysRuns 198 199 (.iconst 1) 1 := by unfold dk; decide +kernel
theorem dX7_laysRuns_199 : dk cX7_laysRuns 199 200 (.iadd) 1 := by unfold dk; decide +kernel
theorem dX7_laysRuns_193 : dk cX7_laysRuns 193 194 (.iload_n 2) 1 := by unfold dk; decide +kernel
theorem dX7_laysRuns_194 : bk cX7_laysRuns 194 197 200 (.goto 6) (6) := by unfold bk; decide +kernel
theorem dX7_laysRuns_200 : dk cX7_laysRuns 200 203 (.invokevirtual 141) 3 := by unfold dk; decide +kernel
theorem dX7_laysRuns_203 : dk cX7_laysRuns 203 206 (.iinc 1 1) 3 := by unfold dk; decide +kernel
theorem dX7_laysRuns_206 : dk cX7_laysRuns 206 209 (.iinc 3 1) 3 := by unfold dk; decide +kernel
theorem dX7_laysRuns_209 : bk cX7_laysRuns 209 212 51 (.goto (-158)) (-158) := by unfold bk; decide +kernel
theorem dX7_laysRuns_56 : bk cX7_laysRuns 56 59 212 (.if_icmp .ge 156) (156) := by unfold bk; decide +kernel
theorem dX7_laysRuns_212 : dk cX7_laysRuns 212 213 (.aload_n 0) 1 := by unfold dk; decide +kernel
theorem dX7_laysRuns_213 : dk cX7_laysRuns 213 216 (.getfield 9) 3 := by unfold dk; decide +kernel
theorem dX7_laysRuns_216 : dk cX7_laysRuns 216 218 (.bipush 14) 2 := by unfold dk; decide +kernel
theorem dX7_laysRuns_218 : dk cX7_laysRuns 218 219 (.iload_n 2) 1 := by unfold dk; decide +kernel
theorem dX7_laysRuns_219 : dk cX7_laysRuns 219 220 (.iconst 1) 1 := by unfold dk; decide +kernel
theorem dX7_laysRuns_220 : dk cX7_laysRuns 220 221 (.iadd) 1 := by unfold dk; decide +kernel
theorem dX7_laysRuns_221 : dk cX7_laysRuns 221 222 (.iastore) 1 := by unfold dk; decide +kernel
theorem dX7_laysRuns_222 : dk cX7_laysRuns 222 223 (.aload_n 0) 1 := by unfold dk; decide +kernel
theorem dX7_laysRuns_223 : dk cX7_laysRuns 223 226 (.getfield 9) 3 := by unfold dk; decide +kernel
theorem dX7_laysRuns_226 : dk cX7_laysRuns 226 229 (.sipush 926) 3 := by unfold dk; decide +kernel
theorem dX7_laysRuns_229 : dk cX7_laysRuns 229 230 (.iload_n 2) 1 := by unfold dk; decide +kernel
theorem dX7_laysRuns_230 : dk cX7_laysRuns 230 231 (.iadd) 1 := by unfold dk; decide +kernel
theorem dX7_laysRuns_231 : dk cX7_laysRuns 231 232 (.iconst 1) 1 := by unfold dk; decide +kernel
theorem dX7_laysRuns_232 : dk cX7_laysRuns 232 233 (.iadd) 1 := by unfold dk; decide +kernel
theorem dX7_laysRuns_233 : dk cX7_laysRuns 233 234 (.aload_n 0) 1 := by unfold dk; decide +kernel
theorem dX7_laysRuns_234 : dk cX7_laysRuns 234 237 (.invokevirtual 93) 3 := by unfold dk; decide +kernel
theorem dX7_laysRuns_237 : dk cX7_laysRuns 237 238 (.iastore) 1 := by unfold dk; decide +kernel
theorem dX7_laysRuns_238 : dk cX7_laysRuns 238 239 (.return_) 1 := by unfold dk; decide +kernel
set_option maxHeartbeats 4000000 in
set_option maxRecDepth 100000 in
theorem kX7_laysRuns {l : Launch} {G : Gl} {E : En} {a0 : Nat} {σ σ' : Sg} : fX7_laysRuns E a0 σ = some σ' → CT l yX7_laysRuns cX7_laysRuns 6 none ({ frames := 2, cells := 0, slots := 0, locals := 45 } : Room) [.ref (G.1 + a0)] G E σ none σ' := by
  intro h
  refine CT_of (lv0 := [(0, .ref (G.1 + a0))]) (by decide) (Nat.le_of_ble_eq_true rfl) rfl (fun κ hl hR hr C => ?_)
  have C : Cx κ G cX7_laysRuns RX7 6 := C
  revert h
  unfold fX7_laysRuns
  refine R_tk (fun ha0 => ?_)
  refine R_aload_n C 0 rfl dX7_laysRuns_0 ?_
  refine R_iconst C (0) dX7_laysRuns_1 (by decide) ?_
  refine S_puti C fl7_128 rfl ha0 rfl rfl dX7_laysRuns_2 (fun s1 => ?_)
  refine R_iconst C (0) dX7_laysRuns_5 (by decide) ?_
  refine R_istore_n (lv2 := [(1, .int (0 : Int32)), (0, .ref (G.1 + a0))]) C dX7_laysRuns_6 rfl (by decide) rfl ?_
  refine R_loc (lv2 := [(0, .ref (G.1 + a0)), (1, .int (0 : Int32))]) [1, 0] rfl ?_
  refine R_loop (fun (a : (Int32) × Sg) => V κ G (QQ κ G E none σ') E a.2 (false, 0, 0) 7 [(0, .ref (G.1 + a0)), (1, .int a.1)] []) (fun (o : (Int32)) (s : Sg) => V κ G (QQ κ G E none σ') E s (false, 0, 0) 38 [(0, .ref (G.1 + a0)), (1, .int o)] []) ((0 : Int32), s1) (fun o17 s18 => ?_) (fun rec I7 a b5 s6 K4 => ?_)
  · refine R_iconst C (0) dX7_laysRuns_38 (by decide) ?_
    refine R_istore_n (lv2 := [(2, .int (0 : Int32)), (0, .ref (G.1 + a0)), (1, .int o17)]) C dX7_laysRuns_39 rfl (by decide) rfl ?_
    refine R_aload_n C 1 rfl dX7_laysRuns_40 ?_
    refine R_dr (fun x19 rx19 cx19 => ?_)
    refine R_getr C fl7_9 rfl ha0 rx19 dX7_laysRuns_41 ?_
    refine R_sipush C (926) dX7_laysRuns_44 (by decide) ?_
    refine R_iconst C (0) dX7_laysRuns_47 (by decide) ?_
    refine R_ck (fun h20 => ?_)
    refine S_iast C cx19 h20 dX7_laysRuns_48 (fun s21 => ?_)
    refine R_iconst C (0) dX7_laysRuns_49 (by decide) ?_
    refine R_istore_n (lv2 := [(3, .int (0 : Int32)), (2, .int (0 : Int32)), (0, .ref (G.1 + a0)), (1, .int o17)]) C dX7_laysRuns_50 rfl (by decide) rfl ?_
    refine R_loc (lv2 := [(0, .ref (G.1 + a0)), (1, .int o17), (2, .int (0 : Int32)), (3, .int (0 : Int32))]) [2, 3, 1, 0] rfl ?_
    refine R_loop (fun (a : (Int32 × Int32 × Int32) × Sg) => V κ G (QQ κ G E none σ') E a.2 (false, 0, 0) 51 [(0, .ref (G.1 + a0)), (1, .int a.1.1), (2, .int a.1.2.1), (3, .int a.1.2.2)] []) (fun (o : (Int32 × Int32 × Int32)) (s : Sg) => V κ G (QQ κ G E none σ') E s (false, 0, 0) 212 [(0, .ref (G.1 + a0)), (2, .int o.2.1)] []) ((o17, (0 : Int32), (0 : Int32)), s21) (fun o76 s77 => ?_) (fun rec I29 a b27 s28 K26 => ?_)
    · refine R_aload_n C 0 rfl dX7_laysRuns_212 ?_
      refine R_getr C fl7_9 rfl ha0 rx19 dX7_laysRuns_213 ?_
      refine R_bipush C (14) dX7_laysRuns_216 (by decide) ?_
      refine R_iload_n C 1 rfl dX7_laysRuns_218 ?_
      refine R_iconst C (1) dX7_laysRuns_219 (by decide) ?_
      refine R_iadd C dX7_laysRuns_220 ?_
      refine R_ck (fun h78 => ?_)
      refine S_iast C cx19 h78 dX7_laysRuns_221 (fun s79 => ?_)
      refine R_aload_n C 0 rfl dX7_laysRuns_222 ?_
      refine R_getr C fl7_9 rfl ha0 rx19 dX7_laysRuns_223 ?_
      refine R_sipush C (926) dX7_laysRuns_226 (by decide) ?_
      refine R_iload_n C 1 rfl dX7_laysRuns_229 ?_
      refine R_iadd C dX7_laysRuns_230 ?_
      refine R_iconst C (1) dX7_laysRuns_231 (by decide) ?_
      refine R_iadd C dX7_laysRuns_232 ?_
      refine R_aload_n C 0 rfl dX7_laysRuns_233 ?_
      refine R_bd (fun r82 s80 q81 => ?_)
      refine R_callVi [] [.int (((926 : Int32) + o76.2.1) + (1 : Int32)), .ref (G.1 + x19)] C ml7_93 (kX7_many q81) (by rw [hR]; exact ⟨rfl, rfl, Nat.le_of_ble_eq_true rfl, Nat.le_of_ble_eq_true rfl, Nat.zero_le _, Nat.zero_le _⟩) ha0 rfl rfl (Nat.le_of_ble_eq_true rfl) dX7_laysRuns_234 ?_
      refine R_ck (fun h83 => ?_)
      refine S_iast C cx19 h83 dX7_laysRuns_237 (fun s84 => ?_)
      exact R_vret C hr dX7_laysRuns_238
    · obtain ⟨⟨v22, v23, v24⟩, s25⟩ := a
      show bX7_laysRuns_51 E a0 x19 (fun u0 u1 u2 t => rec ((u0, u1, u2), t)) v22 v23 v24 s25 = some (b27, s28) → V κ G (QQ κ G E none σ') E s25 (false, 0, 0) 51 [(0, .ref (G.1 + a0)), (1, .int v22), (2, .int v23), (3, .int v24)] []
      unfold bX7_laysRuns_51
      refine R_iload_n C 3 rfl dX7_laysRuns_51 ?_
      refine R_aload_n C 0 rfl dX7_laysRuns_52 ?_
      refine R_bd (fun r32 s30 q31 => ?_)
      refine R_callVi [] [.int v24] C ml7_93 (kX7_many q31) (by rw [hR]; exact ⟨rfl, rfl, Nat.le_of_ble_eq_true rfl, Nat.le_of_ble_eq_true rfl, Nat.zero_le _, Nat.zero_le _⟩) ha0 rfl rfl (Nat.le_of_ble_eq_true rfl) dX7_laysRuns_53 ?_
      refine B_icmp_ge C dX7_laysRuns_56 ?_ ?_
      · refine R_loc (lv2 := [(0, .ref (G.1 + a0)), (2, .int v23)]) [0, 2] rfl ?_
        exact R_end (fun (o : (Int32 × Int32 × Int32)) (s : Sg) => V κ G (QQ κ G E none σ') E s (false, 0, 0) 212 [(0, .ref (G.1 + a0)), (2, .int o.2.1)] []) K26
      · refine R_aload_n C 0 rfl dX7_laysRuns_59 ?_
        refine R_iload_n C 2 rfl dX7_laysRuns_60 ?_
        refine R_bd (fun r35 s33 q34 => ?_)
        refine R_callVi [.int v23] [] C ml7_145 (kX7_firstOf q34) (by rw [hR]; exact ⟨rfl, rfl, Nat.le_of_ble_eq_true rfl, Nat.le_of_ble_eq_true rfl, Nat.zero_le _, Nat.zero_le _⟩) ha0 rfl rfl (Nat.le_of_ble_eq_true rfl) dX7_laysRuns_61 ?_
        refine R_istore (lv2 := [(4, .int r35), (0, .ref (G.1 + a0)), (1, .int v22), (2, .int v23), (3, .int v24)]) C dX7_laysRuns_64 (by decide) rfl ?_
        refine R_iload C 0 rfl dX7_laysRuns_66 ?_
        refine R_iconst C (-1) dX7_laysRuns_68 (by decide) ?_
        refine R_bdK (fun (w : Int32 × Int32) (s : Sg) => V κ G (QQ κ G E none σ') E s (false, 0, 0) 93 [(0, .ref (G.1 + a0)), (1, .int v22), (3, .int v24), (2, .int w.1), (4, .int w.2)] []) (fun w36 s37 => ?_) (fun w36 s37 Kw36 => ?_)
        · refine R_aload_n C 0 rfl dX7_laysRuns_93 ?_
          refine R_dr (fun x44 rx44 cx44 => ?_)
          refine R_getr C fl7_27 rfl ha0 rx44 dX7_laysRuns_94 ?_
          refine R_iload C 4 rfl dX7_laysRuns_97 ?_
          refine R_ck (fun h45 => ?_)
          refine R_iald C cx44 h45 dX7_laysRuns_99 ?_
          refine S_istore C dX7_laysRuns_100 (fun v46 => [(5, .int v46), (0, .ref (G.1 + a0)), (1, .int v22), (3, .int v24), (2, .int w36.1), (4, .int w36.2)]) (by decide) (fun _ => rfl) (fun v46 => ?_)
          refine R_aload_n C 1 rfl dX7_laysRuns_102 ?_
          refine R_getr C fl7_9 rfl ha0 rx19 dX7_laysRuns_103 ?_
          refine R_sipush C (626) dX7_laysRuns_106 (by decide) ?_
          refine R_iload_n C 3 rfl dX7_laysRuns_109 ?_
          refine R_iadd C dX7_laysRuns_110 ?_
          refine R_iload C 0 rfl dX7_laysRuns_111 ?_
          refine R_ck (fun h47 => ?_)
          refine S_iast C cx19 h47 dX7_laysRuns_113 (fun s48 => ?_)
          refine R_aload_n C 1 rfl dX7_laysRuns_114 ?_
          refine R_getr C fl7_9 rfl ha0 rx19 dX7_laysRuns_115 ?_
          refine R_sipush C (326) dX7_laysRuns_118 (by decide) ?_
          refine R_iload C 0 rfl dX7_laysRuns_121 ?_
          refine R_iadd C dX7_laysRuns_123 ?_
          refine R_iload_n C 4 rfl dX7_laysRuns_124 ?_
          refine R_ck (fun h49 => ?_)
          refine S_iast C cx19 h49 dX7_laysRuns_125 (fun s50 => ?_)
          refine R_aload_n C 1 rfl dX7_laysRuns_126 ?_
          refine R_dup C dX7_laysRuns_127 rfl ?_
          refine R_geti C fl7_128 rfl ha0 dX7_laysRuns_128 ?_
          refine R_iconst C (1) dX7_laysRuns_131 (by decide) ?_
          refine R_isub C dX7_laysRuns_132 ?_
          refine S_puti C fl7_128 rfl ha0 rfl rfl dX7_laysRuns_133 (fun s51 => ?_)
          refine R_aload_n C 1 rfl dX7_laysRuns_136 ?_
          refine R_getr C fl7_27 rfl ha0 rx44 dX7_laysRuns_137 ?_
          refine R_iload C 5 rfl dX7_laysRuns_140 ?_
          refine R_aload_n C 1 rfl dX7_laysRuns_142 ?_
          refine R_getr C fl7_27 rfl ha0 rx44 dX7_laysRuns_143 ?_
          refine R_aload_n C 1 rfl dX7_laysRuns_146 ?_
          refine R_geti C fl7_128 rfl ha0 dX7_laysRuns_147 ?_
          refine R_ck (fun h52 => ?_)
          refine R_iald C cx44 h52 dX7_laysRuns_150 ?_
          refine R_ck (fun h53 => ?_)
          refine S_iast C cx44 h53 dX7_laysRuns_151 (fun s54 => ?_)
          refine R_aload_n C 1 rfl dX7_laysRuns_152 ?_
          refine R_dr (fun x55 rx55 cx55 => ?_)
          refine R_getr C fl7_30 rfl ha0 rx55 dX7_laysRuns_153 ?_
          refine R_iload C 5 rfl dX7_laysRuns_156 ?_
          refine R_aload_n C 1 rfl dX7_laysRuns_158 ?_
          refine R_getr C fl7_30 rfl ha0 rx55 dX7_laysRuns_159 ?_
          refine R_aload_n C 1 rfl dX7_laysRuns_162 ?_
          refine R_geti C fl7_128 rfl ha0 dX7_laysRuns_163 ?_
          refine R_ck (fun h56 => ?_)
          refine R_iald C cx55 h56 dX7_laysRuns_166 ?_
          refine R_ck (fun h57 => ?_)
          refine S_iast C cx55 h57 dX7_laysRuns_167 (fun s58 => ?_)
          refine R_iload_n C 2 rfl dX7_laysRuns_168 ?_
          refine R_aload_n C 1 rfl dX7_laysRuns_169 ?_
          refine R_bd (fun r61 s59 q60 => ?_)
          refine R_callVi [] [.int v22] C ml7_93 (kX7_many q60) (by rw [hR]; exact ⟨rfl, rfl, Nat.le_of_ble_eq_true rfl, Nat.le_of_ble_eq_true rfl, Nat.zero_le _, Nat.zero_le _⟩) ha0 rfl rfl (Nat.le_of_ble_eq_true rfl) dX7_laysRuns_170 ?_
          refine R_bdK (fun (w : Int32) (s : Sg) => V κ G (QQ κ G E none σ') E s (false, 0, 0) 206 [(0, .ref (G.1 + a0)), (3, .int v24), (2, .int w36.1), (1, .int w)] []) (fun w62 s63 => ?_) (fun w62 s63 Kw62 => ?_)
          · refine S_iinc (fun v75 => [(3, .int v75), (0, .ref (G.1 + a0)), (2, .int w36.1), (1, .int w62)]) 1 C dX7_laysRuns_206 rfl (by decide) (by decide) (fun _ => rfl) (fun v75 => ?_)
            refine R_goto C dX7_laysRuns_209 ?_
            refine R_loc (lv2 := [(0, .ref (G.1 + a0)), (1, .int w62), (2, .int w36.1), (3, .int v75)]) [1, 3, 2, 0] rfl ?_
            exact I29 ((w62, w36.1, v75), s63) b27 s28 K26
          · refine B_icmp_ge C dX7_laysRuns_173 ?_ ?_
            · refine R_loc (lv2 := [(0, .ref (G.1 + a0)), (3, .int v24), (2, .int w36.1), (1, .int v22)]) [1, 3, 4, 2] rfl ?_
              exact R_end (fun (w : Int32) (s : Sg) => V κ G (QQ κ G E none σ') E s (false, 0, 0) 206 [(0, .ref (G.1 + a0)), (3, .int v24), (2, .int w36.1), (1, .int w)] []) Kw62
            · refine R_aload_n C 1 rfl dX7_laysRuns_176 ?_
              refine R_iload_n C 2 rfl dX7_laysRuns_177 ?_
              refine R_aload_n C 1 rfl dX7_laysRuns_178 ?_
              refine R_iload_n C 2 rfl dX7_laysRuns_179 ?_
              refine R_iload C 0 rfl dX7_laysRuns_180 ?_
              refine R_bd (fun r66 s64 q65 => ?_)
              refine R_callVi [.int v22, .int v46] [.int v22, .ref (G.1 + a0)] C ml7_131 (kX7_isLess q65) (by rw [hR]; exact ⟨rfl, rfl, Nat.le_of_ble_eq_true rfl, Nat.le_of_ble_eq_true rfl, Nat.zero_le _, Nat.zero_le _⟩) ha0 rfl rfl (Nat.le_of_ble_eq_true rfl) dX7_laysRuns_182 ?_
              refine R_aload_n C 1 rfl dX7_laysRuns_185 ?_
              refine R_iload_n C 4 rfl dX7_laysRuns_186 ?_
              refine R_bd (fun r69 s67 q68 => ?_)
              refine R_callVi [.int w36.1] [.int r66, .int v22, .ref (G.1 + a0)] C ml7_134 (kX7_doesFall q68) (by rw [hR]; exact ⟨rfl, rfl, Nat.le_of_ble_eq_true rfl, Nat.le_of_ble_eq_true rfl, Nat.zero_le _, Nat.zero_le _⟩) ha0 rfl rfl (Nat.le_of_ble_eq_true rfl) dX7_laysRuns_187 ?_
              refine R_bdK (fun (w : Int32) (s : Sg) => V κ G (QQ κ G E none σ') E s (false, 0, 0) 200 [(0, .ref (G.1 + a0)), (1, .int v22), (3, .int v24), (2, .int w36.1)] [.int w, .int v22, .ref (G.1 + a0)]) (fun w70 s71 => ?_) (fun w70 s71 Kw70 => ?_)
              · refine R_bv (fun s72 q73 => ?_)
                refine R_callVv [.int v22, .int w70] [] C ml7_141 (kX7_comesIn q73) (by rw [hR]; exact ⟨rfl, rfl, Nat.le_of_ble_eq_true rfl, Nat.le_of_ble_eq_true rfl, Nat.zero_le _, Nat.zero_le _⟩) ha0 rfl rfl (Nat.le_of_ble_eq_true rfl) dX7_laysRuns_200 ?_
                refine S_iinc (fun v74 => [(1, .int v74), (0, .ref (G.1 + a0)), (3, .int v24), (2, .int w36.1)]) 1 C dX7_laysRuns_203 rfl (by decide) (by decide) (fun _ => rfl) (fun v74 => ?_)
                refine R_loc (lv2 := [(0, .ref (G.1 + a0)), (3, .int v24), (2, .int w36.1), (1, .int v74)]) [1, 2, 3, 0] rfl ?_
                exact R_end (fun (w : Int32) (s : Sg) => V κ G (QQ κ G E none σ') E s (false, 0, 0) 206 [(0, .ref (G.1 + a0)), (3, .int v24), (2, .int w36.1), (1, .int w)] []) Kw62
              · refine B_icmp_ne C dX7_laysRuns_190 ?_ ?_
                · refine R_iload_n C 4 rfl dX7_laysRuns_197 ?_
                  refine R_iconst C (1) dX7_laysRuns_198 (by decide) ?_
                  refine R_iadd C dX7_laysRuns_199 ?_
                  refine R_loc (lv2 := [(0, .ref (G.1 + a0)), (1, .int v22), (3, .int v24), (2, .int w36.1)]) [1, 2, 3, 4] rfl ?_
                  exact R_end (fun (w : Int32) (s : Sg) => V κ G (QQ κ G E none σ') E s (false, 0, 0) 200 [(0, .ref (G.1 + a0)), (1, .int v22), (3, .int v24), (2, .int w36.1)] [.int w, .int v22, .ref (G.1 + a0)]) Kw70
                · refine R_iload_n C 4 rfl dX7_laysRuns_193 ?_
                  refine R_goto C dX7_laysRuns_194 ?_
                  refine R_loc (lv2 := [(0, .ref (G.1 + a0)), (1, .int v22), (3, .int v24), (2, .int w36.1)]) [1, 2, 3, 4] rfl ?_
                  exact R_end (fun (w : Int32) (s : Sg) => V κ G (QQ κ G E none σ') E s (false, 0, 0) 200 [(0, .ref (G.1 + a0)), (1, .int v22), (3, .int v24), (2, .int w36.1)] [.int w, .int v22, .ref (G.1 + a0)]) Kw70
        · refine B_icmp_ne C dX7_laysRuns_69 ?_ ?_
          · refine R_loc (lv2 := [(0, .ref (G.1 + a0)), (1, .int v22), (3, .int v24), (2, .int v23), (4, .int r35)]) [1, 2, 4, 3, 0] rfl ?_
            exact R_end (fun (w : Int32 × Int32) (s : Sg) => V κ G (QQ κ G E none σ') E s (false, 0, 0) 93 [(0, .ref (G.1 + a0)), (1, .int v22), (3, .int v24), (2, .int w.1), (4, .int w.2)] []) Kw36
          · refine S_iinc (fun v38 => [(2, .int v38), (4, .int r35), (0, .ref (G.1 + a0)), (1, .int v22), (3, .int v24)]) 3 C dX7_laysRuns_72 rfl (by decide) (by decide) (fun _ => rfl) (fun v38 => ?_)
            refine R_aload_n C 2 rfl dX7_laysRuns_75 ?_
            refine R_getr C fl7_9 rfl ha0 rx19 dX7_laysRuns_76 ?_
            refine R_sipush C (926) dX7_laysRuns_79 (by decide) ?_
            refine R_iload_n C 0 rfl dX7_laysRuns_82 ?_
            refine R_iadd C dX7_laysRuns_83 ?_
            refine R_iload_n C 4 rfl dX7_laysRuns_84 ?_
            refine R_ck (fun h39 => ?_)
            refine S_iast C cx19 h39 dX7_laysRuns_85 (fun s40 => ?_)
            refine R_aload_n C 2 rfl dX7_laysRuns_86 ?_
            refine R_iload_n C 0 rfl dX7_laysRuns_87 ?_
            refine R_bd (fun r43 s41 q42 => ?_)
            refine R_callVi [.int v38] [] C ml7_145 (kX7_firstOf q42) (by rw [hR]; exact ⟨rfl, rfl, Nat.le_of_ble_eq_true rfl, Nat.le_of_ble_eq_true rfl, Nat.zero_le _, Nat.zero_le _⟩) ha0 rfl rfl (Nat.le_of_ble_eq_true rfl) dX7_laysRuns_88 ?_
            refine R_istore (lv2 := [(4, .int r43), (2, .int v38), (0, .ref (G.1 + a0)), (1, .int v22), (3, .int v24)]) C dX7_laysRuns_91 (by decide) rfl ?_
            refine R_loc (lv2 := [(0, .ref (G.1 + a0)), (1, .int v22), (3, .int v24), (2, .int v38), (4, .int r43)]) [2, 3, 4, 1, 0] rfl ?_
            exact R_end (fun (w : Int32 × Int32) (s : Sg) => V κ G (QQ κ G E none σ') E s (false, 0, 0) 93 [(0, .ref (G.1 + a0)), (1, .int v22), (3, .int v24), (2, .int w.1), (4, .int w.2)] []) Kw36
  · obtain ⟨v2, s3⟩ := a
    show bX7_laysRuns_7 E a0 (fun u0 t => rec (u0, t)) v2 s3 = some (b5, s6) → V κ G (QQ κ G E none σ') E s3 (false, 0, 0) 7 [(0, .ref (G.1 + a0)), (1, .int v2)] []
    unfold bX7_laysRuns_7
    refine R_iload_n C 1 rfl dX7_laysRuns_7 ?_
    refine R_aload_n C 0 rfl dX7_laysRuns_8 ?_
    refine R_bd (fun r10 s8 q9 => ?_)
    refine R_callVi [] [.int v2] C ml7_93 (kX7_many q9) (by rw [hR]; exact ⟨rfl, rfl, Nat.le_of_ble_eq_true rfl, Nat.le_of_ble_eq_true rfl, Nat.zero_le _, Nat.zero_le _⟩) ha0 rfl rfl (Nat.le_of_ble_eq_true rfl) dX7_laysRuns_9 ?_
    refine B_icmp_ge C dX7_laysRuns_12 ?_ ?_
    · exact R_end (fun (o : (Int32)) (s : Sg) => V κ G (QQ κ G E none σ') E s (false, 0, 0) 38 [(0, .ref (G.1 + a0)), (1, .int o)] []) K4
    · refine R_aload_n C 0 rfl dX7_laysRuns_15 ?_
      refine R_geti C fl7_128 rfl ha0 dX7_laysRuns_16 ?_
      refine R_aload_n C 0 rfl dX7_laysRuns_19 ?_
      refine R_bd (fun r13 s11 q12 => ?_)
      refine R_callVi [] [.int (gi s8 a0 10)] C ml7_138 (kX7_room q12) (by rw [hR]; exact ⟨rfl, rfl, Nat.le_of_ble_eq_true rfl, Nat.le_of_ble_eq_true rfl, Nat.zero_le _, Nat.zero_le _⟩) ha0 rfl rfl (Nat.le_of_ble_eq_true rfl) dX7_laysRuns_20 ?_
      refine B_icmp_ge C dX7_laysRuns_23 ?_ ?_
      · exact R_end (fun (o : (Int32)) (s : Sg) => V κ G (QQ κ G E none σ') E s (false, 0, 0) 38 [(0, .ref (G.1 + a0)), (1, .int o)] []) K4
      · refine R_aload_n C 0 rfl dX7_laysRuns_26 ?_
        refine R_iload_n C 1 rfl dX7_laysRuns_27 ?_
        refine R_iconst C (0) dX7_laysRuns_28 (by decide) ?_
        refine R_bv (fun s14 q15 => ?_)
        refine R_callVv [.int v2, .int (0 : Int32)] [] C ml7_141 (kX7_comesIn q15) (by rw [hR]; exact ⟨rfl, rfl, Nat.le_of_ble_eq_true rfl, Nat.le_of_ble_eq_true rfl, Nat.zero_le _, Nat.zero_le _⟩) ha0 rfl rfl (Nat.le_of_ble_eq_true rfl) dX7_laysRuns_29 ?_
        refine S_iinc (fun v16 => [(1, .int v16), (0, .ref (G.1 + a0))]) 1 C dX7_laysRuns_32 rfl (by decide) (by decide) (fun _ => rfl) (fun v16 => ?_)
        refine R_goto C dX7_laysRuns_35 ?_
        refine R_loc (lv2 := [(0, .ref (G.1 + a0)), (1, .int v16)]) [1, 0] rfl ?_
        exact I7 (v16, s14) b5 s6 K4
theorem dX7_grow_0 : dk cX7_grow 0 1 (.aload_n 0) 1 := by unfold dk; decide +kernel
theorem dX7_grow_1 : dk cX7_grow 1 4 (.invokevirtual 93) 3 := by unfold dk; decide +kernel
theorem dX7_grow_9 : dk cX7_grow 9 10 (.aload_n 0) 1 := by unfold dk; decide +kernel
theorem dX7_grow_10 : dk cX7_grow 10 13 (.getfield 9) 3 := by unfold dk; decide +kernel
theorem dX7_grow_13 : dk cX7_grow 13 15 (.bipush 7) 2 := by unfold dk; decide +kernel
theorem dX7_grow_15 : dk cX7_grow 15 16 (.iaload) 1 := by unfold dk; decide +kernel
theorem dX7_grow_22 : dk cX7_grow 22 23 (.aload_n 0) 1 := by unfold dk; decide +kernel
theorem dX7_grow_23 : dk cX7_grow 23 26 (.invokevirtual 100) 3 := by unfold dk; decide +kernel
theorem dX7_grow_26 : dk cX7_grow 26 27 (.aload_n 0) 1 := by unfold dk; decide +kernel
theorem dX7_grow_27 : dk cX7_grow 27 30 (.invokevirtual 148) 3 := by unfold dk; decide +kernel
theorem dX7_grow_30 : dk cX7_grow 30 31 (.aload_n 0) 1 := by unfold dk; decide +kernel
theorem dX7_grow_31 : dk cX7_grow 31 34 (.getfield 9) 3 := by unfold dk; decide +kernel
theorem dX7_grow_34 : dk cX7_grow 34 36 (.bipush 7) 2 := by unfold dk; decide +kernel
theorem dX7_grow_36 : dk cX7_grow 36 37 (.iconst 1) 1 := by unfold dk; decide +kernel
theorem dX7_grow_37 : dk cX7_grow 37 38 (.iastore) 1 := by unfold dk; decide +kernel
theorem dX7_grow_38 : dk cX7_grow 38 39 (.aload_n 0) 1 := by unfold dk; decide +kernel
theorem dX7_grow_39 : dk cX7_grow 39 42 (.getfield 9) 3 := by unfold dk; decide +kernel
theorem dX7_grow_42 : dk cX7_grow 42 44 (.bipush 14) 2 := by unfold dk; decide +kernel
theorem dX7_grow_44 : dk cX7_grow 44 45 (.iaload) 1 := by unfold dk; decide +kernel
theorem dX7_grow_45 : dk cX7_grow 45 46 (.ireturn) 1 := by unfold dk; decide +kernel
theorem dX7_grow_19 : dk cX7_grow 19 21 (.bipush (-2)) 2 := by unfold dk; decide +kernel
theorem dX7_grow_21 : dk cX7_grow 21 22 (.ireturn) 1 := by unfold dk; decide +kernel
theorem dX7_grow_16 : bk cX7_grow 16 19 22 (.ifCond .le 6) (6) := by unfold bk; decide +kernel
theorem dX7_grow_7 : dk cX7_grow 7 8 (.iconst (-1)) 1 := by unfold dk; decide +kernel
theorem dX7_grow_8 : dk cX7_grow 8 9 (.ireturn) 1 := by unfold dk; decide +kernel
theorem dX7_grow_4 : bk cX7_grow 4 7 9 (.ifCond .ne 5) (5) := by unfold bk; decide +kernel
set_option maxHeartbeats 4000000 in
set_option maxRecDepth 100000 in
theorem kX7_grow {l : Launch} {G : Gl} {E : En} {a0 : Nat} {σ σ' : Sg} {r : Int32} : fX7_grow E a0 σ = some (r, σ') → CT l yX7_grow cX7_grow 1 (some .int) ({ frames := 3, cells := 0, slots := 0, locals := 70 } : Room) [.ref (G.1 + a0)] G E σ (some (.int r)) σ' := by
  intro h
  refine CT_of (lv0 := [(0, .ref (G.1 + a0))]) (by decide) (Nat.le_of_ble_eq_true rfl) rfl (fun κ hl hR hr C => ?_)
  have C : Cx κ G cX7_grow RX7 1 := C
  revert h
  unfold fX7_grow
  refine R_tk (fun ha0 => ?_)
  refine R_aload_n C 0 rfl dX7_grow_0 ?_
  refine R_bd (fun r3 s1 q2 => ?_)
  refine R_callVi [] [] C ml7_93 (kX7_many q2) (by rw [hR]; exact ⟨rfl, rfl, Nat.le_of_ble_eq_true rfl, Nat.le_of_ble_eq_true rfl, Nat.zero_le _, Nat.zero_le _⟩) ha0 rfl rfl (Nat.le_of_ble_eq_true rfl) dX7_grow_1 ?_
  refine B_if_ne C dX7_grow_4 ?_ ?_
  · refine R_aload_n C 0 rfl dX7_grow_9 ?_
    refine R_dr (fun x4 rx4 cx4 => ?_)
    refine R_getr C fl7_9 rfl ha0 rx4 dX7_grow_10 ?_
    refine R_bipush C (7) dX7_grow_13 (by decide) ?_
    refine R_ck (fun h5 => ?_)
    refine R_iald C cx4 h5 dX7_grow_15 ?_
    refine B_if_le C dX7_grow_16 ?_ ?_
    · refine R_aload_n C 0 rfl dX7_grow_22 ?_
      refine R_bv (fun s6 q7 => ?_)
      refine R_callVv [] [] C ml7_100 (kX7_remembers q7) (by rw [hR]; exact ⟨rfl, rfl, Nat.le_of_ble_eq_true rfl, Nat.le_of_ble_eq_true rfl, Nat.zero_le _, Nat.zero_le _⟩) ha0 rfl rfl (Nat.le_of_ble_eq_true rfl) dX7_grow_23 ?_
      refine R_aload_n C 0 rfl dX7_grow_26 ?_
      refine R_bv (fun s8 q9 => ?_)
      refine R_callVv [] [] C ml7_148 (kX7_laysRuns q9) (by rw [hR]; exact ⟨rfl, rfl, Nat.le_of_ble_eq_true rfl, Nat.le_of_ble_eq_true rfl, Nat.zero_le _, Nat.zero_le _⟩) ha0 rfl rfl (Nat.le_of_ble_eq_true rfl) dX7_grow_27 ?_
      refine R_aload_n C 0 rfl dX7_grow_30 ?_
      refine R_getr C fl7_9 rfl ha0 rx4 dX7_grow_31 ?_
      refine R_bipush C (7) dX7_grow_34 (by decide) ?_
      refine R_iconst C (1) dX7_grow_36 (by decide) ?_
      refine R_ck (fun h10 => ?_)
      refine S_iast C cx4 h10 dX7_grow_37 (fun s11 => ?_)
      refine R_aload_n C 0 rfl dX7_grow_38 ?_
      refine R_getr C fl7_9 rfl ha0 rx4 dX7_grow_39 ?_
      refine R_bipush C (14) dX7_grow_42 (by decide) ?_
      refine R_ck (fun h12 => ?_)
      refine R_iald C cx4 h12 dX7_grow_44 ?_
      exact R_iret C hr dX7_grow_45
    · refine R_bipush C (-2) dX7_grow_19 (by decide) ?_
      exact R_iret C hr dX7_grow_21
  · refine R_iconst C (-1) dX7_grow_7 (by decide) ?_
    exact R_iret C hr dX7_grow_8
theorem dX7_runSize_0 : dk cX7_runSize 0 1 (.aload_n 0) 1 := by unfold dk; decide +kernel
theorem dX7_runSize_1 : dk cX7_runSize 1 4 (.getfield 9) 3 := by unfold dk; decide +kernel
theorem dX7_runSize_4 : dk cX7_runSize 4 7 (.sipush 926) 3 := by unfold dk; decide +kernel
theorem dX7_runSize_7 : dk cX7_runSize 7 8 (.iload_n 1) 1 := by unfold dk; decide +kernel
theorem dX7_runSize_8 : dk cX7_runSize 8 9 (.iadd) 1 := by unfold dk; decide +kernel
theorem dX7_runSize_9 : dk cX7_runSize 9 10 (.iconst 1) 1 := by unfold dk; decide +kernel
theorem dX7_runSize_10 : dk cX7_runSize 10 11 (.iadd) 1 := by unfold dk; decide +kernel
theorem dX7_runSize_11 : dk cX7_runSize 11 12 (.iaload) 1 := by unfold dk; decide +kernel
theorem dX7_runSize_12 : dk cX7_runSize 12 13 (.aload_n 0) 1 := by unfold dk; decide +kernel
theorem dX7_runSize_13 : dk cX7_runSize 13 16 (.getfield 9) 3 := by unfold dk; decide +kernel
theorem dX7_runSize_16 : dk cX7_runSize 16 19 (.sipush 926) 3 := by unfold dk; decide +kernel
theorem dX7_runSize_19 : dk cX7_runSize 19 20 (.iload_n 1) 1 := by unfold dk; decide +kernel
theorem dX7_runSize_20 : dk cX7_runSize 20 21 (.iadd) 1 := by unfold dk; decide +kernel
theorem dX7_runSize_21 : dk cX7_runSize 21 22 (.iaload) 1 := by unfold dk; decide +kernel
theorem dX7_runSize_22 : dk cX7_runSize 22 23 (.isub) 1 := by unfold dk; decide +kernel
theorem dX7_runSize_23 : dk cX7_runSize 23 24 (.ireturn) 1 := by unfold dk; decide +kernel
set_option maxHeartbeats 4000000 in
set_option maxRecDepth 100000 in
theorem kX7_runSize {l : Launch} {G : Gl} {E : En} {a0 : Nat} {a1 : Int32} {σ σ' : Sg} {r : Int32} : fX7_runSize E a0 a1 σ = some (r, σ') → CT l yX7_runSize cX7_runSize 2 (some .int) ({ frames := 0, cells := 0, slots := 0, locals := 0 } : Room) [.ref (G.1 + a0), .int a1] G E σ (some (.int r)) σ' := by
  intro h
  refine CT_of (lv0 := [(0, .ref (G.1 + a0)), (1, .int a1)]) (by decide) (Nat.le_of_ble_eq_true rfl) rfl (fun κ hl hR hr C => ?_)
  have C : Cx κ G cX7_runSize RX7 2 := C
  revert h
  unfold fX7_runSize
  refine R_tk (fun ha0 => ?_)
  refine R_aload_n C 0 rfl dX7_runSize_0 ?_
  refine R_dr (fun x1 rx1 cx1 => ?_)
  refine R_getr C fl7_9 rfl ha0 rx1 dX7_runSize_1 ?_
  refine R_sipush C (926) dX7_runSize_4 (by decide) ?_
  refine R_iload_n C 1 rfl dX7_runSize_7 ?_
  refine R_iadd C dX7_runSize_8 ?_
  refine R_iconst C (1) dX7_runSize_9 (by decide) ?_
  refine R_iadd C dX7_runSize_10 ?_
  refine R_ck (fun h2 => ?_)
  refine R_iald C cx1 h2 dX7_runSize_11 ?_
  refine R_aload_n C 0 rfl dX7_runSize_12 ?_
  refine R_getr C fl7_9 rfl ha0 rx1 dX7_runSize_13 ?_
  refine R_sipush C (926) dX7_runSize_16 (by decide) ?_
  refine R_iload_n C 1 rfl dX7_runSize_19 ?_
  refine R_iadd C dX7_runSize_20 ?_
  refine R_ck (fun h3 => ?_)
  refine R_iald C cx1 h3 dX7_runSize_21 ?_
  refine R_isub C dX7_runSize_22 ?_
  exact R_iret C hr dX7_runSize_23
