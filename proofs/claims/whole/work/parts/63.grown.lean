theorem dX0_copyFrom_0 : dk cX0_copyFrom 0 1 (.aload_n 0) 1 := by unfold dk; decide +kernel
theorem dX0_copyFrom_1 : dk cX0_copyFrom 1 2 (.aload_n 1) 1 := by unfold dk; decide +kernel
theorem dX0_copyFrom_2 : dk cX0_copyFrom 2 5 (.getfield 21) 3 := by unfold dk; decide +kernel
theorem dX0_copyFrom_5 : dk cX0_copyFrom 5 8 (.putfield 21) 3 := by unfold dk; decide +kernel
theorem dX0_copyFrom_8 : dk cX0_copyFrom 8 9 (.aload_n 0) 1 := by unfold dk; decide +kernel
theorem dX0_copyFrom_9 : dk cX0_copyFrom 9 10 (.aload_n 1) 1 := by unfold dk; decide +kernel
theorem dX0_copyFrom_10 : dk cX0_copyFrom 10 13 (.getfield 25) 3 := by unfold dk; decide +kernel
theorem dX0_copyFrom_13 : dk cX0_copyFrom 13 16 (.putfield 25) 3 := by unfold dk; decide +kernel
theorem dX0_copyFrom_16 : dk cX0_copyFrom 16 17 (.aload_n 1) 1 := by unfold dk; decide +kernel
theorem dX0_copyFrom_17 : dk cX0_copyFrom 17 20 (.getfield 9) 3 := by unfold dk; decide +kernel
theorem dX0_copyFrom_20 : dk cX0_copyFrom 20 21 (.iconst 0) 1 := by unfold dk; decide +kernel
theorem dX0_copyFrom_21 : dk cX0_copyFrom 21 22 (.aload_n 0) 1 := by unfold dk; decide +kernel
theorem dX0_copyFrom_22 : dk cX0_copyFrom 22 25 (.getfield 9) 3 := by unfold dk; decide +kernel
theorem dX0_copyFrom_25 : dk cX0_copyFrom 25 26 (.iconst 0) 1 := by unfold dk; decide +kernel
theorem dX0_copyFrom_26 : dk cX0_copyFrom 26 27 (.iload_n 2) 1 := by unfold dk; decide +kernel
theorem dX0_copyFrom_27 : dk cX0_copyFrom 27 30 (.invokestatic 29) 3 := by unfold dk; decide +kernel
theorem dX0_copyFrom_30 : dk cX0_copyFrom 30 31 (.aload_n 1) 1 := by unfold dk; decide +kernel
theorem dX0_copyFrom_31 : dk cX0_copyFrom 31 34 (.getfield 15) 3 := by unfold dk; decide +kernel
theorem dX0_copyFrom_34 : dk cX0_copyFrom 34 35 (.iconst 0) 1 := by unfold dk; decide +kernel
theorem dX0_copyFrom_35 : dk cX0_copyFrom 35 36 (.aload_n 0) 1 := by unfold dk; decide +kernel
theorem dX0_copyFrom_36 : dk cX0_copyFrom 36 39 (.getfield 15) 3 := by unfold dk; decide +kernel
theorem dX0_copyFrom_39 : dk cX0_copyFrom 39 40 (.iconst 0) 1 := by unfold dk; decide +kernel
theorem dX0_copyFrom_40 : dk cX0_copyFrom 40 41 (.aload_n 0) 1 := by unfold dk; decide +kernel
theorem dX0_copyFrom_41 : dk cX0_copyFrom 41 44 (.getfield 21) 3 := by unfold dk; decide +kernel
theorem dX0_copyFrom_44 : dk cX0_copyFrom 44 47 (.invokestatic 29) 3 := by unfold dk; decide +kernel
theorem dX0_copyFrom_47 : dk cX0_copyFrom 47 48 (.return_) 1 := by unfold dk; decide +kernel
set_option maxHeartbeats 4000000 in
set_option maxRecDepth 100000 in
theorem kX0_copyFrom {l : Launch} {G : Gl} {E : En} {a0 : Nat} {a1 : Nat} {a2 : Int32} {σ σ' : Sg} : fX0_copyFrom E a0 a1 a2 σ = some σ' → CT l yX0_copyFrom cX0_copyFrom 3 none ({ frames := 1, cells := 0, slots := 0, locals := 60 } : Room) [.ref (G.1 + a0), .ref (G.1 + a1), .int a2] G E σ none σ' := by
  intro h
  refine CT_of (lv0 := [(0, .ref (G.1 + a0)), (1, .ref (G.1 + a1)), (2, .int a2)]) (by decide) (Nat.le_of_ble_eq_true rfl) rfl (fun κ hl hR hr C => ?_)
  have C : Cx κ G cX0_copyFrom RX0 3 := C
  revert h
  unfold fX0_copyFrom
  refine R_tk (fun ha0 => ?_)
  refine R_tk (fun ha1 => ?_)
  refine R_aload_n C 0 rfl dX0_copyFrom_0 ?_
  refine R_aload_n C 1 rfl dX0_copyFrom_1 ?_
  refine R_geti C fl0_21 rfl ha1 dX0_copyFrom_2 ?_
  refine S_puti C fl0_21 rfl ha0 rfl rfl dX0_copyFrom_5 (fun s1 => ?_)
  refine R_aload_n C 0 rfl dX0_copyFrom_8 ?_
  refine R_aload_n C 1 rfl dX0_copyFrom_9 ?_
  refine R_geti C fl0_25 rfl ha1 dX0_copyFrom_10 ?_
  refine R_kb (fun h2 => ?_)
  refine S_puti C fl0_25 rfl ha0 (nb h2) (fb h2) dX0_copyFrom_13 (fun s3 => ?_)
  refine R_aload_n C 1 rfl dX0_copyFrom_16 ?_
  refine R_dr (fun x4 rx4 cx4 => ?_)
  refine R_getr C fl0_9 rfl ha1 rx4 dX0_copyFrom_17 ?_
  refine R_iconst C (0) dX0_copyFrom_20 (by decide) ?_
  refine R_aload_n C 0 rfl dX0_copyFrom_21 ?_
  refine R_dr (fun x5 rx5 cx5 => ?_)
  refine R_getr C fl0_9 rfl ha0 rx5 dX0_copyFrom_22 ?_
  refine R_iconst C (0) dX0_copyFrom_25 (by decide) ?_
  refine R_iload_n C 2 rfl dX0_copyFrom_26 ?_
  refine S_acopy C jd0_29 cx4 cx5 (by rw [hR]; exact ⟨Nat.le_of_ble_eq_true rfl, Nat.le_of_ble_eq_true rfl⟩) dX0_copyFrom_27 (fun s6 => ?_)
  refine R_aload_n C 1 rfl dX0_copyFrom_30 ?_
  refine R_dr (fun x7 rx7 cx7 => ?_)
  refine R_getr C fl0_15 rfl ha1 rx7 dX0_copyFrom_31 ?_
  refine R_iconst C (0) dX0_copyFrom_34 (by decide) ?_
  refine R_aload_n C 0 rfl dX0_copyFrom_35 ?_
  refine R_dr (fun x8 rx8 cx8 => ?_)
  refine R_getr C fl0_15 rfl ha0 rx8 dX0_copyFrom_36 ?_
  refine R_iconst C (0) dX0_copyFrom_39 (by decide) ?_
  refine R_aload_n C 0 rfl dX0_copyFrom_40 ?_
  refine R_geti C fl0_21 rfl ha0 dX0_copyFrom_41 ?_
  refine S_acopy C jd0_29 cx7 cx8 (by rw [hR]; exact ⟨Nat.le_of_ble_eq_true rfl, Nat.le_of_ble_eq_true rfl⟩) dX0_copyFrom_44 (fun s9 => ?_)
  exact R_vret C hr dX0_copyFrom_47
theorem dX0_falls_0 : dk cX0_falls 0 1 (.aload_n 0) 1 := by unfold dk; decide +kernel
theorem dX0_falls_1 : dk cX0_falls 1 4 (.getfield 25) 3 := by unfold dk; decide +kernel
theorem dX0_falls_4 : bk cX0_falls 4 7 18 (.ifCond .eq 14) (14) := by unfold bk; decide +kernel
theorem dX0_falls_18 : dk cX0_falls 18 19 (.iconst 0) 1 := by unfold dk; decide +kernel
theorem dX0_falls_7 : dk cX0_falls 7 8 (.iload_n 1) 1 := by unfold dk; decide +kernel
theorem dX0_falls_8 : dk cX0_falls 8 9 (.iconst 2) 1 := by unfold dk; decide +kernel
theorem dX0_falls_9 : dk cX0_falls 9 10 (.irem) 1 := by unfold dk; decide +kernel
theorem dX0_falls_10 : dk cX0_falls 10 11 (.iconst 1) 1 := by unfold dk; decide +kernel
theorem dX0_falls_14 : dk cX0_falls 14 15 (.iconst 1) 1 := by unfold dk; decide +kernel
theorem dX0_falls_15 : bk cX0_falls 15 18 19 (.goto 4) (4) := by unfold bk; decide +kernel
theorem dX0_falls_11 : bk cX0_falls 11 14 18 (.if_icmp .ne 7) (7) := by unfold bk; decide +kernel
theorem dX0_falls_19 : dk cX0_falls 19 20 (.ireturn) 1 := by unfold dk; decide +kernel
set_option maxHeartbeats 4000000 in
set_option maxRecDepth 100000 in
theorem kX0_falls {l : Launch} {G : Gl} {E : En} {a0 : Nat} {a1 : Int32} {σ σ' : Sg} {r : Int32} : fX0_falls E a0 a1 σ = some (r, σ') → CT l yX0_falls cX0_falls 2 (some .boolean) ({ frames := 0, cells := 0, slots := 0, locals := 0 } : Room) [.ref (G.1 + a0), .int a1] G E σ (some (.int r)) σ' := by
  intro h
  refine CT_of (lv0 := [(0, .ref (G.1 + a0)), (1, .int a1)]) (by decide) (Nat.le_of_ble_eq_true rfl) rfl (fun κ hl hR hr C => ?_)
  have C : Cx κ G cX0_falls RX0 2 := C
  revert h
  unfold fX0_falls
  refine R_tk (fun ha0 => ?_)
  refine R_aload_n C 0 rfl dX0_falls_0 ?_
  refine R_geti C fl0_25 rfl ha0 dX0_falls_1 ?_
  refine R_bdK (fun (w : Int32) (s : Sg) => V κ G (QQ κ G E (some (.int r)) σ') E s (false, 0, 0) 19 [] [.int w]) (fun w1 s2 => ?_) (fun w1 s2 Kw1 => ?_)
  · refine R_kb (fun h3 => ?_)
    exact R_zret C hr h3 dX0_falls_19
  · refine B_if_eq C dX0_falls_4 ?_ ?_
    · refine R_iconst C (0) dX0_falls_18 (by decide) ?_
      refine R_loc (lv2 := []) [] rfl ?_
      exact R_end (fun (w : Int32) (s : Sg) => V κ G (QQ κ G E (some (.int r)) σ') E s (false, 0, 0) 19 [] [.int w]) Kw1
    · refine R_iload_n C 1 rfl dX0_falls_7 ?_
      refine R_iconst C (2) dX0_falls_8 (by decide) ?_
      refine R_irem C dX0_falls_9 (by decide) ?_
      refine R_iconst C (1) dX0_falls_10 (by decide) ?_
      refine B_icmp_ne C dX0_falls_11 ?_ ?_
      · refine R_iconst C (0) dX0_falls_18 (by decide) ?_
        refine R_loc (lv2 := []) [] rfl ?_
        exact R_end (fun (w : Int32) (s : Sg) => V κ G (QQ κ G E (some (.int r)) σ') E s (false, 0, 0) 19 [] [.int w]) Kw1
      · refine R_iconst C (1) dX0_falls_14 (by decide) ?_
        refine R_goto C dX0_falls_15 ?_
        refine R_loc (lv2 := []) [] rfl ?_
        exact R_end (fun (w : Int32) (s : Sg) => V κ G (QQ κ G E (some (.int r)) σ') E s (false, 0, 0) 19 [] [.int w]) Kw1
theorem dX0_nextOut_0 : dk cX0_nextOut 0 1 (.iconst (-1)) 1 := by unfold dk; decide +kernel
theorem dX0_nextOut_1 : dk cX0_nextOut 1 2 (.istore_n 3) 1 := by unfold dk; decide +kernel
theorem dX0_nextOut_2 : dk cX0_nextOut 2 3 (.iconst 0) 1 := by unfold dk; decide +kernel
theorem dX0_nextOut_3 : dk cX0_nextOut 3 5 (.istore 4) 2 := by unfold dk; decide +kernel
theorem dX0_nextOut_5 : dk cX0_nextOut 5 7 (.iload 4) 2 := by unfold dk; decide +kernel
theorem dX0_nextOut_7 : dk cX0_nextOut 7 8 (.aload_n 0) 1 := by unfold dk; decide +kernel
theorem dX0_nextOut_8 : dk cX0_nextOut 8 11 (.getfield 44) 3 := by unfold dk; decide +kernel
theorem dX0_nextOut_14 : dk cX0_nextOut 14 15 (.aload_n 0) 1 := by unfold dk; decide +kernel
theorem dX0_nextOut_15 : dk cX0_nextOut 15 18 (.getfield 9) 3 := by unfold dk; decide +kernel
theorem dX0_nextOut_18 : dk cX0_nextOut 18 19 (.aload_n 0) 1 := by unfold dk; decide +kernel
theorem dX0_nextOut_19 : dk cX0_nextOut 19 22 (.getfield 18) 3 := by unfold dk; decide +kernel
theorem dX0_nextOut_22 : dk cX0_nextOut 22 24 (.iload 4) 2 := by unfold dk; decide +kernel
theorem dX0_nextOut_24 : dk cX0_nextOut 24 25 (.iaload) 1 := by unfold dk; decide +kernel
theorem dX0_nextOut_25 : dk cX0_nextOut 25 26 (.iaload) 1 := by unfold dk; decide +kernel
theorem dX0_nextOut_26 : dk cX0_nextOut 26 27 (.iload_n 2) 1 := by unfold dk; decide +kernel
theorem dX0_nextOut_27 : bk cX0_nextOut 27 30 33 (.if_icmp .eq 6) (6) := by unfold bk; decide +kernel
theorem dX0_nextOut_33 : dk cX0_nextOut 33 34 (.iload_n 3) 1 := by unfold dk; decide +kernel
theorem dX0_nextOut_34 : dk cX0_nextOut 34 35 (.iconst (-1)) 1 := by unfold dk; decide +kernel
theorem dX0_nextOut_63 : dk cX0_nextOut 63 65 (.iload 4) 2 := by unfold dk; decide +kernel
theorem dX0_nextOut_65 : dk cX0_nextOut 65 66 (.istore_n 3) 1 := by unfold dk; decide +kernel
theorem dX0_nextOut_38 : dk cX0_nextOut 38 39 (.aload_n 1) 1 := by unfold dk; decide +kernel
theorem dX0_nextOut_39 : dk cX0_nextOut 39 40 (.aload_n 0) 1 := by unfold dk; decide +kernel
theorem dX0_nextOut_40 : dk cX0_nextOut 40 43 (.getfield 18) 3 := by unfold dk; decide +kernel
theorem dX0_nextOut_43 : dk cX0_nextOut 43 45 (.iload 4) 2 := by unfold dk; decide +kernel
theorem dX0_nextOut_45 : dk cX0_nextOut 45 46 (.iaload) 1 := by unfold dk; decide +kernel
theorem dX0_nextOut_46 : dk cX0_nextOut 46 47 (.aload_n 0) 1 := by unfold dk; decide +kernel
theorem dX0_nextOut_47 : dk cX0_nextOut 47 50 (.getfield 18) 3 := by unfold dk; decide +kernel
theorem dX0_nextOut_50 : dk cX0_nextOut 50 51 (.iload_n 3) 1 := by unfold dk; decide +kernel
theorem dX0_nextOut_51 : dk cX0_nextOut 51 52 (.iaload) 1 := by unfold dk; decide +kernel
theorem dX0_nextOut_52 : dk cX0_nextOut 52 55 (.invokevirtual 55) 3 := by unfold dk; decide +kernel
theorem dX0_nextOut_55 : dk cX0_nextOut 55 56 (.aload_n 0) 1 := by unfold dk; decide +kernel
theorem dX0_nextOut_56 : dk cX0_nextOut 56 57 (.iload_n 2) 1 := by unfold dk; decide +kernel
theorem dX0_nextOut_57 : dk cX0_nextOut 57 60 (.invokevirtual 59) 3 := by unfold dk; decide +kernel
theorem dX0_nextOut_60 : bk cX0_nextOut 60 63 66 (.if_icmp .eq 6) (6) := by unfold bk; decide +kernel
theorem dX0_nextOut_35 : bk cX0_nextOut 35 38 63 (.if_icmp .eq 28) (28) := by unfold bk; decide +kernel
theorem dX0_nextOut_30 : bk cX0_nextOut 30 33 66 (.goto 36) (36) := by unfold bk; decide +kernel
theorem dX0_nextOut_66 : dk cX0_nextOut 66 69 (.iinc 4 1) 3 := by unfold dk; decide +kernel
theorem dX0_nextOut_69 : bk cX0_nextOut 69 72 5 (.goto (-64)) (-64) := by unfold bk; decide +kernel
theorem dX0_nextOut_11 : bk cX0_nextOut 11 14 72 (.if_icmp .ge 61) (61) := by unfold bk; decide +kernel
theorem dX0_nextOut_72 : dk cX0_nextOut 72 73 (.iload_n 3) 1 := by unfold dk; decide +kernel
theorem dX0_nextOut_73 : dk cX0_nextOut 73 74 (.ireturn) 1 := by unfold dk; decide +kernel
set_option maxHeartbeats 4000000 in
set_option maxRecDepth 100000 in
theorem kX0_nextOut {l : Launch} {G : Gl} {E : En} {a0 : Nat} {a1 : Nat} {a2 : Int32} {σ σ' : Sg} {r : Int32} : fX0_nextOut E a0 a1 a2 σ = some (r, σ') → CT l yX0_nextOut cX0_nextOut 5 (some .int) ({ frames := 1, cells := 0, slots := 0, locals := 22 } : Room) [.ref (G.1 + a0), .ref (G.1 + a1), .int a2] G E σ (some (.int r)) σ' := by
  intro h
  refine CT_of (lv0 := [(0, .ref (G.1 + a0)), (1, .ref (G.1 + a1)), (2, .int a2)]) (by decide) (Nat.le_of_ble_eq_true rfl) rfl (fun κ hl hR hr C => ?_)
  have C : Cx κ G cX0_nextOut RX0 5 := C
  revert h
  unfold fX0_nextOut
  refine R_tk (fun ha0 => ?_)
  refine R_tk (fun ha1 => ?_)
  refine R_iconst C (-1) dX0_nextOut_0 (by decide) ?_
  refine R_istore_n (lv2 := [(3, .int (-1 : Int32)), (0, .ref (G.1 + a0)), (1, .ref (G.1 + a1)), (2, .int a2)]) C dX0_nextOut_1 rfl (by decide) rfl ?_
  refine R_iconst C (0) dX0_nextOut_2 (by decide) ?_
  refine R_istore (lv2 := [(4, .int (0 : Int32)), (3, .int (-1 : Int32)), (0, .ref (G.1 + a0)), (1, .ref (G.1 + a1)), (2, .int a2)]) C dX0_nextOut_3 (by decide) rfl ?_
  refine R_loc (lv2 := [(0, .ref (G.1 + a0)), (1, .ref (G.1 + a1)), (2, .int a2), (3, .int (-1 : Int32)), (4, .int (0 : Int32))]) [2, 3, 4, 1, 0] rfl ?_
  refine R_loop (fun (a : (Int32 × Int32) × Sg) => V κ G (QQ κ G E (some (.int r)) σ') E a.2 (false, 0, 0) 5 [(0, .ref (G.1 + a0)), (1, .ref (G.1 + a1)), (2, .int a2), (3, .int a.1.1), (4, .int a.1.2)] []) (fun (o : (Int32 × Int32)) (s : Sg) => V κ G (QQ κ G E (some (.int r)) σ') E s (false, 0, 0) 72 [(3, .int o.1)] []) (((-1 : Int32), (0 : Int32)), σ) (fun o23 s24 => ?_) (fun rec I7 a b5 s6 K4 => ?_)
  · refine R_iload_n C 0 rfl dX0_nextOut_72 ?_
    exact R_iret C hr dX0_nextOut_73
  · obtain ⟨⟨v1, v2⟩, s3⟩ := a
    show bX0_nextOut_5 E a0 a2 a1 (fun u0 u1 t => rec ((u0, u1), t)) v1 v2 s3 = some (b5, s6) → V κ G (QQ κ G E (some (.int r)) σ') E s3 (false, 0, 0) 5 [(0, .ref (G.1 + a0)), (1, .ref (G.1 + a1)), (2, .int a2), (3, .int v1), (4, .int v2)] []
    unfold bX0_nextOut_5
    refine R_iload C 4 rfl dX0_nextOut_5 ?_
    refine R_aload_n C 0 rfl dX0_nextOut_7 ?_
    refine R_geti C fl0_44 rfl ha0 dX0_nextOut_8 ?_
    refine B_icmp_ge C dX0_nextOut_11 ?_ ?_
    · refine R_loc (lv2 := [(3, .int v1)]) [3] rfl ?_
      exact R_end (fun (o : (Int32 × Int32)) (s : Sg) => V κ G (QQ κ G E (some (.int r)) σ') E s (false, 0, 0) 72 [(3, .int o.1)] []) K4
    · refine R_aload_n C 0 rfl dX0_nextOut_14 ?_
      refine R_dr (fun x8 rx8 cx8 => ?_)
      refine R_getr C fl0_9 rfl ha0 rx8 dX0_nextOut_15 ?_
      refine R_aload_n C 0 rfl dX0_nextOut_18 ?_
      refine R_dr (fun x9 rx9 cx9 => ?_)
      refine R_getr C fl0_18 rfl ha0 rx9 dX0_nextOut_19 ?_
      refine R_iload C 4 rfl dX0_nextOut_22 ?_
      refine R_ck (fun h10 => ?_)
      refine R_iald C cx9 h10 dX0_nextOut_24 ?_
      refine R_ck (fun h11 => ?_)
      refine R_iald C cx8 h11 dX0_nextOut_25 ?_
      refine R_iload_n C 2 rfl dX0_nextOut_26 ?_
      refine R_bdK (fun (w : Int32) (s : Sg) => V κ G (QQ κ G E (some (.int r)) σ') E s (false, 0, 0) 66 [(0, .ref (G.1 + a0)), (1, .ref (G.1 + a1)), (2, .int a2), (4, .int v2), (3, .int w)] []) (fun w12 s13 => ?_) (fun w12 s13 Kw12 => ?_)
      · refine S_iinc (fun v22 => [(4, .int v22), (0, .ref (G.1 + a0)), (1, .ref (G.1 + a1)), (2, .int a2), (3, .int w12)]) 3 C dX0_nextOut_66 rfl (by decide) (by decide) (fun _ => rfl) (fun v22 => ?_)
        refine R_goto C dX0_nextOut_69 ?_
        refine R_loc (lv2 := [(0, .ref (G.1 + a0)), (1, .ref (G.1 + a1)), (2, .int a2), (3, .int w12), (4, .int v22)]) [1, 2, 3, 4, 0] rfl ?_
        exact I7 ((w12, v22), s13) b5 s6 K4
      · refine B_icmp_eq C dX0_nextOut_27 ?_ ?_
        · refine R_iload_n C 3 rfl dX0_nextOut_33 ?_
          refine R_iconst C (-1) dX0_nextOut_34 (by decide) ?_
          refine B_icmp_eq C dX0_nextOut_35 ?_ ?_
          · refine R_iload C 4 rfl dX0_nextOut_63 ?_
            refine R_istore_n (lv2 := [(3, .int v2), (0, .ref (G.1 + a0)), (1, .ref (G.1 + a1)), (2, .int a2), (4, .int v2)]) C dX0_nextOut_65 rfl (by decide) rfl ?_
            refine R_loc (lv2 := [(0, .ref (G.1 + a0)), (1, .ref (G.1 + a1)), (2, .int a2), (4, .int v2), (3, .int v2)]) [1, 2, 3, 4, 0] rfl ?_
            exact R_end (fun (w : Int32) (s : Sg) => V κ G (QQ κ G E (some (.int r)) σ') E s (false, 0, 0) 66 [(0, .ref (G.1 + a0)), (1, .ref (G.1 + a1)), (2, .int a2), (4, .int v2), (3, .int w)] []) Kw12
          · refine R_aload_n C 1 rfl dX0_nextOut_38 ?_
            refine R_aload_n C 0 rfl dX0_nextOut_39 ?_
            refine R_getr C fl0_18 rfl ha0 rx9 dX0_nextOut_40 ?_
            refine R_iload C 4 rfl dX0_nextOut_43 ?_
            refine R_ck (fun h14 => ?_)
            refine R_iald C cx9 h14 dX0_nextOut_45 ?_
            refine R_aload_n C 0 rfl dX0_nextOut_46 ?_
            refine R_getr C fl0_18 rfl ha0 rx9 dX0_nextOut_47 ?_
            refine R_iload_n C 3 rfl dX0_nextOut_50 ?_
            refine R_ck (fun h15 => ?_)
            refine R_iald C cx9 h15 dX0_nextOut_51 ?_
            refine R_bd (fun r18 s16 q17 => ?_)
            refine R_callVi [.int (gi s3 x9 v2.toNatClampNeg), .int (gi s3 x9 v1.toNatClampNeg)] [] C ml0_55 (kX3_isLess q17) (by rw [hR]; exact ⟨rfl, rfl, Nat.le_of_ble_eq_true rfl, Nat.le_of_ble_eq_true rfl, Nat.zero_le _, Nat.zero_le _⟩) ha1 rfl rfl (Nat.le_of_ble_eq_true rfl) dX0_nextOut_52 ?_
            refine R_aload_n C 0 rfl dX0_nextOut_55 ?_
            refine R_iload_n C 2 rfl dX0_nextOut_56 ?_
            refine R_bd (fun r21 s19 q20 => ?_)
            refine R_callVi [.int a2] [.int r18] C ml0_59 (kX0_falls q20) (by rw [hR]; exact ⟨rfl, rfl, Nat.le_of_ble_eq_true rfl, Nat.le_of_ble_eq_true rfl, Nat.zero_le _, Nat.zero_le _⟩) ha0 rfl rfl (Nat.le_of_ble_eq_true rfl) dX0_nextOut_57 ?_
            refine B_icmp_eq C dX0_nextOut_60 ?_ ?_
            · refine R_loc (lv2 := [(0, .ref (G.1 + a0)), (1, .ref (G.1 + a1)), (2, .int a2), (4, .int v2), (3, .int v1)]) [0, 1, 2, 4, 3] rfl ?_
              exact R_end (fun (w : Int32) (s : Sg) => V κ G (QQ κ G E (some (.int r)) σ') E s (false, 0, 0) 66 [(0, .ref (G.1 + a0)), (1, .ref (G.1 + a1)), (2, .int a2), (4, .int v2), (3, .int w)] []) Kw12
            · refine R_iload C 4 rfl dX0_nextOut_63 ?_
              refine R_istore_n (lv2 := [(3, .int v2), (0, .ref (G.1 + a0)), (1, .ref (G.1 + a1)), (2, .int a2), (4, .int v2)]) C dX0_nextOut_65 rfl (by decide) rfl ?_
              refine R_loc (lv2 := [(0, .ref (G.1 + a0)), (1, .ref (G.1 + a1)), (2, .int a2), (4, .int v2), (3, .int v2)]) [1, 2, 3, 4, 0] rfl ?_
              exact R_end (fun (w : Int32) (s : Sg) => V κ G (QQ κ G E (some (.int r)) σ') E s (false, 0, 0) 66 [(0, .ref (G.1 + a0)), (1, .ref (G.1 + a1)), (2, .int a2), (4, .int v2), (3, .int w)] []) Kw12
        · refine R_goto C dX0_nextOut_30 ?_
          refine R_loc (lv2 := [(0, .ref (G.1 + a0)), (1, .ref (G.1 + a1)), (2, .int a2), (4, .int v2), (3, .int v1)]) [0, 1, 2, 4, 3] rfl ?_
          exact R_end (fun (w : Int32) (s : Sg) => V κ G (QQ κ G E (some (.int r)) σ') E s (false, 0, 0) 66 [(0, .ref (G.1 + a0)), (1, .ref (G.1 + a1)), (2, .int a2), (4, .int v2), (3, .int w)] []) Kw12
theorem dX0_goesOn_0 : dk cX0_goesOn 0 1 (.aload_n 1) 1 := by unfold dk; decide +kernel
theorem dX0_goesOn_1 : dk cX0_goesOn 1 2 (.iload_n 2) 1 := by unfold dk; decide +kernel
theorem dX0_goesOn_2 : dk cX0_goesOn 2 3 (.iload_n 3) 1 := by unfold dk; decide +kernel
theorem dX0_goesOn_3 : dk cX0_goesOn 3 6 (.invokevirtual 55) 3 := by unfold dk; decide +kernel
theorem dX0_goesOn_6 : dk cX0_goesOn 6 7 (.aload_n 0) 1 := by unfold dk; decide +kernel
theorem dX0_goesOn_7 : dk cX0_goesOn 7 8 (.aload_n 0) 1 := by unfold dk; decide +kernel
theorem dX0_goesOn_8 : dk cX0_goesOn 8 11 (.getfield 21) 3 := by unfold dk; decide +kernel
theorem dX0_goesOn_11 : dk cX0_goesOn 11 12 (.iconst 1) 1 := by unfold dk; decide +kernel
theorem dX0_goesOn_12 : dk cX0_goesOn 12 13 (.isub) 1 := by unfold dk; decide +kernel
theorem dX0_goesOn_13 : dk cX0_goesOn 13 16 (.invokevirtual 59) 3 := by unfold dk; decide +kernel
theorem dX0_goesOn_16 : bk cX0_goesOn 16 19 23 (.if_icmp .ne 7) (7) := by unfold bk; decide +kernel
theorem dX0_goesOn_23 : dk cX0_goesOn 23 24 (.iconst 0) 1 := by unfold dk; decide +kernel
theorem dX0_goesOn_19 : dk cX0_goesOn 19 20 (.iconst 1) 1 := by unfold dk; decide +kernel
theorem dX0_goesOn_20 : bk cX0_goesOn 20 23 24 (.goto 4) (4) := by unfold bk; decide +kernel
theorem dX0_goesOn_24 : dk cX0_goesOn 24 25 (.ireturn) 1 := by unfold dk; decide +kernel
set_option maxHeartbeats 4000000 in
set_option maxRecDepth 100000 in
theorem kX0_goesOn {l : Launch} {G : Gl} {E : En} {a0 : Nat} {a1 : Nat} {a2 : Int32} {a3 : Int32} {σ σ' : Sg} {r : Int32} : fX0_goesOn E a0 a1 a2 a3 σ = some (r, σ') → CT l yX0_goesOn cX0_goesOn 4 (some .boolean) ({ frames := 1, cells := 0, slots := 0, locals := 22 } : Room) [.ref (G.1 + a0), .ref (G.1 + a1), .int a2, .int a3] G E σ (some (.int r)) σ' := by
  intro h
  refine CT_of (lv0 := [(0, .ref (G.1 + a0)), (1, .ref (G.1 + a1)), (2, .int a2), (3, .int a3)]) (by decide) (Nat.le_of_ble_eq_true rfl) rfl (fun κ hl hR hr C => ?_)
  have C : Cx κ G cX0_goesOn RX0 4 := C
  revert h
  unfold fX0_goesOn
  refine R_tk (fun ha0 => ?_)
  refine R_tk (fun ha1 => ?_)
  refine R_aload_n C 1 rfl dX0_goesOn_0 ?_
  refine R_iload_n C 2 rfl dX0_goesOn_1 ?_
  refine R_iload_n C 3 rfl dX0_goesOn_2 ?_
  refine R_bd (fun r3 s1 q2 => ?_)
  refine R_callVi [.int a2, .int a3] [] C ml0_55 (kX3_isLess q2) (by rw [hR]; exact ⟨rfl, rfl, Nat.le_of_ble_eq_true rfl, Nat.le_of_ble_eq_true rfl, Nat.zero_le _, Nat.zero_le _⟩) ha1 rfl rfl (Nat.le_of_ble_eq_true rfl) dX0_goesOn_3 ?_
  refine R_aload_n C 0 rfl dX0_goesOn_6 ?_
  refine R_aload_n C 0 rfl dX0_goesOn_7 ?_
  refine R_geti C fl0_21 rfl ha0 dX0_goesOn_8 ?_
  refine R_iconst C (1) dX0_goesOn_11 (by decide) ?_
  refine R_isub C dX0_goesOn_12 ?_
  refine R_bd (fun r6 s4 q5 => ?_)
  refine R_callVi [.int ((gi s1 a0 2) - (1 : Int32))] [.int r3] C ml0_59 (kX0_falls q5) (by rw [hR]; exact ⟨rfl, rfl, Nat.le_of_ble_eq_true rfl, Nat.le_of_ble_eq_true rfl, Nat.zero_le _, Nat.zero_le _⟩) ha0 rfl rfl (Nat.le_of_ble_eq_true rfl) dX0_goesOn_13 ?_
  refine R_bdK (fun (w : Int32) (s : Sg) => V κ G (QQ κ G E (some (.int r)) σ') E s (false, 0, 0) 24 [] [.int w]) (fun w7 s8 => ?_) (fun w7 s8 Kw7 => ?_)
  · refine R_kb (fun h9 => ?_)
    exact R_zret C hr h9 dX0_goesOn_24
  · refine B_icmp_ne C dX0_goesOn_16 ?_ ?_
    · refine R_iconst C (0) dX0_goesOn_23 (by decide) ?_
      refine R_loc (lv2 := []) [] rfl ?_
      exact R_end (fun (w : Int32) (s : Sg) => V κ G (QQ κ G E (some (.int r)) σ') E s (false, 0, 0) 24 [] [.int w]) Kw7
    · refine R_iconst C (1) dX0_goesOn_19 (by decide) ?_
      refine R_goto C dX0_goesOn_20 ?_
      refine R_loc (lv2 := []) [] rfl ?_
      exact R_end (fun (w : Int32) (s : Sg) => V κ G (QQ κ G E (some (.int r)) σ') E s (false, 0, 0) 24 [] [.int w]) Kw7
theorem dX0_growFrom_0 : dk cX0_growFrom 0 1 (.aload_n 0) 1 := by unfold dk; decide +kernel
theorem dX0_growFrom_1 : dk cX0_growFrom 1 2 (.iload_n 3) 1 := by unfold dk; decide +kernel
theorem dX0_growFrom_2 : dk cX0_growFrom 2 5 (.putfield 25) 3 := by unfold dk; decide +kernel
theorem dX0_growFrom_5 : dk cX0_growFrom 5 6 (.iload_n 2) 1 := by unfold dk; decide +kernel
theorem dX0_growFrom_6 : dk cX0_growFrom 6 8 (.bipush 16) 2 := by unfold dk; decide +kernel
theorem dX0_growFrom_8 : dk cX0_growFrom 8 11 (.invokestatic 35) 3 := by unfold dk; decide +kernel
theorem dX0_growFrom_11 : dk cX0_growFrom 11 12 (.aload_n 1) 1 := by unfold dk; decide +kernel
theorem dX0_growFrom_12 : dk cX0_growFrom 12 15 (.getfield 41) 3 := by unfold dk; decide +kernel
theorem dX0_growFrom_15 : dk cX0_growFrom 15 18 (.invokestatic 35) 3 := by unfold dk; decide +kernel
theorem dX0_growFrom_18 : dk cX0_growFrom 18 20 (.istore 4) 2 := by unfold dk; decide +kernel
theorem dX0_growFrom_20 : dk cX0_growFrom 20 21 (.aload_n 0) 1 := by unfold dk; decide +kernel
theorem dX0_growFrom_21 : dk cX0_growFrom 21 22 (.iconst 0) 1 := by unfold dk; decide +kernel
theorem dX0_growFrom_22 : dk cX0_growFrom 22 25 (.putfield 44) 3 := by unfold dk; decide +kernel
theorem dX0_growFrom_25 : dk cX0_growFrom 25 26 (.aload_n 0) 1 := by unfold dk; decide +kernel
theorem dX0_growFrom_26 : dk cX0_growFrom 26 29 (.getfield 44) 3 := by unfold dk; decide +kernel
theorem dX0_growFrom_29 : dk cX0_growFrom 29 31 (.iload 4) 2 := by unfold dk; decide +kernel
theorem dX0_growFrom_34 : dk cX0_growFrom 34 35 (.aload_n 0) 1 := by unfold dk; decide +kernel
theorem dX0_growFrom_35 : dk cX0_growFrom 35 38 (.getfield 18) 3 := by unfold dk; decide +kernel
theorem dX0_growFrom_38 : dk cX0_growFrom 38 39 (.aload_n 0) 1 := by unfold dk; decide +kernel
theorem dX0_growFrom_39 : dk cX0_growFrom 39 42 (.getfield 44) 3 := by unfold dk; decide +kernel
theorem dX0_growFrom_42 : dk cX0_growFrom 42 43 (.aload_n 0) 1 := by unfold dk; decide +kernel
theorem dX0_growFrom_43 : dk cX0_growFrom 43 46 (.getfield 44) 3 := by unfold dk; decide +kernel
theorem dX0_growFrom_46 : dk cX0_growFrom 46 47 (.iastore) 1 := by unfold dk; decide +kernel
theorem dX0_growFrom_47 : dk cX0_growFrom 47 48 (.aload_n 0) 1 := by unfold dk; decide +kernel
theorem dX0_growFrom_48 : dk cX0_growFrom 48 51 (.getfield 9) 3 := by unfold dk; decide +kernel
theorem dX0_growFrom_51 : dk cX0_growFrom 51 52 (.aload_n 0) 1 := by unfold dk; decide +kernel
theorem dX0_growFrom_52 : dk cX0_growFrom 52 55 (.getfield 44) 3 := by unfold dk; decide +kernel
theorem dX0_growFrom_55 : dk cX0_growFrom 55 56 (.iconst 0) 1 := by unfold dk; decide +kernel
theorem dX0_growFrom_56 : dk cX0_growFrom 56 57 (.iastore) 1 := by unfold dk; decide +kernel
theorem dX0_growFrom_57 : dk cX0_growFrom 57 58 (.aload_n 0) 1 := by unfold dk; decide +kernel
theorem dX0_growFrom_58 : dk cX0_growFrom 58 59 (.dup) 1 := by unfold dk; decide +kernel
theorem dX0_growFrom_59 : dk cX0_growFrom 59 62 (.getfield 44) 3 := by unfold dk; decide +kernel
theorem dX0_growFrom_62 : dk cX0_growFrom 62 63 (.iconst 1) 1 := by unfold dk; decide +kernel
theorem dX0_growFrom_63 : dk cX0_growFrom 63 64 (.iadd) 1 := by unfold dk; decide +kernel
theorem dX0_growFrom_64 : dk cX0_growFrom 64 67 (.putfield 44) 3 := by unfold dk; decide +kernel
theorem dX0_growFrom_67 : bk cX0_growFrom 67 70 25 (.goto (-42)) (-42) := by unfold bk; decide +kernel
theorem dX0_growFrom_31 : bk cX0_growFrom 31 34 70 (.if_icmp .ge 39) (39) := by unfold bk; decide +kernel
theorem dX0_growFrom_70 : dk cX0_growFrom 70 71 (.aload_n 0) 1 := by unfold dk; decide +kernel
theorem dX0_growFrom_71 : dk cX0_growFrom 71 72 (.iconst 0) 1 := by unfold dk; decide +kernel
theorem dX0_growFrom_72 : dk cX0_growFrom 72 75 (.putfield 21) 3 := by unfold dk; decide +kernel
theorem dX0_growFrom_75 : dk cX0_growFrom 75 76 (.iconst 0) 1 := by unfold dk; decide +kernel
theorem dX0_growFrom_76 : dk cX0_growFrom 76 78 (.istore 5) 2 := by unfold dk; decide +kernel
theorem dX0_growFrom_78 : dk cX0_growFrom 78 80 (.iload 5) 2 := by unfold dk; decide +kernel
theorem dX0_growFrom_80 : dk cX0_growFrom 80 81 (.aload_n 1) 1 := by unfold dk; decide +kernel
theorem dX0_growFrom_81 : dk cX0_growFrom 81 84 (.getfield 41) 3 := by unfold dk; decide +kernel
theorem dX0_growFrom_87 : dk cX0_growFrom 87 88 (.aload_n 0) 1 := by unfold dk; decide +kernel
theorem dX0_growFrom_88 : dk cX0_growFrom 88 91 (.getfield 21) 3 := by unfold dk; decide +kernel
theorem dX0_growFrom_91 : bk cX0_growFrom 91 94 98 (.ifCond .ne 7) (7) := by unfold bk; decide +kernel
theorem dX0_growFrom_98 : dk cX0_growFrom 98 99 (.aload_n 0) 1 := by unfold dk; decide +kernel
theorem dX0_growFrom_99 : dk cX0_growFrom 99 100 (.aload_n 1) 1 := by unfold dk; decide +kernel
theorem dX0_growFrom_100 : dk cX0_growFrom 100 101 (.aload_n 0) 1 := by unfold dk; decide +kernel
theorem dX0_growFrom_101 : dk cX0_growFrom 101 104 (.getfield 21) 3 := by unfold dk; decide +kernel
theorem dX0_growFrom_104 : dk cX0_growFrom 104 105 (.iconst 1) 1 := by unfold dk; decide +kernel
theorem dX0_growFrom_105 : dk cX0_growFrom 105 106 (.isub) 1 := by unfold dk; decide +kernel
theorem dX0_growFrom_106 : dk cX0_growFrom 106 109 (.invokevirtual 47) 3 := by unfold dk; decide +kernel
theorem dX0_growFrom_94 : dk cX0_growFrom 94 95 (.iconst (-1)) 1 := by unfold dk; decide +kernel
theorem dX0_growFrom_95 : bk cX0_growFrom 95 98 109 (.goto 14) (14) := by unfold bk; decide +kernel
theorem dX0_growFrom_109 : dk cX0_growFrom 109 111 (.istore 6) 2 := by unfold dk; decide +kernel
theorem dX0_growFrom_111 : dk cX0_growFrom 111 113 (.iload 6) 2 := by unfold dk; decide +kernel
theorem dX0_growFrom_113 : dk cX0_growFrom 113 114 (.iconst (-1)) 1 := by unfold dk; decide +kernel
theorem dX0_growFrom_114 : bk cX0_growFrom 114 117 148 (.if_icmp .ne 34) (34) := by unfold bk; decide +kernel
theorem dX0_growFrom_117 : dk cX0_growFrom 117 118 (.aload_n 0) 1 := by unfold dk; decide +kernel
theorem dX0_growFrom_118 : dk cX0_growFrom 118 121 (.getfield 15) 3 := by unfold dk; decide +kernel
theorem dX0_growFrom_121 : dk cX0_growFrom 121 122 (.aload_n 0) 1 := by unfold dk; decide +kernel
theorem dX0_growFrom_122 : dk cX0_growFrom 122 125 (.getfield 21) 3 := by unfold dk; decide +kernel
theorem dX0_growFrom_125 : dk cX0_growFrom 125 126 (.iconst 0) 1 := by unfold dk; decide +kernel
theorem dX0_growFrom_126 : dk cX0_growFrom 126 127 (.iastore) 1 := by unfold dk; decide +kernel
theorem dX0_growFrom_127 : dk cX0_growFrom 127 128 (.aload_n 0) 1 := by unfold dk; decide +kernel
theorem dX0_growFrom_128 : dk cX0_growFrom 128 129 (.aload_n 1) 1 := by unfold dk; decide +kernel
theorem dX0_growFrom_129 : dk cX0_growFrom 129 130 (.aload_n 0) 1 := by unfold dk; decide +kernel
theorem dX0_growFrom_130 : dk cX0_growFrom 130 133 (.getfield 21) 3 := by unfold dk; decide +kernel
theorem dX0_growFrom_133 : dk cX0_growFrom 133 136 (.invokevirtual 47) 3 := by unfold dk; decide +kernel
theorem dX0_growFrom_136 : dk cX0_growFrom 136 138 (.istore 6) 2 := by unfold dk; decide +kernel
theorem dX0_growFrom_138 : dk cX0_growFrom 138 139 (.aload_n 0) 1 := by unfold dk; decide +kernel
theorem dX0_growFrom_139 : dk cX0_growFrom 139 140 (.dup) 1 := by unfold dk; decide +kernel
theorem dX0_growFrom_140 : dk cX0_growFrom 140 143 (.getfield 21) 3 := by unfold dk; decide +kernel
theorem dX0_growFrom_143 : dk cX0_growFrom 143 144 (.iconst 1) 1 := by unfold dk; decide +kernel
theorem dX0_growFrom_144 : dk cX0_growFrom 144 145 (.iadd) 1 := by unfold dk; decide +kernel
theorem dX0_growFrom_145 : dk cX0_growFrom 145 148 (.putfield 21) 3 := by unfold dk; decide +kernel
theorem dX0_growFrom_148 : dk cX0_growFrom 148 150 (.iload 6) 2 := by unfold dk; decide +kernel
theorem dX0_growFrom_150 : dk cX0_growFrom 150 151 (.iconst (-1)) 1 := by unfold dk; decide +kernel
theorem dX0_growFrom_155 : dk cX0_growFrom 155 156 (.aload_n 0) 1 := by unfold dk; decide +kernel
theorem dX0_growFrom_156 : dk cX0_growFrom 156 159 (.getfield 15) 3 := by unfold dk; decide +kernel
theorem dX0_growFrom_159 : dk cX0_growFrom 159 160 (.aload_n 0) 1 := by unfold dk; decide +kernel
theorem dX0_growFrom_160 : dk cX0_growFrom 160 163 (.getfield 21) 3 := by unfold dk; decide +kernel
theorem dX0_growFrom_163 : dk cX0_growFrom 163 164 (.iconst 1) 1 := by unfold dk; decide +kernel
theorem dX0_growFrom_164 : dk cX0_growFrom 164 165 (.isub) 1 := by unfold dk; decide +kernel
theorem dX0_growFrom_165 : dk cX0_growFrom 165 166 (.dup2) 1 := by unfold dk; decide +kernel
theorem dX0_growFrom_166 : dk cX0_growFrom 166 167 (.iaload) 1 := by unfold dk; decide +kernel
theorem dX0_growFrom_167 : dk cX0_growFrom 167 168 (.iconst 1) 1 := by unfold dk; decide +kernel
theorem dX0_growFrom_168 : dk cX0_growFrom 168 169 (.iadd) 1 := by unfold dk; decide +kernel
theorem dX0_growFrom_169 : dk cX0_growFrom 169 170 (.iastore) 1 := by unfold dk; decide +kernel
theorem dX0_growFrom_170 : dk cX0_growFrom 170 172 (.iload 4) 2 := by unfold dk; decide +kernel
theorem dX0_growFrom_172 : dk cX0_growFrom 172 173 (.aload_n 1) 1 := by unfold dk; decide +kernel
theorem dX0_growFrom_173 : dk cX0_growFrom 173 176 (.getfield 41) 3 := by unfold dk; decide +kernel
theorem dX0_growFrom_176 : bk cX0_growFrom 176 179 231 (.if_icmp .ge 55) (55) := by unfold bk; decide +kernel
theorem dX0_growFrom_231 : dk cX0_growFrom 231 232 (.aload_n 0) 1 := by unfold dk; decide +kernel
theorem dX0_growFrom_232 : dk cX0_growFrom 232 233 (.dup) 1 := by unfold dk; decide +kernel
theorem dX0_growFrom_233 : dk cX0_growFrom 233 236 (.getfield 44) 3 := by unfold dk; decide +kernel
theorem dX0_growFrom_236 : dk cX0_growFrom 236 237 (.iconst 1) 1 := by unfold dk; decide +kernel
theorem dX0_growFrom_237 : dk cX0_growFrom 237 238 (.isub) 1 := by unfold dk; decide +kernel
theorem dX0_growFrom_238 : dk cX0_growFrom 238 241 (.putfield 44) 3 := by unfold dk; decide +kernel
theorem dX0_growFrom_241 : dk cX0_growFrom 241 242 (.aload_n 0) 1 := by unfold dk; decide +kernel
theorem dX0_growFrom_242 : dk cX0_growFrom 242 245 (.getfield 18) 3 := by unfold dk; decide +kernel
theorem dX0_growFrom_245 : dk cX0_growFrom 245 247 (.iload 6) 2 := by unfold dk; decide +kernel
theorem dX0_growFrom_247 : dk cX0_growFrom 247 248 (.aload_n 0) 1 := by unfold dk; decide +kernel
theorem dX0_growFrom_248 : dk cX0_growFrom 248 251 (.getfield 18) 3 := by unfold dk; decide +kernel
theorem dX0_growFrom_251 : dk cX0_growFrom 251 252 (.aload_n 0) 1 := by unfold dk; decide +kernel
theorem dX0_growFrom_252 : dk cX0_growFrom 252 255 (.getfield 44) 3 := by unfold dk; decide +kernel
theorem dX0_growFrom_255 : dk cX0_growFrom 255 256 (.iaload) 1 := by unfold dk; decide +kernel
theorem dX0_growFrom_256 : dk cX0_growFrom 256 257 (.iastore) 1 := by unfold dk; decide +kernel
theorem dX0_growFrom_179 : dk cX0_growFrom 179 180 (.aload_n 0) 1 := by unfold dk; decide +kernel
theorem dX0_growFrom_180 : dk cX0_growFrom 180 183 (.getfield 9) 3 := by unfold dk; decide +kernel
theorem dX0_growFrom_183 : dk cX0_growFrom 183 185 (.iload 4) 2 := by unfold dk; decide +kernel
theorem dX0_growFrom_185 : dk cX0_growFrom 185 186 (.aload_n 0) 1 := by unfold dk; decide +kernel
theorem dX0_growFrom_186 : dk cX0_growFrom 186 187 (.aload_n 1) 1 := by unfold dk; decide +kernel
theorem dX0_growFrom_187 : dk cX0_growFrom 187 189 (.iload 4) 2 := by unfold dk; decide +kernel
theorem dX0_growFrom_189 : dk cX0_growFrom 189 190 (.aload_n 0) 1 := by unfold dk; decide +kernel
theorem dX0_growFrom_190 : dk cX0_growFrom 190 193 (.getfield 18) 3 := by unfold dk; decide +kernel
theorem dX0_growFrom_193 : dk cX0_growFrom 193 195 (.iload 6) 2 := by unfold dk; decide +kernel
theorem dX0_growFrom_195 : dk cX0_growFrom 195 196 (.iaload) 1 := by unfold dk; decide +kernel
theorem dX0_growFrom_196 : dk cX0_growFrom 196 199 (.invokevirtual 51) 3 := by unfold dk; decide +kernel
theorem dX0_growFrom_199 : bk cX0_growFrom 199 202 211 (.ifCond .eq 12) (12) := by unfold bk; decide +kernel
theorem dX0_growFrom_211 : dk cX0_growFrom 211 212 (.aload_n 0) 1 := by unfold dk; decide +kernel
theorem dX0_growFrom_212 : dk cX0_growFrom 212 215 (.getfield 21) 3 := by unfold dk; decide +kernel
theorem dX0_growFrom_202 : dk cX0_growFrom 202 203 (.aload_n 0) 1 := by unfold dk; decide +kernel
theorem dX0_growFrom_203 : dk cX0_growFrom 203 206 (.getfield 21) 3 := by unfold dk; decide +kernel
theorem dX0_growFrom_206 : dk cX0_growFrom 206 207 (.iconst 1) 1 := by unfold dk; decide +kernel
theorem dX0_growFrom_207 : dk cX0_growFrom 207 208 (.isub) 1 := by unfold dk; decide +kernel
theorem dX0_growFrom_208 : bk cX0_growFrom 208 211 215 (.goto 7) (7) := by unfold bk; decide +kernel
theorem dX0_growFrom_215 : dk cX0_growFrom 215 216 (.iastore) 1 := by unfold dk; decide +kernel
theorem dX0_growFrom_216 : dk cX0_growFrom 216 217 (.aload_n 0) 1 := by unfold dk; decide +kernel
theorem dX0_growFrom_217 : dk cX0_growFrom 217 220 (.getfield 18) 3 := by unfold dk; decide +kernel
theorem dX0_growFrom_220 : dk cX0_growFrom 220 222 (.iload 6) 2 := by unfold dk; decide +kernel
theorem dX0_growFrom_222 : dk cX0_growFrom 222 224 (.iload 4) 2 := by unfold dk; decide +kernel
theorem dX0_growFrom_224 : dk cX0_growFrom 224 225 (.iastore) 1 := by unfold dk; decide +kernel
theorem dX0_growFrom_225 : dk cX0_growFrom 225 228 (.iinc 4 1) 3 := by unfold dk; decide +kernel
theorem dX0_growFrom_228 : bk cX0_growFrom 228 231 257 (.goto 29) (29) := by unfold bk; decide +kernel
theorem dX0_growFrom_257 : dk cX0_growFrom 257 260 (.iinc 5 1) 3 := by unfold dk; decide +kernel
theorem dX0_growFrom_260 : bk cX0_growFrom 260 263 78 (.goto (-182)) (-182) := by unfold bk; decide +kernel
theorem dX0_growFrom_154 : dk cX0_growFrom 154 155 (.return_) 1 := by unfold dk; decide +kernel
theorem dX0_growFrom_151 : bk cX0_growFrom 151 154 155 (.if_icmp .ne 4) (4) := by unfold bk; decide +kernel
theorem dX0_growFrom_84 : bk cX0_growFrom 84 87 263 (.if_icmp .ge 179) (179) := by unfold bk; decide +kernel
theorem dX0_growFrom_263 : dk cX0_growFrom 263 264 (.return_) 1 := by unfold dk; decide +kernel
set_option maxHeartbeats 4000000 in
set_option maxRecDepth 100000 in
theorem kX0_growFrom {l : Launch} {G : Gl} {E : En} {a0 : Nat} {a1 : Nat} {a2 : Int32} {a3 : Int32} {σ σ' : Sg} : fX0_growFrom E a0 a1 a2 a3 σ = some σ' → CT l yX0_growFrom cX0_growFrom 7 none ({ frames := 2, cells := 0, slots := 0, locals := 46 } : Room) [.ref (G.1 + a0), .ref (G.1 + a1), .int a2, .int a3] G E σ none σ' := by
  intro h
  refine CT_of (lv0 := [(0, .ref (G.1 + a0)), (1, .ref (G.1 + a1)), (2, .int a2), (3, .int a3)]) (by decide) (Nat.le_of_ble_eq_true rfl) rfl (fun κ hl hR hr C => ?_)
  have C : Cx κ G cX0_growFrom RX0 7 := C
  revert h
  unfold fX0_growFrom
  refine R_tk (fun ha0 => ?_)
  refine R_tk (fun ha1 => ?_)
  refine R_aload_n C 0 rfl dX0_growFrom_0 ?_
  refine R_iload_n C 3 rfl dX0_growFrom_1 ?_
  refine R_kb (fun h1 => ?_)
  refine S_puti C fl0_25 rfl ha0 (nb h1) (fb h1) dX0_growFrom_2 (fun s2 => ?_)
  refine R_iload_n C 2 rfl dX0_growFrom_5 ?_
  refine R_bipush C (16) dX0_growFrom_6 (by decide) ?_
  refine R_mmin C jd0_35 (by rw [hR]; exact ⟨Nat.le_of_ble_eq_true rfl, Nat.le_of_ble_eq_true rfl, Nat.zero_le _, Nat.zero_le _⟩) dX0_growFrom_8 ?_
  refine R_aload_n C 1 rfl dX0_growFrom_11 ?_
  refine R_geti C fl0_41 rfl ha1 dX0_growFrom_12 ?_
  refine R_mmin C jd0_35 (by rw [hR]; exact ⟨Nat.le_of_ble_eq_true rfl, Nat.le_of_ble_eq_true rfl, Nat.zero_le _, Nat.zero_le _⟩) dX0_growFrom_15 ?_
  refine S_istore C dX0_growFrom_18 (fun v3 => [(4, .int v3), (0, .ref (G.1 + a0)), (1, .ref (G.1 + a1)), (2, .int a2), (3, .int a3)]) (by decide) (fun _ => rfl) (fun v3 => ?_)
  refine R_aload_n C 1 rfl dX0_growFrom_20 ?_
  refine R_iconst C (0) dX0_growFrom_21 (by decide) ?_
  refine S_puti C fl0_44 rfl ha0 rfl rfl dX0_growFrom_22 (fun s4 => ?_)
  refine R_loc (lv2 := [(4, .int v3), (0, .ref (G.1 + a0)), (1, .ref (G.1 + a1))]) [0, 1, 2] rfl ?_
  refine R_loop (fun (a : (Unit) × Sg) => V κ G (QQ κ G E none σ') E a.2 (false, 0, 0) 25 [(4, .int v3), (0, .ref (G.1 + a0)), (1, .ref (G.1 + a1))] []) (fun (o : (Unit)) (s : Sg) => V κ G (QQ κ G E none σ') E s (false, 0, 0) 70 [(4, .int v3), (0, .ref (G.1 + a0)), (1, .ref (G.1 + a1))] []) ((), s4) (fun o17 s18 => ?_) (fun rec I9 a b7 s8 K6 => ?_)
  · refine R_aload_n C 1 rfl dX0_growFrom_70 ?_
    refine R_iconst C (0) dX0_growFrom_71 (by decide) ?_
    refine S_puti C fl0_21 rfl ha0 rfl rfl dX0_growFrom_72 (fun s19 => ?_)
    refine R_iconst C (0) dX0_growFrom_75 (by decide) ?_
    refine R_istore (lv2 := [(5, .int (0 : Int32)), (4, .int v3), (0, .ref (G.1 + a0)), (1, .ref (G.1 + a1))]) C dX0_growFrom_76 (by decide) rfl ?_
    refine R_loc (lv2 := [(0, .ref (G.1 + a0)), (1, .ref (G.1 + a1)), (4, .int v3), (5, .int (0 : Int32))]) [2, 3, 1, 0] rfl ?_
    refine R_loop (fun (a : (Int32 × Int32) × Sg) => V κ G (QQ κ G E none σ') E a.2 (false, 0, 0) 78 [(0, .ref (G.1 + a0)), (1, .ref (G.1 + a1)), (4, .int a.1.1), (5, .int a.1.2)] []) (fun (o : ((Int32 × Int32) ⊕ Unit)) (s : Sg) => sm o (fun o => V κ G (QQ κ G E none σ') E s (false, 0, 0) 263 [] []) (fun rr => some s = some σ')) ((v3, (0 : Int32)), s19) (fun o66 s67 => ?_) (fun rec I26 a b24 s25 K23 => ?_)
    · rcases o66 with vo66 | ro66
      · refine R_sml ?_
        exact R_vret C hr dX0_growFrom_263
      · exact fun h => h
    · obtain ⟨⟨v20, v21⟩, s22⟩ := a
      show bX0_growFrom_78 E a1 a0 (fun u0 u1 t => rec ((u0, u1), t)) v20 v21 s22 = some (b24, s25) → V κ G (QQ κ G E none σ') E s22 (false, 0, 0) 78 [(0, .ref (G.1 + a0)), (1, .ref (G.1 + a1)), (4, .int v20), (5, .int v21)] []
      unfold bX0_growFrom_78
      refine R_iload C 3 rfl dX0_growFrom_78 ?_
      refine R_aload_n C 1 rfl dX0_growFrom_80 ?_
      refine R_geti C fl0_41 rfl ha1 dX0_growFrom_81 ?_
      refine B_icmp_ge C dX0_growFrom_84 ?_ ?_
      · refine R_loc (lv2 := []) [] rfl ?_
        exact R_inr (VX := (fun (o : ((Int32 × Int32) ⊕ Unit)) (s : Sg) => sm o (fun o => V κ G (QQ κ G E none σ') E s (false, 0, 0) 263 [] []) (fun rr => some s = some σ'))) (i := .inl) K23 (fun h => h)
      · refine R_aload_n C 0 rfl dX0_growFrom_87 ?_
        refine R_geti C fl0_21 rfl ha0 dX0_growFrom_88 ?_
        refine R_bdK (fun (w : Int32) (s : Sg) => V κ G (QQ κ G E none σ') E s (false, 0, 0) 109 [(0, .ref (G.1 + a0)), (1, .ref (G.1 + a1)), (4, .int v20), (5, .int v21)] [.int w]) (fun w27 s28 => ?_) (fun w27 s28 Kw27 => ?_)
        · refine R_istore (lv2 := [(6, .int w27), (0, .ref (G.1 + a0)), (1, .ref (G.1 + a1)), (4, .int v20), (5, .int v21)]) C dX0_growFrom_109 (by decide) rfl ?_
          refine R_iload C 0 rfl dX0_growFrom_111 ?_
          refine R_iconst C (-1) dX0_growFrom_113 (by decide) ?_
          refine R_bdK (fun (w : Int32) (s : Sg) => V κ G (QQ κ G E none σ') E s (false, 0, 0) 148 [(0, .ref (G.1 + a0)), (1, .ref (G.1 + a1)), (4, .int v20), (5, .int v21), (6, .int w)] []) (fun w32 s33 => ?_) (fun w32 s33 Kw32 => ?_)
          · refine R_iload C 4 rfl dX0_growFrom_148 ?_
            refine R_iconst C (-1) dX0_growFrom_150 (by decide) ?_
            refine B_icmp_ne C dX0_growFrom_151 ?_ ?_
            · refine R_aload_n C 0 rfl dX0_growFrom_155 ?_
              refine R_dr (fun x41 rx41 cx41 => ?_)
              refine R_getr C fl0_15 rfl ha0 rx41 dX0_growFrom_156 ?_
              refine R_aload_n C 0 rfl dX0_growFrom_159 ?_
              refine R_geti C fl0_21 rfl ha0 dX0_growFrom_160 ?_
              refine R_iconst C (1) dX0_growFrom_163 (by decide) ?_
              refine R_isub C dX0_growFrom_164 ?_
              refine R_dup2 C dX0_growFrom_165 rfl rfl ?_
              refine R_ck (fun h42 => ?_)
              refine R_iald C cx41 h42 dX0_growFrom_166 ?_
              refine R_iconst C (1) dX0_growFrom_167 (by decide) ?_
              refine R_iadd C dX0_growFrom_168 ?_
              refine R_ck (fun h43 => ?_)
              refine S_iast C cx41 h43 dX0_growFrom_169 (fun s44 => ?_)
              refine R_iload C 2 rfl dX0_growFrom_170 ?_
              refine R_aload_n C 1 rfl dX0_growFrom_172 ?_
              refine R_geti C fl0_41 rfl ha1 dX0_growFrom_173 ?_
              refine R_bdK (fun (w : Int32) (s : Sg) => V κ G (QQ κ G E none σ') E s (false, 0, 0) 257 [(0, .ref (G.1 + a0)), (1, .ref (G.1 + a1)), (5, .int v21), (4, .int w)] []) (fun w45 s46 => ?_) (fun w45 s46 Kw45 => ?_)
              · refine S_iinc (fun v65 => [(5, .int v65), (0, .ref (G.1 + a0)), (1, .ref (G.1 + a1)), (4, .int w45)]) 2 C dX0_growFrom_257 rfl (by decide) (by decide) (fun _ => rfl) (fun v65 => ?_)
                refine R_goto C dX0_growFrom_260 ?_
                refine R_loc (lv2 := [(0, .ref (G.1 + a0)), (1, .ref (G.1 + a1)), (4, .int w45), (5, .int v65)]) [1, 2, 3, 0] rfl ?_
                exact I26 ((w45, v65), s46) b24 s25 K23
              · refine B_icmp_ge C dX0_growFrom_176 ?_ ?_
                · refine R_aload_n C 0 rfl dX0_growFrom_231 ?_
                  refine R_dup C dX0_growFrom_232 rfl ?_
                  refine R_geti C fl0_44 rfl ha0 dX0_growFrom_233 ?_
                  refine R_iconst C (1) dX0_growFrom_236 (by decide) ?_
                  refine R_isub C dX0_growFrom_237 ?_
                  refine S_puti C fl0_44 rfl ha0 rfl rfl dX0_growFrom_238 (fun s47 => ?_)
                  refine R_aload_n C 0 rfl dX0_growFrom_241 ?_
                  refine R_dr (fun x48 rx48 cx48 => ?_)
                  refine R_getr C fl0_18 rfl ha0 rx48 dX0_growFrom_242 ?_
                  refine R_iload C 4 rfl dX0_growFrom_245 ?_
                  refine R_aload_n C 0 rfl dX0_growFrom_247 ?_
                  refine R_getr C fl0_18 rfl ha0 rx48 dX0_growFrom_248 ?_
                  refine R_aload_n C 0 rfl dX0_growFrom_251 ?_
                  refine R_geti C fl0_44 rfl ha0 dX0_growFrom_252 ?_
                  refine R_ck (fun h49 => ?_)
                  refine R_iald C cx48 h49 dX0_growFrom_255 ?_
                  refine R_ck (fun h50 => ?_)
                  refine S_iast C cx48 h50 dX0_growFrom_256 (fun s51 => ?_)
                  refine R_loc (lv2 := [(0, .ref (G.1 + a0)), (1, .ref (G.1 + a1)), (5, .int v21), (4, .int v20)]) [0, 1, 3, 2] rfl ?_
                  exact R_end (fun (w : Int32) (s : Sg) => V κ G (QQ κ G E none σ') E s (false, 0, 0) 257 [(0, .ref (G.1 + a0)), (1, .ref (G.1 + a1)), (5, .int v21), (4, .int w)] []) Kw45
                · refine R_aload_n C 0 rfl dX0_growFrom_179 ?_
                  refine R_dr (fun x52 rx52 cx52 => ?_)
                  refine R_getr C fl0_9 rfl ha0 rx52 dX0_growFrom_180 ?_
                  refine R_iload C 2 rfl dX0_growFrom_183 ?_
                  refine R_aload_n C 0 rfl dX0_growFrom_185 ?_
                  refine R_aload_n C 1 rfl dX0_growFrom_186 ?_
                  refine R_iload C 2 rfl dX0_growFrom_187 ?_
                  refine R_aload_n C 0 rfl dX0_growFrom_189 ?_
                  refine R_dr (fun x53 rx53 cx53 => ?_)
                  refine R_getr C fl0_18 rfl ha0 rx53 dX0_growFrom_190 ?_
                  refine R_iload C 4 rfl dX0_growFrom_193 ?_
                  refine R_ck (fun h54 => ?_)
                  refine R_iald C cx53 h54 dX0_growFrom_195 ?_
                  refine R_bd (fun r57 s55 q56 => ?_)
                  refine R_callVi [.ref (G.1 + a1), .int v20, .int (gi s44 x53 w32.toNatClampNeg)] [.int v20, .ref (G.1 + x52)] C ml0_51 (kX0_goesOn q56) (by rw [hR]; exact ⟨rfl, rfl, Nat.le_of_ble_eq_true rfl, Nat.le_of_ble_eq_true rfl, Nat.zero_le _, Nat.zero_le _⟩) ha0 rfl rfl (Nat.le_of_ble_eq_true rfl) dX0_growFrom_196 ?_
                  refine R_bdK (fun (w : Int32) (s : Sg) => V κ G (QQ κ G E none σ') E s (false, 0, 0) 215 [(0, .ref (G.1 + a0)), (1, .ref (G.1 + a1)), (4, .int v20), (5, .int v21), (6, .int w32)] [.int w, .int v20, .ref (G.1 + x52)]) (fun w58 s59 => ?_) (fun w58 s59 Kw58 => ?_)
                  · refine R_ck (fun h60 => ?_)
                    refine S_iast C cx52 h60 dX0_growFrom_215 (fun s61 => ?_)
                    refine R_aload_n C 0 rfl dX0_growFrom_216 ?_
                    refine R_getr C fl0_18 rfl ha0 rx53 dX0_growFrom_217 ?_
                    refine R_iload C 4 rfl dX0_growFrom_220 ?_
                    refine R_iload C 2 rfl dX0_growFrom_222 ?_
                    refine R_ck (fun h62 => ?_)
                    refine S_iast C cx53 h62 dX0_growFrom_224 (fun s63 => ?_)
                    refine S_iinc (fun v64 => [(4, .int v64), (0, .ref (G.1 + a0)), (1, .ref (G.1 + a1)), (5, .int v21), (6, .int w32)]) 2 C dX0_growFrom_225 rfl (by decide) (by decide) (fun _ => rfl) (fun v64 => ?_)
                    refine R_goto C dX0_growFrom_228 ?_
                    refine R_loc (lv2 := [(0, .ref (G.1 + a0)), (1, .ref (G.1 + a1)), (5, .int v21), (4, .int v64)]) [1, 2, 3, 0] rfl ?_
                    exact R_end (fun (w : Int32) (s : Sg) => V κ G (QQ κ G E none σ') E s (false, 0, 0) 257 [(0, .ref (G.1 + a0)), (1, .ref (G.1 + a1)), (5, .int v21), (4, .int w)] []) Kw45
                  · refine B_if_eq C dX0_growFrom_199 ?_ ?_
                    · refine R_aload_n C 0 rfl dX0_growFrom_211 ?_
                      refine R_geti C fl0_21 rfl ha0 dX0_growFrom_212 ?_
                      exact R_end (fun (w : Int32) (s : Sg) => V κ G (QQ κ G E none σ') E s (false, 0, 0) 215 [(0, .ref (G.1 + a0)), (1, .ref (G.1 + a1)), (4, .int v20), (5, .int v21), (6, .int w32)] [.int w, .int v20, .ref (G.1 + x52)]) Kw58
                    · refine R_aload_n C 0 rfl dX0_growFrom_202 ?_
                      refine R_geti C fl0_21 rfl ha0 dX0_growFrom_203 ?_
                      refine R_iconst C (1) dX0_growFrom_206 (by decide) ?_
                      refine R_isub C dX0_growFrom_207 ?_
                      refine R_goto C dX0_growFrom_208 ?_
                      exact R_end (fun (w : Int32) (s : Sg) => V κ G (QQ κ G E none σ') E s (false, 0, 0) 215 [(0, .ref (G.1 + a0)), (1, .ref (G.1 + a1)), (4, .int v20), (5, .int v21), (6, .int w32)] [.int w, .int v20, .ref (G.1 + x52)]) Kw58
            · exact R_inr (VX := (fun (o : ((Int32 × Int32) ⊕ Unit)) (s : Sg) => sm o (fun o => V κ G (QQ κ G E none σ') E s (false, 0, 0) 263 [] []) (fun rr => some s = some σ'))) (i := .inr) K23 (R_vret C hr dX0_growFrom_154)
          · refine B_icmp_ne C dX0_growFrom_114 ?_ ?_
            · refine R_loc (lv2 := [(0, .ref (G.1 + a0)), (1, .ref (G.1 + a1)), (4, .int v20), (5, .int v21), (6, .int w27)]) [1, 2, 3, 4, 0] rfl ?_
              exact R_end (fun (w : Int32) (s : Sg) => V κ G (QQ κ G E none σ') E s (false, 0, 0) 148 [(0, .ref (G.1 + a0)), (1, .ref (G.1 + a1)), (4, .int v20), (5, .int v21), (6, .int w)] []) Kw32
            · refine R_aload_n C 1 rfl dX0_growFrom_117 ?_
              refine R_dr (fun x34 rx34 cx34 => ?_)
              refine R_getr C fl0_15 rfl ha0 rx34 dX0_growFrom_118 ?_
              refine R_aload_n C 1 rfl dX0_growFrom_121 ?_
              refine R_geti C fl0_21 rfl ha0 dX0_growFrom_122 ?_
              refine R_iconst C (0) dX0_growFrom_125 (by decide) ?_
              refine R_ck (fun h35 => ?_)
              refine S_iast C cx34 h35 dX0_growFrom_126 (fun s36 => ?_)
              refine R_aload_n C 1 rfl dX0_growFrom_127 ?_
              refine R_aload_n C 2 rfl dX0_growFrom_128 ?_
              refine R_aload_n C 1 rfl dX0_growFrom_129 ?_
              refine R_geti C fl0_21 rfl ha0 dX0_growFrom_130 ?_
              refine R_bd (fun r39 s37 q38 => ?_)
              refine R_callVi [.ref (G.1 + a1), .int (gi s36 a0 2)] [] C ml0_47 (kX0_nextOut q38) (by rw [hR]; exact ⟨rfl, rfl, Nat.le_of_ble_eq_true rfl, Nat.le_of_ble_eq_true rfl, Nat.zero_le _, Nat.zero_le _⟩) ha0 rfl rfl (Nat.le_of_ble_eq_true rfl) dX0_growFrom_133 ?_
              refine R_istore (lv2 := [(6, .int r39), (0, .ref (G.1 + a0)), (1, .ref (G.1 + a1)), (4, .int v20), (5, .int v21)]) C dX0_growFrom_136 (by decide) rfl ?_
              refine R_aload_n C 1 rfl dX0_growFrom_138 ?_
              refine R_dup C dX0_growFrom_139 rfl ?_
              refine R_geti C fl0_21 rfl ha0 dX0_growFrom_140 ?_
              refine R_iconst C (1) dX0_growFrom_143 (by decide) ?_
              refine R_iadd C dX0_growFrom_144 ?_
              refine S_puti C fl0_21 rfl ha0 rfl rfl dX0_growFrom_145 (fun s40 => ?_)
              refine R_loc (lv2 := [(0, .ref (G.1 + a0)), (1, .ref (G.1 + a1)), (4, .int v20), (5, .int v21), (6, .int r39)]) [1, 2, 3, 4, 0] rfl ?_
              exact R_end (fun (w : Int32) (s : Sg) => V κ G (QQ κ G E none σ') E s (false, 0, 0) 148 [(0, .ref (G.1 + a0)), (1, .ref (G.1 + a1)), (4, .int v20), (5, .int v21), (6, .int w)] []) Kw32
        · refine B_if_ne C dX0_growFrom_91 ?_ ?_
          · refine R_aload_n C 0 rfl dX0_growFrom_98 ?_
            refine R_aload_n C 1 rfl dX0_growFrom_99 ?_
            refine R_aload_n C 0 rfl dX0_growFrom_100 ?_
            refine R_geti C fl0_21 rfl ha0 dX0_growFrom_101 ?_
            refine R_iconst C (1) dX0_growFrom_104 (by decide) ?_
            refine R_isub C dX0_growFrom_105 ?_
            refine R_bd (fun r31 s29 q30 => ?_)
            refine R_callVi [.ref (G.1 + a1), .int ((gi s22 a0 2) - (1 : Int32))] [] C ml0_47 (kX0_nextOut q30) (by rw [hR]; exact ⟨rfl, rfl, Nat.le_of_ble_eq_true rfl, Nat.le_of_ble_eq_true rfl, Nat.zero_le _, Nat.zero_le _⟩) ha0 rfl rfl (Nat.le_of_ble_eq_true rfl) dX0_growFrom_106 ?_
            exact R_end (fun (w : Int32) (s : Sg) => V κ G (QQ κ G E none σ') E s (false, 0, 0) 109 [(0, .ref (G.1 + a0)), (1, .ref (G.1 + a1)), (4, .int v20), (5, .int v21)] [.int w]) Kw27
          · refine R_iconst C (-1) dX0_growFrom_94 (by decide) ?_
            refine R_goto C dX0_growFrom_95 ?_
            exact R_end (fun (w : Int32) (s : Sg) => V κ G (QQ κ G E none σ') E s (false, 0, 0) 109 [(0, .ref (G.1 + a0)), (1, .ref (G.1 + a1)), (4, .int v20), (5, .int v21)] [.int w]) Kw27
  · obtain ⟨_, s5⟩ := a
    show bX0_growFrom_25 E v3 a0 (fun t => rec ((), t))  s5 = some (b7, s8) → V κ G (QQ κ G E none σ') E s5 (false, 0, 0) 25 [(4, .int v3), (0, .ref (G.1 + a0)), (1, .ref (G.1 + a1))] []
    unfold bX0_growFrom_25
    refine R_aload_n C 1 rfl dX0_growFrom_25 ?_
    refine R_geti C fl0_44 rfl ha0 dX0_growFrom_26 ?_
    refine R_iload C 0 rfl dX0_growFrom_29 ?_
    refine B_icmp_ge C dX0_growFrom_31 ?_ ?_
    · exact R_end (fun (o : (Unit)) (s : Sg) => V κ G (QQ κ G E none σ') E s (false, 0, 0) 70 [(4, .int v3), (0, .ref (G.1 + a0)), (1, .ref (G.1 + a1))] []) K6
    · refine R_aload_n C 1 rfl dX0_growFrom_34 ?_
      refine R_dr (fun x10 rx10 cx10 => ?_)
      refine R_getr C fl0_18 rfl ha0 rx10 dX0_growFrom_35 ?_
      refine R_aload_n C 1 rfl dX0_growFrom_38 ?_
      refine R_geti C fl0_44 rfl ha0 dX0_growFrom_39 ?_
      refine R_aload_n C 1 rfl dX0_growFrom_42 ?_
      refine R_geti C fl0_44 rfl ha0 dX0_growFrom_43 ?_
      refine R_ck (fun h11 => ?_)
      refine S_iast C cx10 h11 dX0_growFrom_46 (fun s12 => ?_)
      refine R_aload_n C 1 rfl dX0_growFrom_47 ?_
      refine R_dr (fun x13 rx13 cx13 => ?_)
      refine R_getr C fl0_9 rfl ha0 rx13 dX0_growFrom_48 ?_
      refine R_aload_n C 1 rfl dX0_growFrom_51 ?_
      refine R_geti C fl0_44 rfl ha0 dX0_growFrom_52 ?_
      refine R_iconst C (0) dX0_growFrom_55 (by decide) ?_
      refine R_ck (fun h14 => ?_)
      refine S_iast C cx13 h14 dX0_growFrom_56 (fun s15 => ?_)
      refine R_aload_n C 1 rfl dX0_growFrom_57 ?_
      refine R_dup C dX0_growFrom_58 rfl ?_
      refine R_geti C fl0_44 rfl ha0 dX0_growFrom_59 ?_
      refine R_iconst C (1) dX0_growFrom_62 (by decide) ?_
      refine R_iadd C dX0_growFrom_63 ?_
      refine S_puti C fl0_44 rfl ha0 rfl rfl dX0_growFrom_64 (fun s16 => ?_)
      refine R_goto C dX0_growFrom_67 ?_
      exact I9 ((), s16) b7 s8 K6
