theorem dX6_init_0 : dk cX6_init 0 1 (.aload_n 0) 1 := by unfold dk; decide +kernel
theorem dX6_init_1 : dk cX6_init 1 4 (.invokespecial 1) 3 := by unfold dk; decide +kernel
theorem oi6_1 : Cond.methodLink RX6 1 objectInit ∈ lw_tbl := (in1 (List.mem_of_getElem? (i := 16) rfl))
theorem dX6_init_4 : dk cX6_init 4 5 (.aload_n 0) 1 := by unfold dk; decide +kernel
theorem dX6_init_5 : dk cX6_init 5 8 (.sipush 200) 3 := by unfold dk; decide +kernel
theorem dX6_init_8 : dk cX6_init 8 10 (.newarray .int) 2 := by unfold dk; decide +kernel
theorem dX6_init_10 : dk cX6_init 10 13 (.putfield 9) 3 := by unfold dk; decide +kernel
theorem dX6_init_13 : dk cX6_init 13 14 (.aload_n 0) 1 := by unfold dk; decide +kernel
theorem dX6_init_14 : dk cX6_init 14 17 (.new 13) 3 := by unfold dk; decide +kernel
theorem cl6_13 : Cond.classLink RX6 13 RX4 ∈ lw_tbl := (in1 (List.mem_of_getElem? (i := 19) rfl))
theorem is4 : Cond.instantiable RX4 7 ∈ lw_tbl := (in1 (List.mem_of_getElem? (i := 20) rfl))
theorem iz4 : Cond.initialized RX4 ∈ lw_tbl := (in1 (List.mem_of_getElem? (i := 2) rfl))
theorem dv4 : ∀ j, j < 7 → defaultValue (tyc 4 j) = if isr (tyc 4 j) = true then .null else .int 0 := by decide +kernel
theorem dX6_init_17 : dk cX6_init 17 18 (.dup) 1 := by unfold dk; decide +kernel
theorem dX6_init_18 : dk cX6_init 18 21 (.invokespecial 15) 3 := by unfold dk; decide +kernel
theorem dX4_init_0 : dk cX4_init 0 1 (.aload_n 0) 1 := by unfold dk; decide +kernel
theorem dX4_init_1 : dk cX4_init 1 4 (.invokespecial 3) 3 := by unfold dk; decide +kernel
theorem oi4_3 : Cond.methodLink RX4 3 objectInit ∈ lw_tbl := (in1 (List.mem_of_getElem? (i := 24) rfl))
theorem dX4_init_4 : dk cX4_init 4 5 (.aload_n 0) 1 := by unfold dk; decide +kernel
theorem dX4_init_5 : dk cX4_init 5 8 (.new 9) 3 := by unfold dk; decide +kernel
theorem cl4_9 : Cond.classLink RX4 9 RX3 ∈ lw_tbl := (in1 (List.mem_of_getElem? (i := 25) rfl))
theorem is3 : Cond.instantiable RX3 4 ∈ lw_tbl := (in1 (List.mem_of_getElem? (i := 26) rfl))
theorem iz3 : Cond.initialized RX3 ∈ lw_tbl := (in1 (List.mem_of_getElem? (i := 3) rfl))
theorem dv3 : ∀ j, j < 4 → defaultValue (tyc 3 j) = if isr (tyc 3 j) = true then .null else .int 0 := by decide +kernel
theorem dX4_init_8 : dk cX4_init 8 9 (.dup) 1 := by unfold dk; decide +kernel
theorem dX4_init_9 : dk cX4_init 9 12 (.invokespecial 11) 3 := by unfold dk; decide +kernel
theorem dX3_init_0 : dk cX3_init 0 1 (.aload_n 0) 1 := by unfold dk; decide +kernel
theorem dX3_init_1 : dk cX3_init 1 4 (.invokespecial 3) 3 := by unfold dk; decide +kernel
theorem oi3_3 : Cond.methodLink RX3 3 objectInit ∈ lw_tbl := (in1 (List.mem_of_getElem? (i := 30) rfl))
theorem dX3_init_4 : dk cX3_init 4 5 (.aload_n 0) 1 := by unfold dk; decide +kernel
theorem dX3_init_5 : dk cX3_init 5 8 (.sipush 300) 3 := by unfold dk; decide +kernel
theorem dX3_init_8 : dk cX3_init 8 10 (.newarray .int) 2 := by unfold dk; decide +kernel
theorem dX3_init_10 : dk cX3_init 10 13 (.putfield 9) 3 := by unfold dk; decide +kernel
theorem dX3_init_13 : dk cX3_init 13 14 (.aload_n 0) 1 := by unfold dk; decide +kernel
theorem dX3_init_14 : dk cX3_init 14 17 (.sipush 300) 3 := by unfold dk; decide +kernel
theorem dX3_init_17 : dk cX3_init 17 19 (.newarray .int) 2 := by unfold dk; decide +kernel
theorem dX3_init_19 : dk cX3_init 19 22 (.putfield 15) 3 := by unfold dk; decide +kernel
theorem dX3_init_22 : dk cX3_init 22 23 (.return_) 1 := by unfold dk; decide +kernel
set_option maxHeartbeats 4000000 in
set_option maxRecDepth 100000 in
theorem kX3_init {l : Launch} {G : Gl} {E E' : En} {a0 : Nat} {σ σ' : Sg} : gX3_init E a0 σ = some (E', σ') → CTI l yX3_init cX3_init 1 ({ frames := 1, cells := 2, slots := 600, locals := 20 } : Room) [.ref (G.1 + a0)] G E σ E' σ' 2 600 := by
  intro h
  refine CTI_of (lv0 := [(0, .ref (G.1 + a0))]) (by decide) (Nat.le_of_ble_eq_true rfl) rfl rfl (fun κ hl hR hr hnm D C => ?_)
  have C : Cx κ G cX3_init RX3 1 := C
  revert h
  unfold gX3_init
  refine R_aload_n C 0 rfl dX3_init_0 ?_
  refine N_obj C oi3_3 (by rw [hR]; exact ⟨Nat.le_of_ble_eq_true rfl, Nat.le_of_ble_eq_true rfl⟩) dX3_init_1 ?_
  refine R_aload_n C 0 rfl dX3_init_4 ?_
  refine R_sipush C (300) dX3_init_5 (by decide) ?_
  refine N_nai 300 C (by decide) (by decide) (Nat.le_of_ble_eq_true rfl) (by rw [hR]; exact ⟨Nat.le_of_ble_eq_true rfl, Nat.le_of_ble_eq_true rfl⟩) dX3_init_8 (fun e1 s2 => ?_)
  refine R_tk (fun h3 => ?_)
  refine N_putr C hnm ⟨_, _, ci3, by omega, rfl, (in1 (List.mem_of_getElem? (i := 31) rfl))⟩ rfl h3 rfl rfl dX3_init_10 (fun e4 => ?_)
  refine R_aload_n C 0 rfl dX3_init_13 ?_
  refine R_sipush C (300) dX3_init_14 (by decide) ?_
  refine N_nai 300 C (by decide) (by decide) (Nat.le_of_ble_eq_true rfl) (by rw [hR]; exact ⟨Nat.le_of_ble_eq_true rfl, Nat.le_of_ble_eq_true rfl⟩) dX3_init_17 (fun e5 s6 => ?_)
  refine R_tk (fun h7 => ?_)
  refine N_putr C hnm ⟨_, _, ci3, by omega, rfl, (in1 (List.mem_of_getElem? (i := 33) rfl))⟩ rfl h7 rfl rfl dX3_init_19 (fun e8 => ?_)
  exact N_vret C D hr dX3_init_22
theorem mi4_11 : MI RX4 11 yX3_init cX3_init 1 0 := ⟨⟨(in1 (List.mem_of_getElem? (i := 3) rfl)), (in1 (List.mem_of_getElem? (i := 29) rfl)), by decide +kernel, by decide +kernel⟩, (in1 (List.mem_of_getElem? (i := 28) rfl)), rfl, Or.inr (in1 (List.mem_of_getElem? (i := 27) rfl))⟩
theorem dX4_init_12 : dk cX4_init 12 15 (.putfield 12) 3 := by unfold dk; decide +kernel
theorem dX4_init_15 : dk cX4_init 15 16 (.aload_n 0) 1 := by unfold dk; decide +kernel
theorem dX4_init_16 : dk cX4_init 16 19 (.getstatic 18) 3 := by unfold dk; decide +kernel
theorem gn4_18 : Cond.fieldLinkNest RX4 18 "RunTapes" "AT_FIRST" "[I" "RunTapes" ∈ lw_tbl := (in1 (List.mem_of_getElem? (i := 51) rfl))
theorem dX4_init_19 : dk cX4_init 19 22 (.invokevirtual 22) 3 := by unfold dk; decide +kernel
theorem cm4_22 : Cond.methodLink RX4 22 ⟨"[I", "clone", "()Ljava/lang/Object;"⟩ ∈ lw_tbl := (in1 (List.mem_of_getElem? (i := 53) rfl))
theorem dX4_init_22 : dk cX4_init 22 25 (.checkcast 23) 3 := by unfold dk; decide +kernel
theorem cl4_23 : Cond.classLink RX4 23 "[I" ∈ lw_tbl := (in1 (List.mem_of_getElem? (i := 59) rfl))
theorem dX4_init_25 : dk cX4_init 25 28 (.putfield 27) 3 := by unfold dk; decide +kernel
theorem dX4_init_28 : dk cX4_init 28 29 (.aload_n 0) 1 := by unfold dk; decide +kernel
theorem dX4_init_29 : dk cX4_init 29 32 (.new 30) 3 := by unfold dk; decide +kernel
theorem cl4_30 : Cond.classLink RX4 30 RX0 ∈ lw_tbl := (in1 (List.mem_of_getElem? (i := 60) rfl))
theorem is0 : Cond.instantiable RX0 6 ∈ lw_tbl := (in1 (List.mem_of_getElem? (i := 61) rfl))
theorem iz0 : Cond.initialized RX0 ∈ lw_tbl := (in1 (List.mem_of_getElem? (i := 4) rfl))
theorem dv0 : ∀ j, j < 6 → defaultValue (tyc 0 j) = if isr (tyc 0 j) = true then .null else .int 0 := by decide +kernel
theorem dX4_init_32 : dk cX4_init 32 33 (.dup) 1 := by unfold dk; decide +kernel
theorem dX4_init_33 : dk cX4_init 33 36 (.invokespecial 32) 3 := by unfold dk; decide +kernel
theorem dX0_init_0 : dk cX0_init 0 1 (.aload_n 0) 1 := by unfold dk; decide +kernel
theorem dX0_init_1 : dk cX0_init 1 4 (.invokespecial 3) 3 := by unfold dk; decide +kernel
theorem oi0_3 : Cond.methodLink RX0 3 objectInit ∈ lw_tbl := (in1 (List.mem_of_getElem? (i := 65) rfl))
theorem dX0_init_4 : dk cX0_init 4 5 (.aload_n 0) 1 := by unfold dk; decide +kernel
theorem dX0_init_5 : dk cX0_init 5 8 (.sipush 300) 3 := by unfold dk; decide +kernel
theorem dX0_init_8 : dk cX0_init 8 10 (.newarray .int) 2 := by unfold dk; decide +kernel
theorem dX0_init_10 : dk cX0_init 10 13 (.putfield 9) 3 := by unfold dk; decide +kernel
theorem dX0_init_13 : dk cX0_init 13 14 (.aload_n 0) 1 := by unfold dk; decide +kernel
theorem dX0_init_14 : dk cX0_init 14 17 (.sipush 300) 3 := by unfold dk; decide +kernel
theorem dX0_init_17 : dk cX0_init 17 19 (.newarray .int) 2 := by unfold dk; decide +kernel
theorem dX0_init_19 : dk cX0_init 19 22 (.putfield 15) 3 := by unfold dk; decide +kernel
theorem dX0_init_22 : dk cX0_init 22 23 (.aload_n 0) 1 := by unfold dk; decide +kernel
theorem dX0_init_23 : dk cX0_init 23 25 (.bipush 16) 2 := by unfold dk; decide +kernel
theorem dX0_init_25 : dk cX0_init 25 27 (.newarray .int) 2 := by unfold dk; decide +kernel
theorem dX0_init_27 : dk cX0_init 27 30 (.putfield 18) 3 := by unfold dk; decide +kernel
theorem dX0_init_30 : dk cX0_init 30 31 (.return_) 1 := by unfold dk; decide +kernel
set_option maxHeartbeats 4000000 in
set_option maxRecDepth 100000 in
theorem kX0_init {l : Launch} {G : Gl} {E E' : En} {a0 : Nat} {σ σ' : Sg} : gX0_init E a0 σ = some (E', σ') → CTI l yX0_init cX0_init 1 ({ frames := 1, cells := 3, slots := 616, locals := 20 } : Room) [.ref (G.1 + a0)] G E σ E' σ' 3 616 := by
  intro h
  refine CTI_of (lv0 := [(0, .ref (G.1 + a0))]) (by decide) (Nat.le_of_ble_eq_true rfl) rfl rfl (fun κ hl hR hr hnm D C => ?_)
  have C : Cx κ G cX0_init RX0 1 := C
  revert h
  unfold gX0_init
  refine R_aload_n C 0 rfl dX0_init_0 ?_
  refine N_obj C oi0_3 (by rw [hR]; exact ⟨Nat.le_of_ble_eq_true rfl, Nat.le_of_ble_eq_true rfl⟩) dX0_init_1 ?_
  refine R_aload_n C 0 rfl dX0_init_4 ?_
  refine R_sipush C (300) dX0_init_5 (by decide) ?_
  refine N_nai 300 C (by decide) (by decide) (Nat.le_of_ble_eq_true rfl) (by rw [hR]; exact ⟨Nat.le_of_ble_eq_true rfl, Nat.le_of_ble_eq_true rfl⟩) dX0_init_8 (fun e1 s2 => ?_)
  refine R_tk (fun h3 => ?_)
  refine N_putr C hnm ⟨_, _, ci0, by omega, rfl, (in1 (List.mem_of_getElem? (i := 66) rfl))⟩ rfl h3 rfl rfl dX0_init_10 (fun e4 => ?_)
  refine R_aload_n C 0 rfl dX0_init_13 ?_
  refine R_sipush C (300) dX0_init_14 (by decide) ?_
  refine N_nai 300 C (by decide) (by decide) (Nat.le_of_ble_eq_true rfl) (by rw [hR]; exact ⟨Nat.le_of_ble_eq_true rfl, Nat.le_of_ble_eq_true rfl⟩) dX0_init_17 (fun e5 s6 => ?_)
  refine R_tk (fun h7 => ?_)
  refine N_putr C hnm ⟨_, _, ci0, by omega, rfl, (in1 (List.mem_of_getElem? (i := 69) rfl))⟩ rfl h7 rfl rfl dX0_init_19 (fun e8 => ?_)
  refine R_aload_n C 0 rfl dX0_init_22 ?_
  refine R_bipush C (16) dX0_init_23 (by decide) ?_
  refine N_nai 16 C (by decide) (by decide) (Nat.le_of_ble_eq_true rfl) (by rw [hR]; exact ⟨Nat.le_of_ble_eq_true rfl, Nat.le_of_ble_eq_true rfl⟩) dX0_init_25 (fun e9 s10 => ?_)
  refine R_tk (fun h11 => ?_)
  refine N_putr C hnm ⟨_, _, ci0, by omega, rfl, (in1 (List.mem_of_getElem? (i := 76) rfl))⟩ rfl h11 rfl rfl dX0_init_27 (fun e12 => ?_)
  exact N_vret C D hr dX0_init_30
theorem mi4_32 : MI RX4 32 yX0_init cX0_init 1 0 := ⟨⟨(in1 (List.mem_of_getElem? (i := 4) rfl)), (in1 (List.mem_of_getElem? (i := 64) rfl)), by decide +kernel, by decide +kernel⟩, (in1 (List.mem_of_getElem? (i := 63) rfl)), rfl, Or.inr (in1 (List.mem_of_getElem? (i := 62) rfl))⟩
theorem dX4_init_36 : dk cX4_init 36 39 (.putfield 33) 3 := by unfold dk; decide +kernel
theorem dX4_init_39 : dk cX4_init 39 40 (.aload_n 0) 1 := by unfold dk; decide +kernel
theorem dX4_init_40 : dk cX4_init 40 43 (.new 37) 3 := by unfold dk; decide +kernel
theorem cl4_37 : Cond.classLink RX4 37 RX1 ∈ lw_tbl := (in1 (List.mem_of_getElem? (i := 91) rfl))
theorem is1 : Cond.instantiable RX1 19 ∈ lw_tbl := (in1 (List.mem_of_getElem? (i := 92) rfl))
theorem iz1 : Cond.initialized RX1 ∈ lw_tbl := (in1 (List.mem_of_getElem? (i := 5) rfl))
theorem dv1 : ∀ j, j < 19 → defaultValue (tyc 1 j) = if isr (tyc 1 j) = true then .null else .int 0 := by decide +kernel
theorem dX4_init_43 : dk cX4_init 43 44 (.dup) 1 := by unfold dk; decide +kernel
theorem dX4_init_44 : dk cX4_init 44 47 (.sipush 300) 3 := by unfold dk; decide +kernel
theorem dX4_init_47 : dk cX4_init 47 50 (.invokespecial 39) 3 := by unfold dk; decide +kernel
theorem dX1_init_0 : dk cX1_init 0 1 (.aload_n 0) 1 := by unfold dk; decide +kernel
theorem dX1_init_1 : dk cX1_init 1 4 (.invokespecial 3) 3 := by unfold dk; decide +kernel
theorem oi1_3 : Cond.methodLink RX1 3 objectInit ∈ lw_tbl := (in1 (List.mem_of_getElem? (i := 96) rfl))
theorem dX1_init_4 : dk cX1_init 4 5 (.aload_n 0) 1 := by unfold dk; decide +kernel
theorem dX1_init_5 : dk cX1_init 5 6 (.iconst 1) 1 := by unfold dk; decide +kernel
theorem dX1_init_6 : dk cX1_init 6 9 (.putfield 9) 3 := by unfold dk; decide +kernel
theorem dX1_init_9 : dk cX1_init 9 10 (.aload_n 0) 1 := by unfold dk; decide +kernel
theorem dX1_init_10 : dk cX1_init 10 12 (.bipush 6) 2 := by unfold dk; decide +kernel
theorem dX1_init_12 : dk cX1_init 12 15 (.anewarray 15) 3 := by unfold dk; decide +kernel
theorem cl1_15 : Cond.classLink RX1 15 RX5 ∈ lw_tbl := (in1 (List.mem_of_getElem? (i := 97) rfl))
theorem dX1_init_15 : dk cX1_init 15 18 (.putfield 17) 3 := by unfold dk; decide +kernel
theorem dX1_init_18 : dk cX1_init 18 19 (.aload_n 0) 1 := by unfold dk; decide +kernel
theorem dX1_init_19 : dk cX1_init 19 21 (.bipush 6) 2 := by unfold dk; decide +kernel
theorem dX1_init_21 : dk cX1_init 21 23 (.newarray .boolean) 2 := by unfold dk; decide +kernel
theorem dX1_init_23 : dk cX1_init 23 26 (.putfield 21) 3 := by unfold dk; decide +kernel
theorem dX1_init_26 : dk cX1_init 26 27 (.aload_n 0) 1 := by unfold dk; decide +kernel
theorem dX1_init_27 : dk cX1_init 27 29 (.bipush 6) 2 := by unfold dk; decide +kernel
theorem dX1_init_29 : dk cX1_init 29 31 (.newarray .int) 2 := by unfold dk; decide +kernel
theorem dX1_init_31 : dk cX1_init 31 34 (.putfield 25) 3 := by unfold dk; decide +kernel
theorem dX1_init_34 : dk cX1_init 34 35 (.aload_n 0) 1 := by unfold dk; decide +kernel
theorem dX1_init_35 : dk cX1_init 35 37 (.bipush 6) 2 := by unfold dk; decide +kernel
theorem dX1_init_37 : dk cX1_init 37 39 (.newarray .int) 2 := by unfold dk; decide +kernel
theorem dX1_init_39 : dk cX1_init 39 42 (.putfield 29) 3 := by unfold dk; decide +kernel
theorem dX1_init_42 : dk cX1_init 42 43 (.aload_n 0) 1 := by unfold dk; decide +kernel
theorem dX1_init_43 : dk cX1_init 43 46 (.new 32) 3 := by unfold dk; decide +kernel
theorem cl1_32 : Cond.classLink RX1 32 RX2 ∈ lw_tbl := (in1 (List.mem_of_getElem? (i := 99) rfl))
theorem is2 : Cond.instantiable RX2 3 ∈ lw_tbl := (in1 (List.mem_of_getElem? (i := 100) rfl))
theorem iz2 : Cond.initialized RX2 ∈ lw_tbl := (in1 (List.mem_of_getElem? (i := 6) rfl))
theorem dv2 : ∀ j, j < 3 → defaultValue (tyc 2 j) = if isr (tyc 2 j) = true then .null else .int 0 := by decide +kernel
theorem dX1_init_46 : dk cX1_init 46 47 (.dup) 1 := by unfold dk; decide +kernel
theorem dX1_init_47 : dk cX1_init 47 50 (.invokespecial 34) 3 := by unfold dk; decide +kernel
theorem dX2_init_0 : dk cX2_init 0 1 (.aload_n 0) 1 := by unfold dk; decide +kernel
theorem dX2_init_1 : dk cX2_init 1 4 (.invokespecial 3) 3 := by unfold dk; decide +kernel
theorem oi2_3 : Cond.methodLink RX2 3 objectInit ∈ lw_tbl := (in1 (List.mem_of_getElem? (i := 104) rfl))
theorem dX2_init_4 : dk cX2_init 4 5 (.aload_n 0) 1 := by unfold dk; decide +kernel
theorem dX2_init_5 : dk cX2_init 5 6 (.iconst 5) 1 := by unfold dk; decide +kernel
theorem dX2_init_6 : dk cX2_init 6 8 (.newarray .int) 2 := by unfold dk; decide +kernel
theorem dX2_init_8 : dk cX2_init 8 11 (.putfield 9) 3 := by unfold dk; decide +kernel
theorem dX2_init_11 : dk cX2_init 11 12 (.return_) 1 := by unfold dk; decide +kernel
set_option maxHeartbeats 4000000 in
set_option maxRecDepth 100000 in
theorem kX2_init {l : Launch} {G : Gl} {E E' : En} {a0 : Nat} {σ σ' : Sg} : gX2_init E a0 σ = some (E', σ') → CTI l yX2_init cX2_init 1 ({ frames := 1, cells := 1, slots := 5, locals := 20 } : Room) [.ref (G.1 + a0)] G E σ E' σ' 1 5 := by
  intro h
  refine CTI_of (lv0 := [(0, .ref (G.1 + a0))]) (by decide) (Nat.le_of_ble_eq_true rfl) rfl rfl (fun κ hl hR hr hnm D C => ?_)
  have C : Cx κ G cX2_init RX2 1 := C
  revert h
  unfold gX2_init
  refine R_aload_n C 0 rfl dX2_init_0 ?_
  refine N_obj C oi2_3 (by rw [hR]; exact ⟨Nat.le_of_ble_eq_true rfl, Nat.le_of_ble_eq_true rfl⟩) dX2_init_1 ?_
  refine R_aload_n C 0 rfl dX2_init_4 ?_
  refine R_iconst C (5) dX2_init_5 (by decide) ?_
  refine N_nai 5 C (by decide) (by decide) (Nat.le_of_ble_eq_true rfl) (by rw [hR]; exact ⟨Nat.le_of_ble_eq_true rfl, Nat.le_of_ble_eq_true rfl⟩) dX2_init_6 (fun e1 s2 => ?_)
  refine R_tk (fun h3 => ?_)
  refine N_putr C hnm ⟨_, _, ci2, by omega, rfl, (in1 (List.mem_of_getElem? (i := 105) rfl))⟩ rfl h3 rfl rfl dX2_init_8 (fun e4 => ?_)
  exact N_vret C D hr dX2_init_11
theorem mi1_34 : MI RX1 34 yX2_init cX2_init 1 0 := ⟨⟨(in1 (List.mem_of_getElem? (i := 6) rfl)), (in1 (List.mem_of_getElem? (i := 103) rfl)), by decide +kernel, by decide +kernel⟩, (in1 (List.mem_of_getElem? (i := 102) rfl)), rfl, Or.inr (in1 (List.mem_of_getElem? (i := 101) rfl))⟩
theorem dX1_init_50 : dk cX1_init 50 53 (.putfield 35) 3 := by unfold dk; decide +kernel
theorem dX1_init_53 : dk cX1_init 53 54 (.aload_n 0) 1 := by unfold dk; decide +kernel
theorem dX1_init_54 : dk cX1_init 54 56 (.bipush 6) 2 := by unfold dk; decide +kernel
theorem dX1_init_56 : dk cX1_init 56 58 (.newarray .int) 2 := by unfold dk; decide +kernel
theorem dX1_init_58 : dk cX1_init 58 61 (.putfield 39) 3 := by unfold dk; decide +kernel
theorem dX1_init_61 : dk cX1_init 61 62 (.aload_n 0) 1 := by unfold dk; decide +kernel
theorem dX1_init_62 : dk cX1_init 62 63 (.iload_n 1) 1 := by unfold dk; decide +kernel
theorem dX1_init_63 : dk cX1_init 63 64 (.iconst 0) 1 := by unfold dk; decide +kernel
theorem dX1_init_64 : dk cX1_init 64 67 (.invokestatic 42) 3 := by unfold dk; decide +kernel
theorem dX1_init_67 : dk cX1_init 67 69 (.newarray .int) 2 := by unfold dk; decide +kernel
theorem dX1_init_69 : dk cX1_init 69 72 (.putfield 48) 3 := by unfold dk; decide +kernel
theorem dX1_init_72 : dk cX1_init 72 73 (.aload_n 0) 1 := by unfold dk; decide +kernel
theorem dX1_init_73 : dk cX1_init 73 74 (.iload_n 1) 1 := by unfold dk; decide +kernel
theorem dX1_init_74 : dk cX1_init 74 75 (.iconst 0) 1 := by unfold dk; decide +kernel
theorem dX1_init_75 : dk cX1_init 75 78 (.invokestatic 42) 3 := by unfold dk; decide +kernel
theorem dX1_init_78 : dk cX1_init 78 80 (.newarray .boolean) 2 := by unfold dk; decide +kernel
theorem dX1_init_80 : dk cX1_init 80 83 (.putfield 51) 3 := by unfold dk; decide +kernel
theorem dX1_init_83 : dk cX1_init 83 84 (.iconst 0) 1 := by unfold dk; decide +kernel
theorem dX1_init_84 : dk cX1_init 84 85 (.istore_n 2) 1 := by unfold dk; decide +kernel
theorem dX1_init_85 : dk cX1_init 85 86 (.iload_n 2) 1 := by unfold dk; decide +kernel
theorem dX1_init_86 : dk cX1_init 86 88 (.bipush 6) 2 := by unfold dk; decide +kernel
theorem dX1_init_88 : bk cX1_init 88 91 110 (.if_icmp .ge 22) (22) := by unfold bk; decide +kernel
theorem dX1_init_91 : dk cX1_init 91 92 (.aload_n 0) 1 := by unfold dk; decide +kernel
theorem dX1_init_92 : dk cX1_init 92 95 (.getfield 17) 3 := by unfold dk; decide +kernel
theorem dX1_init_95 : dk cX1_init 95 96 (.iload_n 2) 1 := by unfold dk; decide +kernel
theorem dX1_init_96 : dk cX1_init 96 99 (.new 15) 3 := by unfold dk; decide +kernel
theorem is5 : Cond.instantiable RX5 3 ∈ lw_tbl := (in1 (List.mem_of_getElem? (i := 122) rfl))
theorem iz5 : Cond.initialized RX5 ∈ lw_tbl := (in1 (List.mem_of_getElem? (i := 8) rfl))
theorem dv5 : ∀ j, j < 3 → defaultValue (tyc 5 j) = if isr (tyc 5 j) = true then .null else .int 0 := by decide +kernel
theorem dX1_init_99 : dk cX1_init 99 100 (.dup) 1 := by unfold dk; decide +kernel
theorem dX1_init_100 : dk cX1_init 100 103 (.invokespecial 54) 3 := by unfold dk; decide +kernel
theorem dX5_init_0 : dk cX5_init 0 1 (.aload_n 0) 1 := by unfold dk; decide +kernel
theorem dX5_init_1 : dk cX5_init 1 4 (.invokespecial 3) 3 := by unfold dk; decide +kernel
theorem oi5_3 : Cond.methodLink RX5 3 objectInit ∈ lw_tbl := (in1 (List.mem_of_getElem? (i := 126) rfl))
theorem dX5_init_4 : dk cX5_init 4 5 (.aload_n 0) 1 := by unfold dk; decide +kernel
theorem dX5_init_5 : dk cX5_init 5 8 (.sipush 256) 3 := by unfold dk; decide +kernel
theorem dX5_init_8 : dk cX5_init 8 10 (.newarray .int) 2 := by unfold dk; decide +kernel
theorem dX5_init_10 : dk cX5_init 10 13 (.putfield 9) 3 := by unfold dk; decide +kernel
theorem dX5_init_13 : dk cX5_init 13 14 (.return_) 1 := by unfold dk; decide +kernel
set_option maxHeartbeats 4000000 in
set_option maxRecDepth 100000 in
theorem kX5_init {l : Launch} {G : Gl} {E E' : En} {a0 : Nat} {σ σ' : Sg} : gX5_init E a0 σ = some (E', σ') → CTI l yX5_init cX5_init 1 ({ frames := 1, cells := 1, slots := 256, locals := 20 } : Room) [.ref (G.1 + a0)] G E σ E' σ' 1 256 := by
  intro h
  refine CTI_of (lv0 := [(0, .ref (G.1 + a0))]) (by decide) (Nat.le_of_ble_eq_true rfl) rfl rfl (fun κ hl hR hr hnm D C => ?_)
  have C : Cx κ G cX5_init RX5 1 := C
  revert h
  unfold gX5_init
  refine R_aload_n C 0 rfl dX5_init_0 ?_
  refine N_obj C oi5_3 (by rw [hR]; exact ⟨Nat.le_of_ble_eq_true rfl, Nat.le_of_ble_eq_true rfl⟩) dX5_init_1 ?_
  refine R_aload_n C 0 rfl dX5_init_4 ?_
  refine R_sipush C (256) dX5_init_5 (by decide) ?_
  refine N_nai 256 C (by decide) (by decide) (Nat.le_of_ble_eq_true rfl) (by rw [hR]; exact ⟨Nat.le_of_ble_eq_true rfl, Nat.le_of_ble_eq_true rfl⟩) dX5_init_8 (fun e1 s2 => ?_)
  refine R_tk (fun h3 => ?_)
  refine N_putr C hnm ⟨_, _, ci5, by omega, rfl, (in1 (List.mem_of_getElem? (i := 127) rfl))⟩ rfl h3 rfl rfl dX5_init_10 (fun e4 => ?_)
  exact N_vret C D hr dX5_init_13
theorem mi1_54 : MI RX1 54 yX5_init cX5_init 1 0 := ⟨⟨(in1 (List.mem_of_getElem? (i := 8) rfl)), (in1 (List.mem_of_getElem? (i := 125) rfl)), by decide +kernel, by decide +kernel⟩, (in1 (List.mem_of_getElem? (i := 124) rfl)), rfl, Or.inr (in1 (List.mem_of_getElem? (i := 123) rfl))⟩
theorem dX1_init_103 : dk cX1_init 103 104 (.aastore) 1 := by unfold dk; decide +kernel
theorem dX1_init_104 : dk cX1_init 104 107 (.iinc 2 1) 3 := by unfold dk; decide +kernel
theorem dX1_init_107 : bk cX1_init 107 110 85 (.goto (-22)) (-22) := by unfold bk; decide +kernel
theorem dX1_init_110 : dk cX1_init 110 111 (.return_) 1 := by unfold dk; decide +kernel
set_option maxHeartbeats 4000000 in
set_option maxRecDepth 100000 in
theorem kX1_init_300 {l : Launch} {G : Gl} {E E' : En} {a0 : Nat} {σ σ' : Sg} : gX1_init_300 E a0 σ = some (E', σ') → CTI l yX1_init cX1_init 3 ({ frames := 2, cells := 21, slots := 2192, locals := 40 } : Room) [.ref (G.1 + a0), .int (300 : Int32)] G E σ E' σ' 21 2192 := by
  intro h
  refine CTI_of (lv0 := [(0, .ref (G.1 + a0)), (1, .int (300 : Int32))]) (by decide) (Nat.le_of_ble_eq_true rfl) rfl rfl (fun κ hl hR hr hnm D C => ?_)
  have C : Cx κ G cX1_init RX1 3 := C
  revert h
  unfold gX1_init_300
  refine R_aload_n C 0 rfl dX1_init_0 ?_
  refine N_obj C oi1_3 (by rw [hR]; exact ⟨Nat.le_of_ble_eq_true rfl, Nat.le_of_ble_eq_true rfl⟩) dX1_init_1 ?_
  refine R_aload_n C 0 rfl dX1_init_4 ?_
  refine R_iconst C (1) dX1_init_5 (by decide) ?_
  refine R_tk (fun h1 => ?_)
  refine N_puti C ⟨_, _, ci1, by omega, rfl, (in1 (List.mem_of_getElem? (i := 140) rfl))⟩ rfl h1 rfl rfl dX1_init_6 (fun s2 => ?_)
  refine R_aload_n C 0 rfl dX1_init_9 ?_
  refine R_bipush C (6) dX1_init_10 (by decide) ?_
  refine N_na4 6 C D cl1_15 (by decide) (by decide) (Nat.le_of_ble_eq_true rfl) (by rw [hR]; exact ⟨Nat.le_of_ble_eq_true rfl, Nat.le_of_ble_eq_true rfl⟩) dX1_init_12 (fun e3 s4 => ?_)
  refine R_tk (fun h5 => ?_)
  refine N_putr C hnm ⟨_, _, ci1, by omega, rfl, (in1 (List.mem_of_getElem? (i := 143) rfl))⟩ rfl h5 rfl rfl dX1_init_15 (fun e6 => ?_)
  refine R_aload_n C 0 rfl dX1_init_18 ?_
  refine R_bipush C (6) dX1_init_19 (by decide) ?_
  refine N_naz 6 C (by decide) (by decide) (Nat.le_of_ble_eq_true rfl) (by rw [hR]; exact ⟨Nat.le_of_ble_eq_true rfl, Nat.le_of_ble_eq_true rfl⟩) dX1_init_21 (fun e7 s8 => ?_)
  refine R_tk (fun h9 => ?_)
  refine N_putr C hnm ⟨_, _, ci1, by omega, rfl, (in1 (List.mem_of_getElem? (i := 153) rfl))⟩ rfl h9 rfl rfl dX1_init_23 (fun e10 => ?_)
  refine R_aload_n C 0 rfl dX1_init_26 ?_
  refine R_bipush C (6) dX1_init_27 (by decide) ?_
  refine N_nai 6 C (by decide) (by decide) (Nat.le_of_ble_eq_true rfl) (by rw [hR]; exact ⟨Nat.le_of_ble_eq_true rfl, Nat.le_of_ble_eq_true rfl⟩) dX1_init_29 (fun e11 s12 => ?_)
  refine R_tk (fun h13 => ?_)
  refine N_putr C hnm ⟨_, _, ci1, by omega, rfl, (in1 (List.mem_of_getElem? (i := 155) rfl))⟩ rfl h13 rfl rfl dX1_init_31 (fun e14 => ?_)
  refine R_aload_n C 0 rfl dX1_init_34 ?_
  refine R_bipush C (6) dX1_init_35 (by decide) ?_
  refine N_nai 6 C (by decide) (by decide) (Nat.le_of_ble_eq_true rfl) (by rw [hR]; exact ⟨Nat.le_of_ble_eq_true rfl, Nat.le_of_ble_eq_true rfl⟩) dX1_init_37 (fun e15 s16 => ?_)
  refine R_tk (fun h17 => ?_)
  refine N_putr C hnm ⟨_, _, ci1, by omega, rfl, (in1 (List.mem_of_getElem? (i := 157) rfl))⟩ rfl h17 rfl rfl dX1_init_39 (fun e18 => ?_)
  refine R_aload_n C 0 rfl dX1_init_42 ?_
  refine N_new C ci2 cl1_32 is2 iz2 (by rw [hR]; exact ⟨Nat.le_of_ble_eq_true rfl, Nat.le_of_ble_eq_true rfl⟩) dv2 dX1_init_43 (fun e19 s20 => ?_)
  refine R_dup C dX1_init_46 rfl ?_
  refine R_bc (fun e21 s22 q23 => ?_)
  refine N_call [] [.ref (G.1 + e18.1), .ref (G.1 + a0)] C D mi1_34 (kX2_init q23) (by rw [hR]; exact ⟨rfl, rfl, Nat.le_of_ble_eq_true rfl, Nat.le_of_ble_eq_true rfl, Nat.le_of_ble_eq_true rfl, Nat.le_of_ble_eq_true rfl⟩) rfl rfl (Nat.le_of_ble_eq_true rfl) dX1_init_47 ?_
  refine R_tk (fun h24 => ?_)
  refine N_putr C hnm ⟨_, _, ci1, by omega, rfl, (in1 (List.mem_of_getElem? (i := 165) rfl))⟩ rfl h24 rfl rfl dX1_init_50 (fun e25 => ?_)
  refine R_aload_n C 0 rfl dX1_init_53 ?_
  refine R_bipush C (6) dX1_init_54 (by decide) ?_
  refine N_nai 6 C (by decide) (by decide) (Nat.le_of_ble_eq_true rfl) (by rw [hR]; exact ⟨Nat.le_of_ble_eq_true rfl, Nat.le_of_ble_eq_true rfl⟩) dX1_init_56 (fun e26 s27 => ?_)
  refine R_tk (fun h28 => ?_)
  refine N_putr C hnm ⟨_, _, ci1, by omega, rfl, (in1 (List.mem_of_getElem? (i := 166) rfl))⟩ rfl h28 rfl rfl dX1_init_58 (fun e29 => ?_)
  refine R_aload_n C 0 rfl dX1_init_61 ?_
  refine R_iload_n C 1 rfl dX1_init_62 ?_
  refine R_iconst C (0) dX1_init_63 (by decide) ?_
  refine N_max (300 : Int32) (by decide) C jd1_42 (by rw [hR]; exact ⟨Nat.le_of_ble_eq_true rfl, Nat.le_of_ble_eq_true rfl, Nat.le_of_ble_eq_true rfl, Nat.le_of_ble_eq_true rfl⟩) dX1_init_64 ?_
  refine N_nai 300 C (by decide) (by decide) (Nat.le_of_ble_eq_true rfl) (by rw [hR]; exact ⟨Nat.le_of_ble_eq_true rfl, Nat.le_of_ble_eq_true rfl⟩) dX1_init_67 (fun e30 s31 => ?_)
  refine R_tk (fun h32 => ?_)
  refine N_putr C hnm ⟨_, _, ci1, by omega, rfl, (in1 (List.mem_of_getElem? (i := 145) rfl))⟩ rfl h32 rfl rfl dX1_init_69 (fun e33 => ?_)
  refine R_aload_n C 0 rfl dX1_init_72 ?_
  refine R_iload_n C 1 rfl dX1_init_73 ?_
  refine R_iconst C (0) dX1_init_74 (by decide) ?_
  refine N_max (300 : Int32) (by decide) C jd1_42 (by rw [hR]; exact ⟨Nat.le_of_ble_eq_true rfl, Nat.le_of_ble_eq_true rfl, Nat.le_of_ble_eq_true rfl, Nat.le_of_ble_eq_true rfl⟩) dX1_init_75 ?_
  refine N_naz 300 C (by decide) (by decide) (Nat.le_of_ble_eq_true rfl) (by rw [hR]; exact ⟨Nat.le_of_ble_eq_true rfl, Nat.le_of_ble_eq_true rfl⟩) dX1_init_78 (fun e34 s35 => ?_)
  refine R_tk (fun h36 => ?_)
  refine N_putr C hnm ⟨_, _, ci1, by omega, rfl, (in1 (List.mem_of_getElem? (i := 146) rfl))⟩ rfl h36 rfl rfl dX1_init_80 (fun e37 => ?_)
  refine R_iconst C (0) dX1_init_83 (by decide) ?_
  refine R_istore_n (lv2 := [(2, .int (0 : Int32)), (0, .ref (G.1 + a0)), (1, .int (300 : Int32))]) C dX1_init_84 rfl (by decide) rfl ?_
  refine R_iload_n C 0 rfl dX1_init_85 ?_
  refine R_bipush C (6) dX1_init_86 (by decide) ?_
  refine R_icmp_ge C dX1_init_88 (fun h => absurd h (by decide)) (fun _ => ?_)
  refine R_aload_n C 1 rfl dX1_init_91 ?_
  refine R_tk (fun h38 => ?_)
  refine R_dr (fun x39 rx39 cx39 => ?_)
  refine R_getr C fl1_17 rfl h38 rx39 dX1_init_92 ?_
  refine R_iload_n C 0 rfl dX1_init_95 ?_
  refine N_new C ci5 cl1_15 is5 iz5 (by rw [hR]; exact ⟨Nat.le_of_ble_eq_true rfl, Nat.le_of_ble_eq_true rfl⟩) dv5 dX1_init_96 (fun e40 s41 => ?_)
  refine R_dup C dX1_init_99 rfl ?_
  refine R_bc (fun e42 s43 q44 => ?_)
  refine N_call [] [.ref (G.1 + e37.1), .int (0 : Int32), .ref (G.1 + x39)] C D mi1_54 (kX5_init q44) (by rw [hR]; exact ⟨rfl, rfl, Nat.le_of_ble_eq_true rfl, Nat.le_of_ble_eq_true rfl, Nat.le_of_ble_eq_true rfl, Nat.le_of_ble_eq_true rfl⟩) rfl rfl (Nat.le_of_ble_eq_true rfl) dX1_init_100 ?_
  refine R_tk (fun h45 => ?_)
  refine R_ck (fun h46 => ?_)
  refine R_tk (fun h47 => ?_)
  refine N_aast4 C h45 h46 h47 dX1_init_103 (fun e48 => ?_)
  refine N_iinc (v := (1 : Int32)) (1 : Int32) (lv2 := [(2, .int (1 : Int32)), (0, .ref (G.1 + a0)), (1, .int (300 : Int32))]) 0 C dX1_init_104 rfl (by decide) (by decide) (by decide) rfl ?_
  refine R_goto C dX1_init_107 ?_
  refine R_iload_n C 0 rfl dX1_init_85 ?_
  refine R_bipush C (6) dX1_init_86 (by decide) ?_
  refine R_icmp_ge C dX1_init_88 (fun h => absurd h (by decide)) (fun _ => ?_)
  refine R_aload_n C 1 rfl dX1_init_91 ?_
  refine R_tk (fun h49 => ?_)
  refine R_dr (fun x50 rx50 cx50 => ?_)
  refine R_getr C fl1_17 rfl h49 rx50 dX1_init_92 ?_
  refine R_iload_n C 0 rfl dX1_init_95 ?_
  refine N_new C ci5 cl1_15 is5 iz5 (by rw [hR]; exact ⟨Nat.le_of_ble_eq_true rfl, Nat.le_of_ble_eq_true rfl⟩) dv5 dX1_init_96 (fun e51 s52 => ?_)
  refine R_dup C dX1_init_99 rfl ?_
  refine R_bc (fun e53 s54 q55 => ?_)
  refine N_call [] [.ref (G.1 + e48.1), .int (1 : Int32), .ref (G.1 + x50)] C D mi1_54 (kX5_init q55) (by rw [hR]; exact ⟨rfl, rfl, Nat.le_of_ble_eq_true rfl, Nat.le_of_ble_eq_true rfl, Nat.le_of_ble_eq_true rfl, Nat.le_of_ble_eq_true rfl⟩) rfl rfl (Nat.le_of_ble_eq_true rfl) dX1_init_100 ?_
  refine R_tk (fun h56 => ?_)
  refine R_ck (fun h57 => ?_)
  refine R_tk (fun h58 => ?_)
  refine N_aast4 C h56 h57 h58 dX1_init_103 (fun e59 => ?_)
  refine N_iinc (v := (1 : Int32)) (2 : Int32) (lv2 := [(2, .int (2 : Int32)), (0, .ref (G.1 + a0)), (1, .int (300 : Int32))]) 0 C dX1_init_104 rfl (by decide) (by decide) (by decide) rfl ?_
  refine R_goto C dX1_init_107 ?_
  refine R_iload_n C 0 rfl dX1_init_85 ?_
  refine R_bipush C (6) dX1_init_86 (by decide) ?_
  refine R_icmp_ge C dX1_init_88 (fun h => absurd h (by decide)) (fun _ => ?_)
  refine R_aload_n C 1 rfl dX1_init_91 ?_
  refine R_tk (fun h60 => ?_)
  refine R_dr (fun x61 rx61 cx61 => ?_)
  refine R_getr C fl1_17 rfl h60 rx61 dX1_init_92 ?_
  refine R_iload_n C 0 rfl dX1_init_95 ?_
  refine N_new C ci5 cl1_15 is5 iz5 (by rw [hR]; exact ⟨Nat.le_of_ble_eq_true rfl, Nat.le_of_ble_eq_true rfl⟩) dv5 dX1_init_96 (fun e62 s63 => ?_)
  refine R_dup C dX1_init_99 rfl ?_
  refine R_bc (fun e64 s65 q66 => ?_)
  refine N_call [] [.ref (G.1 + e59.1), .int (2 : Int32), .ref (G.1 + x61)] C D mi1_54 (kX5_init q66) (by rw [hR]; exact ⟨rfl, rfl, Nat.le_of_ble_eq_true rfl, Nat.le_of_ble_eq_true rfl, Nat.le_of_ble_eq_true rfl, Nat.le_of_ble_eq_true rfl⟩) rfl rfl (Nat.le_of_ble_eq_true rfl) dX1_init_100 ?_
  refine R_tk (fun h67 => ?_)
  refine R_ck (fun h68 => ?_)
  refine R_tk (fun h69 => ?_)
  refine N_aast4 C h67 h68 h69 dX1_init_103 (fun e70 => ?_)
  refine N_iinc (v := (1 : Int32)) (3 : Int32) (lv2 := [(2, .int (3 : Int32)), (0, .ref (G.1 + a0)), (1, .int (300 : Int32))]) 0 C dX1_init_104 rfl (by decide) (by decide) (by decide) rfl ?_
  refine R_goto C dX1_init_107 ?_
  refine R_iload_n C 0 rfl dX1_init_85 ?_
  refine R_bipush C (6) dX1_init_86 (by decide) ?_
  refine R_icmp_ge C dX1_init_88 (fun h => absurd h (by decide)) (fun _ => ?_)
  refine R_aload_n C 1 rfl dX1_init_91 ?_
  refine R_tk (fun h71 => ?_)
  refine R_dr (fun x72 rx72 cx72 => ?_)
  refine R_getr C fl1_17 rfl h71 rx72 dX1_init_92 ?_
  refine R_iload_n C 0 rfl dX1_init_95 ?_
  refine N_new C ci5 cl1_15 is5 iz5 (by rw [hR]; exact ⟨Nat.le_of_ble_eq_true rfl, Nat.le_of_ble_eq_true rfl⟩) dv5 dX1_init_96 (fun e73 s74 => ?_)
  refine R_dup C dX1_init_99 rfl ?_
  refine R_bc (fun e75 s76 q77 => ?_)
  refine N_call [] [.ref (G.1 + e70.1), .int (3 : Int32), .ref (G.1 + x72)] C D mi1_54 (kX5_init q77) (by rw [hR]; exact ⟨rfl, rfl, Nat.le_of_ble_eq_true rfl, Nat.le_of_ble_eq_true rfl, Nat.le_of_ble_eq_true rfl, Nat.le_of_ble_eq_true rfl⟩) rfl rfl (Nat.le_of_ble_eq_true rfl) dX1_init_100 ?_
  refine R_tk (fun h78 => ?_)
  refine R_ck (fun h79 => ?_)
  refine R_tk (fun h80 => ?_)
  refine N_aast4 C h78 h79 h80 dX1_init_103 (fun e81 => ?_)
  refine N_iinc (v := (1 : Int32)) (4 : Int32) (lv2 := [(2, .int (4 : Int32)), (0, .ref (G.1 + a0)), (1, .int (300 : Int32))]) 0 C dX1_init_104 rfl (by decide) (by decide) (by decide) rfl ?_
  refine R_goto C dX1_init_107 ?_
  refine R_iload_n C 0 rfl dX1_init_85 ?_
  refine R_bipush C (6) dX1_init_86 (by decide) ?_
  refine R_icmp_ge C dX1_init_88 (fun h => absurd h (by decide)) (fun _ => ?_)
  refine R_aload_n C 1 rfl dX1_init_91 ?_
  refine R_tk (fun h82 => ?_)
  refine R_dr (fun x83 rx83 cx83 => ?_)
  refine R_getr C fl1_17 rfl h82 rx83 dX1_init_92 ?_
  refine R_iload_n C 0 rfl dX1_init_95 ?_
  refine N_new C ci5 cl1_15 is5 iz5 (by rw [hR]; exact ⟨Nat.le_of_ble_eq_true rfl, Nat.le_of_ble_eq_true rfl⟩) dv5 dX1_init_96 (fun e84 s85 => ?_)
  refine R_dup C dX1_init_99 rfl ?_
  refine R_bc (fun e86 s87 q88 => ?_)
  refine N_call [] [.ref (G.1 + e81.1), .int (4 : Int32), .ref (G.1 + x83)] C D mi1_54 (kX5_init q88) (by rw [hR]; exact ⟨rfl, rfl, Nat.le_of_ble_eq_true rfl, Nat.le_of_ble_eq_true rfl, Nat.le_of_ble_eq_true rfl, Nat.le_of_ble_eq_true rfl⟩) rfl rfl (Nat.le_of_ble_eq_true rfl) dX1_init_100 ?_
  refine R_tk (fun h89 => ?_)
  refine R_ck (fun h90 => ?_)
  refine R_tk (fun h91 => ?_)
  refine N_aast4 C h89 h90 h91 dX1_init_103 (fun e92 => ?_)
  refine N_iinc (v := (1 : Int32)) (5 : Int32) (lv2 := [(2, .int (5 : Int32)), (0, .ref (G.1 + a0)), (1, .int (300 : Int32))]) 0 C dX1_init_104 rfl (by decide) (by decide) (by decide) rfl ?_
  refine R_goto C dX1_init_107 ?_
  refine R_iload_n C 0 rfl dX1_init_85 ?_
  refine R_bipush C (6) dX1_init_86 (by decide) ?_
  refine R_icmp_ge C dX1_init_88 (fun h => absurd h (by decide)) (fun _ => ?_)
  refine R_aload_n C 1 rfl dX1_init_91 ?_
  refine R_tk (fun h93 => ?_)
  refine R_dr (fun x94 rx94 cx94 => ?_)
  refine R_getr C fl1_17 rfl h93 rx94 dX1_init_92 ?_
  refine R_iload_n C 0 rfl dX1_init_95 ?_
  refine N_new C ci5 cl1_15 is5 iz5 (by rw [hR]; exact ⟨Nat.le_of_ble_eq_true rfl, Nat.le_of_ble_eq_true rfl⟩) dv5 dX1_init_96 (fun e95 s96 => ?_)
  refine R_dup C dX1_init_99 rfl ?_
  refine R_bc (fun e97 s98 q99 => ?_)
  refine N_call [] [.ref (G.1 + e92.1), .int (5 : Int32), .ref (G.1 + x94)] C D mi1_54 (kX5_init q99) (by rw [hR]; exact ⟨rfl, rfl, Nat.le_of_ble_eq_true rfl, Nat.le_of_ble_eq_true rfl, Nat.le_of_ble_eq_true rfl, Nat.le_of_ble_eq_true rfl⟩) rfl rfl (Nat.le_of_ble_eq_true rfl) dX1_init_100 ?_
  refine R_tk (fun h100 => ?_)
  refine R_ck (fun h101 => ?_)
  refine R_tk (fun h102 => ?_)
  refine N_aast4 C h100 h101 h102 dX1_init_103 (fun e103 => ?_)
  refine N_iinc (v := (1 : Int32)) (6 : Int32) (lv2 := [(2, .int (6 : Int32)), (0, .ref (G.1 + a0)), (1, .int (300 : Int32))]) 0 C dX1_init_104 rfl (by decide) (by decide) (by decide) rfl ?_
  refine R_goto C dX1_init_107 ?_
  refine R_iload_n C 0 rfl dX1_init_85 ?_
  refine R_bipush C (6) dX1_init_86 (by decide) ?_
  refine R_icmp_ge C dX1_init_88 (fun _ => ?_) (fun h => absurd (by decide) h)
  exact N_vret C D hr dX1_init_110
theorem mi4_39 : MI RX4 39 yX1_init cX1_init 3 1 := ⟨⟨(in1 (List.mem_of_getElem? (i := 5) rfl)), (in1 (List.mem_of_getElem? (i := 95) rfl)), by decide +kernel, by decide +kernel⟩, (in1 (List.mem_of_getElem? (i := 94) rfl)), rfl, Or.inr (in1 (List.mem_of_getElem? (i := 93) rfl))⟩
theorem dX4_init_50 : dk cX4_init 50 53 (.putfield 42) 3 := by unfold dk; decide +kernel
theorem dX4_init_53 : dk cX4_init 53 54 (.aload_n 0) 1 := by unfold dk; decide +kernel
theorem dX4_init_54 : dk cX4_init 54 57 (.sipush 300) 3 := by unfold dk; decide +kernel
theorem dX4_init_57 : dk cX4_init 57 59 (.newarray .int) 2 := by unfold dk; decide +kernel
theorem dX4_init_59 : dk cX4_init 59 62 (.putfield 46) 3 := by unfold dk; decide +kernel
theorem dX4_init_62 : dk cX4_init 62 63 (.aload_n 0) 1 := by unfold dk; decide +kernel
theorem dX4_init_63 : dk cX4_init 63 65 (.bipush 6) 2 := by unfold dk; decide +kernel
theorem dX4_init_65 : dk cX4_init 65 67 (.newarray .int) 2 := by unfold dk; decide +kernel
theorem dX4_init_67 : dk cX4_init 67 70 (.putfield 49) 3 := by unfold dk; decide +kernel
theorem dX4_init_70 : dk cX4_init 70 71 (.return_) 1 := by unfold dk; decide +kernel
set_option maxHeartbeats 4000000 in
set_option maxRecDepth 100000 in
theorem kX4_init {l : Launch} {G : Gl} {E E' : En} {a0 : Nat} {σ σ' : Sg} : gX4_init E a0 σ = some (E', σ') → CTI l yX4_init cX4_init 1 ({ frames := 3, cells := 32, slots := 3749, locals := 62 } : Room) [.ref (G.1 + a0)] G E σ E' σ' 32 3749 := by
  intro h
  refine CTI_of (lv0 := [(0, .ref (G.1 + a0))]) (by decide) (Nat.le_of_ble_eq_true rfl) rfl rfl (fun κ hl hR hr hnm D C => ?_)
  have C : Cx κ G cX4_init RX4 1 := C
  revert h
  unfold gX4_init
  refine R_aload_n C 0 rfl dX4_init_0 ?_
  refine N_obj C oi4_3 (by rw [hR]; exact ⟨Nat.le_of_ble_eq_true rfl, Nat.le_of_ble_eq_true rfl⟩) dX4_init_1 ?_
  refine R_aload_n C 0 rfl dX4_init_4 ?_
  refine N_new C ci3 cl4_9 is3 iz3 (by rw [hR]; exact ⟨Nat.le_of_ble_eq_true rfl, Nat.le_of_ble_eq_true rfl⟩) dv3 dX4_init_5 (fun e1 s2 => ?_)
  refine R_dup C dX4_init_8 rfl ?_
  refine R_bc (fun e3 s4 q5 => ?_)
  refine N_call [] [.ref (G.1 + E.1), .ref (G.1 + a0)] C D mi4_11 (kX3_init q5) (by rw [hR]; exact ⟨rfl, rfl, Nat.le_of_ble_eq_true rfl, Nat.le_of_ble_eq_true rfl, Nat.le_of_ble_eq_true rfl, Nat.le_of_ble_eq_true rfl⟩) rfl rfl (Nat.le_of_ble_eq_true rfl) dX4_init_9 ?_
  refine R_tk (fun h6 => ?_)
  refine N_putr C hnm ⟨_, _, ci4, by omega, rfl, (in1 (List.mem_of_getElem? (i := 206) rfl))⟩ rfl h6 rfl rfl dX4_init_12 (fun e7 => ?_)
  refine R_aload_n C 0 rfl dX4_init_15 ?_
  refine N_gets C gn4_18 dX4_init_16 ?_
  refine N_clone C D cm4_22 (by rw [hR]; exact ⟨Nat.le_of_ble_eq_true rfl, Nat.le_of_ble_eq_true rfl, Nat.le_of_ble_eq_true rfl, Nat.le_of_ble_eq_true rfl⟩) dX4_init_19 (fun e8 s9 => ?_)
  refine R_tk (fun h10 => ?_)
  refine N_cast C h10 cl4_23 dX4_init_22 ?_
  refine R_tk (fun h11 => ?_)
  refine N_putr C hnm ⟨_, _, ci4, by omega, rfl, (in1 (List.mem_of_getElem? (i := 208) rfl))⟩ rfl h11 rfl rfl dX4_init_25 (fun e12 => ?_)
  refine R_aload_n C 0 rfl dX4_init_28 ?_
  refine N_new C ci0 cl4_30 is0 iz0 (by rw [hR]; exact ⟨Nat.le_of_ble_eq_true rfl, Nat.le_of_ble_eq_true rfl⟩) dv0 dX4_init_29 (fun e13 s14 => ?_)
  refine R_dup C dX4_init_32 rfl ?_
  refine R_bc (fun e15 s16 q17 => ?_)
  refine N_call [] [.ref (G.1 + e12.1), .ref (G.1 + a0)] C D mi4_32 (kX0_init q17) (by rw [hR]; exact ⟨rfl, rfl, Nat.le_of_ble_eq_true rfl, Nat.le_of_ble_eq_true rfl, Nat.le_of_ble_eq_true rfl, Nat.le_of_ble_eq_true rfl⟩) rfl rfl (Nat.le_of_ble_eq_true rfl) dX4_init_33 ?_
  refine R_tk (fun h18 => ?_)
  refine N_putr C hnm ⟨_, _, ci4, by omega, rfl, (in1 (List.mem_of_getElem? (i := 212) rfl))⟩ rfl h18 rfl rfl dX4_init_36 (fun e19 => ?_)
  refine R_aload_n C 0 rfl dX4_init_39 ?_
  refine N_new C ci1 cl4_37 is1 iz1 (by rw [hR]; exact ⟨Nat.le_of_ble_eq_true rfl, Nat.le_of_ble_eq_true rfl⟩) dv1 dX4_init_40 (fun e20 s21 => ?_)
  refine R_dup C dX4_init_43 rfl ?_
  refine R_sipush C (300) dX4_init_44 (by decide) ?_
  refine R_bc (fun e22 s23 q24 => ?_)
  refine N_call [.int (300 : Int32)] [.ref (G.1 + e19.1), .ref (G.1 + a0)] C D mi4_39 (kX1_init_300 q24) (by rw [hR]; exact ⟨rfl, rfl, Nat.le_of_ble_eq_true rfl, Nat.le_of_ble_eq_true rfl, Nat.le_of_ble_eq_true rfl, Nat.le_of_ble_eq_true rfl⟩) rfl rfl (Nat.le_of_ble_eq_true rfl) dX4_init_47 ?_
  refine R_tk (fun h25 => ?_)
  refine N_putr C hnm ⟨_, _, ci4, by omega, rfl, (in1 (List.mem_of_getElem? (i := 214) rfl))⟩ rfl h25 rfl rfl dX4_init_50 (fun e26 => ?_)
  refine R_aload_n C 0 rfl dX4_init_53 ?_
  refine R_sipush C (300) dX4_init_54 (by decide) ?_
  refine N_nai 300 C (by decide) (by decide) (Nat.le_of_ble_eq_true rfl) (by rw [hR]; exact ⟨Nat.le_of_ble_eq_true rfl, Nat.le_of_ble_eq_true rfl⟩) dX4_init_57 (fun e27 s28 => ?_)
  refine R_tk (fun h29 => ?_)
  refine N_putr C hnm ⟨_, _, ci4, by omega, rfl, (in1 (List.mem_of_getElem? (i := 216) rfl))⟩ rfl h29 rfl rfl dX4_init_59 (fun e30 => ?_)
  refine R_aload_n C 0 rfl dX4_init_62 ?_
  refine R_bipush C (6) dX4_init_63 (by decide) ?_
  refine N_nai 6 C (by decide) (by decide) (Nat.le_of_ble_eq_true rfl) (by rw [hR]; exact ⟨Nat.le_of_ble_eq_true rfl, Nat.le_of_ble_eq_true rfl⟩) dX4_init_65 (fun e31 s32 => ?_)
  refine R_tk (fun h33 => ?_)
  refine N_putr C hnm ⟨_, _, ci4, by omega, rfl, (in1 (List.mem_of_getElem? (i := 217) rfl))⟩ rfl h33 rfl rfl dX4_init_67 (fun e34 => ?_)
  exact N_vret C D hr dX4_init_70
theorem mi6_15 : MI RX6 15 yX4_init cX4_init 1 0 := ⟨⟨(in1 (List.mem_of_getElem? (i := 2) rfl)), (in1 (List.mem_of_getElem? (i := 23) rfl)), by decide +kernel, by decide +kernel⟩, (in1 (List.mem_of_getElem? (i := 22) rfl)), rfl, Or.inr (in1 (List.mem_of_getElem? (i := 21) rfl))⟩
theorem dX6_init_21 : dk cX6_init 21 24 (.putfield 16) 3 := by unfold dk; decide +kernel
theorem dX6_init_24 : dk cX6_init 24 25 (.aload_n 0) 1 := by unfold dk; decide +kernel
theorem dX6_init_25 : dk cX6_init 25 27 (.bipush 8) 2 := by unfold dk; decide +kernel
theorem dX6_init_27 : dk cX6_init 27 30 (.anewarray 13) 3 := by unfold dk; decide +kernel
theorem dX6_init_30 : dk cX6_init 30 33 (.putfield 20) 3 := by unfold dk; decide +kernel
theorem dX6_init_33 : dk cX6_init 33 34 (.aload_n 0) 1 := by unfold dk; decide +kernel
theorem dX6_init_34 : dk cX6_init 34 36 (.bipush 8) 2 := by unfold dk; decide +kernel
theorem dX6_init_36 : dk cX6_init 36 38 (.newarray .int) 2 := by unfold dk; decide +kernel
theorem dX6_init_38 : dk cX6_init 38 41 (.putfield 24) 3 := by unfold dk; decide +kernel
theorem dX6_init_41 : dk cX6_init 41 42 (.aload_n 0) 1 := by unfold dk; decide +kernel
theorem dX6_init_42 : dk cX6_init 42 43 (.iconst 2) 1 := by unfold dk; decide +kernel
theorem dX6_init_43 : dk cX6_init 43 46 (.anewarray 13) 3 := by unfold dk; decide +kernel
theorem dX6_init_46 : dk cX6_init 46 49 (.putfield 27) 3 := by unfold dk; decide +kernel
theorem dX6_init_49 : dk cX6_init 49 50 (.aload_n 0) 1 := by unfold dk; decide +kernel
theorem dX6_init_50 : dk cX6_init 50 51 (.iconst 2) 1 := by unfold dk; decide +kernel
theorem dX6_init_51 : dk cX6_init 51 53 (.newarray .boolean) 2 := by unfold dk; decide +kernel
theorem dX6_init_53 : dk cX6_init 53 56 (.putfield 30) 3 := by unfold dk; decide +kernel
theorem dX6_init_56 : dk cX6_init 56 57 (.aload_n 0) 1 := by unfold dk; decide +kernel
theorem dX6_init_57 : dk cX6_init 57 60 (.new 34) 3 := by unfold dk; decide +kernel
theorem cl6_34 : Cond.classLink RX6 34 RX1 ∈ lw_tbl := (in1 (List.mem_of_getElem? (i := 234) rfl))
theorem dX6_init_60 : dk cX6_init 60 61 (.dup) 1 := by unfold dk; decide +kernel
theorem dX6_init_61 : dk cX6_init 61 64 (.sipush 700) 3 := by unfold dk; decide +kernel
theorem dX6_init_64 : dk cX6_init 64 67 (.invokespecial 36) 3 := by unfold dk; decide +kernel
set_option maxHeartbeats 4000000 in
set_option maxRecDepth 100000 in
theorem kX1_init_700 {l : Launch} {G : Gl} {E E' : En} {a0 : Nat} {σ σ' : Sg} : gX1_init_700 E a0 σ = some (E', σ') → CTI l yX1_init cX1_init 3 ({ frames := 2, cells := 21, slots := 2992, locals := 40 } : Room) [.ref (G.1 + a0), .int (700 : Int32)] G E σ E' σ' 21 2992 := by
  intro h
  refine CTI_of (lv0 := [(0, .ref (G.1 + a0)), (1, .int (700 : Int32))]) (by decide) (Nat.le_of_ble_eq_true rfl) rfl rfl (fun κ hl hR hr hnm D C => ?_)
  have C : Cx κ G cX1_init RX1 3 := C
  revert h
  unfold gX1_init_700
  refine R_aload_n C 0 rfl dX1_init_0 ?_
  refine N_obj C oi1_3 (by rw [hR]; exact ⟨Nat.le_of_ble_eq_true rfl, Nat.le_of_ble_eq_true rfl⟩) dX1_init_1 ?_
  refine R_aload_n C 0 rfl dX1_init_4 ?_
  refine R_iconst C (1) dX1_init_5 (by decide) ?_
  refine R_tk (fun h1 => ?_)
  refine N_puti C ⟨_, _, ci1, by omega, rfl, (in1 (List.mem_of_getElem? (i := 140) rfl))⟩ rfl h1 rfl rfl dX1_init_6 (fun s2 => ?_)
  refine R_aload_n C 0 rfl dX1_init_9 ?_
  refine R_bipush C (6) dX1_init_10 (by decide) ?_
  refine N_na4 6 C D cl1_15 (by decide) (by decide) (Nat.le_of_ble_eq_true rfl) (by rw [hR]; exact ⟨Nat.le_of_ble_eq_true rfl, Nat.le_of_ble_eq_true rfl⟩) dX1_init_12 (fun e3 s4 => ?_)
  refine R_tk (fun h5 => ?_)
  refine N_putr C hnm ⟨_, _, ci1, by omega, rfl, (in1 (List.mem_of_getElem? (i := 143) rfl))⟩ rfl h5 rfl rfl dX1_init_15 (fun e6 => ?_)
  refine R_aload_n C 0 rfl dX1_init_18 ?_
  refine R_bipush C (6) dX1_init_19 (by decide) ?_
  refine N_naz 6 C (by decide) (by decide) (Nat.le_of_ble_eq_true rfl) (by rw [hR]; exact ⟨Nat.le_of_ble_eq_true rfl, Nat.le_of_ble_eq_true rfl⟩) dX1_init_21 (fun e7 s8 => ?_)
  refine R_tk (fun h9 => ?_)
  refine N_putr C hnm ⟨_, _, ci1, by omega, rfl, (in1 (List.mem_of_getElem? (i := 153) rfl))⟩ rfl h9 rfl rfl dX1_init_23 (fun e10 => ?_)
  refine R_aload_n C 0 rfl dX1_init_26 ?_
  refine R_bipush C (6) dX1_init_27 (by decide) ?_
  refine N_nai 6 C (by decide) (by decide) (Nat.le_of_ble_eq_true rfl) (by rw [hR]; exact ⟨Nat.le_of_ble_eq_true rfl, Nat.le_of_ble_eq_true rfl⟩) dX1_init_29 (fun e11 s12 => ?_)
  refine R_tk (fun h13 => ?_)
  refine N_putr C hnm ⟨_, _, ci1, by omega, rfl, (in1 (List.mem_of_getElem? (i := 155) rfl))⟩ rfl h13 rfl rfl dX1_init_31 (fun e14 => ?_)
  refine R_aload_n C 0 rfl dX1_init_34 ?_
  refine R_bipush C (6) dX1_init_35 (by decide) ?_
  refine N_nai 6 C (by decide) (by decide) (Nat.le_of_ble_eq_true rfl) (by rw [hR]; exact ⟨Nat.le_of_ble_eq_true rfl, Nat.le_of_ble_eq_true rfl⟩) dX1_init_37 (fun e15 s16 => ?_)
  refine R_tk (fun h17 => ?_)
  refine N_putr C hnm ⟨_, _, ci1, by omega, rfl, (in1 (List.mem_of_getElem? (i := 157) rfl))⟩ rfl h17 rfl rfl dX1_init_39 (fun e18 => ?_)
  refine R_aload_n C 0 rfl dX1_init_42 ?_
  refine N_new C ci2 cl1_32 is2 iz2 (by rw [hR]; exact ⟨Nat.le_of_ble_eq_true rfl, Nat.le_of_ble_eq_true rfl⟩) dv2 dX1_init_43 (fun e19 s20 => ?_)
  refine R_dup C dX1_init_46 rfl ?_
  refine R_bc (fun e21 s22 q23 => ?_)
  refine N_call [] [.ref (G.1 + e18.1), .ref (G.1 + a0)] C D mi1_34 (kX2_init q23) (by rw [hR]; exact ⟨rfl, rfl, Nat.le_of_ble_eq_true rfl, Nat.le_of_ble_eq_true rfl, Nat.le_of_ble_eq_true rfl, Nat.le_of_ble_eq_true rfl⟩) rfl rfl (Nat.le_of_ble_eq_true rfl) dX1_init_47 ?_
  refine R_tk (fun h24 => ?_)
  refine N_putr C hnm ⟨_, _, ci1, by omega, rfl, (in1 (List.mem_of_getElem? (i := 165) rfl))⟩ rfl h24 rfl rfl dX1_init_50 (fun e25 => ?_)
  refine R_aload_n C 0 rfl dX1_init_53 ?_
  refine R_bipush C (6) dX1_init_54 (by decide) ?_
  refine N_nai 6 C (by decide) (by decide) (Nat.le_of_ble_eq_true rfl) (by rw [hR]; exact ⟨Nat.le_of_ble_eq_true rfl, Nat.le_of_ble_eq_true rfl⟩) dX1_init_56 (fun e26 s27 => ?_)
  refine R_tk (fun h28 => ?_)
  refine N_putr C hnm ⟨_, _, ci1, by omega, rfl, (in1 (List.mem_of_getElem? (i := 166) rfl))⟩ rfl h28 rfl rfl dX1_init_58 (fun e29 => ?_)
  refine R_aload_n C 0 rfl dX1_init_61 ?_
  refine R_iload_n C 1 rfl dX1_init_62 ?_
  refine R_iconst C (0) dX1_init_63 (by decide) ?_
  refine N_max (700 : Int32) (by decide) C jd1_42 (by rw [hR]; exact ⟨Nat.le_of_ble_eq_true rfl, Nat.le_of_ble_eq_true rfl, Nat.le_of_ble_eq_true rfl, Nat.le_of_ble_eq_true rfl⟩) dX1_init_64 ?_
  refine N_nai 700 C (by decide) (by decide) (Nat.le_of_ble_eq_true rfl) (by rw [hR]; exact ⟨Nat.le_of_ble_eq_true rfl, Nat.le_of_ble_eq_true rfl⟩) dX1_init_67 (fun e30 s31 => ?_)
  refine R_tk (fun h32 => ?_)
  refine N_putr C hnm ⟨_, _, ci1, by omega, rfl, (in1 (List.mem_of_getElem? (i := 145) rfl))⟩ rfl h32 rfl rfl dX1_init_69 (fun e33 => ?_)
  refine R_aload_n C 0 rfl dX1_init_72 ?_
  refine R_iload_n C 1 rfl dX1_init_73 ?_
  refine R_iconst C (0) dX1_init_74 (by decide) ?_
  refine N_max (700 : Int32) (by decide) C jd1_42 (by rw [hR]; exact ⟨Nat.le_of_ble_eq_true rfl, Nat.le_of_ble_eq_true rfl, Nat.le_of_ble_eq_true rfl, Nat.le_of_ble_eq_true rfl⟩) dX1_init_75 ?_
  refine N_naz 700 C (by decide) (by decide) (Nat.le_of_ble_eq_true rfl) (by rw [hR]; exact ⟨Nat.le_of_ble_eq_true rfl, Nat.le_of_ble_eq_true rfl⟩) dX1_init_78 (fun e34 s35 => ?_)
  refine R_tk (fun h36 => ?_)
  refine N_putr C hnm ⟨_, _, ci1, by omega, rfl, (in1 (List.mem_of_getElem? (i := 146) rfl))⟩ rfl h36 rfl rfl dX1_init_80 (fun e37 => ?_)
  refine R_iconst C (0) dX1_init_83 (by decide) ?_
  refine R_istore_n (lv2 := [(2, .int (0 : Int32)), (0, .ref (G.1 + a0)), (1, .int (700 : Int32))]) C dX1_init_84 rfl (by decide) rfl ?_
  refine R_iload_n C 0 rfl dX1_init_85 ?_
  refine R_bipush C (6) dX1_init_86 (by decide) ?_
  refine R_icmp_ge C dX1_init_88 (fun h => absurd h (by decide)) (fun _ => ?_)
  refine R_aload_n C 1 rfl dX1_init_91 ?_
  refine R_tk (fun h38 => ?_)
  refine R_dr (fun x39 rx39 cx39 => ?_)
  refine R_getr C fl1_17 rfl h38 rx39 dX1_init_92 ?_
  refine R_iload_n C 0 rfl dX1_init_95 ?_
  refine N_new C ci5 cl1_15 is5 iz5 (by rw [hR]; exact ⟨Nat.le_of_ble_eq_true rfl, Nat.le_of_ble_eq_true rfl⟩) dv5 dX1_init_96 (fun e40 s41 => ?_)
  refine R_dup C dX1_init_99 rfl ?_
  refine R_bc (fun e42 s43 q44 => ?_)
  refine N_call [] [.ref (G.1 + e37.1), .int (0 : Int32), .ref (G.1 + x39)] C D mi1_54 (kX5_init q44) (by rw [hR]; exact ⟨rfl, rfl, Nat.le_of_ble_eq_true rfl, Nat.le_of_ble_eq_true rfl, Nat.le_of_ble_eq_true rfl, Nat.le_of_ble_eq_true rfl⟩) rfl rfl (Nat.le_of_ble_eq_true rfl) dX1_init_100 ?_
  refine R_tk (fun h45 => ?_)
  refine R_ck (fun h46 => ?_)
  refine R_tk (fun h47 => ?_)
  refine N_aast4 C h45 h46 h47 dX1_init_103 (fun e48 => ?_)
  refine N_iinc (v := (1 : Int32)) (1 : Int32) (lv2 := [(2, .int (1 : Int32)), (0, .ref (G.1 + a0)), (1, .int (700 : Int32))]) 0 C dX1_init_104 rfl (by decide) (by decide) (by decide) rfl ?_
  refine R_goto C dX1_init_107 ?_
  refine R_iload_n C 0 rfl dX1_init_85 ?_
  refine R_bipush C (6) dX1_init_86 (by decide) ?_
  refine R_icmp_ge C dX1_init_88 (fun h => absurd h (by decide)) (fun _ => ?_)
  refine R_aload_n C 1 rfl dX1_init_91 ?_
  refine R_tk (fun h49 => ?_)
  refine R_dr (fun x50 rx50 cx50 => ?_)
  refine R_getr C fl1_17 rfl h49 rx50 dX1_init_92 ?_
  refine R_iload_n C 0 rfl dX1_init_95 ?_
  refine N_new C ci5 cl1_15 is5 iz5 (by rw [hR]; exact ⟨Nat.le_of_ble_eq_true rfl, Nat.le_of_ble_eq_true rfl⟩) dv5 dX1_init_96 (fun e51 s52 => ?_)
  refine R_dup C dX1_init_99 rfl ?_
  refine R_bc (fun e53 s54 q55 => ?_)
  refine N_call [] [.ref (G.1 + e48.1), .int (1 : Int32), .ref (G.1 + x50)] C D mi1_54 (kX5_init q55) (by rw [hR]; exact ⟨rfl, rfl, Nat.le_of_ble_eq_true rfl, Nat.le_of_ble_eq_true rfl, Nat.le_of_ble_eq_true rfl, Nat.le_of_ble_eq_true rfl⟩) rfl rfl (Nat.le_of_ble_eq_true rfl) dX1_init_100 ?_
  refine R_tk (fun h56 => ?_)
  refine R_ck (fun h57 => ?_)
  refine R_tk (fun h58 => ?_)
  refine N_aast4 C h56 h57 h58 dX1_init_103 (fun e59 => ?_)
  refine N_iinc (v := (1 : Int32)) (2 : Int32) (lv2 := [(2, .int (2 : Int32)), (0, .ref (G.1 + a0)), (1, .int (700 : Int32))]) 0 C dX1_init_104 rfl (by decide) (by decide) (by decide) rfl ?_
  refine R_goto C dX1_init_107 ?_
  refine R_iload_n C 0 rfl dX1_init_85 ?_
  refine R_bipush C (6) dX1_init_86 (by decide) ?_
  refine R_icmp_ge C dX1_init_88 (fun h => absurd h (by decide)) (fun _ => ?_)
  refine R_aload_n C 1 rfl dX1_init_91 ?_
  refine R_tk (fun h60 => ?_)
  refine R_dr (fun x61 rx61 cx61 => ?_)
  refine R_getr C fl1_17 rfl h60 rx61 dX1_init_92 ?_
  refine R_iload_n C 0 rfl dX1_init_95 ?_
  refine N_new C ci5 cl1_15 is5 iz5 (by rw [hR]; exact ⟨Nat.le_of_ble_eq_true rfl, Nat.le_of_ble_eq_true rfl⟩) dv5 dX1_init_96 (fun e62 s63 => ?_)
  refine R_dup C dX1_init_99 rfl ?_
  refine R_bc (fun e64 s65 q66 => ?_)
  refine N_call [] [.ref (G.1 + e59.1), .int (2 : Int32), .ref (G.1 + x61)] C D mi1_54 (kX5_init q66) (by rw [hR]; exact ⟨rfl, rfl, Nat.le_of_ble_eq_true rfl, Nat.le_of_ble_eq_true rfl, Nat.le_of_ble_eq_true rfl, Nat.le_of_ble_eq_true rfl⟩) rfl rfl (Nat.le_of_ble_eq_true rfl) dX1_init_100 ?_
  refine R_tk (fun h67 => ?_)
  refine R_ck (fun h68 => ?_)
  refine R_tk (fun h69 => ?_)
  refine N_aast4 C h67 h68 h69 dX1_init_103 (fun e70 => ?_)
  refine N_iinc (v := (1 : Int32)) (3 : Int32) (lv2 := [(2, .int (3 : Int32)), (0, .ref (G.1 + a0)), (1, .int (700 : Int32))]) 0 C dX1_init_104 rfl (by decide) (by decide) (by decide) rfl ?_
  refine R_goto C dX1_init_107 ?_
  refine R_iload_n C 0 rfl dX1_init_85 ?_
  refine R_bipush C (6) dX1_init_86 (by decide) ?_
  refine R_icmp_ge C dX1_init_88 (fun h => absurd h (by decide)) (fun _ => ?_)
  refine R_aload_n C 1 rfl dX1_init_91 ?_
  refine R_tk (fun h71 => ?_)
  refine R_dr (fun x72 rx72 cx72 => ?_)
  refine R_getr C fl1_17 rfl h71 rx72 dX1_init_92 ?_
  refine R_iload_n C 0 rfl dX1_init_95 ?_
  refine N_new C ci5 cl1_15 is5 iz5 (by rw [hR]; exact ⟨Nat.le_of_ble_eq_true rfl, Nat.le_of_ble_eq_true rfl⟩) dv5 dX1_init_96 (fun e73 s74 => ?_)
  refine R_dup C dX1_init_99 rfl ?_
  refine R_bc (fun e75 s76 q77 => ?_)
  refine N_call [] [.ref (G.1 + e70.1), .int (3 : Int32), .ref (G.1 + x72)] C D mi1_54 (kX5_init q77) (by rw [hR]; exact ⟨rfl, rfl, Nat.le_of_ble_eq_true rfl, Nat.le_of_ble_eq_true rfl, Nat.le_of_ble_eq_true rfl, Nat.le_of_ble_eq_true rfl⟩) rfl rfl (Nat.le_of_ble_eq_true rfl) dX1_init_100 ?_
  refine R_tk (fun h78 => ?_)
  refine R_ck (fun h79 => ?_)
  refine R_tk (fun h80 => ?_)
  refine N_aast4 C h78 h79 h80 dX1_init_103 (fun e81 => ?_)
  refine N_iinc (v := (1 : Int32)) (4 : Int32) (lv2 := [(2, .int (4 : Int32)), (0, .ref (G.1 + a0)), (1, .int (700 : Int32))]) 0 C dX1_init_104 rfl (by decide) (by decide) (by decide) rfl ?_
  refine R_goto C dX1_init_107 ?_
  refine R_iload_n C 0 rfl dX1_init_85 ?_
  refine R_bipush C (6) dX1_init_86 (by decide) ?_
  refine R_icmp_ge C dX1_init_88 (fun h => absurd h (by decide)) (fun _ => ?_)
  refine R_aload_n C 1 rfl dX1_init_91 ?_
  refine R_tk (fun h82 => ?_)
  refine R_dr (fun x83 rx83 cx83 => ?_)
  refine R_getr C fl1_17 rfl h82 rx83 dX1_init_92 ?_
  refine R_iload_n C 0 rfl dX1_init_95 ?_
  refine N_new C ci5 cl1_15 is5 iz5 (by rw [hR]; exact ⟨Nat.le_of_ble_eq_true rfl, Nat.le_of_ble_eq_true rfl⟩) dv5 dX1_init_96 (fun e84 s85 => ?_)
  refine R_dup C dX1_init_99 rfl ?_
  refine R_bc (fun e86 s87 q88 => ?_)
  refine N_call [] [.ref (G.1 + e81.1), .int (4 : Int32), .ref (G.1 + x83)] C D mi1_54 (kX5_init q88) (by rw [hR]; exact ⟨rfl, rfl, Nat.le_of_ble_eq_true rfl, Nat.le_of_ble_eq_true rfl, Nat.le_of_ble_eq_true rfl, Nat.le_of_ble_eq_true rfl⟩) rfl rfl (Nat.le_of_ble_eq_true rfl) dX1_init_100 ?_
  refine R_tk (fun h89 => ?_)
  refine R_ck (fun h90 => ?_)
  refine R_tk (fun h91 => ?_)
  refine N_aast4 C h89 h90 h91 dX1_init_103 (fun e92 => ?_)
  refine N_iinc (v := (1 : Int32)) (5 : Int32) (lv2 := [(2, .int (5 : Int32)), (0, .ref (G.1 + a0)), (1, .int (700 : Int32))]) 0 C dX1_init_104 rfl (by decide) (by decide) (by decide) rfl ?_
  refine R_goto C dX1_init_107 ?_
  refine R_iload_n C 0 rfl dX1_init_85 ?_
  refine R_bipush C (6) dX1_init_86 (by decide) ?_
  refine R_icmp_ge C dX1_init_88 (fun h => absurd h (by decide)) (fun _ => ?_)
  refine R_aload_n C 1 rfl dX1_init_91 ?_
  refine R_tk (fun h93 => ?_)
  refine R_dr (fun x94 rx94 cx94 => ?_)
  refine R_getr C fl1_17 rfl h93 rx94 dX1_init_92 ?_
  refine R_iload_n C 0 rfl dX1_init_95 ?_
  refine N_new C ci5 cl1_15 is5 iz5 (by rw [hR]; exact ⟨Nat.le_of_ble_eq_true rfl, Nat.le_of_ble_eq_true rfl⟩) dv5 dX1_init_96 (fun e95 s96 => ?_)
  refine R_dup C dX1_init_99 rfl ?_
  refine R_bc (fun e97 s98 q99 => ?_)
  refine N_call [] [.ref (G.1 + e92.1), .int (5 : Int32), .ref (G.1 + x94)] C D mi1_54 (kX5_init q99) (by rw [hR]; exact ⟨rfl, rfl, Nat.le_of_ble_eq_true rfl, Nat.le_of_ble_eq_true rfl, Nat.le_of_ble_eq_true rfl, Nat.le_of_ble_eq_true rfl⟩) rfl rfl (Nat.le_of_ble_eq_true rfl) dX1_init_100 ?_
  refine R_tk (fun h100 => ?_)
  refine R_ck (fun h101 => ?_)
  refine R_tk (fun h102 => ?_)
  refine N_aast4 C h100 h101 h102 dX1_init_103 (fun e103 => ?_)
  refine N_iinc (v := (1 : Int32)) (6 : Int32) (lv2 := [(2, .int (6 : Int32)), (0, .ref (G.1 + a0)), (1, .int (700 : Int32))]) 0 C dX1_init_104 rfl (by decide) (by decide) (by decide) rfl ?_
  refine R_goto C dX1_init_107 ?_
  refine R_iload_n C 0 rfl dX1_init_85 ?_
  refine R_bipush C (6) dX1_init_86 (by decide) ?_
  refine R_icmp_ge C dX1_init_88 (fun _ => ?_) (fun h => absurd (by decide) h)
  exact N_vret C D hr dX1_init_110
theorem mi6_36 : MI RX6 36 yX1_init cX1_init 3 1 := ⟨⟨(in1 (List.mem_of_getElem? (i := 5) rfl)), (in1 (List.mem_of_getElem? (i := 95) rfl)), by decide +kernel, by decide +kernel⟩, (in1 (List.mem_of_getElem? (i := 94) rfl)), rfl, Or.inr (in1 (List.mem_of_getElem? (i := 235) rfl))⟩
theorem dX6_init_67 : dk cX6_init 67 70 (.putfield 39) 3 := by unfold dk; decide +kernel
theorem dX6_init_70 : dk cX6_init 70 71 (.aload_n 0) 1 := by unfold dk; decide +kernel
theorem dX6_init_71 : dk cX6_init 71 74 (.new 43) 3 := by unfold dk; decide +kernel
theorem cl6_43 : Cond.classLink RX6 43 RX2 ∈ lw_tbl := (in1 (List.mem_of_getElem? (i := 236) rfl))
theorem dX6_init_74 : dk cX6_init 74 75 (.dup) 1 := by unfold dk; decide +kernel
theorem dX6_init_75 : dk cX6_init 75 78 (.invokespecial 45) 3 := by unfold dk; decide +kernel
theorem mi6_45 : MI RX6 45 yX2_init cX2_init 1 0 := ⟨⟨(in1 (List.mem_of_getElem? (i := 6) rfl)), (in1 (List.mem_of_getElem? (i := 103) rfl)), by decide +kernel, by decide +kernel⟩, (in1 (List.mem_of_getElem? (i := 102) rfl)), rfl, Or.inr (in1 (List.mem_of_getElem? (i := 237) rfl))⟩
theorem dX6_init_78 : dk cX6_init 78 81 (.putfield 46) 3 := by unfold dk; decide +kernel
theorem dX6_init_81 : dk cX6_init 81 82 (.aload_n 0) 1 := by unfold dk; decide +kernel
theorem dX6_init_82 : dk cX6_init 82 85 (.sipush 300) 3 := by unfold dk; decide +kernel
theorem dX6_init_85 : dk cX6_init 85 87 (.newarray .int) 2 := by unfold dk; decide +kernel
theorem dX6_init_87 : dk cX6_init 87 90 (.putfield 50) 3 := by unfold dk; decide +kernel
theorem dX6_init_90 : dk cX6_init 90 91 (.aload_n 0) 1 := by unfold dk; decide +kernel
theorem dX6_init_91 : dk cX6_init 91 94 (.sipush 700) 3 := by unfold dk; decide +kernel
theorem dX6_init_94 : dk cX6_init 94 96 (.newarray .long) 2 := by unfold dk; decide +kernel
theorem dX6_init_96 : dk cX6_init 96 99 (.putfield 53) 3 := by unfold dk; decide +kernel
theorem dX6_init_99 : dk cX6_init 99 100 (.iconst 0) 1 := by unfold dk; decide +kernel
theorem dX6_init_100 : dk cX6_init 100 101 (.istore_n 1) 1 := by unfold dk; decide +kernel
theorem dX6_init_101 : dk cX6_init 101 102 (.iload_n 1) 1 := by unfold dk; decide +kernel
theorem dX6_init_102 : dk cX6_init 102 104 (.bipush 8) 2 := by unfold dk; decide +kernel
theorem dX6_init_104 : bk cX6_init 104 107 126 (.if_icmp .ge 22) (22) := by unfold bk; decide +kernel
theorem dX6_init_107 : dk cX6_init 107 108 (.aload_n 0) 1 := by unfold dk; decide +kernel
theorem dX6_init_108 : dk cX6_init 108 111 (.getfield 20) 3 := by unfold dk; decide +kernel
theorem dX6_init_111 : dk cX6_init 111 112 (.iload_n 1) 1 := by unfold dk; decide +kernel
theorem dX6_init_112 : dk cX6_init 112 115 (.new 13) 3 := by unfold dk; decide +kernel
theorem dX6_init_115 : dk cX6_init 115 116 (.dup) 1 := by unfold dk; decide +kernel
theorem dX6_init_116 : dk cX6_init 116 119 (.invokespecial 15) 3 := by unfold dk; decide +kernel
theorem dX6_init_119 : dk cX6_init 119 120 (.aastore) 1 := by unfold dk; decide +kernel
theorem dX6_init_120 : dk cX6_init 120 123 (.iinc 1 1) 3 := by unfold dk; decide +kernel
theorem dX6_init_123 : bk cX6_init 123 126 101 (.goto (-22)) (-22) := by unfold bk; decide +kernel
theorem dX6_init_126 : dk cX6_init 126 127 (.iconst 0) 1 := by unfold dk; decide +kernel
theorem dX6_init_127 : dk cX6_init 127 128 (.istore_n 1) 1 := by unfold dk; decide +kernel
theorem dX6_init_128 : dk cX6_init 128 129 (.iload_n 1) 1 := by unfold dk; decide +kernel
theorem dX6_init_129 : dk cX6_init 129 130 (.iconst 2) 1 := by unfold dk; decide +kernel
theorem dX6_init_130 : bk cX6_init 130 133 152 (.if_icmp .ge 22) (22) := by unfold bk; decide +kernel
theorem dX6_init_133 : dk cX6_init 133 134 (.aload_n 0) 1 := by unfold dk; decide +kernel
theorem dX6_init_134 : dk cX6_init 134 137 (.getfield 27) 3 := by unfold dk; decide +kernel
theorem dX6_init_137 : dk cX6_init 137 138 (.iload_n 1) 1 := by unfold dk; decide +kernel
theorem dX6_init_138 : dk cX6_init 138 141 (.new 13) 3 := by unfold dk; decide +kernel
theorem dX6_init_141 : dk cX6_init 141 142 (.dup) 1 := by unfold dk; decide +kernel
theorem dX6_init_142 : dk cX6_init 142 145 (.invokespecial 15) 3 := by unfold dk; decide +kernel
theorem dX6_init_145 : dk cX6_init 145 146 (.aastore) 1 := by unfold dk; decide +kernel
theorem dX6_init_146 : dk cX6_init 146 149 (.iinc 1 1) 3 := by unfold dk; decide +kernel
theorem dX6_init_149 : bk cX6_init 149 152 128 (.goto (-21)) (-21) := by unfold bk; decide +kernel
theorem dX6_init_152 : dk cX6_init 152 153 (.return_) 1 := by unfold dk; decide +kernel
set_option maxHeartbeats 4000000 in
set_option maxRecDepth 100000 in
theorem kX6_init {l : Launch} {G : Gl} {E E' : En} {a0 : Nat} {σ σ' : Sg} : gX6_init E a0 σ = some (E', σ') → CTI l yX6_init cX6_init 2 ({ frames := 4, cells := 394, slots := 45555, locals := 82 } : Room) [.ref (G.1 + a0)] G E σ E' σ' 394 45555 := by
  intro h
  refine CTI_of (lv0 := [(0, .ref (G.1 + a0))]) (by decide) (Nat.le_of_ble_eq_true rfl) rfl rfl (fun κ hl hR hr hnm D C => ?_)
  have C : Cx κ G cX6_init RX6 2 := C
  revert h
  unfold gX6_init
  refine R_aload_n C 0 rfl dX6_init_0 ?_
  refine N_obj C oi6_1 (by rw [hR]; exact ⟨Nat.le_of_ble_eq_true rfl, Nat.le_of_ble_eq_true rfl⟩) dX6_init_1 ?_
  refine R_aload_n C 0 rfl dX6_init_4 ?_
  refine R_sipush C (200) dX6_init_5 (by decide) ?_
  refine N_nai 200 C (by decide) (by decide) (Nat.le_of_ble_eq_true rfl) (by rw [hR]; exact ⟨Nat.le_of_ble_eq_true rfl, Nat.le_of_ble_eq_true rfl⟩) dX6_init_8 (fun e1 s2 => ?_)
  refine R_tk (fun h3 => ?_)
  refine N_putr C hnm ⟨_, _, ci6, by omega, rfl, (in1 (List.mem_of_getElem? (i := 238) rfl))⟩ rfl h3 rfl rfl dX6_init_10 (fun e4 => ?_)
  refine R_aload_n C 0 rfl dX6_init_13 ?_
  refine N_new C ci4 cl6_13 is4 iz4 (by rw [hR]; exact ⟨Nat.le_of_ble_eq_true rfl, Nat.le_of_ble_eq_true rfl⟩) dv4 dX6_init_14 (fun e5 s6 => ?_)
  refine R_dup C dX6_init_17 rfl ?_
  refine R_bc (fun e7 s8 q9 => ?_)
  refine N_call [] [.ref (G.1 + e4.1), .ref (G.1 + a0)] C D mi6_15 (kX4_init q9) (by rw [hR]; exact ⟨rfl, rfl, Nat.le_of_ble_eq_true rfl, Nat.le_of_ble_eq_true rfl, Nat.le_of_ble_eq_true rfl, Nat.le_of_ble_eq_true rfl⟩) rfl rfl (Nat.le_of_ble_eq_true rfl) dX6_init_18 ?_
  refine R_tk (fun h10 => ?_)
  refine N_putr C hnm ⟨_, _, ci6, by omega, rfl, (in2 (List.mem_of_getElem? (i := 1) rfl))⟩ rfl h10 rfl rfl dX6_init_21 (fun e11 => ?_)
  refine R_aload_n C 0 rfl dX6_init_24 ?_
  refine R_bipush C (8) dX6_init_25 (by decide) ?_
  refine N_na5 8 C D cl6_13 (by decide) (by decide) (Nat.le_of_ble_eq_true rfl) (by rw [hR]; exact ⟨Nat.le_of_ble_eq_true rfl, Nat.le_of_ble_eq_true rfl⟩) dX6_init_27 (fun e12 s13 => ?_)
  refine R_tk (fun h14 => ?_)
  refine N_putr C hnm ⟨_, _, ci6, by omega, rfl, (in2 (List.mem_of_getElem? (i := 2) rfl))⟩ rfl h14 rfl rfl dX6_init_30 (fun e15 => ?_)
  refine R_aload_n C 0 rfl dX6_init_33 ?_
  refine R_bipush C (8) dX6_init_34 (by decide) ?_
  refine N_nai 8 C (by decide) (by decide) (Nat.le_of_ble_eq_true rfl) (by rw [hR]; exact ⟨Nat.le_of_ble_eq_true rfl, Nat.le_of_ble_eq_true rfl⟩) dX6_init_36 (fun e16 s17 => ?_)
  refine R_tk (fun h18 => ?_)
  refine N_putr C hnm ⟨_, _, ci6, by omega, rfl, (in2 (List.mem_of_getElem? (i := 3) rfl))⟩ rfl h18 rfl rfl dX6_init_38 (fun e19 => ?_)
  refine R_aload_n C 0 rfl dX6_init_41 ?_
  refine R_iconst C (2) dX6_init_42 (by decide) ?_
  refine N_na5 2 C D cl6_13 (by decide) (by decide) (Nat.le_of_ble_eq_true rfl) (by rw [hR]; exact ⟨Nat.le_of_ble_eq_true rfl, Nat.le_of_ble_eq_true rfl⟩) dX6_init_43 (fun e20 s21 => ?_)
  refine R_tk (fun h22 => ?_)
  refine N_putr C hnm ⟨_, _, ci6, by omega, rfl, (in2 (List.mem_of_getElem? (i := 6) rfl))⟩ rfl h22 rfl rfl dX6_init_46 (fun e23 => ?_)
  refine R_aload_n C 0 rfl dX6_init_49 ?_
  refine R_iconst C (2) dX6_init_50 (by decide) ?_
  refine N_naz 2 C (by decide) (by decide) (Nat.le_of_ble_eq_true rfl) (by rw [hR]; exact ⟨Nat.le_of_ble_eq_true rfl, Nat.le_of_ble_eq_true rfl⟩) dX6_init_51 (fun e24 s25 => ?_)
  refine R_tk (fun h26 => ?_)
  refine N_putr C hnm ⟨_, _, ci6, by omega, rfl, (in2 (List.mem_of_getElem? (i := 7) rfl))⟩ rfl h26 rfl rfl dX6_init_53 (fun e27 => ?_)
  refine R_aload_n C 0 rfl dX6_init_56 ?_
  refine N_new C ci1 cl6_34 is1 iz1 (by rw [hR]; exact ⟨Nat.le_of_ble_eq_true rfl, Nat.le_of_ble_eq_true rfl⟩) dv1 dX6_init_57 (fun e28 s29 => ?_)
  refine R_dup C dX6_init_60 rfl ?_
  refine R_sipush C (700) dX6_init_61 (by decide) ?_
  refine R_bc (fun e30 s31 q32 => ?_)
  refine N_call [.int (700 : Int32)] [.ref (G.1 + e27.1), .ref (G.1 + a0)] C D mi6_36 (kX1_init_700 q32) (by rw [hR]; exact ⟨rfl, rfl, Nat.le_of_ble_eq_true rfl, Nat.le_of_ble_eq_true rfl, Nat.le_of_ble_eq_true rfl, Nat.le_of_ble_eq_true rfl⟩) rfl rfl (Nat.le_of_ble_eq_true rfl) dX6_init_64 ?_
  refine R_tk (fun h33 => ?_)
  refine N_putr C hnm ⟨_, _, ci6, by omega, rfl, (in2 (List.mem_of_getElem? (i := 8) rfl))⟩ rfl h33 rfl rfl dX6_init_67 (fun e34 => ?_)
  refine R_aload_n C 0 rfl dX6_init_70 ?_
  refine N_new C ci2 cl6_43 is2 iz2 (by rw [hR]; exact ⟨Nat.le_of_ble_eq_true rfl, Nat.le_of_ble_eq_true rfl⟩) dv2 dX6_init_71 (fun e35 s36 => ?_)
  refine R_dup C dX6_init_74 rfl ?_
  refine R_bc (fun e37 s38 q39 => ?_)
  refine N_call [] [.ref (G.1 + e34.1), .ref (G.1 + a0)] C D mi6_45 (kX2_init q39) (by rw [hR]; exact ⟨rfl, rfl, Nat.le_of_ble_eq_true rfl, Nat.le_of_ble_eq_true rfl, Nat.le_of_ble_eq_true rfl, Nat.le_of_ble_eq_true rfl⟩) rfl rfl (Nat.le_of_ble_eq_true rfl) dX6_init_75 ?_
  refine R_tk (fun h40 => ?_)
  refine N_putr C hnm ⟨_, _, ci6, by omega, rfl, (in2 (List.mem_of_getElem? (i := 9) rfl))⟩ rfl h40 rfl rfl dX6_init_78 (fun e41 => ?_)
  refine R_aload_n C 0 rfl dX6_init_81 ?_
  refine R_sipush C (300) dX6_init_82 (by decide) ?_
  refine N_nai 300 C (by decide) (by decide) (Nat.le_of_ble_eq_true rfl) (by rw [hR]; exact ⟨Nat.le_of_ble_eq_true rfl, Nat.le_of_ble_eq_true rfl⟩) dX6_init_85 (fun e42 s43 => ?_)
  refine R_tk (fun h44 => ?_)
  refine N_putr C hnm ⟨_, _, ci6, by omega, rfl, (in2 (List.mem_of_getElem? (i := 10) rfl))⟩ rfl h44 rfl rfl dX6_init_87 (fun e45 => ?_)
  refine R_aload_n C 0 rfl dX6_init_90 ?_
  refine R_sipush C (700) dX6_init_91 (by decide) ?_
  refine N_nal 700 C (by decide) (by decide) (Nat.le_of_ble_eq_true rfl) (by rw [hR]; exact ⟨Nat.le_of_ble_eq_true rfl, Nat.le_of_ble_eq_true rfl⟩) dX6_init_94 (fun e46 s47 => ?_)
  refine R_tk (fun h48 => ?_)
  refine N_putr C hnm ⟨_, _, ci6, by omega, rfl, (in2 (List.mem_of_getElem? (i := 11) rfl))⟩ rfl h48 rfl rfl dX6_init_96 (fun e49 => ?_)
  refine R_iconst C (0) dX6_init_99 (by decide) ?_
  refine R_istore_n (lv2 := [(1, .int (0 : Int32)), (0, .ref (G.1 + a0))]) C dX6_init_100 rfl (by decide) rfl ?_
  refine R_iload_n C 0 rfl dX6_init_101 ?_
  refine R_bipush C (8) dX6_init_102 (by decide) ?_
  refine R_icmp_ge C dX6_init_104 (fun h => absurd h (by decide)) (fun _ => ?_)
  refine R_aload_n C 1 rfl dX6_init_107 ?_
  refine R_tk (fun h50 => ?_)
  refine R_dr (fun x51 rx51 cx51 => ?_)
  refine R_getr C fl6_20 rfl h50 rx51 dX6_init_108 ?_
  refine R_iload_n C 0 rfl dX6_init_111 ?_
  refine N_new C ci4 cl6_13 is4 iz4 (by rw [hR]; exact ⟨Nat.le_of_ble_eq_true rfl, Nat.le_of_ble_eq_true rfl⟩) dv4 dX6_init_112 (fun e52 s53 => ?_)
  refine R_dup C dX6_init_115 rfl ?_
  refine R_bc (fun e54 s55 q56 => ?_)
  refine N_call [] [.ref (G.1 + e49.1), .int (0 : Int32), .ref (G.1 + x51)] C D mi6_15 (kX4_init q56) (by rw [hR]; exact ⟨rfl, rfl, Nat.le_of_ble_eq_true rfl, Nat.le_of_ble_eq_true rfl, Nat.le_of_ble_eq_true rfl, Nat.le_of_ble_eq_true rfl⟩) rfl rfl (Nat.le_of_ble_eq_true rfl) dX6_init_116 ?_
  refine R_tk (fun h57 => ?_)
  refine R_ck (fun h58 => ?_)
  refine R_tk (fun h59 => ?_)
  refine N_aast5 C h57 h58 h59 dX6_init_119 (fun e60 => ?_)
  refine N_iinc (v := (1 : Int32)) (1 : Int32) (lv2 := [(1, .int (1 : Int32)), (0, .ref (G.1 + a0))]) 0 C dX6_init_120 rfl (by decide) (by decide) (by decide) rfl ?_
  refine R_goto C dX6_init_123 ?_
  refine R_iload_n C 0 rfl dX6_init_101 ?_
  refine R_bipush C (8) dX6_init_102 (by decide) ?_
  refine R_icmp_ge C dX6_init_104 (fun h => absurd h (by decide)) (fun _ => ?_)
  refine R_aload_n C 1 rfl dX6_init_107 ?_
  refine R_tk (fun h61 => ?_)
  refine R_dr (fun x62 rx62 cx62 => ?_)
  refine R_getr C fl6_20 rfl h61 rx62 dX6_init_108 ?_
  refine R_iload_n C 0 rfl dX6_init_111 ?_
  refine N_new C ci4 cl6_13 is4 iz4 (by rw [hR]; exact ⟨Nat.le_of_ble_eq_true rfl, Nat.le_of_ble_eq_true rfl⟩) dv4 dX6_init_112 (fun e63 s64 => ?_)
  refine R_dup C dX6_init_115 rfl ?_
  refine R_bc (fun e65 s66 q67 => ?_)
  refine N_call [] [.ref (G.1 + e60.1), .int (1 : Int32), .ref (G.1 + x62)] C D mi6_15 (kX4_init q67) (by rw [hR]; exact ⟨rfl, rfl, Nat.le_of_ble_eq_true rfl, Nat.le_of_ble_eq_true rfl, Nat.le_of_ble_eq_true rfl, Nat.le_of_ble_eq_true rfl⟩) rfl rfl (Nat.le_of_ble_eq_true rfl) dX6_init_116 ?_
  refine R_tk (fun h68 => ?_)
  refine R_ck (fun h69 => ?_)
  refine R_tk (fun h70 => ?_)
  refine N_aast5 C h68 h69 h70 dX6_init_119 (fun e71 => ?_)
  refine N_iinc (v := (1 : Int32)) (2 : Int32) (lv2 := [(1, .int (2 : Int32)), (0, .ref (G.1 + a0))]) 0 C dX6_init_120 rfl (by decide) (by decide) (by decide) rfl ?_
  refine R_goto C dX6_init_123 ?_
  refine R_iload_n C 0 rfl dX6_init_101 ?_
  refine R_bipush C (8) dX6_init_102 (by decide) ?_
  refine R_icmp_ge C dX6_init_104 (fun h => absurd h (by decide)) (fun _ => ?_)
  refine R_aload_n C 1 rfl dX6_init_107 ?_
  refine R_tk (fun h72 => ?_)
  refine R_dr (fun x73 rx73 cx73 => ?_)
  refine R_getr C fl6_20 rfl h72 rx73 dX6_init_108 ?_
  refine R_iload_n C 0 rfl dX6_init_111 ?_
  refine N_new C ci4 cl6_13 is4 iz4 (by rw [hR]; exact ⟨Nat.le_of_ble_eq_true rfl, Nat.le_of_ble_eq_true rfl⟩) dv4 dX6_init_112 (fun e74 s75 => ?_)
  refine R_dup C dX6_init_115 rfl ?_
  refine R_bc (fun e76 s77 q78 => ?_)
  refine N_call [] [.ref (G.1 + e71.1), .int (2 : Int32), .ref (G.1 + x73)] C D mi6_15 (kX4_init q78) (by rw [hR]; exact ⟨rfl, rfl, Nat.le_of_ble_eq_true rfl, Nat.le_of_ble_eq_true rfl, Nat.le_of_ble_eq_true rfl, Nat.le_of_ble_eq_true rfl⟩) rfl rfl (Nat.le_of_ble_eq_true rfl) dX6_init_116 ?_
  refine R_tk (fun h79 => ?_)
  refine R_ck (fun h80 => ?_)
  refine R_tk (fun h81 => ?_)
  refine N_aast5 C h79 h80 h81 dX6_init_119 (fun e82 => ?_)
  refine N_iinc (v := (1 : Int32)) (3 : Int32) (lv2 := [(1, .int (3 : Int32)), (0, .ref (G.1 + a0))]) 0 C dX6_init_120 rfl (by decide) (by decide) (by decide) rfl ?_
  refine R_goto C dX6_init_123 ?_
  refine R_iload_n C 0 rfl dX6_init_101 ?_
  refine R_bipush C (8) dX6_init_102 (by decide) ?_
  refine R_icmp_ge C dX6_init_104 (fun h => absurd h (by decide)) (fun _ => ?_)
  refine R_aload_n C 1 rfl dX6_init_107 ?_
  refine R_tk (fun h83 => ?_)
  refine R_dr (fun x84 rx84 cx84 => ?_)
  refine R_getr C fl6_20 rfl h83 rx84 dX6_init_108 ?_
  refine R_iload_n C 0 rfl dX6_init_111 ?_
  refine N_new C ci4 cl6_13 is4 iz4 (by rw [hR]; exact ⟨Nat.le_of_ble_eq_true rfl, Nat.le_of_ble_eq_true rfl⟩) dv4 dX6_init_112 (fun e85 s86 => ?_)
  refine R_dup C dX6_init_115 rfl ?_
  refine R_bc (fun e87 s88 q89 => ?_)
  refine N_call [] [.ref (G.1 + e82.1), .int (3 : Int32), .ref (G.1 + x84)] C D mi6_15 (kX4_init q89) (by rw [hR]; exact ⟨rfl, rfl, Nat.le_of_ble_eq_true rfl, Nat.le_of_ble_eq_true rfl, Nat.le_of_ble_eq_true rfl, Nat.le_of_ble_eq_true rfl⟩) rfl rfl (Nat.le_of_ble_eq_true rfl) dX6_init_116 ?_
  refine R_tk (fun h90 => ?_)
  refine R_ck (fun h91 => ?_)
  refine R_tk (fun h92 => ?_)
  refine N_aast5 C h90 h91 h92 dX6_init_119 (fun e93 => ?_)
  refine N_iinc (v := (1 : Int32)) (4 : Int32) (lv2 := [(1, .int (4 : Int32)), (0, .ref (G.1 + a0))]) 0 C dX6_init_120 rfl (by decide) (by decide) (by decide) rfl ?_
  refine R_goto C dX6_init_123 ?_
  refine R_iload_n C 0 rfl dX6_init_101 ?_
  refine R_bipush C (8) dX6_init_102 (by decide) ?_
  refine R_icmp_ge C dX6_init_104 (fun h => absurd h (by decide)) (fun _ => ?_)
  refine R_aload_n C 1 rfl dX6_init_107 ?_
  refine R_tk (fun h94 => ?_)
  refine R_dr (fun x95 rx95 cx95 => ?_)
  refine R_getr C fl6_20 rfl h94 rx95 dX6_init_108 ?_
  refine R_iload_n C 0 rfl dX6_init_111 ?_
  refine N_new C ci4 cl6_13 is4 iz4 (by rw [hR]; exact ⟨Nat.le_of_ble_eq_true rfl, Nat.le_of_ble_eq_true rfl⟩) dv4 dX6_init_112 (fun e96 s97 => ?_)
  refine R_dup C dX6_init_115 rfl ?_
  refine R_bc (fun e98 s99 q100 => ?_)
  refine N_call [] [.ref (G.1 + e93.1), .int (4 : Int32), .ref (G.1 + x95)] C D mi6_15 (kX4_init q100) (by rw [hR]; exact ⟨rfl, rfl, Nat.le_of_ble_eq_true rfl, Nat.le_of_ble_eq_true rfl, Nat.le_of_ble_eq_true rfl, Nat.le_of_ble_eq_true rfl⟩) rfl rfl (Nat.le_of_ble_eq_true rfl) dX6_init_116 ?_
  refine R_tk (fun h101 => ?_)
  refine R_ck (fun h102 => ?_)
  refine R_tk (fun h103 => ?_)
  refine N_aast5 C h101 h102 h103 dX6_init_119 (fun e104 => ?_)
  refine N_iinc (v := (1 : Int32)) (5 : Int32) (lv2 := [(1, .int (5 : Int32)), (0, .ref (G.1 + a0))]) 0 C dX6_init_120 rfl (by decide) (by decide) (by decide) rfl ?_
  refine R_goto C dX6_init_123 ?_
  refine R_iload_n C 0 rfl dX6_init_101 ?_
  refine R_bipush C (8) dX6_init_102 (by decide) ?_
  refine R_icmp_ge C dX6_init_104 (fun h => absurd h (by decide)) (fun _ => ?_)
  refine R_aload_n C 1 rfl dX6_init_107 ?_
  refine R_tk (fun h105 => ?_)
  refine R_dr (fun x106 rx106 cx106 => ?_)
  refine R_getr C fl6_20 rfl h105 rx106 dX6_init_108 ?_
  refine R_iload_n C 0 rfl dX6_init_111 ?_
  refine N_new C ci4 cl6_13 is4 iz4 (by rw [hR]; exact ⟨Nat.le_of_ble_eq_true rfl, Nat.le_of_ble_eq_true rfl⟩) dv4 dX6_init_112 (fun e107 s108 => ?_)
  refine R_dup C dX6_init_115 rfl ?_
  refine R_bc (fun e109 s110 q111 => ?_)
  refine N_call [] [.ref (G.1 + e104.1), .int (5 : Int32), .ref (G.1 + x106)] C D mi6_15 (kX4_init q111) (by rw [hR]; exact ⟨rfl, rfl, Nat.le_of_ble_eq_true rfl, Nat.le_of_ble_eq_true rfl, Nat.le_of_ble_eq_true rfl, Nat.le_of_ble_eq_true rfl⟩) rfl rfl (Nat.le_of_ble_eq_true rfl) dX6_init_116 ?_
  refine R_tk (fun h112 => ?_)
  refine R_ck (fun h113 => ?_)
  refine R_tk (fun h114 => ?_)
  refine N_aast5 C h112 h113 h114 dX6_init_119 (fun e115 => ?_)
  refine N_iinc (v := (1 : Int32)) (6 : Int32) (lv2 := [(1, .int (6 : Int32)), (0, .ref (G.1 + a0))]) 0 C dX6_init_120 rfl (by decide) (by decide) (by decide) rfl ?_
  refine R_goto C dX6_init_123 ?_
  refine R_iload_n C 0 rfl dX6_init_101 ?_
  refine R_bipush C (8) dX6_init_102 (by decide) ?_
  refine R_icmp_ge C dX6_init_104 (fun h => absurd h (by decide)) (fun _ => ?_)
  refine R_aload_n C 1 rfl dX6_init_107 ?_
  refine R_tk (fun h116 => ?_)
  refine R_dr (fun x117 rx117 cx117 => ?_)
  refine R_getr C fl6_20 rfl h116 rx117 dX6_init_108 ?_
  refine R_iload_n C 0 rfl dX6_init_111 ?_
  refine N_new C ci4 cl6_13 is4 iz4 (by rw [hR]; exact ⟨Nat.le_of_ble_eq_true rfl, Nat.le_of_ble_eq_true rfl⟩) dv4 dX6_init_112 (fun e118 s119 => ?_)
  refine R_dup C dX6_init_115 rfl ?_
  refine R_bc (fun e120 s121 q122 => ?_)
  refine N_call [] [.ref (G.1 + e115.1), .int (6 : Int32), .ref (G.1 + x117)] C D mi6_15 (kX4_init q122) (by rw [hR]; exact ⟨rfl, rfl, Nat.le_of_ble_eq_true rfl, Nat.le_of_ble_eq_true rfl, Nat.le_of_ble_eq_true rfl, Nat.le_of_ble_eq_true rfl⟩) rfl rfl (Nat.le_of_ble_eq_true rfl) dX6_init_116 ?_
  refine R_tk (fun h123 => ?_)
  refine R_ck (fun h124 => ?_)
  refine R_tk (fun h125 => ?_)
  refine N_aast5 C h123 h124 h125 dX6_init_119 (fun e126 => ?_)
  refine N_iinc (v := (1 : Int32)) (7 : Int32) (lv2 := [(1, .int (7 : Int32)), (0, .ref (G.1 + a0))]) 0 C dX6_init_120 rfl (by decide) (by decide) (by decide) rfl ?_
  refine R_goto C dX6_init_123 ?_
  refine R_iload_n C 0 rfl dX6_init_101 ?_
  refine R_bipush C (8) dX6_init_102 (by decide) ?_
  refine R_icmp_ge C dX6_init_104 (fun h => absurd h (by decide)) (fun _ => ?_)
  refine R_aload_n C 1 rfl dX6_init_107 ?_
  refine R_tk (fun h127 => ?_)
  refine R_dr (fun x128 rx128 cx128 => ?_)
  refine R_getr C fl6_20 rfl h127 rx128 dX6_init_108 ?_
  refine R_iload_n C 0 rfl dX6_init_111 ?_
  refine N_new C ci4 cl6_13 is4 iz4 (by rw [hR]; exact ⟨Nat.le_of_ble_eq_true rfl, Nat.le_of_ble_eq_true rfl⟩) dv4 dX6_init_112 (fun e129 s130 => ?_)
  refine R_dup C dX6_init_115 rfl ?_
  refine R_bc (fun e131 s132 q133 => ?_)
  refine N_call [] [.ref (G.1 + e126.1), .int (7 : Int32), .ref (G.1 + x128)] C D mi6_15 (kX4_init q133) (by rw [hR]; exact ⟨rfl, rfl, Nat.le_of_ble_eq_true rfl, Nat.le_of_ble_eq_true rfl, Nat.le_of_ble_eq_true rfl, Nat.le_of_ble_eq_true rfl⟩) rfl rfl (Nat.le_of_ble_eq_true rfl) dX6_init_116 ?_
  refine R_tk (fun h134 => ?_)
  refine R_ck (fun h135 => ?_)
  refine R_tk (fun h136 => ?_)
  refine N_aast5 C h134 h135 h136 dX6_init_119 (fun e137 => ?_)
  refine N_iinc (v := (1 : Int32)) (8 : Int32) (lv2 := [(1, .int (8 : Int32)), (0, .ref (G.1 + a0))]) 0 C dX6_init_120 rfl (by decide) (by decide) (by decide) rfl ?_
  refine R_goto C dX6_init_123 ?_
  refine R_iload_n C 0 rfl dX6_init_101 ?_
  refine R_bipush C (8) dX6_init_102 (by decide) ?_
  refine R_icmp_ge C dX6_init_104 (fun _ => ?_) (fun h => absurd (by decide) h)
  refine R_iconst C (0) dX6_init_126 (by decide) ?_
  refine R_istore_n (lv2 := [(1, .int (0 : Int32)), (0, .ref (G.1 + a0))]) C dX6_init_127 rfl (by decide) rfl ?_
  refine R_iload_n C 0 rfl dX6_init_128 ?_
  refine R_iconst C (2) dX6_init_129 (by decide) ?_
  refine R_icmp_ge C dX6_init_130 (fun h => absurd h (by decide)) (fun _ => ?_)
  refine R_aload_n C 1 rfl dX6_init_133 ?_
  refine R_tk (fun h138 => ?_)
  refine R_dr (fun x139 rx139 cx139 => ?_)
  refine R_getr C fl6_27 rfl h138 rx139 dX6_init_134 ?_
  refine R_iload_n C 0 rfl dX6_init_137 ?_
  refine N_new C ci4 cl6_13 is4 iz4 (by rw [hR]; exact ⟨Nat.le_of_ble_eq_true rfl, Nat.le_of_ble_eq_true rfl⟩) dv4 dX6_init_138 (fun e140 s141 => ?_)
  refine R_dup C dX6_init_141 rfl ?_
  refine R_bc (fun e142 s143 q144 => ?_)
  refine N_call [] [.ref (G.1 + e137.1), .int (0 : Int32), .ref (G.1 + x139)] C D mi6_15 (kX4_init q144) (by rw [hR]; exact ⟨rfl, rfl, Nat.le_of_ble_eq_true rfl, Nat.le_of_ble_eq_true rfl, Nat.le_of_ble_eq_true rfl, Nat.le_of_ble_eq_true rfl⟩) rfl rfl (Nat.le_of_ble_eq_true rfl) dX6_init_142 ?_
  refine R_tk (fun h145 => ?_)
  refine R_ck (fun h146 => ?_)
  refine R_tk (fun h147 => ?_)
  refine N_aast5 C h145 h146 h147 dX6_init_145 (fun e148 => ?_)
  refine N_iinc (v := (1 : Int32)) (1 : Int32) (lv2 := [(1, .int (1 : Int32)), (0, .ref (G.1 + a0))]) 0 C dX6_init_146 rfl (by decide) (by decide) (by decide) rfl ?_
  refine R_goto C dX6_init_149 ?_
  refine R_iload_n C 0 rfl dX6_init_128 ?_
  refine R_iconst C (2) dX6_init_129 (by decide) ?_
  refine R_icmp_ge C dX6_init_130 (fun h => absurd h (by decide)) (fun _ => ?_)
  refine R_aload_n C 1 rfl dX6_init_133 ?_
  refine R_tk (fun h149 => ?_)
  refine R_dr (fun x150 rx150 cx150 => ?_)
  refine R_getr C fl6_27 rfl h149 rx150 dX6_init_134 ?_
  refine R_iload_n C 0 rfl dX6_init_137 ?_
  refine N_new C ci4 cl6_13 is4 iz4 (by rw [hR]; exact ⟨Nat.le_of_ble_eq_true rfl, Nat.le_of_ble_eq_true rfl⟩) dv4 dX6_init_138 (fun e151 s152 => ?_)
  refine R_dup C dX6_init_141 rfl ?_
  refine R_bc (fun e153 s154 q155 => ?_)
  refine N_call [] [.ref (G.1 + e148.1), .int (1 : Int32), .ref (G.1 + x150)] C D mi6_15 (kX4_init q155) (by rw [hR]; exact ⟨rfl, rfl, Nat.le_of_ble_eq_true rfl, Nat.le_of_ble_eq_true rfl, Nat.le_of_ble_eq_true rfl, Nat.le_of_ble_eq_true rfl⟩) rfl rfl (Nat.le_of_ble_eq_true rfl) dX6_init_142 ?_
  refine R_tk (fun h156 => ?_)
  refine R_ck (fun h157 => ?_)
  refine R_tk (fun h158 => ?_)
  refine N_aast5 C h156 h157 h158 dX6_init_145 (fun e159 => ?_)
  refine N_iinc (v := (1 : Int32)) (2 : Int32) (lv2 := [(1, .int (2 : Int32)), (0, .ref (G.1 + a0))]) 0 C dX6_init_146 rfl (by decide) (by decide) (by decide) rfl ?_
  refine R_goto C dX6_init_149 ?_
  refine R_iload_n C 0 rfl dX6_init_128 ?_
  refine R_iconst C (2) dX6_init_129 (by decide) ?_
  refine R_icmp_ge C dX6_init_130 (fun _ => ?_) (fun h => absurd (by decide) h)
  exact N_vret C D hr dX6_init_152
theorem dX7_init_0 : dk cX7_init 0 1 (.aload_n 0) 1 := by unfold dk; decide +kernel
theorem dX7_init_1 : dk cX7_init 1 4 (.invokespecial 3) 3 := by unfold dk; decide +kernel
theorem oi7_3 : Cond.methodLink RX7 3 objectInit ∈ lw_tbl := (in4 (List.mem_of_getElem? (i := 57) rfl))
theorem dX7_init_4 : dk cX7_init 4 5 (.aload_n 0) 1 := by unfold dk; decide +kernel
theorem dX7_init_5 : dk cX7_init 5 8 (.sipush 7827) 3 := by unfold dk; decide +kernel
theorem dX7_init_8 : dk cX7_init 8 10 (.newarray .int) 2 := by unfold dk; decide +kernel
theorem dX7_init_10 : dk cX7_init 10 13 (.putfield 9) 3 := by unfold dk; decide +kernel
theorem dX7_init_13 : dk cX7_init 13 14 (.aload_n 0) 1 := by unfold dk; decide +kernel
theorem dX7_init_14 : dk cX7_init 14 17 (.sipush 7827) 3 := by unfold dk; decide +kernel
theorem dX7_init_17 : dk cX7_init 17 19 (.newarray .int) 2 := by unfold dk; decide +kernel
theorem dX7_init_19 : dk cX7_init 19 22 (.putfield 13) 3 := by unfold dk; decide +kernel
theorem dX7_init_22 : dk cX7_init 22 23 (.aload_n 0) 1 := by unfold dk; decide +kernel
theorem dX7_init_23 : dk cX7_init 23 25 (.ldc 16) 2 := by unfold dk; decide +kernel
theorem dX7_init_25 : dk cX7_init 25 27 (.newarray .int) 2 := by unfold dk; decide +kernel
theorem dX7_init_27 : dk cX7_init 27 30 (.putfield 17) 3 := by unfold dk; decide +kernel
theorem dX7_init_30 : dk cX7_init 30 31 (.aload_n 0) 1 := by unfold dk; decide +kernel
theorem dX7_init_31 : dk cX7_init 31 34 (.sipush 15654) 3 := by unfold dk; decide +kernel
theorem dX7_init_34 : dk cX7_init 34 36 (.newarray .int) 2 := by unfold dk; decide +kernel
theorem dX7_init_36 : dk cX7_init 36 39 (.putfield 20) 3 := by unfold dk; decide +kernel
theorem dX7_init_39 : dk cX7_init 39 40 (.aload_n 0) 1 := by unfold dk; decide +kernel
theorem dX7_init_40 : dk cX7_init 40 43 (.sipush 200) 3 := by unfold dk; decide +kernel
theorem dX7_init_43 : dk cX7_init 43 45 (.newarray .byte) 2 := by unfold dk; decide +kernel
theorem dX7_init_45 : dk cX7_init 45 48 (.putfield 23) 3 := by unfold dk; decide +kernel
theorem dX7_init_48 : dk cX7_init 48 49 (.aload_n 0) 1 := by unfold dk; decide +kernel
theorem dX7_init_49 : dk cX7_init 49 51 (.bipush 16) 2 := by unfold dk; decide +kernel
theorem dX7_init_51 : dk cX7_init 51 53 (.newarray .int) 2 := by unfold dk; decide +kernel
theorem dX7_init_53 : dk cX7_init 53 56 (.putfield 27) 3 := by unfold dk; decide +kernel
theorem dX7_init_56 : dk cX7_init 56 57 (.aload_n 0) 1 := by unfold dk; decide +kernel
theorem dX7_init_57 : dk cX7_init 57 59 (.bipush 16) 2 := by unfold dk; decide +kernel
theorem dX7_init_59 : dk cX7_init 59 61 (.newarray .int) 2 := by unfold dk; decide +kernel
theorem dX7_init_61 : dk cX7_init 61 64 (.putfield 30) 3 := by unfold dk; decide +kernel
theorem dX7_init_64 : dk cX7_init 64 65 (.aload_n 0) 1 := by unfold dk; decide +kernel
theorem dX7_init_65 : dk cX7_init 65 67 (.bipush 6) 2 := by unfold dk; decide +kernel
theorem dX7_init_67 : dk cX7_init 67 69 (.newarray .int) 2 := by unfold dk; decide +kernel
theorem dX7_init_69 : dk cX7_init 69 72 (.putfield 33) 3 := by unfold dk; decide +kernel
theorem dX7_init_72 : dk cX7_init 72 73 (.aload_n 0) 1 := by unfold dk; decide +kernel
theorem dX7_init_73 : dk cX7_init 73 75 (.bipush 6) 2 := by unfold dk; decide +kernel
theorem dX7_init_75 : dk cX7_init 75 77 (.newarray .int) 2 := by unfold dk; decide +kernel
theorem dX7_init_77 : dk cX7_init 77 80 (.putfield 36) 3 := by unfold dk; decide +kernel
theorem dX7_init_80 : dk cX7_init 80 81 (.aload_n 0) 1 := by unfold dk; decide +kernel
theorem dX7_init_81 : dk cX7_init 81 83 (.bipush 6) 2 := by unfold dk; decide +kernel
theorem dX7_init_83 : dk cX7_init 83 85 (.newarray .int) 2 := by unfold dk; decide +kernel
theorem dX7_init_85 : dk cX7_init 85 88 (.putfield 39) 3 := by unfold dk; decide +kernel
theorem dX7_init_88 : dk cX7_init 88 89 (.aload_n 0) 1 := by unfold dk; decide +kernel
theorem dX7_init_89 : dk cX7_init 89 91 (.bipush 6) 2 := by unfold dk; decide +kernel
theorem dX7_init_91 : dk cX7_init 91 93 (.newarray .int) 2 := by unfold dk; decide +kernel
theorem dX7_init_93 : dk cX7_init 93 96 (.putfield 42) 3 := by unfold dk; decide +kernel
theorem dX7_init_96 : dk cX7_init 96 97 (.aload_n 0) 1 := by unfold dk; decide +kernel
theorem dX7_init_97 : dk cX7_init 97 99 (.bipush 6) 2 := by unfold dk; decide +kernel
theorem dX7_init_99 : dk cX7_init 99 101 (.newarray .int) 2 := by unfold dk; decide +kernel
theorem dX7_init_101 : dk cX7_init 101 104 (.putfield 45) 3 := by unfold dk; decide +kernel
theorem dX7_init_104 : dk cX7_init 104 105 (.aload_n 0) 1 := by unfold dk; decide +kernel
theorem dX7_init_105 : dk cX7_init 105 108 (.sipush 300) 3 := by unfold dk; decide +kernel
theorem dX7_init_108 : dk cX7_init 108 110 (.newarray .int) 2 := by unfold dk; decide +kernel
theorem dX7_init_110 : dk cX7_init 110 113 (.putfield 48) 3 := by unfold dk; decide +kernel
theorem dX7_init_113 : dk cX7_init 113 114 (.aload_n 0) 1 := by unfold dk; decide +kernel
theorem dX7_init_114 : dk cX7_init 114 117 (.sipush 700) 3 := by unfold dk; decide +kernel
theorem dX7_init_117 : dk cX7_init 117 119 (.newarray .int) 2 := by unfold dk; decide +kernel
theorem dX7_init_119 : dk cX7_init 119 122 (.putfield 51) 3 := by unfold dk; decide +kernel
theorem dX7_init_122 : dk cX7_init 122 123 (.aload_n 0) 1 := by unfold dk; decide +kernel
theorem dX7_init_123 : dk cX7_init 123 126 (.sipush 4800) 3 := by unfold dk; decide +kernel
theorem dX7_init_126 : dk cX7_init 126 128 (.newarray .int) 2 := by unfold dk; decide +kernel
theorem dX7_init_128 : dk cX7_init 128 131 (.putfield 54) 3 := by unfold dk; decide +kernel
theorem dX7_init_131 : dk cX7_init 131 132 (.aload_n 0) 1 := by unfold dk; decide +kernel
theorem dX7_init_132 : dk cX7_init 132 134 (.bipush 6) 2 := by unfold dk; decide +kernel
theorem dX7_init_134 : dk cX7_init 134 136 (.newarray .int) 2 := by unfold dk; decide +kernel
theorem dX7_init_136 : dk cX7_init 136 139 (.putfield 57) 3 := by unfold dk; decide +kernel
theorem dX7_init_139 : dk cX7_init 139 140 (.aload_n 0) 1 := by unfold dk; decide +kernel
theorem dX7_init_140 : dk cX7_init 140 142 (.bipush 6) 2 := by unfold dk; decide +kernel
theorem dX7_init_142 : dk cX7_init 142 144 (.newarray .int) 2 := by unfold dk; decide +kernel
theorem dX7_init_144 : dk cX7_init 144 147 (.putfield 60) 3 := by unfold dk; decide +kernel
theorem dX7_init_147 : dk cX7_init 147 148 (.aload_n 0) 1 := by unfold dk; decide +kernel
theorem dX7_init_148 : dk cX7_init 148 151 (.sipush 306) 3 := by unfold dk; decide +kernel
theorem dX7_init_151 : dk cX7_init 151 153 (.newarray .int) 2 := by unfold dk; decide +kernel
theorem dX7_init_153 : dk cX7_init 153 156 (.putfield 63) 3 := by unfold dk; decide +kernel
theorem dX7_init_156 : dk cX7_init 156 157 (.aload_n 0) 1 := by unfold dk; decide +kernel
theorem dX7_init_157 : dk cX7_init 157 160 (.sipush 300) 3 := by unfold dk; decide +kernel
theorem dX7_init_160 : dk cX7_init 160 162 (.newarray .int) 2 := by unfold dk; decide +kernel
theorem dX7_init_162 : dk cX7_init 162 165 (.putfield 66) 3 := by unfold dk; decide +kernel
theorem dX7_init_165 : dk cX7_init 165 166 (.aload_n 0) 1 := by unfold dk; decide +kernel
theorem dX7_init_166 : dk cX7_init 166 169 (.sipush 300) 3 := by unfold dk; decide +kernel
theorem dX7_init_169 : dk cX7_init 169 171 (.newarray .int) 2 := by unfold dk; decide +kernel
theorem dX7_init_171 : dk cX7_init 171 174 (.putfield 69) 3 := by unfold dk; decide +kernel
theorem dX7_init_174 : dk cX7_init 174 175 (.aload_n 0) 1 := by unfold dk; decide +kernel
theorem dX7_init_175 : dk cX7_init 175 177 (.bipush 6) 2 := by unfold dk; decide +kernel
theorem dX7_init_177 : dk cX7_init 177 179 (.newarray .int) 2 := by unfold dk; decide +kernel
theorem dX7_init_179 : dk cX7_init 179 182 (.putfield 72) 3 := by unfold dk; decide +kernel
theorem dX7_init_182 : dk cX7_init 182 183 (.aload_n 0) 1 := by unfold dk; decide +kernel
theorem dX7_init_183 : dk cX7_init 183 186 (.getfield 9) 3 := by unfold dk; decide +kernel
theorem dX7_init_186 : dk cX7_init 186 187 (.iconst 1) 1 := by unfold dk; decide +kernel
theorem dX7_init_187 : dk cX7_init 187 188 (.iconst 4) 1 := by unfold dk; decide +kernel
theorem dX7_init_188 : dk cX7_init 188 189 (.iastore) 1 := by unfold dk; decide +kernel
theorem dX7_init_189 : dk cX7_init 189 190 (.aload_n 0) 1 := by unfold dk; decide +kernel
theorem dX7_init_190 : dk cX7_init 190 193 (.getfield 9) 3 := by unfold dk; decide +kernel
theorem dX7_init_193 : dk cX7_init 193 194 (.iconst 2) 1 := by unfold dk; decide +kernel
theorem dX7_init_194 : dk cX7_init 194 195 (.iconst 4) 1 := by unfold dk; decide +kernel
theorem dX7_init_195 : dk cX7_init 195 196 (.iastore) 1 := by unfold dk; decide +kernel
theorem dX7_init_196 : dk cX7_init 196 197 (.return_) 1 := by unfold dk; decide +kernel
set_option maxHeartbeats 4000000 in
set_option maxRecDepth 100000 in
theorem kX7_init {l : Launch} {G : Gl} {E E' : En} {a0 : Nat} {σ σ' : Sg} : gX7_init E a0 σ = some (E', σ') → CTI l yX7_init cX7_init 1 ({ frames := 1, cells := 21, slots := 100910, locals := 20 } : Room) [.ref (G.1 + a0)] G E σ E' σ' 21 100910 := by
  intro h
  refine CTI_of (lv0 := [(0, .ref (G.1 + a0))]) (by decide) (Nat.le_of_ble_eq_true rfl) rfl rfl (fun κ hl hR hr hnm D C => ?_)
  have C : Cx κ G cX7_init RX7 1 := C
  revert h
  unfold gX7_init
  refine R_aload_n C 0 rfl dX7_init_0 ?_
  refine N_obj C oi7_3 (by rw [hR]; exact ⟨Nat.le_of_ble_eq_true rfl, Nat.le_of_ble_eq_true rfl⟩) dX7_init_1 ?_
  refine R_aload_n C 0 rfl dX7_init_4 ?_
  refine R_sipush C (7827) dX7_init_5 (by decide) ?_
  refine N_nai 7827 C (by decide) (by decide) (Nat.le_of_ble_eq_true rfl) (by rw [hR]; exact ⟨Nat.le_of_ble_eq_true rfl, Nat.le_of_ble_eq_true rfl⟩) dX7_init_8 (fun e1 s2 => ?_)
  refine R_tk (fun h3 => ?_)
  refine N_putr C hnm ⟨_, _, ci7, by omega, rfl, (in4 (List.mem_of_getElem? (i := 59) rfl))⟩ rfl h3 rfl rfl dX7_init_10 (fun e4 => ?_)
  refine R_aload_n C 0 rfl dX7_init_13 ?_
  refine R_sipush C (7827) dX7_init_14 (by decide) ?_
  refine N_nai 7827 C (by decide) (by decide) (Nat.le_of_ble_eq_true rfl) (by rw [hR]; exact ⟨Nat.le_of_ble_eq_true rfl, Nat.le_of_ble_eq_true rfl⟩) dX7_init_17 (fun e5 s6 => ?_)
  refine R_tk (fun h7 => ?_)
  refine N_putr C hnm ⟨_, _, ci7, by omega, rfl, (in4 (List.mem_of_getElem? (i := 60) rfl))⟩ rfl h7 rfl rfl dX7_init_19 (fun e8 => ?_)
  refine R_aload_n C 0 rfl dX7_init_22 ?_
  refine R_ldc C cs7_16 dX7_init_23 ?_
  refine N_nai 62616 C (by decide) (by decide) (Nat.le_of_ble_eq_true rfl) (by rw [hR]; exact ⟨Nat.le_of_ble_eq_true rfl, Nat.le_of_ble_eq_true rfl⟩) dX7_init_25 (fun e9 s10 => ?_)
  refine R_tk (fun h11 => ?_)
  refine N_putr C hnm ⟨_, _, ci7, by omega, rfl, (in4 (List.mem_of_getElem? (i := 61) rfl))⟩ rfl h11 rfl rfl dX7_init_27 (fun e12 => ?_)
  refine R_aload_n C 0 rfl dX7_init_30 ?_
  refine R_sipush C (15654) dX7_init_31 (by decide) ?_
  refine N_nai 15654 C (by decide) (by decide) (Nat.le_of_ble_eq_true rfl) (by rw [hR]; exact ⟨Nat.le_of_ble_eq_true rfl, Nat.le_of_ble_eq_true rfl⟩) dX7_init_34 (fun e13 s14 => ?_)
  refine R_tk (fun h15 => ?_)
  refine N_putr C hnm ⟨_, _, ci7, by omega, rfl, (in4 (List.mem_of_getElem? (i := 62) rfl))⟩ rfl h15 rfl rfl dX7_init_36 (fun e16 => ?_)
  refine R_aload_n C 0 rfl dX7_init_39 ?_
  refine R_sipush C (200) dX7_init_40 (by decide) ?_
  refine N_nab 200 C (by decide) (by decide) (Nat.le_of_ble_eq_true rfl) (by rw [hR]; exact ⟨Nat.le_of_ble_eq_true rfl, Nat.le_of_ble_eq_true rfl⟩) dX7_init_43 (fun e17 s18 => ?_)
  refine R_tk (fun h19 => ?_)
  refine N_putr C hnm ⟨_, _, ci7, by omega, rfl, (in4 (List.mem_of_getElem? (i := 65) rfl))⟩ rfl h19 rfl rfl dX7_init_45 (fun e20 => ?_)
  refine R_aload_n C 0 rfl dX7_init_48 ?_
  refine R_bipush C (16) dX7_init_49 (by decide) ?_
  refine N_nai 16 C (by decide) (by decide) (Nat.le_of_ble_eq_true rfl) (by rw [hR]; exact ⟨Nat.le_of_ble_eq_true rfl, Nat.le_of_ble_eq_true rfl⟩) dX7_init_51 (fun e21 s22 => ?_)
  refine R_tk (fun h23 => ?_)
  refine N_putr C hnm ⟨_, _, ci7, by omega, rfl, (in4 (List.mem_of_getElem? (i := 67) rfl))⟩ rfl h23 rfl rfl dX7_init_53 (fun e24 => ?_)
  refine R_aload_n C 0 rfl dX7_init_56 ?_
  refine R_bipush C (16) dX7_init_57 (by decide) ?_
  refine N_nai 16 C (by decide) (by decide) (Nat.le_of_ble_eq_true rfl) (by rw [hR]; exact ⟨Nat.le_of_ble_eq_true rfl, Nat.le_of_ble_eq_true rfl⟩) dX7_init_59 (fun e25 s26 => ?_)
  refine R_tk (fun h27 => ?_)
  refine N_putr C hnm ⟨_, _, ci7, by omega, rfl, (in4 (List.mem_of_getElem? (i := 68) rfl))⟩ rfl h27 rfl rfl dX7_init_61 (fun e28 => ?_)
  refine R_aload_n C 0 rfl dX7_init_64 ?_
  refine R_bipush C (6) dX7_init_65 (by decide) ?_
  refine N_nai 6 C (by decide) (by decide) (Nat.le_of_ble_eq_true rfl) (by rw [hR]; exact ⟨Nat.le_of_ble_eq_true rfl, Nat.le_of_ble_eq_true rfl⟩) dX7_init_67 (fun e29 s30 => ?_)
  refine R_tk (fun h31 => ?_)
  refine N_putr C hnm ⟨_, _, ci7, by omega, rfl, (in4 (List.mem_of_getElem? (i := 70) rfl))⟩ rfl h31 rfl rfl dX7_init_69 (fun e32 => ?_)
  refine R_aload_n C 0 rfl dX7_init_72 ?_
  refine R_bipush C (6) dX7_init_73 (by decide) ?_
  refine N_nai 6 C (by decide) (by decide) (Nat.le_of_ble_eq_true rfl) (by rw [hR]; exact ⟨Nat.le_of_ble_eq_true rfl, Nat.le_of_ble_eq_true rfl⟩) dX7_init_75 (fun e33 s34 => ?_)
  refine R_tk (fun h35 => ?_)
  refine N_putr C hnm ⟨_, _, ci7, by omega, rfl, (in4 (List.mem_of_getElem? (i := 71) rfl))⟩ rfl h35 rfl rfl dX7_init_77 (fun e36 => ?_)
  refine R_aload_n C 0 rfl dX7_init_80 ?_
  refine R_bipush C (6) dX7_init_81 (by decide) ?_
  refine N_nai 6 C (by decide) (by decide) (Nat.le_of_ble_eq_true rfl) (by rw [hR]; exact ⟨Nat.le_of_ble_eq_true rfl, Nat.le_of_ble_eq_true rfl⟩) dX7_init_83 (fun e37 s38 => ?_)
  refine R_tk (fun h39 => ?_)
  refine N_putr C hnm ⟨_, _, ci7, by omega, rfl, (in4 (List.mem_of_getElem? (i := 72) rfl))⟩ rfl h39 rfl rfl dX7_init_85 (fun e40 => ?_)
  refine R_aload_n C 0 rfl dX7_init_88 ?_
  refine R_bipush C (6) dX7_init_89 (by decide) ?_
  refine N_nai 6 C (by decide) (by decide) (Nat.le_of_ble_eq_true rfl) (by rw [hR]; exact ⟨Nat.le_of_ble_eq_true rfl, Nat.le_of_ble_eq_true rfl⟩) dX7_init_91 (fun e41 s42 => ?_)
  refine R_tk (fun h43 => ?_)
  refine N_putr C hnm ⟨_, _, ci7, by omega, rfl, (in4 (List.mem_of_getElem? (i := 73) rfl))⟩ rfl h43 rfl rfl dX7_init_93 (fun e44 => ?_)
  refine R_aload_n C 0 rfl dX7_init_96 ?_
  refine R_bipush C (6) dX7_init_97 (by decide) ?_
  refine N_nai 6 C (by decide) (by decide) (Nat.le_of_ble_eq_true rfl) (by rw [hR]; exact ⟨Nat.le_of_ble_eq_true rfl, Nat.le_of_ble_eq_true rfl⟩) dX7_init_99 (fun e45 s46 => ?_)
  refine R_tk (fun h47 => ?_)
  refine N_putr C hnm ⟨_, _, ci7, by omega, rfl, (in4 (List.mem_of_getElem? (i := 75) rfl))⟩ rfl h47 rfl rfl dX7_init_101 (fun e48 => ?_)
  refine R_aload_n C 0 rfl dX7_init_104 ?_
  refine R_sipush C (300) dX7_init_105 (by decide) ?_
  refine N_nai 300 C (by decide) (by decide) (Nat.le_of_ble_eq_true rfl) (by rw [hR]; exact ⟨Nat.le_of_ble_eq_true rfl, Nat.le_of_ble_eq_true rfl⟩) dX7_init_108 (fun e49 s50 => ?_)
  refine R_tk (fun h51 => ?_)
  refine N_putr C hnm ⟨_, _, ci7, by omega, rfl, (in4 (List.mem_of_getElem? (i := 76) rfl))⟩ rfl h51 rfl rfl dX7_init_110 (fun e52 => ?_)
  refine R_aload_n C 0 rfl dX7_init_113 ?_
  refine R_sipush C (700) dX7_init_114 (by decide) ?_
  refine N_nai 700 C (by decide) (by decide) (Nat.le_of_ble_eq_true rfl) (by rw [hR]; exact ⟨Nat.le_of_ble_eq_true rfl, Nat.le_of_ble_eq_true rfl⟩) dX7_init_117 (fun e53 s54 => ?_)
  refine R_tk (fun h55 => ?_)
  refine N_putr C hnm ⟨_, _, ci7, by omega, rfl, (in4 (List.mem_of_getElem? (i := 77) rfl))⟩ rfl h55 rfl rfl dX7_init_119 (fun e56 => ?_)
  refine R_aload_n C 0 rfl dX7_init_122 ?_
  refine R_sipush C (4800) dX7_init_123 (by decide) ?_
  refine N_nai 4800 C (by decide) (by decide) (Nat.le_of_ble_eq_true rfl) (by rw [hR]; exact ⟨Nat.le_of_ble_eq_true rfl, Nat.le_of_ble_eq_true rfl⟩) dX7_init_126 (fun e57 s58 => ?_)
  refine R_tk (fun h59 => ?_)
  refine N_putr C hnm ⟨_, _, ci7, by omega, rfl, (in4 (List.mem_of_getElem? (i := 78) rfl))⟩ rfl h59 rfl rfl dX7_init_128 (fun e60 => ?_)
  refine R_aload_n C 0 rfl dX7_init_131 ?_
  refine R_bipush C (6) dX7_init_132 (by decide) ?_
  refine N_nai 6 C (by decide) (by decide) (Nat.le_of_ble_eq_true rfl) (by rw [hR]; exact ⟨Nat.le_of_ble_eq_true rfl, Nat.le_of_ble_eq_true rfl⟩) dX7_init_134 (fun e61 s62 => ?_)
  refine R_tk (fun h63 => ?_)
  refine N_putr C hnm ⟨_, _, ci7, by omega, rfl, (in4 (List.mem_of_getElem? (i := 80) rfl))⟩ rfl h63 rfl rfl dX7_init_136 (fun e64 => ?_)
  refine R_aload_n C 0 rfl dX7_init_139 ?_
  refine R_bipush C (6) dX7_init_140 (by decide) ?_
  refine N_nai 6 C (by decide) (by decide) (Nat.le_of_ble_eq_true rfl) (by rw [hR]; exact ⟨Nat.le_of_ble_eq_true rfl, Nat.le_of_ble_eq_true rfl⟩) dX7_init_142 (fun e65 s66 => ?_)
  refine R_tk (fun h67 => ?_)
  refine N_putr C hnm ⟨_, _, ci7, by omega, rfl, (in4 (List.mem_of_getElem? (i := 81) rfl))⟩ rfl h67 rfl rfl dX7_init_144 (fun e68 => ?_)
  refine R_aload_n C 0 rfl dX7_init_147 ?_
  refine R_sipush C (306) dX7_init_148 (by decide) ?_
  refine N_nai 306 C (by decide) (by decide) (Nat.le_of_ble_eq_true rfl) (by rw [hR]; exact ⟨Nat.le_of_ble_eq_true rfl, Nat.le_of_ble_eq_true rfl⟩) dX7_init_151 (fun e69 s70 => ?_)
  refine R_tk (fun h71 => ?_)
  refine N_putr C hnm ⟨_, _, ci7, by omega, rfl, (in4 (List.mem_of_getElem? (i := 85) rfl))⟩ rfl h71 rfl rfl dX7_init_153 (fun e72 => ?_)
  refine R_aload_n C 0 rfl dX7_init_156 ?_
  refine R_sipush C (300) dX7_init_157 (by decide) ?_
  refine N_nai 300 C (by decide) (by decide) (Nat.le_of_ble_eq_true rfl) (by rw [hR]; exact ⟨Nat.le_of_ble_eq_true rfl, Nat.le_of_ble_eq_true rfl⟩) dX7_init_160 (fun e73 s74 => ?_)
  refine R_tk (fun h75 => ?_)
  refine N_putr C hnm ⟨_, _, ci7, by omega, rfl, (in4 (List.mem_of_getElem? (i := 86) rfl))⟩ rfl h75 rfl rfl dX7_init_162 (fun e76 => ?_)
  refine R_aload_n C 0 rfl dX7_init_165 ?_
  refine R_sipush C (300) dX7_init_166 (by decide) ?_
  refine N_nai 300 C (by decide) (by decide) (Nat.le_of_ble_eq_true rfl) (by rw [hR]; exact ⟨Nat.le_of_ble_eq_true rfl, Nat.le_of_ble_eq_true rfl⟩) dX7_init_169 (fun e77 s78 => ?_)
  refine R_tk (fun h79 => ?_)
  refine N_putr C hnm ⟨_, _, ci7, by omega, rfl, (in4 (List.mem_of_getElem? (i := 87) rfl))⟩ rfl h79 rfl rfl dX7_init_171 (fun e80 => ?_)
  refine R_aload_n C 0 rfl dX7_init_174 ?_
  refine R_bipush C (6) dX7_init_175 (by decide) ?_
  refine N_nai 6 C (by decide) (by decide) (Nat.le_of_ble_eq_true rfl) (by rw [hR]; exact ⟨Nat.le_of_ble_eq_true rfl, Nat.le_of_ble_eq_true rfl⟩) dX7_init_177 (fun e81 s82 => ?_)
  refine R_tk (fun h83 => ?_)
  refine N_putr C hnm ⟨_, _, ci7, by omega, rfl, (in4 (List.mem_of_getElem? (i := 88) rfl))⟩ rfl h83 rfl rfl dX7_init_179 (fun e84 => ?_)
  refine R_aload_n C 0 rfl dX7_init_182 ?_
  refine R_tk (fun h85 => ?_)
  refine R_dr (fun x86 rx86 cx86 => ?_)
  refine R_getr C fl7_9 rfl h85 rx86 dX7_init_183 ?_
  refine R_iconst C (1) dX7_init_186 (by decide) ?_
  refine R_iconst C (4) dX7_init_187 (by decide) ?_
  refine R_tk (fun h87 => ?_)
  refine R_ck (fun h88 => ?_)
  refine N_iast C h87 h88 dX7_init_188 (fun s89 => ?_)
  refine R_aload_n C 0 rfl dX7_init_189 ?_
  refine R_tk (fun h90 => ?_)
  refine R_dr (fun x91 rx91 cx91 => ?_)
  refine R_getr C fl7_9 rfl h90 rx91 dX7_init_190 ?_
  refine R_iconst C (2) dX7_init_193 (by decide) ?_
  refine R_iconst C (4) dX7_init_194 (by decide) ?_
  refine R_tk (fun h92 => ?_)
  refine R_ck (fun h93 => ?_)
  refine N_iast C h92 h93 dX7_init_195 (fun s94 => ?_)
  exact N_vret C D hr dX7_init_196
