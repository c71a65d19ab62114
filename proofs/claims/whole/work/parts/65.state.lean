theorem dX4_copyFrom_0 : dk cX4_copyFrom 0 1 (.aload_n 0) 1 := by unfold dk; decide +kernel
theorem dX4_copyFrom_1 : dk cX4_copyFrom 1 4 (.getfield 12) 3 := by unfold dk; decide +kernel
theorem dX4_copyFrom_4 : dk cX4_copyFrom 4 5 (.aload_n 1) 1 := by unfold dk; decide +kernel
theorem dX4_copyFrom_5 : dk cX4_copyFrom 5 8 (.getfield 12) 3 := by unfold dk; decide +kernel
theorem dX4_copyFrom_8 : dk cX4_copyFrom 8 11 (.invokevirtual 52) 3 := by unfold dk; decide +kernel
theorem dX4_copyFrom_11 : dk cX4_copyFrom 11 12 (.aload_n 1) 1 := by unfold dk; decide +kernel
theorem dX4_copyFrom_12 : dk cX4_copyFrom 12 15 (.getfield 27) 3 := by unfold dk; decide +kernel
theorem dX4_copyFrom_15 : dk cX4_copyFrom 15 16 (.iconst 0) 1 := by unfold dk; decide +kernel
theorem dX4_copyFrom_16 : dk cX4_copyFrom 16 17 (.aload_n 0) 1 := by unfold dk; decide +kernel
theorem dX4_copyFrom_17 : dk cX4_copyFrom 17 20 (.getfield 27) 3 := by unfold dk; decide +kernel
theorem dX4_copyFrom_20 : dk cX4_copyFrom 20 21 (.iconst 0) 1 := by unfold dk; decide +kernel
theorem dX4_copyFrom_21 : dk cX4_copyFrom 21 23 (.bipush 6) 2 := by unfold dk; decide +kernel
theorem dX4_copyFrom_23 : dk cX4_copyFrom 23 26 (.invokestatic 56) 3 := by unfold dk; decide +kernel
theorem dX4_copyFrom_26 : dk cX4_copyFrom 26 27 (.aload_n 0) 1 := by unfold dk; decide +kernel
theorem dX4_copyFrom_27 : dk cX4_copyFrom 27 28 (.aload_n 1) 1 := by unfold dk; decide +kernel
theorem dX4_copyFrom_28 : dk cX4_copyFrom 28 31 (.getfield 62) 3 := by unfold dk; decide +kernel
theorem dX4_copyFrom_31 : dk cX4_copyFrom 31 34 (.putfield 62) 3 := by unfold dk; decide +kernel
theorem dX4_copyFrom_34 : dk cX4_copyFrom 34 35 (.aload_n 0) 1 := by unfold dk; decide +kernel
theorem dX4_copyFrom_35 : dk cX4_copyFrom 35 38 (.getfield 62) 3 := by unfold dk; decide +kernel
theorem dX4_copyFrom_38 : dk cX4_copyFrom 38 39 (.iconst 1) 1 := by unfold dk; decide +kernel
theorem dX4_copyFrom_39 : bk cX4_copyFrom 39 42 60 (.if_icmp .lt 21) (21) := by unfold bk; decide +kernel
theorem dX4_copyFrom_42 : dk cX4_copyFrom 42 43 (.aload_n 0) 1 := by unfold dk; decide +kernel
theorem dX4_copyFrom_43 : dk cX4_copyFrom 43 46 (.getfield 33) 3 := by unfold dk; decide +kernel
theorem dX4_copyFrom_46 : dk cX4_copyFrom 46 47 (.aload_n 1) 1 := by unfold dk; decide +kernel
theorem dX4_copyFrom_47 : dk cX4_copyFrom 47 50 (.getfield 33) 3 := by unfold dk; decide +kernel
theorem dX4_copyFrom_50 : dk cX4_copyFrom 50 51 (.aload_n 0) 1 := by unfold dk; decide +kernel
theorem dX4_copyFrom_51 : dk cX4_copyFrom 51 54 (.getfield 12) 3 := by unfold dk; decide +kernel
theorem dX4_copyFrom_54 : dk cX4_copyFrom 54 57 (.getfield 66) 3 := by unfold dk; decide +kernel
theorem dX4_copyFrom_57 : dk cX4_copyFrom 57 60 (.invokevirtual 69) 3 := by unfold dk; decide +kernel
theorem dX4_copyFrom_60 : dk cX4_copyFrom 60 61 (.aload_n 0) 1 := by unfold dk; decide +kernel
theorem dX4_copyFrom_61 : dk cX4_copyFrom 61 64 (.getfield 62) 3 := by unfold dk; decide +kernel
theorem dX4_copyFrom_64 : dk cX4_copyFrom 64 65 (.iconst 2) 1 := by unfold dk; decide +kernel
theorem dX4_copyFrom_65 : bk cX4_copyFrom 65 68 99 (.if_icmp .lt 34) (34) := by unfold bk; decide +kernel
theorem dX4_copyFrom_68 : dk cX4_copyFrom 68 69 (.aload_n 0) 1 := by unfold dk; decide +kernel
theorem dX4_copyFrom_69 : dk cX4_copyFrom 69 72 (.getfield 42) 3 := by unfold dk; decide +kernel
theorem dX4_copyFrom_72 : dk cX4_copyFrom 72 73 (.aload_n 1) 1 := by unfold dk; decide +kernel
theorem dX4_copyFrom_73 : dk cX4_copyFrom 73 76 (.getfield 42) 3 := by unfold dk; decide +kernel
theorem dX4_copyFrom_76 : dk cX4_copyFrom 76 79 (.invokevirtual 72) 3 := by unfold dk; decide +kernel
theorem dX4_copyFrom_79 : dk cX4_copyFrom 79 80 (.aload_n 1) 1 := by unfold dk; decide +kernel
theorem dX4_copyFrom_80 : dk cX4_copyFrom 80 83 (.getfield 46) 3 := by unfold dk; decide +kernel
theorem dX4_copyFrom_83 : dk cX4_copyFrom 83 84 (.iconst 0) 1 := by unfold dk; decide +kernel
theorem dX4_copyFrom_84 : dk cX4_copyFrom 84 85 (.aload_n 0) 1 := by unfold dk; decide +kernel
theorem dX4_copyFrom_85 : dk cX4_copyFrom 85 88 (.getfield 46) 3 := by unfold dk; decide +kernel
theorem dX4_copyFrom_88 : dk cX4_copyFrom 88 89 (.iconst 0) 1 := by unfold dk; decide +kernel
theorem dX4_copyFrom_89 : dk cX4_copyFrom 89 90 (.aload_n 0) 1 := by unfold dk; decide +kernel
theorem dX4_copyFrom_90 : dk cX4_copyFrom 90 93 (.getfield 33) 3 := by unfold dk; decide +kernel
theorem dX4_copyFrom_93 : dk cX4_copyFrom 93 96 (.getfield 75) 3 := by unfold dk; decide +kernel
theorem dX4_copyFrom_96 : dk cX4_copyFrom 96 99 (.invokestatic 56) 3 := by unfold dk; decide +kernel
theorem dX4_copyFrom_99 : dk cX4_copyFrom 99 100 (.return_) 1 := by unfold dk; decide +kernel
set_option maxHeartbeats 4000000 in
set_option maxRecDepth 100000 in
theorem kX4_copyFrom {l : Launch} {G : Gl} {E : En} {a0 : Nat} {a1 : Nat} {σ σ' : Sg} : fX4_copyFrom E a0 a1 σ = some σ' → CT l yX4_copyFrom cX4_copyFrom 2 none ({ frames := 3, cells := 0, slots := 0, locals := 103 } : Room) [.ref (G.1 + a0), .ref (G.1 + a1)] G E σ none σ' := by
  intro h
  refine CT_of (lv0 := [(0, .ref (G.1 + a0)), (1, .ref (G.1 + a1))]) (by decide) (Nat.le_of_ble_eq_true rfl) rfl (fun κ hl hR hr C => ?_)
  have C : Cx κ G cX4_copyFrom RX4 2 := C
  revert h
  unfold fX4_copyFrom
  refine R_tk (fun ha0 => ?_)
  refine R_tk (fun ha1 => ?_)
  refine R_aload_n C 0 rfl dX4_copyFrom_0 ?_
  refine R_dr (fun x1 rx1 cx1 => ?_)
  refine R_getr C fl4_12 rfl ha0 rx1 dX4_copyFrom_1 ?_
  refine R_aload_n C 1 rfl dX4_copyFrom_4 ?_
  refine R_dr (fun x2 rx2 cx2 => ?_)
  refine R_getr C fl4_12 rfl ha1 rx2 dX4_copyFrom_5 ?_
  refine R_bv (fun s3 q4 => ?_)
  refine R_callVv [.ref (G.1 + x2)] [] C ml4_52 (kX3_copyFrom q4) (by rw [hR]; exact ⟨rfl, rfl, Nat.le_of_ble_eq_true rfl, Nat.le_of_ble_eq_true rfl, Nat.zero_le _, Nat.zero_le _⟩) cx1 rfl rfl (Nat.le_of_ble_eq_true rfl) dX4_copyFrom_8 ?_
  refine R_aload_n C 1 rfl dX4_copyFrom_11 ?_
  refine R_dr (fun x5 rx5 cx5 => ?_)
  refine R_getr C fl4_27 rfl ha1 rx5 dX4_copyFrom_12 ?_
  refine R_iconst C (0) dX4_copyFrom_15 (by decide) ?_
  refine R_aload_n C 0 rfl dX4_copyFrom_16 ?_
  refine R_dr (fun x6 rx6 cx6 => ?_)
  refine R_getr C fl4_27 rfl ha0 rx6 dX4_copyFrom_17 ?_
  refine R_iconst C (0) dX4_copyFrom_20 (by decide) ?_
  refine R_bipush C (6) dX4_copyFrom_21 (by decide) ?_
  refine S_acopy C jd4_56 cx5 cx6 (by rw [hR]; exact ⟨Nat.le_of_ble_eq_true rfl, Nat.le_of_ble_eq_true rfl⟩) dX4_copyFrom_23 (fun s7 => ?_)
  refine R_aload_n C 0 rfl dX4_copyFrom_26 ?_
  refine R_aload_n C 1 rfl dX4_copyFrom_27 ?_
  refine R_geti C fl4_62 rfl ha1 dX4_copyFrom_28 ?_
  refine S_puti C fl4_62 rfl ha0 rfl rfl dX4_copyFrom_31 (fun s8 => ?_)
  refine R_aload_n C 0 rfl dX4_copyFrom_34 ?_
  refine R_geti C fl4_62 rfl ha0 dX4_copyFrom_35 ?_
  refine R_iconst C (1) dX4_copyFrom_38 (by decide) ?_
  refine R_bdK (fun (w : Unit) (s : Sg) => V κ G (QQ κ G E none σ') E s (false, 0, 0) 60 [(0, .ref (G.1 + a0)), (1, .ref (G.1 + a1))] []) (fun w9 s10 => ?_) (fun w9 s10 Kw9 => ?_)
  · refine R_aload_n C 0 rfl dX4_copyFrom_60 ?_
    refine R_geti C fl4_62 rfl ha0 dX4_copyFrom_61 ?_
    refine R_iconst C (2) dX4_copyFrom_64 (by decide) ?_
    refine R_bdK (fun (w : Unit) (s : Sg) => V κ G (QQ κ G E none σ') E s (false, 0, 0) 99 [] []) (fun w15 s16 => ?_) (fun w15 s16 Kw15 => ?_)
    · exact R_vret C hr dX4_copyFrom_99
    · refine B_icmp_lt C dX4_copyFrom_65 ?_ ?_
      · refine R_loc (lv2 := []) [] rfl ?_
        exact R_end (fun (w : Unit) (s : Sg) => V κ G (QQ κ G E none σ') E s (false, 0, 0) 99 [] []) Kw15
      · refine R_aload_n C 0 rfl dX4_copyFrom_68 ?_
        refine R_dr (fun x17 rx17 cx17 => ?_)
        refine R_getr C fl4_42 rfl ha0 rx17 dX4_copyFrom_69 ?_
        refine R_aload_n C 1 rfl dX4_copyFrom_72 ?_
        refine R_dr (fun x18 rx18 cx18 => ?_)
        refine R_getr C fl4_42 rfl ha1 rx18 dX4_copyFrom_73 ?_
        refine R_bv (fun s19 q20 => ?_)
        refine R_callVv [.ref (G.1 + x18)] [] C ml4_72 (kX1_copyFrom q20) (by rw [hR]; exact ⟨rfl, rfl, Nat.le_of_ble_eq_true rfl, Nat.le_of_ble_eq_true rfl, Nat.zero_le _, Nat.zero_le _⟩) cx17 rfl rfl (Nat.le_of_ble_eq_true rfl) dX4_copyFrom_76 ?_
        refine R_aload_n C 1 rfl dX4_copyFrom_79 ?_
        refine R_dr (fun x21 rx21 cx21 => ?_)
        refine R_getr C fl4_46 rfl ha1 rx21 dX4_copyFrom_80 ?_
        refine R_iconst C (0) dX4_copyFrom_83 (by decide) ?_
        refine R_aload_n C 0 rfl dX4_copyFrom_84 ?_
        refine R_dr (fun x22 rx22 cx22 => ?_)
        refine R_getr C fl4_46 rfl ha0 rx22 dX4_copyFrom_85 ?_
        refine R_iconst C (0) dX4_copyFrom_88 (by decide) ?_
        refine R_aload_n C 0 rfl dX4_copyFrom_89 ?_
        refine R_dr (fun x23 rx23 cx23 => ?_)
        refine R_getr C fl4_33 rfl ha0 rx23 dX4_copyFrom_90 ?_
        refine R_geti C fl4_75 rfl cx23 dX4_copyFrom_93 ?_
        refine S_acopy C jd4_56 cx21 cx22 (by rw [hR]; exact ⟨Nat.le_of_ble_eq_true rfl, Nat.le_of_ble_eq_true rfl⟩) dX4_copyFrom_96 (fun s24 => ?_)
        refine R_loc (lv2 := []) [] rfl ?_
        exact R_end (fun (w : Unit) (s : Sg) => V κ G (QQ κ G E none σ') E s (false, 0, 0) 99 [] []) Kw15
  · refine B_icmp_lt C dX4_copyFrom_39 ?_ ?_
    · exact R_end (fun (w : Unit) (s : Sg) => V κ G (QQ κ G E none σ') E s (false, 0, 0) 60 [(0, .ref (G.1 + a0)), (1, .ref (G.1 + a1))] []) Kw9
    · refine R_aload_n C 0 rfl dX4_copyFrom_42 ?_
      refine R_dr (fun x11 rx11 cx11 => ?_)
      refine R_getr C fl4_33 rfl ha0 rx11 dX4_copyFrom_43 ?_
      refine R_aload_n C 1 rfl dX4_copyFrom_46 ?_
      refine R_dr (fun x12 rx12 cx12 => ?_)
      refine R_getr C fl4_33 rfl ha1 rx12 dX4_copyFrom_47 ?_
      refine R_aload_n C 0 rfl dX4_copyFrom_50 ?_
      refine R_getr C fl4_12 rfl ha0 rx1 dX4_copyFrom_51 ?_
      refine R_geti C fl4_66 rfl cx1 dX4_copyFrom_54 ?_
      refine R_bv (fun s13 q14 => ?_)
      refine R_callVv [.ref (G.1 + x12), .int (gi s8 x1 2)] [] C ml4_69 (kX0_copyFrom q14) (by rw [hR]; exact ⟨rfl, rfl, Nat.le_of_ble_eq_true rfl, Nat.le_of_ble_eq_true rfl, Nat.zero_le _, Nat.zero_le _⟩) cx11 rfl rfl (Nat.le_of_ble_eq_true rfl) dX4_copyFrom_57 ?_
      exact R_end (fun (w : Unit) (s : Sg) => V κ G (QQ κ G E none σ') E s (false, 0, 0) 60 [(0, .ref (G.1 + a0)), (1, .ref (G.1 + a1))] []) Kw9
theorem dX4_growRuns_0 : dk cX4_growRuns 0 1 (.aload_n 0) 1 := by unfold dk; decide +kernel
theorem dX4_growRuns_1 : dk cX4_growRuns 1 4 (.getfield 33) 3 := by unfold dk; decide +kernel
theorem dX4_growRuns_4 : dk cX4_growRuns 4 5 (.aload_n 0) 1 := by unfold dk; decide +kernel
theorem dX4_growRuns_5 : dk cX4_growRuns 5 8 (.getfield 12) 3 := by unfold dk; decide +kernel
theorem dX4_growRuns_8 : dk cX4_growRuns 8 9 (.aload_n 0) 1 := by unfold dk; decide +kernel
theorem dX4_growRuns_9 : dk cX4_growRuns 9 12 (.getfield 27) 3 := by unfold dk; decide +kernel
theorem dX4_growRuns_12 : dk cX4_growRuns 12 13 (.iconst 0) 1 := by unfold dk; decide +kernel
theorem dX4_growRuns_13 : dk cX4_growRuns 13 14 (.iaload) 1 := by unfold dk; decide +kernel
theorem dX4_growRuns_14 : dk cX4_growRuns 14 15 (.aload_n 0) 1 := by unfold dk; decide +kernel
theorem dX4_growRuns_15 : dk cX4_growRuns 15 18 (.getfield 27) 3 := by unfold dk; decide +kernel
theorem dX4_growRuns_18 : dk cX4_growRuns 18 19 (.iconst 5) 1 := by unfold dk; decide +kernel
theorem dX4_growRuns_19 : dk cX4_growRuns 19 20 (.iaload) 1 := by unfold dk; decide +kernel
theorem dX4_growRuns_20 : dk cX4_growRuns 20 21 (.iconst 1) 1 := by unfold dk; decide +kernel
theorem dX4_growRuns_21 : bk cX4_growRuns 21 24 28 (.if_icmp .ne 7) (7) := by unfold bk; decide +kernel
theorem dX4_growRuns_28 : dk cX4_growRuns 28 29 (.iconst 0) 1 := by unfold dk; decide +kernel
theorem dX4_growRuns_24 : dk cX4_growRuns 24 25 (.iconst 1) 1 := by unfold dk; decide +kernel
theorem dX4_growRuns_25 : bk cX4_growRuns 25 28 29 (.goto 4) (4) := by unfold bk; decide +kernel
theorem dX4_growRuns_29 : dk cX4_growRuns 29 32 (.invokevirtual 76) 3 := by unfold dk; decide +kernel
theorem dX4_growRuns_32 : dk cX4_growRuns 32 33 (.aload_n 0) 1 := by unfold dk; decide +kernel
theorem dX4_growRuns_33 : dk cX4_growRuns 33 34 (.iconst 1) 1 := by unfold dk; decide +kernel
theorem dX4_growRuns_34 : dk cX4_growRuns 34 37 (.putfield 62) 3 := by unfold dk; decide +kernel
theorem dX4_growRuns_37 : dk cX4_growRuns 37 38 (.return_) 1 := by unfold dk; decide +kernel
set_option maxHeartbeats 4000000 in
set_option maxRecDepth 100000 in
theorem kX4_growRuns {l : Launch} {G : Gl} {E : En} {a0 : Nat} {σ σ' : Sg} : fX4_growRuns E a0 σ = some σ' → CT l yX4_growRuns cX4_growRuns 1 none ({ frames := 3, cells := 0, slots := 0, locals := 72 } : Room) [.ref (G.1 + a0)] G E σ none σ' := by
  intro h
  refine CT_of (lv0 := [(0, .ref (G.1 + a0))]) (by decide) (Nat.le_of_ble_eq_true rfl) rfl (fun κ hl hR hr C => ?_)
  have C : Cx κ G cX4_growRuns RX4 1 := C
  revert h
  unfold fX4_growRuns
  refine R_tk (fun ha0 => ?_)
  refine R_aload_n C 0 rfl dX4_growRuns_0 ?_
  refine R_dr (fun x1 rx1 cx1 => ?_)
  refine R_getr C fl4_33 rfl ha0 rx1 dX4_growRuns_1 ?_
  refine R_aload_n C 0 rfl dX4_growRuns_4 ?_
  refine R_dr (fun x2 rx2 cx2 => ?_)
  refine R_getr C fl4_12 rfl ha0 rx2 dX4_growRuns_5 ?_
  refine R_aload_n C 0 rfl dX4_growRuns_8 ?_
  refine R_dr (fun x3 rx3 cx3 => ?_)
  refine R_getr C fl4_27 rfl ha0 rx3 dX4_growRuns_9 ?_
  refine R_iconst C (0) dX4_growRuns_12 (by decide) ?_
  refine R_ck (fun h4 => ?_)
  refine R_iald C cx3 h4 dX4_growRuns_13 ?_
  refine R_aload_n C 0 rfl dX4_growRuns_14 ?_
  refine R_getr C fl4_27 rfl ha0 rx3 dX4_growRuns_15 ?_
  refine R_iconst C (5) dX4_growRuns_18 (by decide) ?_
  refine R_ck (fun h5 => ?_)
  refine R_iald C cx3 h5 dX4_growRuns_19 ?_
  refine R_iconst C (1) dX4_growRuns_20 (by decide) ?_
  refine R_bdK (fun (w : Int32) (s : Sg) => V κ G (QQ κ G E none σ') E s (false, 0, 0) 29 [(0, .ref (G.1 + a0))] [.int w, .int (gi σ x3 (0 : Int32).toNatClampNeg), .ref (G.1 + x2), .ref (G.1 + x1)]) (fun w6 s7 => ?_) (fun w6 s7 Kw6 => ?_)
  · refine R_bv (fun s8 q9 => ?_)
    refine R_callVv [.ref (G.1 + x2), .int (gi σ x3 (0 : Int32).toNatClampNeg), .int w6] [] C ml4_76 (kX0_growFrom q9) (by rw [hR]; exact ⟨rfl, rfl, Nat.le_of_ble_eq_true rfl, Nat.le_of_ble_eq_true rfl, Nat.zero_le _, Nat.zero_le _⟩) cx1 rfl rfl (Nat.le_of_ble_eq_true rfl) dX4_growRuns_29 ?_
    refine R_aload_n C 0 rfl dX4_growRuns_32 ?_
    refine R_iconst C (1) dX4_growRuns_33 (by decide) ?_
    refine S_puti C fl4_62 rfl ha0 rfl rfl dX4_growRuns_34 (fun s10 => ?_)
    exact R_vret C hr dX4_growRuns_37
  · refine B_icmp_ne C dX4_growRuns_21 ?_ ?_
    · refine R_iconst C (0) dX4_growRuns_28 (by decide) ?_
      exact R_end (fun (w : Int32) (s : Sg) => V κ G (QQ κ G E none σ') E s (false, 0, 0) 29 [(0, .ref (G.1 + a0))] [.int w, .int (gi σ x3 (0 : Int32).toNatClampNeg), .ref (G.1 + x2), .ref (G.1 + x1)]) Kw6
    · refine R_iconst C (1) dX4_growRuns_24 (by decide) ?_
      refine R_goto C dX4_growRuns_25 ?_
      exact R_end (fun (w : Int32) (s : Sg) => V κ G (QQ κ G E none σ') E s (false, 0, 0) 29 [(0, .ref (G.1 + a0))] [.int w, .int (gi σ x3 (0 : Int32).toNatClampNeg), .ref (G.1 + x2), .ref (G.1 + x1)]) Kw6
theorem dX4_layRuns_0 : dk cX4_layRuns 0 1 (.iconst 0) 1 := by unfold dk; decide +kernel
theorem dX4_layRuns_1 : dk cX4_layRuns 1 2 (.istore_n 2) 1 := by unfold dk; decide +kernel
theorem dX4_layRuns_2 : dk cX4_layRuns 2 3 (.iload_n 2) 1 := by unfold dk; decide +kernel
theorem dX4_layRuns_3 : dk cX4_layRuns 3 4 (.aload_n 0) 1 := by unfold dk; decide +kernel
theorem dX4_layRuns_4 : dk cX4_layRuns 4 7 (.getfield 33) 3 := by unfold dk; decide +kernel
theorem dX4_layRuns_7 : dk cX4_layRuns 7 10 (.getfield 75) 3 := by unfold dk; decide +kernel
theorem dX4_layRuns_13 : dk cX4_layRuns 13 14 (.aload_n 1) 1 := by unfold dk; decide +kernel
theorem dX4_layRuns_14 : dk cX4_layRuns 14 15 (.aload_n 0) 1 := by unfold dk; decide +kernel
theorem dX4_layRuns_15 : dk cX4_layRuns 15 18 (.getfield 33) 3 := by unfold dk; decide +kernel
theorem dX4_layRuns_18 : dk cX4_layRuns 18 21 (.getfield 90) 3 := by unfold dk; decide +kernel
theorem dX4_layRuns_21 : dk cX4_layRuns 21 22 (.iload_n 2) 1 := by unfold dk; decide +kernel
theorem dX4_layRuns_22 : dk cX4_layRuns 22 23 (.iaload) 1 := by unfold dk; decide +kernel
theorem dX4_layRuns_23 : dk cX4_layRuns 23 24 (.aload_n 0) 1 := by unfold dk; decide +kernel
theorem dX4_layRuns_24 : dk cX4_layRuns 24 27 (.getfield 33) 3 := by unfold dk; decide +kernel
theorem dX4_layRuns_27 : dk cX4_layRuns 27 28 (.iload_n 2) 1 := by unfold dk; decide +kernel
theorem dX4_layRuns_28 : dk cX4_layRuns 28 31 (.invokevirtual 93) 3 := by unfold dk; decide +kernel
theorem dX4_layRuns_31 : dk cX4_layRuns 31 34 (.invokevirtual 97) 3 := by unfold dk; decide +kernel
theorem dX4_layRuns_34 : dk cX4_layRuns 34 37 (.iinc 2 1) 3 := by unfold dk; decide +kernel
theorem dX4_layRuns_37 : bk cX4_layRuns 37 40 2 (.goto (-35)) (-35) := by unfold bk; decide +kernel
theorem dX4_layRuns_10 : bk cX4_layRuns 10 13 40 (.if_icmp .ge 30) (30) := by unfold bk; decide +kernel
theorem dX4_layRuns_40 : dk cX4_layRuns 40 41 (.aload_n 1) 1 := by unfold dk; decide +kernel
theorem dX4_layRuns_41 : dk cX4_layRuns 41 42 (.aload_n 0) 1 := by unfold dk; decide +kernel
theorem dX4_layRuns_42 : dk cX4_layRuns 42 45 (.getfield 27) 3 := by unfold dk; decide +kernel
theorem dX4_layRuns_45 : dk cX4_layRuns 45 46 (.iconst 3) 1 := by unfold dk; decide +kernel
theorem dX4_layRuns_46 : dk cX4_layRuns 46 47 (.iaload) 1 := by unfold dk; decide +kernel
theorem dX4_layRuns_47 : dk cX4_layRuns 47 48 (.iconst 1) 1 := by unfold dk; decide +kernel
theorem dX4_layRuns_48 : bk cX4_layRuns 48 51 55 (.if_icmp .ne 7) (7) := by unfold bk; decide +kernel
theorem dX4_layRuns_55 : dk cX4_layRuns 55 56 (.iconst 0) 1 := by unfold dk; decide +kernel
theorem dX4_layRuns_51 : dk cX4_layRuns 51 52 (.iconst 1) 1 := by unfold dk; decide +kernel
theorem dX4_layRuns_52 : bk cX4_layRuns 52 55 56 (.goto 4) (4) := by unfold bk; decide +kernel
theorem dX4_layRuns_56 : dk cX4_layRuns 56 59 (.invokevirtual 101) 3 := by unfold dk; decide +kernel
theorem dX4_layRuns_59 : dk cX4_layRuns 59 60 (.return_) 1 := by unfold dk; decide +kernel
set_option maxHeartbeats 4000000 in
set_option maxRecDepth 100000 in
theorem kX4_layRuns {l : Launch} {G : Gl} {E : En} {a0 : Nat} {a1 : Nat} {σ σ' : Sg} : fX4_layRuns E a0 a1 σ = some σ' → CT l yX4_layRuns cX4_layRuns 3 none ({ frames := 4, cells := 0, slots := 0, locals := 90 } : Room) [.ref (G.1 + a0), .ref (G.1 + a1)] G E σ none σ' := by
  intro h
  refine CT_of (lv0 := [(0, .ref (G.1 + a0)), (1, .ref (G.1 + a1))]) (by decide) (Nat.le_of_ble_eq_true rfl) rfl (fun κ hl hR hr C => ?_)
  have C : Cx κ G cX4_layRuns RX4 3 := C
  revert h
  unfold fX4_layRuns
  refine R_tk (fun ha0 => ?_)
  refine R_tk (fun ha1 => ?_)
  refine R_iconst C (0) dX4_layRuns_0 (by decide) ?_
  refine R_istore_n (lv2 := [(2, .int (0 : Int32)), (0, .ref (G.1 + a0)), (1, .ref (G.1 + a1))]) C dX4_layRuns_1 rfl (by decide) rfl ?_
  refine R_loc (lv2 := [(0, .ref (G.1 + a0)), (1, .ref (G.1 + a1)), (2, .int (0 : Int32))]) [1, 2, 0] rfl ?_
  refine R_loop (fun (a : (Int32) × Sg) => V κ G (QQ κ G E none σ') E a.2 (false, 0, 0) 2 [(0, .ref (G.1 + a0)), (1, .ref (G.1 + a1)), (2, .int a.1)] []) (fun (o : (Int32)) (s : Sg) => V κ G (QQ κ G E none σ') E s (false, 0, 0) 40 [(0, .ref (G.1 + a0)), (1, .ref (G.1 + a1))] []) ((0 : Int32), σ) (fun o16 s17 => ?_) (fun rec I6 a b4 s5 K3 => ?_)
  · refine R_aload_n C 1 rfl dX4_layRuns_40 ?_
    refine R_aload_n C 0 rfl dX4_layRuns_41 ?_
    refine R_dr (fun x18 rx18 cx18 => ?_)
    refine R_getr C fl4_27 rfl ha0 rx18 dX4_layRuns_42 ?_
    refine R_iconst C (3) dX4_layRuns_45 (by decide) ?_
    refine R_ck (fun h19 => ?_)
    refine R_iald C cx18 h19 dX4_layRuns_46 ?_
    refine R_iconst C (1) dX4_layRuns_47 (by decide) ?_
    refine R_bdK (fun (w : Int32) (s : Sg) => V κ G (QQ κ G E none σ') E s (false, 0, 0) 56 [] [.int w, .ref (G.1 + a1)]) (fun w20 s21 => ?_) (fun w20 s21 Kw20 => ?_)
    · refine R_bv (fun s22 q23 => ?_)
      refine R_callVv [.int w20] [] C ml4_101 (kX1_layOut q23) (by rw [hR]; exact ⟨rfl, rfl, Nat.le_of_ble_eq_true rfl, Nat.le_of_ble_eq_true rfl, Nat.zero_le _, Nat.zero_le _⟩) ha1 rfl rfl (Nat.le_of_ble_eq_true rfl) dX4_layRuns_56 ?_
      exact R_vret C hr dX4_layRuns_59
    · refine B_icmp_ne C dX4_layRuns_48 ?_ ?_
      · refine R_iconst C (0) dX4_layRuns_55 (by decide) ?_
        refine R_loc (lv2 := []) [] rfl ?_
        exact R_end (fun (w : Int32) (s : Sg) => V κ G (QQ κ G E none σ') E s (false, 0, 0) 56 [] [.int w, .ref (G.1 + a1)]) Kw20
      · refine R_iconst C (1) dX4_layRuns_51 (by decide) ?_
        refine R_goto C dX4_layRuns_52 ?_
        refine R_loc (lv2 := []) [] rfl ?_
        exact R_end (fun (w : Int32) (s : Sg) => V κ G (QQ κ G E none σ') E s (false, 0, 0) 56 [] [.int w, .ref (G.1 + a1)]) Kw20
  · obtain ⟨v1, s2⟩ := a
    show bX4_layRuns_2 E a0 a1 (fun u0 t => rec (u0, t)) v1 s2 = some (b4, s5) → V κ G (QQ κ G E none σ') E s2 (false, 0, 0) 2 [(0, .ref (G.1 + a0)), (1, .ref (G.1 + a1)), (2, .int v1)] []
    unfold bX4_layRuns_2
    refine R_iload_n C 2 rfl dX4_layRuns_2 ?_
    refine R_aload_n C 0 rfl dX4_layRuns_3 ?_
    refine R_dr (fun x7 rx7 cx7 => ?_)
    refine R_getr C fl4_33 rfl ha0 rx7 dX4_layRuns_4 ?_
    refine R_geti C fl4_75 rfl cx7 dX4_layRuns_7 ?_
    refine B_icmp_ge C dX4_layRuns_10 ?_ ?_
    · refine R_loc (lv2 := [(0, .ref (G.1 + a0)), (1, .ref (G.1 + a1))]) [0, 1] rfl ?_
      exact R_end (fun (o : (Int32)) (s : Sg) => V κ G (QQ κ G E none σ') E s (false, 0, 0) 40 [(0, .ref (G.1 + a0)), (1, .ref (G.1 + a1))] []) K3
    · refine R_aload_n C 1 rfl dX4_layRuns_13 ?_
      refine R_aload_n C 0 rfl dX4_layRuns_14 ?_
      refine R_getr C fl4_33 rfl ha0 rx7 dX4_layRuns_15 ?_
      refine R_dr (fun x8 rx8 cx8 => ?_)
      refine R_getr C fl4_90 rfl cx7 rx8 dX4_layRuns_18 ?_
      refine R_iload_n C 2 rfl dX4_layRuns_21 ?_
      refine R_ck (fun h9 => ?_)
      refine R_iald C cx8 h9 dX4_layRuns_22 ?_
      refine R_aload_n C 0 rfl dX4_layRuns_23 ?_
      refine R_getr C fl4_33 rfl ha0 rx7 dX4_layRuns_24 ?_
      refine R_iload_n C 2 rfl dX4_layRuns_27 ?_
      refine R_bd (fun r12 s10 q11 => ?_)
      refine R_callVi [.int v1] [.int (gi s2 x8 v1.toNatClampNeg), .ref (G.1 + a1)] C ml4_93 (kX0_falls q11) (by rw [hR]; exact ⟨rfl, rfl, Nat.le_of_ble_eq_true rfl, Nat.le_of_ble_eq_true rfl, Nat.zero_le _, Nat.zero_le _⟩) cx7 rfl rfl (Nat.le_of_ble_eq_true rfl) dX4_layRuns_28 ?_
      refine R_bv (fun s13 q14 => ?_)
      refine R_callVv [.int (gi s2 x8 v1.toNatClampNeg), .int r12] [] C ml4_97 (kX1_load q14) (by rw [hR]; exact ⟨rfl, rfl, Nat.le_of_ble_eq_true rfl, Nat.le_of_ble_eq_true rfl, Nat.zero_le _, Nat.zero_le _⟩) ha1 rfl rfl (Nat.le_of_ble_eq_true rfl) dX4_layRuns_31 ?_
      refine S_iinc (fun v15 => [(2, .int v15), (0, .ref (G.1 + a0)), (1, .ref (G.1 + a1))]) 2 C dX4_layRuns_34 rfl (by decide) (by decide) (fun _ => rfl) (fun v15 => ?_)
      refine R_goto C dX4_layRuns_37 ?_
      refine R_loc (lv2 := [(0, .ref (G.1 + a0)), (1, .ref (G.1 + a1)), (2, .int v15)]) [1, 2, 0] rfl ?_
      exact I6 (v15, s13) b4 s5 K3
theorem dX4_spreadRuns_0 : dk cX4_spreadRuns 0 1 (.aload_n 0) 1 := by unfold dk; decide +kernel
theorem dX4_spreadRuns_1 : dk cX4_spreadRuns 1 4 (.getfield 42) 3 := by unfold dk; decide +kernel
theorem dX4_spreadRuns_4 : dk cX4_spreadRuns 4 5 (.aload_n 0) 1 := by unfold dk; decide +kernel
theorem dX4_spreadRuns_5 : dk cX4_spreadRuns 5 8 (.getfield 27) 3 := by unfold dk; decide +kernel
theorem dX4_spreadRuns_8 : dk cX4_spreadRuns 8 9 (.iconst 2) 1 := by unfold dk; decide +kernel
theorem dX4_spreadRuns_9 : dk cX4_spreadRuns 9 10 (.iaload) 1 := by unfold dk; decide +kernel
theorem dX4_spreadRuns_10 : dk cX4_spreadRuns 10 11 (.aload_n 0) 1 := by unfold dk; decide +kernel
theorem dX4_spreadRuns_11 : dk cX4_spreadRuns 11 14 (.getfield 27) 3 := by unfold dk; decide +kernel
theorem dX4_spreadRuns_14 : dk cX4_spreadRuns 14 15 (.iconst 1) 1 := by unfold dk; decide +kernel
theorem dX4_spreadRuns_15 : dk cX4_spreadRuns 15 16 (.iaload) 1 := by unfold dk; decide +kernel
theorem dX4_spreadRuns_16 : dk cX4_spreadRuns 16 17 (.aload_n 0) 1 := by unfold dk; decide +kernel
theorem dX4_spreadRuns_17 : dk cX4_spreadRuns 17 20 (.getfield 27) 3 := by unfold dk; decide +kernel
theorem dX4_spreadRuns_20 : dk cX4_spreadRuns 20 21 (.iconst 4) 1 := by unfold dk; decide +kernel
theorem dX4_spreadRuns_21 : dk cX4_spreadRuns 21 22 (.iaload) 1 := by unfold dk; decide +kernel
theorem dX4_spreadRuns_22 : dk cX4_spreadRuns 22 23 (.iconst 1) 1 := by unfold dk; decide +kernel
theorem dX4_spreadRuns_23 : bk cX4_spreadRuns 23 26 30 (.if_icmp .ne 7) (7) := by unfold bk; decide +kernel
theorem dX4_spreadRuns_30 : dk cX4_spreadRuns 30 31 (.iconst 0) 1 := by unfold dk; decide +kernel
theorem dX4_spreadRuns_26 : dk cX4_spreadRuns 26 27 (.iconst 1) 1 := by unfold dk; decide +kernel
theorem dX4_spreadRuns_27 : bk cX4_spreadRuns 27 30 31 (.goto 4) (4) := by unfold bk; decide +kernel
theorem dX4_spreadRuns_31 : dk cX4_spreadRuns 31 34 (.invokevirtual 80) 3 := by unfold dk; decide +kernel
theorem dX4_spreadRuns_34 : dk cX4_spreadRuns 34 35 (.aload_n 0) 1 := by unfold dk; decide +kernel
theorem dX4_spreadRuns_35 : dk cX4_spreadRuns 35 36 (.aload_n 0) 1 := by unfold dk; decide +kernel
theorem dX4_spreadRuns_36 : dk cX4_spreadRuns 36 39 (.getfield 42) 3 := by unfold dk; decide +kernel
theorem dX4_spreadRuns_39 : dk cX4_spreadRuns 39 42 (.invokevirtual 84) 3 := by unfold dk; decide +kernel
theorem dX4_spreadRuns_42 : dk cX4_spreadRuns 42 43 (.iconst 0) 1 := by unfold dk; decide +kernel
theorem dX4_spreadRuns_43 : dk cX4_spreadRuns 43 44 (.istore_n 1) 1 := by unfold dk; decide +kernel
theorem dX4_spreadRuns_44 : dk cX4_spreadRuns 44 45 (.iload_n 1) 1 := by unfold dk; decide +kernel
theorem dX4_spreadRuns_45 : dk cX4_spreadRuns 45 46 (.aload_n 0) 1 := by unfold dk; decide +kernel
theorem dX4_spreadRuns_46 : dk cX4_spreadRuns 46 49 (.getfield 33) 3 := by unfold dk; decide +kernel
theorem dX4_spreadRuns_49 : dk cX4_spreadRuns 49 52 (.getfield 75) 3 := by unfold dk; decide +kernel
theorem dX4_spreadRuns_55 : dk cX4_spreadRuns 55 56 (.aload_n 0) 1 := by unfold dk; decide +kernel
theorem dX4_spreadRuns_56 : dk cX4_spreadRuns 56 59 (.getfield 46) 3 := by unfold dk; decide +kernel
theorem dX4_spreadRuns_59 : dk cX4_spreadRuns 59 60 (.iload_n 1) 1 := by unfold dk; decide +kernel
theorem dX4_spreadRuns_60 : dk cX4_spreadRuns 60 61 (.iload_n 1) 1 := by unfold dk; decide +kernel
theorem dX4_spreadRuns_61 : dk cX4_spreadRuns 61 62 (.iastore) 1 := by unfold dk; decide +kernel
theorem dX4_spreadRuns_62 : dk cX4_spreadRuns 62 65 (.iinc 1 1) 3 := by unfold dk; decide +kernel
theorem dX4_spreadRuns_65 : bk cX4_spreadRuns 65 68 44 (.goto (-21)) (-21) := by unfold bk; decide +kernel
theorem dX4_spreadRuns_52 : bk cX4_spreadRuns 52 55 68 (.if_icmp .ge 16) (16) := by unfold bk; decide +kernel
theorem dX4_spreadRuns_68 : dk cX4_spreadRuns 68 69 (.aload_n 0) 1 := by unfold dk; decide +kernel
theorem dX4_spreadRuns_69 : dk cX4_spreadRuns 69 70 (.aload_n 0) 1 := by unfold dk; decide +kernel
theorem dX4_spreadRuns_70 : dk cX4_spreadRuns 70 73 (.getfield 42) 3 := by unfold dk; decide +kernel
theorem dX4_spreadRuns_73 : dk cX4_spreadRuns 73 76 (.getfield 87) 3 := by unfold dk; decide +kernel
theorem dX4_spreadRuns_76 : dk cX4_spreadRuns 76 77 (.iconst 1) 1 := by unfold dk; decide +kernel
theorem dX4_spreadRuns_77 : bk cX4_spreadRuns 77 80 84 (.if_icmp .le 7) (7) := by unfold bk; decide +kernel
theorem dX4_spreadRuns_84 : dk cX4_spreadRuns 84 85 (.iconst 3) 1 := by unfold dk; decide +kernel
theorem dX4_spreadRuns_80 : dk cX4_spreadRuns 80 81 (.iconst 2) 1 := by unfold dk; decide +kernel
theorem dX4_spreadRuns_81 : bk cX4_spreadRuns 81 84 85 (.goto 4) (4) := by unfold bk; decide +kernel
theorem dX4_spreadRuns_85 : dk cX4_spreadRuns 85 88 (.putfield 62) 3 := by unfold dk; decide +kernel
theorem dX4_spreadRuns_88 : dk cX4_spreadRuns 88 89 (.return_) 1 := by unfold dk; decide +kernel
set_option maxHeartbeats 4000000 in
set_option maxRecDepth 100000 in
theorem kX4_spreadRuns {l : Launch} {G : Gl} {E : En} {a0 : Nat} {σ σ' : Sg} : fX4_spreadRuns E a0 σ = some σ' → CT l yX4_spreadRuns cX4_spreadRuns 2 none ({ frames := 5, cells := 0, slots := 0, locals := 112 } : Room) [.ref (G.1 + a0)] G E σ none σ' := by
  intro h
  refine CT_of (lv0 := [(0, .ref (G.1 + a0))]) (by decide) (Nat.le_of_ble_eq_true rfl) rfl (fun κ hl hR hr C => ?_)
  have C : Cx κ G cX4_spreadRuns RX4 2 := C
  revert h
  unfold fX4_spreadRuns
  refine R_tk (fun ha0 => ?_)
  refine R_aload_n C 0 rfl dX4_spreadRuns_0 ?_
  refine R_dr (fun x1 rx1 cx1 => ?_)
  refine R_getr C fl4_42 rfl ha0 rx1 dX4_spreadRuns_1 ?_
  refine R_aload_n C 0 rfl dX4_spreadRuns_4 ?_
  refine R_dr (fun x2 rx2 cx2 => ?_)
  refine R_getr C fl4_27 rfl ha0 rx2 dX4_spreadRuns_5 ?_
  refine R_iconst C (2) dX4_spreadRuns_8 (by decide) ?_
  refine R_ck (fun h3 => ?_)
  refine R_iald C cx2 h3 dX4_spreadRuns_9 ?_
  refine R_aload_n C 0 rfl dX4_spreadRuns_10 ?_
  refine R_getr C fl4_27 rfl ha0 rx2 dX4_spreadRuns_11 ?_
  refine R_iconst C (1) dX4_spreadRuns_14 (by decide) ?_
  refine R_ck (fun h4 => ?_)
  refine R_iald C cx2 h4 dX4_spreadRuns_15 ?_
  refine R_aload_n C 0 rfl dX4_spreadRuns_16 ?_
  refine R_getr C fl4_27 rfl ha0 rx2 dX4_spreadRuns_17 ?_
  refine R_iconst C (4) dX4_spreadRuns_20 (by decide) ?_
  refine R_ck (fun h5 => ?_)
  refine R_iald C cx2 h5 dX4_spreadRuns_21 ?_
  refine R_iconst C (1) dX4_spreadRuns_22 (by decide) ?_
  refine R_bdK (fun (w : Int32) (s : Sg) => V κ G (QQ κ G E none σ') E s (false, 0, 0) 31 [(0, .ref (G.1 + a0))] [.int w, .int (gi σ x2 (1 : Int32).toNatClampNeg), .int (gi σ x2 (2 : Int32).toNatClampNeg), .ref (G.1 + x1)]) (fun w6 s7 => ?_) (fun w6 s7 Kw6 => ?_)
  · refine R_bv (fun s8 q9 => ?_)
    refine R_callVv [.int (gi σ x2 (2 : Int32).toNatClampNeg), .int (gi σ x2 (1 : Int32).toNatClampNeg), .int w6] [] C ml4_80 (kX1_begin q9) (by rw [hR]; exact ⟨rfl, rfl, Nat.le_of_ble_eq_true rfl, Nat.le_of_ble_eq_true rfl, Nat.zero_le _, Nat.zero_le _⟩) cx1 rfl rfl (Nat.le_of_ble_eq_true rfl) dX4_spreadRuns_31 ?_
    refine R_aload_n C 0 rfl dX4_spreadRuns_34 ?_
    refine R_aload_n C 0 rfl dX4_spreadRuns_35 ?_
    refine R_getr C fl4_42 rfl ha0 rx1 dX4_spreadRuns_36 ?_
    refine R_bv (fun s10 q11 => ?_)
    refine R_callVv [.ref (G.1 + x1)] [] C ml4_84 (kX4_layRuns q11) (by rw [hR]; exact ⟨rfl, rfl, Nat.le_of_ble_eq_true rfl, Nat.le_of_ble_eq_true rfl, Nat.zero_le _, Nat.zero_le _⟩) ha0 rfl rfl (Nat.le_of_ble_eq_true rfl) dX4_spreadRuns_39 ?_
    refine R_iconst C (0) dX4_spreadRuns_42 (by decide) ?_
    refine R_istore_n (lv2 := [(1, .int (0 : Int32)), (0, .ref (G.1 + a0))]) C dX4_spreadRuns_43 rfl (by decide) rfl ?_
    refine R_loc (lv2 := [(0, .ref (G.1 + a0)), (1, .int (0 : Int32))]) [1, 0] rfl ?_
    refine R_loop (fun (a : (Int32) × Sg) => V κ G (QQ κ G E none σ') E a.2 (false, 0, 0) 44 [(0, .ref (G.1 + a0)), (1, .int a.1)] []) (fun (o : (Int32)) (s : Sg) => V κ G (QQ κ G E none σ') E s (false, 0, 0) 68 [(0, .ref (G.1 + a0))] []) ((0 : Int32), s10) (fun o23 s24 => ?_) (fun rec I17 a b15 s16 K14 => ?_)
    · refine R_aload_n C 0 rfl dX4_spreadRuns_68 ?_
      refine R_aload_n C 0 rfl dX4_spreadRuns_69 ?_
      refine R_getr C fl4_42 rfl ha0 rx1 dX4_spreadRuns_70 ?_
      refine R_geti C fl4_87 rfl cx1 dX4_spreadRuns_73 ?_
      refine R_iconst C (1) dX4_spreadRuns_76 (by decide) ?_
      refine R_bdK (fun (w : Int32) (s : Sg) => V κ G (QQ κ G E none σ') E s (false, 0, 0) 85 [] [.int w, .ref (G.1 + a0)]) (fun w25 s26 => ?_) (fun w25 s26 Kw25 => ?_)
      · refine S_puti C fl4_62 rfl ha0 rfl rfl dX4_spreadRuns_85 (fun s27 => ?_)
        exact R_vret C hr dX4_spreadRuns_88
      · refine B_icmp_le C dX4_spreadRuns_77 ?_ ?_
        · refine R_iconst C (3) dX4_spreadRuns_84 (by decide) ?_
          refine R_loc (lv2 := []) [] rfl ?_
          exact R_end (fun (w : Int32) (s : Sg) => V κ G (QQ κ G E none σ') E s (false, 0, 0) 85 [] [.int w, .ref (G.1 + a0)]) Kw25
        · refine R_iconst C (2) dX4_spreadRuns_80 (by decide) ?_
          refine R_goto C dX4_spreadRuns_81 ?_
          refine R_loc (lv2 := []) [] rfl ?_
          exact R_end (fun (w : Int32) (s : Sg) => V κ G (QQ κ G E none σ') E s (false, 0, 0) 85 [] [.int w, .ref (G.1 + a0)]) Kw25
    · obtain ⟨v12, s13⟩ := a
      show bX4_spreadRuns_44 E a0 (fun u0 t => rec (u0, t)) v12 s13 = some (b15, s16) → V κ G (QQ κ G E none σ') E s13 (false, 0, 0) 44 [(0, .ref (G.1 + a0)), (1, .int v12)] []
      unfold bX4_spreadRuns_44
      refine R_iload_n C 1 rfl dX4_spreadRuns_44 ?_
      refine R_aload_n C 0 rfl dX4_spreadRuns_45 ?_
      refine R_dr (fun x18 rx18 cx18 => ?_)
      refine R_getr C fl4_33 rfl ha0 rx18 dX4_spreadRuns_46 ?_
      refine R_geti C fl4_75 rfl cx18 dX4_spreadRuns_49 ?_
      refine B_icmp_ge C dX4_spreadRuns_52 ?_ ?_
      · refine R_loc (lv2 := [(0, .ref (G.1 + a0))]) [0] rfl ?_
        exact R_end (fun (o : (Int32)) (s : Sg) => V κ G (QQ κ G E none σ') E s (false, 0, 0) 68 [(0, .ref (G.1 + a0))] []) K14
      · refine R_aload_n C 0 rfl dX4_spreadRuns_55 ?_
        refine R_dr (fun x19 rx19 cx19 => ?_)
        refine R_getr C fl4_46 rfl ha0 rx19 dX4_spreadRuns_56 ?_
        refine R_iload_n C 1 rfl dX4_spreadRuns_59 ?_
        refine R_iload_n C 1 rfl dX4_spreadRuns_60 ?_
        refine R_ck (fun h20 => ?_)
        refine S_iast C cx19 h20 dX4_spreadRuns_61 (fun s21 => ?_)
        refine S_iinc (fun v22 => [(1, .int v22), (0, .ref (G.1 + a0))]) 1 C dX4_spreadRuns_62 rfl (by decide) (by decide) (fun _ => rfl) (fun v22 => ?_)
        refine R_goto C dX4_spreadRuns_65 ?_
        refine R_loc (lv2 := [(0, .ref (G.1 + a0)), (1, .int v22)]) [1, 0] rfl ?_
        exact I17 (v22, s21) b15 s16 K14
  · refine B_icmp_ne C dX4_spreadRuns_23 ?_ ?_
    · refine R_iconst C (0) dX4_spreadRuns_30 (by decide) ?_
      exact R_end (fun (w : Int32) (s : Sg) => V κ G (QQ κ G E none σ') E s (false, 0, 0) 31 [(0, .ref (G.1 + a0))] [.int w, .int (gi σ x2 (1 : Int32).toNatClampNeg), .int (gi σ x2 (2 : Int32).toNatClampNeg), .ref (G.1 + x1)]) Kw6
    · refine R_iconst C (1) dX4_spreadRuns_26 (by decide) ?_
      refine R_goto C dX4_spreadRuns_27 ?_
      exact R_end (fun (w : Int32) (s : Sg) => V κ G (QQ κ G E none σ') E s (false, 0, 0) 31 [(0, .ref (G.1 + a0))] [.int w, .int (gi σ x2 (1 : Int32).toNatClampNeg), .int (gi σ x2 (2 : Int32).toNatClampNeg), .ref (G.1 + x1)]) Kw6
theorem dX4_mergeOnce_0 : dk cX4_mergeOnce 0 1 (.aload_n 0) 1 := by unfold dk; decide +kernel
theorem dX4_mergeOnce_1 : dk cX4_mergeOnce 1 4 (.getfield 42) 3 := by unfold dk; decide +kernel
theorem dX4_mergeOnce_4 : dk cX4_mergeOnce 4 7 (.invokevirtual 105) 3 := by unfold dk; decide +kernel
theorem dX4_mergeOnce_7 : dk cX4_mergeOnce 7 8 (.iconst 0) 1 := by unfold dk; decide +kernel
theorem dX4_mergeOnce_8 : dk cX4_mergeOnce 8 9 (.istore_n 1) 1 := by unfold dk; decide +kernel
theorem dX4_mergeOnce_9 : dk cX4_mergeOnce 9 10 (.iload_n 1) 1 := by unfold dk; decide +kernel
theorem dX4_mergeOnce_10 : dk cX4_mergeOnce 10 11 (.aload_n 0) 1 := by unfold dk; decide +kernel
theorem dX4_mergeOnce_11 : dk cX4_mergeOnce 11 14 (.getfield 33) 3 := by unfold dk; decide +kernel
theorem dX4_mergeOnce_14 : dk cX4_mergeOnce 14 17 (.getfield 75) 3 := by unfold dk; decide +kernel
theorem dX4_mergeOnce_20 : dk cX4_mergeOnce 20 21 (.aload_n 0) 1 := by unfold dk; decide +kernel
theorem dX4_mergeOnce_21 : dk cX4_mergeOnce 21 24 (.getfield 42) 3 := by unfold dk; decide +kernel
theorem dX4_mergeOnce_24 : dk cX4_mergeOnce 24 25 (.aload_n 0) 1 := by unfold dk; decide +kernel
theorem dX4_mergeOnce_25 : dk cX4_mergeOnce 25 28 (.getfield 46) 3 := by unfold dk; decide +kernel
theorem dX4_mergeOnce_28 : dk cX4_mergeOnce 28 29 (.iload_n 1) 1 := by unfold dk; decide +kernel
theorem dX4_mergeOnce_29 : dk cX4_mergeOnce 29 30 (.iaload) 1 := by unfold dk; decide +kernel
theorem dX4_mergeOnce_30 : dk cX4_mergeOnce 30 33 (.invokevirtual 108) 3 := by unfold dk; decide +kernel
theorem dX4_mergeOnce_33 : dk cX4_mergeOnce 33 34 (.iconst (-1)) 1 := by unfold dk; decide +kernel
theorem dX4_mergeOnce_34 : bk cX4_mergeOnce 34 37 50 (.if_icmp .eq 16) (16) := by unfold bk; decide +kernel
theorem dX4_mergeOnce_37 : dk cX4_mergeOnce 37 38 (.aload_n 0) 1 := by unfold dk; decide +kernel
theorem dX4_mergeOnce_38 : dk cX4_mergeOnce 38 41 (.getfield 46) 3 := by unfold dk; decide +kernel
theorem dX4_mergeOnce_41 : dk cX4_mergeOnce 41 42 (.iload_n 1) 1 := by unfold dk; decide +kernel
theorem dX4_mergeOnce_42 : dk cX4_mergeOnce 42 43 (.aload_n 0) 1 := by unfold dk; decide +kernel
theorem dX4_mergeOnce_43 : dk cX4_mergeOnce 43 46 (.getfield 42) 3 := by unfold dk; decide +kernel
theorem dX4_mergeOnce_46 : dk cX4_mergeOnce 46 49 (.getfield 112) 3 := by unfold dk; decide +kernel
theorem dX4_mergeOnce_49 : dk cX4_mergeOnce 49 50 (.iastore) 1 := by unfold dk; decide +kernel
theorem dX4_mergeOnce_50 : dk cX4_mergeOnce 50 53 (.iinc 1 1) 3 := by unfold dk; decide +kernel
theorem dX4_mergeOnce_53 : bk cX4_mergeOnce 53 56 9 (.goto (-44)) (-44) := by unfold bk; decide +kernel
theorem dX4_mergeOnce_17 : bk cX4_mergeOnce 17 20 56 (.if_icmp .ge 39) (39) := by unfold bk; decide +kernel
theorem dX4_mergeOnce_56 : dk cX4_mergeOnce 56 57 (.aload_n 0) 1 := by unfold dk; decide +kernel
theorem dX4_mergeOnce_57 : dk cX4_mergeOnce 57 60 (.getfield 42) 3 := by unfold dk; decide +kernel
theorem dX4_mergeOnce_60 : dk cX4_mergeOnce 60 63 (.getfield 87) 3 := by unfold dk; decide +kernel
theorem dX4_mergeOnce_63 : dk cX4_mergeOnce 63 64 (.iconst 1) 1 := by unfold dk; decide +kernel
theorem dX4_mergeOnce_64 : bk cX4_mergeOnce 64 67 72 (.if_icmp .gt 8) (8) := by unfold bk; decide +kernel
theorem dX4_mergeOnce_67 : dk cX4_mergeOnce 67 68 (.aload_n 0) 1 := by unfold dk; decide +kernel
theorem dX4_mergeOnce_68 : dk cX4_mergeOnce 68 69 (.iconst 3) 1 := by unfold dk; decide +kernel
theorem dX4_mergeOnce_69 : dk cX4_mergeOnce 69 72 (.putfield 62) 3 := by unfold dk; decide +kernel
theorem dX4_mergeOnce_72 : dk cX4_mergeOnce 72 73 (.return_) 1 := by unfold dk; decide +kernel
set_option maxHeartbeats 4000000 in
set_option maxRecDepth 100000 in
theorem kX4_mergeOnce {l : Launch} {G : Gl} {E : En} {a0 : Nat} {σ σ' : Sg} : fX4_mergeOnce E a0 σ = some σ' → CT l yX4_mergeOnce cX4_mergeOnce 2 none ({ frames := 5, cells := 0, slots := 0, locals := 107 } : Room) [.ref (G.1 + a0)] G E σ none σ' := by
  intro h
  refine CT_of (lv0 := [(0, .ref (G.1 + a0))]) (by decide) (Nat.le_of_ble_eq_true rfl) rfl (fun κ hl hR hr C => ?_)
  have C : Cx κ G cX4_mergeOnce RX4 2 := C
  revert h
  unfold fX4_mergeOnce
  refine R_tk (fun ha0 => ?_)
  refine R_aload_n C 0 rfl dX4_mergeOnce_0 ?_
  refine R_dr (fun x1 rx1 cx1 => ?_)
  refine R_getr C fl4_42 rfl ha0 rx1 dX4_mergeOnce_1 ?_
  refine R_bv (fun s2 q3 => ?_)
  refine R_callVv [] [] C ml4_105 (kX1_advance q3) (by rw [hR]; exact ⟨rfl, rfl, Nat.le_of_ble_eq_true rfl, Nat.le_of_ble_eq_true rfl, Nat.zero_le _, Nat.zero_le _⟩) cx1 rfl rfl (Nat.le_of_ble_eq_true rfl) dX4_mergeOnce_4 ?_
  refine R_iconst C (0) dX4_mergeOnce_7 (by decide) ?_
  refine R_istore_n (lv2 := [(1, .int (0 : Int32)), (0, .ref (G.1 + a0))]) C dX4_mergeOnce_8 rfl (by decide) rfl ?_
  refine R_loc (lv2 := [(0, .ref (G.1 + a0)), (1, .int (0 : Int32))]) [1, 0] rfl ?_
  refine R_loop (fun (a : (Int32) × Sg) => V κ G (QQ κ G E none σ') E a.2 (false, 0, 0) 9 [(0, .ref (G.1 + a0)), (1, .int a.1)] []) (fun (o : (Int32)) (s : Sg) => V κ G (QQ κ G E none σ') E s (false, 0, 0) 56 [(0, .ref (G.1 + a0))] []) ((0 : Int32), s2) (fun o21 s22 => ?_) (fun rec I9 a b7 s8 K6 => ?_)
  · refine R_aload_n C 0 rfl dX4_mergeOnce_56 ?_
    refine R_getr C fl4_42 rfl ha0 rx1 dX4_mergeOnce_57 ?_
    refine R_geti C fl4_87 rfl cx1 dX4_mergeOnce_60 ?_
    refine R_iconst C (1) dX4_mergeOnce_63 (by decide) ?_
    refine R_bdK (fun (w : Unit) (s : Sg) => V κ G (QQ κ G E none σ') E s (false, 0, 0) 72 [] []) (fun w23 s24 => ?_) (fun w23 s24 Kw23 => ?_)
    · exact R_vret C hr dX4_mergeOnce_72
    · refine B_icmp_gt C dX4_mergeOnce_64 ?_ ?_
      · refine R_loc (lv2 := []) [] rfl ?_
        exact R_end (fun (w : Unit) (s : Sg) => V κ G (QQ κ G E none σ') E s (false, 0, 0) 72 [] []) Kw23
      · refine R_aload_n C 0 rfl dX4_mergeOnce_67 ?_
        refine R_iconst C (3) dX4_mergeOnce_68 (by decide) ?_
        refine S_puti C fl4_62 rfl ha0 rfl rfl dX4_mergeOnce_69 (fun s25 => ?_)
        refine R_loc (lv2 := []) [] rfl ?_
        exact R_end (fun (w : Unit) (s : Sg) => V κ G (QQ κ G E none σ') E s (false, 0, 0) 72 [] []) Kw23
  · obtain ⟨v4, s5⟩ := a
    show bX4_mergeOnce_9 E a0 x1 (fun u0 t => rec (u0, t)) v4 s5 = some (b7, s8) → V κ G (QQ κ G E none σ') E s5 (false, 0, 0) 9 [(0, .ref (G.1 + a0)), (1, .int v4)] []
    unfold bX4_mergeOnce_9
    refine R_iload_n C 1 rfl dX4_mergeOnce_9 ?_
    refine R_aload_n C 0 rfl dX4_mergeOnce_10 ?_
    refine R_dr (fun x10 rx10 cx10 => ?_)
    refine R_getr C fl4_33 rfl ha0 rx10 dX4_mergeOnce_11 ?_
    refine R_geti C fl4_75 rfl cx10 dX4_mergeOnce_14 ?_
    refine B_icmp_ge C dX4_mergeOnce_17 ?_ ?_
    · refine R_loc (lv2 := [(0, .ref (G.1 + a0))]) [0] rfl ?_
      exact R_end (fun (o : (Int32)) (s : Sg) => V κ G (QQ κ G E none σ') E s (false, 0, 0) 56 [(0, .ref (G.1 + a0))] []) K6
    · refine R_aload_n C 0 rfl dX4_mergeOnce_20 ?_
      refine R_getr C fl4_42 rfl ha0 rx1 dX4_mergeOnce_21 ?_
      refine R_aload_n C 0 rfl dX4_mergeOnce_24 ?_
      refine R_dr (fun x11 rx11 cx11 => ?_)
      refine R_getr C fl4_46 rfl ha0 rx11 dX4_mergeOnce_25 ?_
      refine R_iload_n C 1 rfl dX4_mergeOnce_28 ?_
      refine R_ck (fun h12 => ?_)
      refine R_iald C cx11 h12 dX4_mergeOnce_29 ?_
      refine R_bd (fun r15 s13 q14 => ?_)
      refine R_callVi [.int (gi s5 x11 v4.toNatClampNeg)] [] C ml4_108 (kX1_takenFrom q14) (by rw [hR]; exact ⟨rfl, rfl, Nat.le_of_ble_eq_true rfl, Nat.le_of_ble_eq_true rfl, Nat.zero_le _, Nat.zero_le _⟩) cx1 rfl rfl (Nat.le_of_ble_eq_true rfl) dX4_mergeOnce_30 ?_
      refine R_iconst C (-1) dX4_mergeOnce_33 (by decide) ?_
      refine R_bdK (fun (w : Unit) (s : Sg) => V κ G (QQ κ G E none σ') E s (false, 0, 0) 50 [(0, .ref (G.1 + a0)), (1, .int v4)] []) (fun w16 s17 => ?_) (fun w16 s17 Kw16 => ?_)
      · refine S_iinc (fun v20 => [(1, .int v20), (0, .ref (G.1 + a0))]) 1 C dX4_mergeOnce_50 rfl (by decide) (by decide) (fun _ => rfl) (fun v20 => ?_)
        refine R_goto C dX4_mergeOnce_53 ?_
        refine R_loc (lv2 := [(0, .ref (G.1 + a0)), (1, .int v20)]) [1, 0] rfl ?_
        exact I9 (v20, s17) b7 s8 K6
      · refine B_icmp_eq C dX4_mergeOnce_34 ?_ ?_
        · exact R_end (fun (w : Unit) (s : Sg) => V κ G (QQ κ G E none σ') E s (false, 0, 0) 50 [(0, .ref (G.1 + a0)), (1, .int v4)] []) Kw16
        · refine R_aload_n C 0 rfl dX4_mergeOnce_37 ?_
          refine R_getr C fl4_46 rfl ha0 rx11 dX4_mergeOnce_38 ?_
          refine R_iload_n C 1 rfl dX4_mergeOnce_41 ?_
          refine R_aload_n C 0 rfl dX4_mergeOnce_42 ?_
          refine R_getr C fl4_42 rfl ha0 rx1 dX4_mergeOnce_43 ?_
          refine R_geti C fl4_112 rfl cx1 dX4_mergeOnce_46 ?_
          refine R_ck (fun h18 => ?_)
          refine S_iast C cx11 h18 dX4_mergeOnce_49 (fun s19 => ?_)
          exact R_end (fun (w : Unit) (s : Sg) => V κ G (QQ κ G E none σ') E s (false, 0, 0) 50 [(0, .ref (G.1 + a0)), (1, .int v4)] []) Kw16
theorem dX4_grownRecord_0 : dk cX4_grownRecord 0 1 (.iconst 0) 1 := by unfold dk; decide +kernel
theorem dX4_grownRecord_1 : dk cX4_grownRecord 1 2 (.istore_n 3) 1 := by unfold dk; decide +kernel
theorem dX4_grownRecord_2 : dk cX4_grownRecord 2 3 (.iconst 0) 1 := by unfold dk; decide +kernel
theorem dX4_grownRecord_3 : dk cX4_grownRecord 3 5 (.istore 4) 2 := by unfold dk; decide +kernel
theorem dX4_grownRecord_5 : dk cX4_grownRecord 5 7 (.iload 4) 2 := by unfold dk; decide +kernel
theorem dX4_grownRecord_7 : dk cX4_grownRecord 7 8 (.aload_n 0) 1 := by unfold dk; decide +kernel
theorem dX4_grownRecord_8 : dk cX4_grownRecord 8 11 (.getfield 12) 3 := by unfold dk; decide +kernel
theorem dX4_grownRecord_11 : dk cX4_grownRecord 11 14 (.getfield 66) 3 := by unfold dk; decide +kernel
theorem dX4_grownRecord_17 : dk cX4_grownRecord 17 18 (.aload_n 0) 1 := by unfold dk; decide +kernel
theorem dX4_grownRecord_18 : dk cX4_grownRecord 18 21 (.getfield 12) 3 := by unfold dk; decide +kernel
theorem dX4_grownRecord_21 : dk cX4_grownRecord 21 23 (.iload 4) 2 := by unfold dk; decide +kernel
theorem dX4_grownRecord_23 : dk cX4_grownRecord 23 24 (.aload_n 0) 1 := by unfold dk; decide +kernel
theorem dX4_grownRecord_24 : dk cX4_grownRecord 24 27 (.getfield 33) 3 := by unfold dk; decide +kernel
theorem dX4_grownRecord_27 : dk cX4_grownRecord 27 28 (.iload_n 1) 1 := by unfold dk; decide +kernel
theorem dX4_grownRecord_28 : dk cX4_grownRecord 28 31 (.invokevirtual 93) 3 := by unfold dk; decide +kernel
theorem dX4_grownRecord_31 : dk cX4_grownRecord 31 34 (.invokevirtual 115) 3 := by unfold dk; decide +kernel
theorem dX4_grownRecord_34 : dk cX4_grownRecord 34 36 (.istore 5) 2 := by unfold dk; decide +kernel
theorem dX4_grownRecord_36 : dk cX4_grownRecord 36 37 (.aload_n 0) 1 := by unfold dk; decide +kernel
theorem dX4_grownRecord_37 : dk cX4_grownRecord 37 40 (.getfield 33) 3 := by unfold dk; decide +kernel
theorem dX4_grownRecord_40 : dk cX4_grownRecord 40 43 (.getfield 119) 3 := by unfold dk; decide +kernel
theorem dX4_grownRecord_43 : dk cX4_grownRecord 43 45 (.iload 5) 2 := by unfold dk; decide +kernel
theorem dX4_grownRecord_45 : dk cX4_grownRecord 45 46 (.iaload) 1 := by unfold dk; decide +kernel
theorem dX4_grownRecord_46 : dk cX4_grownRecord 46 47 (.iload_n 1) 1 := by unfold dk; decide +kernel
theorem dX4_grownRecord_61 : dk cX4_grownRecord 61 64 (.iinc 4 1) 3 := by unfold dk; decide +kernel
theorem dX4_grownRecord_64 : bk cX4_grownRecord 64 67 5 (.goto (-59)) (-59) := by unfold bk; decide +kernel
theorem dX4_grownRecord_50 : dk cX4_grownRecord 50 51 (.iload_n 3) 1 := by unfold dk; decide +kernel
theorem dX4_grownRecord_51 : dk cX4_grownRecord 51 52 (.iload_n 2) 1 := by unfold dk; decide +kernel
theorem dX4_grownRecord_58 : dk cX4_grownRecord 58 61 (.iinc 3 1) 3 := by unfold dk; decide +kernel
theorem dX4_grownRecord_55 : dk cX4_grownRecord 55 57 (.iload 5) 2 := by unfold dk; decide +kernel
theorem dX4_grownRecord_57 : dk cX4_grownRecord 57 58 (.ireturn) 1 := by unfold dk; decide +kernel
theorem dX4_grownRecord_52 : bk cX4_grownRecord 52 55 58 (.if_icmp .ne 6) (6) := by unfold bk; decide +kernel
theorem dX4_grownRecord_47 : bk cX4_grownRecord 47 50 61 (.if_icmp .ne 14) (14) := by unfold bk; decide +kernel
theorem dX4_grownRecord_14 : bk cX4_grownRecord 14 17 67 (.if_icmp .ge 53) (53) := by unfold bk; decide +kernel
theorem dX4_grownRecord_67 : dk cX4_grownRecord 67 69 (.bipush (-3)) 2 := by unfold dk; decide +kernel
theorem dX4_grownRecord_69 : dk cX4_grownRecord 69 70 (.ireturn) 1 := by unfold dk; decide +kernel
set_option maxHeartbeats 4000000 in
set_option maxRecDepth 100000 in
theorem kX4_grownRecord {l : Launch} {G : Gl} {E : En} {a0 : Nat} {a1 : Int32} {a2 : Int32} {σ σ' : Sg} {r : Int32} : fX4_grownRecord E a0 a1 a2 σ = some (r, σ') → CT l yX4_grownRecord cX4_grownRecord 6 (some .int) ({ frames := 1, cells := 0, slots := 0, locals := 22 } : Room) [.ref (G.1 + a0), .int a1, .int a2] G E σ (some (.int r)) σ' := by
  intro h
  refine CT_of (lv0 := [(0, .ref (G.1 + a0)), (1, .int a1), (2, .int a2)]) (by decide) (Nat.le_of_ble_eq_true rfl) rfl (fun κ hl hR hr C => ?_)
  have C : Cx κ G cX4_grownRecord RX4 6 := C
  revert h
  unfold fX4_grownRecord
  refine R_tk (fun ha0 => ?_)
  refine R_iconst C (0) dX4_grownRecord_0 (by decide) ?_
  refine R_istore_n (lv2 := [(3, .int (0 : Int32)), (0, .ref (G.1 + a0)), (1, .int a1), (2, .int a2)]) C dX4_grownRecord_1 rfl (by decide) rfl ?_
  refine R_iconst C (0) dX4_grownRecord_2 (by decide) ?_
  refine R_istore (lv2 := [(4, .int (0 : Int32)), (3, .int (0 : Int32)), (0, .ref (G.1 + a0)), (1, .int a1), (2, .int a2)]) C dX4_grownRecord_3 (by decide) rfl ?_
  refine R_loc (lv2 := [(0, .ref (G.1 + a0)), (1, .int a1), (2, .int a2), (3, .int (0 : Int32)), (4, .int (0 : Int32))]) [2, 3, 4, 1, 0] rfl ?_
  refine R_loop (fun (a : (Int32 × Int32) × Sg) => V κ G (QQ κ G E (some (.int r)) σ') E a.2 (false, 0, 0) 5 [(0, .ref (G.1 + a0)), (1, .int a1), (2, .int a2), (3, .int a.1.1), (4, .int a.1.2)] []) (fun (o : ((Int32 × Int32) ⊕ Int32)) (s : Sg) => sm o (fun o => V κ G (QQ κ G E (some (.int r)) σ') E s (false, 0, 0) 67 [] []) (fun rr => some (rr, s) = some (r, σ'))) (((0 : Int32), (0 : Int32)), σ) (fun o21 s22 => ?_) (fun rec I7 a b5 s6 K4 => ?_)
  · rcases o21 with vo21 | ro21
    · refine R_sml ?_
      refine R_bipush C (-3) dX4_grownRecord_67 (by decide) ?_
      exact R_iret C hr dX4_grownRecord_69
    · exact fun h => h
  · obtain ⟨⟨v1, v2⟩, s3⟩ := a
    show bX4_grownRecord_5 E a0 a1 a2 (fun u0 u1 t => rec ((u0, u1), t)) v1 v2 s3 = some (b5, s6) → V κ G (QQ κ G E (some (.int r)) σ') E s3 (false, 0, 0) 5 [(0, .ref (G.1 + a0)), (1, .int a1), (2, .int a2), (3, .int v1), (4, .int v2)] []
    unfold bX4_grownRecord_5
    refine R_iload C 4 rfl dX4_grownRecord_5 ?_
    refine R_aload_n C 0 rfl dX4_grownRecord_7 ?_
    refine R_dr (fun x8 rx8 cx8 => ?_)
    refine R_getr C fl4_12 rfl ha0 rx8 dX4_grownRecord_8 ?_
    refine R_geti C fl4_66 rfl cx8 dX4_grownRecord_11 ?_
    refine B_icmp_ge C dX4_grownRecord_14 ?_ ?_
    · refine R_loc (lv2 := []) [] rfl ?_
      exact R_inr (VX := (fun (o : ((Int32 × Int32) ⊕ Int32)) (s : Sg) => sm o (fun o => V κ G (QQ κ G E (some (.int r)) σ') E s (false, 0, 0) 67 [] []) (fun rr => some (rr, s) = some (r, σ')))) (i := .inl) K4 (fun h => h)
    · refine R_aload_n C 0 rfl dX4_grownRecord_17 ?_
      refine R_getr C fl4_12 rfl ha0 rx8 dX4_grownRecord_18 ?_
      refine R_iload C 4 rfl dX4_grownRecord_21 ?_
      refine R_aload_n C 0 rfl dX4_grownRecord_23 ?_
      refine R_dr (fun x9 rx9 cx9 => ?_)
      refine R_getr C fl4_33 rfl ha0 rx9 dX4_grownRecord_24 ?_
      refine R_iload_n C 1 rfl dX4_grownRecord_27 ?_
      refine R_bd (fun r12 s10 q11 => ?_)
      refine R_callVi [.int a1] [.int v2, .ref (G.1 + x8)] C ml4_93 (kX0_falls q11) (by rw [hR]; exact ⟨rfl, rfl, Nat.le_of_ble_eq_true rfl, Nat.le_of_ble_eq_true rfl, Nat.zero_le _, Nat.zero_le _⟩) cx9 rfl rfl (Nat.le_of_ble_eq_true rfl) dX4_grownRecord_28 ?_
      refine R_bd (fun r15 s13 q14 => ?_)
      refine R_callVi [.int v2, .int r12] [] C ml4_115 (kX3_ranked q14) (by rw [hR]; exact ⟨rfl, rfl, Nat.le_of_ble_eq_true rfl, Nat.le_of_ble_eq_true rfl, Nat.zero_le _, Nat.zero_le _⟩) cx8 rfl rfl (Nat.le_of_ble_eq_true rfl) dX4_grownRecord_31 ?_
      refine R_istore (lv2 := [(5, .int r15), (0, .ref (G.1 + a0)), (1, .int a1), (2, .int a2), (3, .int v1), (4, .int v2)]) C dX4_grownRecord_34 (by decide) rfl ?_
      refine R_aload_n C 1 rfl dX4_grownRecord_36 ?_
      refine R_getr C fl4_33 rfl ha0 rx9 dX4_grownRecord_37 ?_
      refine R_dr (fun x16 rx16 cx16 => ?_)
      refine R_getr C fl4_119 rfl cx9 rx16 dX4_grownRecord_40 ?_
      refine R_iload C 0 rfl dX4_grownRecord_43 ?_
      refine R_ck (fun h17 => ?_)
      refine R_iald C cx16 h17 dX4_grownRecord_45 ?_
      refine R_iload_n C 2 rfl dX4_grownRecord_46 ?_
      refine B_icmp_ne C dX4_grownRecord_47 ?_ ?_
      · refine S_iinc (fun v18 => [(4, .int v18), (5, .int r15), (0, .ref (G.1 + a0)), (1, .int a1), (2, .int a2), (3, .int v1)]) 5 C dX4_grownRecord_61 rfl (by decide) (by decide) (fun _ => rfl) (fun v18 => ?_)
        refine R_goto C dX4_grownRecord_64 ?_
        refine R_loc (lv2 := [(0, .ref (G.1 + a0)), (1, .int a1), (2, .int a2), (3, .int v1), (4, .int v18)]) [2, 3, 4, 5, 0] rfl ?_
        exact I7 ((v1, v18), s13) b5 s6 K4
      · refine R_iload_n C 4 rfl dX4_grownRecord_50 ?_
        refine R_iload_n C 3 rfl dX4_grownRecord_51 ?_
        refine B_icmp_ne C dX4_grownRecord_52 ?_ ?_
        · refine S_iinc (fun v19 => [(3, .int v19), (5, .int r15), (0, .ref (G.1 + a0)), (1, .int a1), (2, .int a2), (4, .int v2)]) 4 C dX4_grownRecord_58 rfl (by decide) (by decide) (fun _ => rfl) (fun v19 => ?_)
          refine S_iinc (fun v20 => [(4, .int v20), (3, .int v19), (5, .int r15), (0, .ref (G.1 + a0)), (1, .int a1), (2, .int a2)]) 5 C dX4_grownRecord_61 rfl (by decide) (by decide) (fun _ => rfl) (fun v20 => ?_)
          refine R_goto C dX4_grownRecord_64 ?_
          refine R_loc (lv2 := [(0, .ref (G.1 + a0)), (1, .int a1), (2, .int a2), (3, .int v19), (4, .int v20)]) [3, 4, 5, 1, 0] rfl ?_
          exact I7 ((v19, v20), s13) b5 s6 K4
        · refine R_iload C 0 rfl dX4_grownRecord_55 ?_
          exact R_inr (VX := (fun (o : ((Int32 × Int32) ⊕ Int32)) (s : Sg) => sm o (fun o => V κ G (QQ κ G E (some (.int r)) σ') E s (false, 0, 0) 67 [] []) (fun rr => some (rr, s) = some (r, σ')))) (i := .inr) K4 (R_iret C hr dX4_grownRecord_57)
theorem dX4_tapeRecord_0 : dk cX4_tapeRecord 0 1 (.iconst 0) 1 := by unfold dk; decide +kernel
theorem dX4_tapeRecord_1 : dk cX4_tapeRecord 1 2 (.istore_n 3) 1 := by unfold dk; decide +kernel
theorem dX4_tapeRecord_2 : dk cX4_tapeRecord 2 3 (.iconst 0) 1 := by unfold dk; decide +kernel
theorem dX4_tapeRecord_3 : dk cX4_tapeRecord 3 5 (.istore 4) 2 := by unfold dk; decide +kernel
theorem dX4_tapeRecord_5 : dk cX4_tapeRecord 5 7 (.iload 4) 2 := by unfold dk; decide +kernel
theorem dX4_tapeRecord_7 : dk cX4_tapeRecord 7 8 (.aload_n 0) 1 := by unfold dk; decide +kernel
theorem dX4_tapeRecord_8 : dk cX4_tapeRecord 8 11 (.getfield 12) 3 := by unfold dk; decide +kernel
theorem dX4_tapeRecord_11 : dk cX4_tapeRecord 11 14 (.getfield 66) 3 := by unfold dk; decide +kernel
theorem dX4_tapeRecord_17 : dk cX4_tapeRecord 17 18 (.aload_n 0) 1 := by unfold dk; decide +kernel
theorem dX4_tapeRecord_18 : dk cX4_tapeRecord 18 21 (.getfield 12) 3 := by unfold dk; decide +kernel
theorem dX4_tapeRecord_21 : dk cX4_tapeRecord 21 23 (.iload 4) 2 := by unfold dk; decide +kernel
theorem dX4_tapeRecord_23 : dk cX4_tapeRecord 23 24 (.aload_n 0) 1 := by unfold dk; decide +kernel
theorem dX4_tapeRecord_24 : dk cX4_tapeRecord 24 27 (.getfield 42) 3 := by unfold dk; decide +kernel
theorem dX4_tapeRecord_27 : dk cX4_tapeRecord 27 28 (.iload_n 1) 1 := by unfold dk; decide +kernel
theorem dX4_tapeRecord_28 : dk cX4_tapeRecord 28 31 (.invokevirtual 122) 3 := by unfold dk; decide +kernel
theorem dX4_tapeRecord_31 : dk cX4_tapeRecord 31 34 (.invokevirtual 115) 3 := by unfold dk; decide +kernel
theorem dX4_tapeRecord_34 : dk cX4_tapeRecord 34 36 (.istore 5) 2 := by unfold dk; decide +kernel
theorem dX4_tapeRecord_36 : dk cX4_tapeRecord 36 37 (.aload_n 0) 1 := by unfold dk; decide +kernel
theorem dX4_tapeRecord_37 : dk cX4_tapeRecord 37 40 (.getfield 46) 3 := by unfold dk; decide +kernel
theorem dX4_tapeRecord_40 : dk cX4_tapeRecord 40 41 (.aload_n 0) 1 := by unfold dk; decide +kernel
theorem dX4_tapeRecord_41 : dk cX4_tapeRecord 41 44 (.getfield 33) 3 := by unfold dk; decide +kernel
theorem dX4_tapeRecord_44 : dk cX4_tapeRecord 44 47 (.getfield 119) 3 := by unfold dk; decide +kernel
theorem dX4_tapeRecord_47 : dk cX4_tapeRecord 47 49 (.iload 5) 2 := by unfold dk; decide +kernel
theorem dX4_tapeRecord_49 : dk cX4_tapeRecord 49 50 (.iaload) 1 := by unfold dk; decide +kernel
theorem dX4_tapeRecord_50 : dk cX4_tapeRecord 50 51 (.iaload) 1 := by unfold dk; decide +kernel
theorem dX4_tapeRecord_51 : dk cX4_tapeRecord 51 52 (.iload_n 1) 1 := by unfold dk; decide +kernel
theorem dX4_tapeRecord_66 : dk cX4_tapeRecord 66 69 (.iinc 4 1) 3 := by unfold dk; decide +kernel
theorem dX4_tapeRecord_69 : bk cX4_tapeRecord 69 72 5 (.goto (-64)) (-64) := by unfold bk; decide +kernel
theorem dX4_tapeRecord_55 : dk cX4_tapeRecord 55 56 (.iload_n 3) 1 := by unfold dk; decide +kernel
theorem dX4_tapeRecord_56 : dk cX4_tapeRecord 56 57 (.iload_n 2) 1 := by unfold dk; decide +kernel
theorem dX4_tapeRecord_63 : dk cX4_tapeRecord 63 66 (.iinc 3 1) 3 := by unfold dk; decide +kernel
theorem dX4_tapeRecord_60 : dk cX4_tapeRecord 60 62 (.iload 5) 2 := by unfold dk; decide +kernel
theorem dX4_tapeRecord_62 : dk cX4_tapeRecord 62 63 (.ireturn) 1 := by unfold dk; decide +kernel
theorem dX4_tapeRecord_57 : bk cX4_tapeRecord 57 60 63 (.if_icmp .ne 6) (6) := by unfold bk; decide +kernel
theorem dX4_tapeRecord_52 : bk cX4_tapeRecord 52 55 66 (.if_icmp .ne 14) (14) := by unfold bk; decide +kernel
theorem dX4_tapeRecord_14 : bk cX4_tapeRecord 14 17 72 (.if_icmp .ge 58) (58) := by unfold bk; decide +kernel
theorem dX4_tapeRecord_72 : dk cX4_tapeRecord 72 74 (.bipush (-3)) 2 := by unfold dk; decide +kernel
theorem dX4_tapeRecord_74 : dk cX4_tapeRecord 74 75 (.ireturn) 1 := by unfold dk; decide +kernel
set_option maxHeartbeats 4000000 in
set_option maxRecDepth 100000 in
theorem kX4_tapeRecord {l : Launch} {G : Gl} {E : En} {a0 : Nat} {a1 : Int32} {a2 : Int32} {σ σ' : Sg} {r : Int32} : fX4_tapeRecord E a0 a1 a2 σ = some (r, σ') → CT l yX4_tapeRecord cX4_tapeRecord 6 (some .int) ({ frames := 1, cells := 0, slots := 0, locals := 22 } : Room) [.ref (G.1 + a0), .int a1, .int a2] G E σ (some (.int r)) σ' := by
  intro h
  refine CT_of (lv0 := [(0, .ref (G.1 + a0)), (1, .int a1), (2, .int a2)]) (by decide) (Nat.le_of_ble_eq_true rfl) rfl (fun κ hl hR hr C => ?_)
  have C : Cx κ G cX4_tapeRecord RX4 6 := C
  revert h
  unfold fX4_tapeRecord
  refine R_tk (fun ha0 => ?_)
  refine R_iconst C (0) dX4_tapeRecord_0 (by decide) ?_
  refine R_istore_n (lv2 := [(3, .int (0 : Int32)), (0, .ref (G.1 + a0)), (1, .int a1), (2, .int a2)]) C dX4_tapeRecord_1 rfl (by decide) rfl ?_
  refine R_iconst C (0) dX4_tapeRecord_2 (by decide) ?_
  refine R_istore (lv2 := [(4, .int (0 : Int32)), (3, .int (0 : Int32)), (0, .ref (G.1 + a0)), (1, .int a1), (2, .int a2)]) C dX4_tapeRecord_3 (by decide) rfl ?_
  refine R_loc (lv2 := [(0, .ref (G.1 + a0)), (1, .int a1), (2, .int a2), (3, .int (0 : Int32)), (4, .int (0 : Int32))]) [2, 3, 4, 1, 0] rfl ?_
  refine R_loop (fun (a : (Int32 × Int32) × Sg) => V κ G (QQ κ G E (some (.int r)) σ') E a.2 (false, 0, 0) 5 [(0, .ref (G.1 + a0)), (1, .int a1), (2, .int a2), (3, .int a.1.1), (4, .int a.1.2)] []) (fun (o : ((Int32 × Int32) ⊕ Int32)) (s : Sg) => sm o (fun o => V κ G (QQ κ G E (some (.int r)) σ') E s (false, 0, 0) 72 [] []) (fun rr => some (rr, s) = some (r, σ'))) (((0 : Int32), (0 : Int32)), σ) (fun o24 s25 => ?_) (fun rec I7 a b5 s6 K4 => ?_)
  · rcases o24 with vo24 | ro24
    · refine R_sml ?_
      refine R_bipush C (-3) dX4_tapeRecord_72 (by decide) ?_
      exact R_iret C hr dX4_tapeRecord_74
    · exact fun h => h
  · obtain ⟨⟨v1, v2⟩, s3⟩ := a
    show bX4_tapeRecord_5 E a0 a1 a2 (fun u0 u1 t => rec ((u0, u1), t)) v1 v2 s3 = some (b5, s6) → V κ G (QQ κ G E (some (.int r)) σ') E s3 (false, 0, 0) 5 [(0, .ref (G.1 + a0)), (1, .int a1), (2, .int a2), (3, .int v1), (4, .int v2)] []
    unfold bX4_tapeRecord_5
    refine R_iload C 4 rfl dX4_tapeRecord_5 ?_
    refine R_aload_n C 0 rfl dX4_tapeRecord_7 ?_
    refine R_dr (fun x8 rx8 cx8 => ?_)
    refine R_getr C fl4_12 rfl ha0 rx8 dX4_tapeRecord_8 ?_
    refine R_geti C fl4_66 rfl cx8 dX4_tapeRecord_11 ?_
    refine B_icmp_ge C dX4_tapeRecord_14 ?_ ?_
    · refine R_loc (lv2 := []) [] rfl ?_
      exact R_inr (VX := (fun (o : ((Int32 × Int32) ⊕ Int32)) (s : Sg) => sm o (fun o => V κ G (QQ κ G E (some (.int r)) σ') E s (false, 0, 0) 72 [] []) (fun rr => some (rr, s) = some (r, σ')))) (i := .inl) K4 (fun h => h)
    · refine R_aload_n C 0 rfl dX4_tapeRecord_17 ?_
      refine R_getr C fl4_12 rfl ha0 rx8 dX4_tapeRecord_18 ?_
      refine R_iload C 4 rfl dX4_tapeRecord_21 ?_
      refine R_aload_n C 0 rfl dX4_tapeRecord_23 ?_
      refine R_dr (fun x9 rx9 cx9 => ?_)
      refine R_getr C fl4_42 rfl ha0 rx9 dX4_tapeRecord_24 ?_
      refine R_iload_n C 1 rfl dX4_tapeRecord_27 ?_
      refine R_bd (fun r12 s10 q11 => ?_)
      refine R_callVi [.int a1] [.int v2, .ref (G.1 + x8)] C ml4_122 (kX1_isDown q11) (by rw [hR]; exact ⟨rfl, rfl, Nat.le_of_ble_eq_true rfl, Nat.le_of_ble_eq_true rfl, Nat.zero_le _, Nat.zero_le _⟩) cx9 rfl rfl (Nat.le_of_ble_eq_true rfl) dX4_tapeRecord_28 ?_
      refine R_bd (fun r15 s13 q14 => ?_)
      refine R_callVi [.int v2, .int r12] [] C ml4_115 (kX3_ranked q14) (by rw [hR]; exact ⟨rfl, rfl, Nat.le_of_ble_eq_true rfl, Nat.le_of_ble_eq_true rfl, Nat.zero_le _, Nat.zero_le _⟩) cx8 rfl rfl (Nat.le_of_ble_eq_true rfl) dX4_tapeRecord_31 ?_
      refine R_istore (lv2 := [(5, .int r15), (0, .ref (G.1 + a0)), (1, .int a1), (2, .int a2), (3, .int v1), (4, .int v2)]) C dX4_tapeRecord_34 (by decide) rfl ?_
      refine R_aload_n C 1 rfl dX4_tapeRecord_36 ?_
      refine R_dr (fun x16 rx16 cx16 => ?_)
      refine R_getr C fl4_46 rfl ha0 rx16 dX4_tapeRecord_37 ?_
      refine R_aload_n C 1 rfl dX4_tapeRecord_40 ?_
      refine R_dr (fun x17 rx17 cx17 => ?_)
      refine R_getr C fl4_33 rfl ha0 rx17 dX4_tapeRecord_41 ?_
      refine R_dr (fun x18 rx18 cx18 => ?_)
      refine R_getr C fl4_119 rfl cx17 rx18 dX4_tapeRecord_44 ?_
      refine R_iload C 0 rfl dX4_tapeRecord_47 ?_
      refine R_ck (fun h19 => ?_)
      refine R_iald C cx18 h19 dX4_tapeRecord_49 ?_
      refine R_ck (fun h20 => ?_)
      refine R_iald C cx16 h20 dX4_tapeRecord_50 ?_
      refine R_iload_n C 2 rfl dX4_tapeRecord_51 ?_
      refine B_icmp_ne C dX4_tapeRecord_52 ?_ ?_
      · refine S_iinc (fun v21 => [(4, .int v21), (5, .int r15), (0, .ref (G.1 + a0)), (1, .int a1), (2, .int a2), (3, .int v1)]) 5 C dX4_tapeRecord_66 rfl (by decide) (by decide) (fun _ => rfl) (fun v21 => ?_)
        refine R_goto C dX4_tapeRecord_69 ?_
        refine R_loc (lv2 := [(0, .ref (G.1 + a0)), (1, .int a1), (2, .int a2), (3, .int v1), (4, .int v21)]) [2, 3, 4, 5, 0] rfl ?_
        exact I7 ((v1, v21), s13) b5 s6 K4
      · refine R_iload_n C 4 rfl dX4_tapeRecord_55 ?_
        refine R_iload_n C 3 rfl dX4_tapeRecord_56 ?_
        refine B_icmp_ne C dX4_tapeRecord_57 ?_ ?_
        · refine S_iinc (fun v22 => [(3, .int v22), (5, .int r15), (0, .ref (G.1 + a0)), (1, .int a1), (2, .int a2), (4, .int v2)]) 4 C dX4_tapeRecord_63 rfl (by decide) (by decide) (fun _ => rfl) (fun v22 => ?_)
          refine S_iinc (fun v23 => [(4, .int v23), (3, .int v22), (5, .int r15), (0, .ref (G.1 + a0)), (1, .int a1), (2, .int a2)]) 5 C dX4_tapeRecord_66 rfl (by decide) (by decide) (fun _ => rfl) (fun v23 => ?_)
          refine R_goto C dX4_tapeRecord_69 ?_
          refine R_loc (lv2 := [(0, .ref (G.1 + a0)), (1, .int a1), (2, .int a2), (3, .int v22), (4, .int v23)]) [3, 4, 5, 1, 0] rfl ?_
          exact I7 ((v22, v23), s13) b5 s6 K4
        · refine R_iload C 0 rfl dX4_tapeRecord_60 ?_
          exact R_inr (VX := (fun (o : ((Int32 × Int32) ⊕ Int32)) (s : Sg) => sm o (fun o => V κ G (QQ κ G E (some (.int r)) σ') E s (false, 0, 0) 72 [] []) (fun rr => some (rr, s) = some (r, σ')))) (i := .inr) K4 (R_iret C hr dX4_tapeRecord_62)
theorem dX4_isFetchedBehindNext_0 : dk cX4_isFetchedBehindNext 0 1 (.aload_n 0) 1 := by unfold dk; decide +kernel
theorem dX4_isFetchedBehindNext_1 : dk cX4_isFetchedBehindNext 1 4 (.getfield 49) 3 := by unfold dk; decide +kernel
theorem dX4_isFetchedBehindNext_4 : dk cX4_isFetchedBehindNext 4 5 (.iload_n 1) 1 := by unfold dk; decide +kernel
theorem dX4_isFetchedBehindNext_5 : dk cX4_isFetchedBehindNext 5 6 (.dup2) 1 := by unfold dk; decide +kernel
theorem dX4_isFetchedBehindNext_6 : dk cX4_isFetchedBehindNext 6 7 (.iaload) 1 := by unfold dk; decide +kernel
theorem dX4_isFetchedBehindNext_7 : dk cX4_isFetchedBehindNext 7 8 (.iconst 1) 1 := by unfold dk; decide +kernel
theorem dX4_isFetchedBehindNext_8 : dk cX4_isFetchedBehindNext 8 9 (.iadd) 1 := by unfold dk; decide +kernel
theorem dX4_isFetchedBehindNext_9 : dk cX4_isFetchedBehindNext 9 10 (.iastore) 1 := by unfold dk; decide +kernel
theorem dX4_isFetchedBehindNext_10 : dk cX4_isFetchedBehindNext 10 11 (.iload_n 2) 1 := by unfold dk; decide +kernel
theorem dX4_isFetchedBehindNext_11 : bk cX4_isFetchedBehindNext 11 14 54 (.ifCond .le 43) (43) := by unfold bk; decide +kernel
theorem dX4_isFetchedBehindNext_54 : dk cX4_isFetchedBehindNext 54 55 (.iconst 0) 1 := by unfold dk; decide +kernel
theorem dX4_isFetchedBehindNext_14 : dk cX4_isFetchedBehindNext 14 15 (.aload_n 0) 1 := by unfold dk; decide +kernel
theorem dX4_isFetchedBehindNext_15 : dk cX4_isFetchedBehindNext 15 18 (.getfield 49) 3 := by unfold dk; decide +kernel
theorem dX4_isFetchedBehindNext_18 : dk cX4_isFetchedBehindNext 18 19 (.iload_n 1) 1 := by unfold dk; decide +kernel
theorem dX4_isFetchedBehindNext_19 : dk cX4_isFetchedBehindNext 19 20 (.iaload) 1 := by unfold dk; decide +kernel
theorem dX4_isFetchedBehindNext_20 : dk cX4_isFetchedBehindNext 20 21 (.iload_n 2) 1 := by unfold dk; decide +kernel
theorem dX4_isFetchedBehindNext_21 : dk cX4_isFetchedBehindNext 21 22 (.irem) 1 := by unfold dk; decide +kernel
theorem dX4_isFetchedBehindNext_25 : dk cX4_isFetchedBehindNext 25 26 (.aload_n 0) 1 := by unfold dk; decide +kernel
theorem dX4_isFetchedBehindNext_26 : dk cX4_isFetchedBehindNext 26 29 (.getfield 49) 3 := by unfold dk; decide +kernel
theorem dX4_isFetchedBehindNext_29 : dk cX4_isFetchedBehindNext 29 30 (.iload_n 1) 1 := by unfold dk; decide +kernel
theorem dX4_isFetchedBehindNext_30 : dk cX4_isFetchedBehindNext 30 31 (.iaload) 1 := by unfold dk; decide +kernel
theorem dX4_isFetchedBehindNext_31 : dk cX4_isFetchedBehindNext 31 32 (.aload_n 0) 1 := by unfold dk; decide +kernel
theorem dX4_isFetchedBehindNext_32 : dk cX4_isFetchedBehindNext 32 35 (.getfield 42) 3 := by unfold dk; decide +kernel
theorem dX4_isFetchedBehindNext_35 : dk cX4_isFetchedBehindNext 35 36 (.aload_n 0) 1 := by unfold dk; decide +kernel
theorem dX4_isFetchedBehindNext_36 : dk cX4_isFetchedBehindNext 36 39 (.getfield 42) 3 := by unfold dk; decide +kernel
theorem dX4_isFetchedBehindNext_39 : dk cX4_isFetchedBehindNext 39 42 (.getfield 136) 3 := by unfold dk; decide +kernel
theorem dX4_isFetchedBehindNext_42 : dk cX4_isFetchedBehindNext 42 43 (.iload_n 1) 1 := by unfold dk; decide +kernel
theorem dX4_isFetchedBehindNext_43 : dk cX4_isFetchedBehindNext 43 44 (.iaload) 1 := by unfold dk; decide +kernel
theorem dX4_isFetchedBehindNext_44 : dk cX4_isFetchedBehindNext 44 47 (.invokevirtual 139) 3 := by unfold dk; decide +kernel
theorem dX4_isFetchedBehindNext_50 : dk cX4_isFetchedBehindNext 50 51 (.iconst 1) 1 := by unfold dk; decide +kernel
theorem dX4_isFetchedBehindNext_51 : bk cX4_isFetchedBehindNext 51 54 55 (.goto 4) (4) := by unfold bk; decide +kernel
theorem dX4_isFetchedBehindNext_47 : bk cX4_isFetchedBehindNext 47 50 54 (.if_icmp .ge 7) (7) := by unfold bk; decide +kernel
theorem dX4_isFetchedBehindNext_22 : bk cX4_isFetchedBehindNext 22 25 54 (.ifCond .ne 32) (32) := by unfold bk; decide +kernel
theorem dX4_isFetchedBehindNext_55 : dk cX4_isFetchedBehindNext 55 56 (.ireturn) 1 := by unfold dk; decide +kernel
set_option maxHeartbeats 4000000 in
set_option maxRecDepth 100000 in
theorem kX4_isFetchedBehindNext {l : Launch} {G : Gl} {E : En} {a0 : Nat} {a1 : Int32} {a2 : Int32} {σ σ' : Sg} {r : Int32} : fX4_isFetchedBehindNext E a0 a1 a2 σ = some (r, σ') → CT l yX4_isFetchedBehindNext cX4_isFetchedBehindNext 3 (some .boolean) ({ frames := 1, cells := 0, slots := 0, locals := 21 } : Room) [.ref (G.1 + a0), .int a1, .int a2] G E σ (some (.int r)) σ' := by
  intro h
  refine CT_of (lv0 := [(0, .ref (G.1 + a0)), (1, .int a1), (2, .int a2)]) (by decide) (Nat.le_of_ble_eq_true rfl) rfl (fun κ hl hR hr C => ?_)
  have C : Cx κ G cX4_isFetchedBehindNext RX4 3 := C
  revert h
  unfold fX4_isFetchedBehindNext
  refine R_tk (fun ha0 => ?_)
  refine R_aload_n C 0 rfl dX4_isFetchedBehindNext_0 ?_
  refine R_dr (fun x1 rx1 cx1 => ?_)
  refine R_getr C fl4_49 rfl ha0 rx1 dX4_isFetchedBehindNext_1 ?_
  refine R_iload_n C 1 rfl dX4_isFetchedBehindNext_4 ?_
  refine R_dup2 C dX4_isFetchedBehindNext_5 rfl rfl ?_
  refine R_ck (fun h2 => ?_)
  refine R_iald C cx1 h2 dX4_isFetchedBehindNext_6 ?_
  refine R_iconst C (1) dX4_isFetchedBehindNext_7 (by decide) ?_
  refine R_iadd C dX4_isFetchedBehindNext_8 ?_
  refine R_ck (fun h3 => ?_)
  refine S_iast C cx1 h3 dX4_isFetchedBehindNext_9 (fun s4 => ?_)
  refine R_iload_n C 2 rfl dX4_isFetchedBehindNext_10 ?_
  refine R_bdK (fun (w : Int32) (s : Sg) => V κ G (QQ κ G E (some (.int r)) σ') E s (false, 0, 0) 55 [] [.int w]) (fun w5 s6 => ?_) (fun w5 s6 Kw5 => ?_)
  · refine R_kb (fun h16 => ?_)
    exact R_zret C hr h16 dX4_isFetchedBehindNext_55
  · refine B_if_le C dX4_isFetchedBehindNext_11 ?_ ?_
    · refine R_iconst C (0) dX4_isFetchedBehindNext_54 (by decide) ?_
      refine R_loc (lv2 := []) [] rfl ?_
      exact R_end (fun (w : Int32) (s : Sg) => V κ G (QQ κ G E (some (.int r)) σ') E s (false, 0, 0) 55 [] [.int w]) Kw5
    · refine R_aload_n C 0 rfl dX4_isFetchedBehindNext_14 ?_
      refine R_getr C fl4_49 rfl ha0 rx1 dX4_isFetchedBehindNext_15 ?_
      refine R_iload_n C 1 rfl dX4_isFetchedBehindNext_18 ?_
      refine R_ck (fun h7 => ?_)
      refine R_iald C cx1 h7 dX4_isFetchedBehindNext_19 ?_
      refine R_iload_n C 2 rfl dX4_isFetchedBehindNext_20 ?_
      refine R_nz (fun h8 => ?_)
      refine R_irem C dX4_isFetchedBehindNext_21 h8 ?_
      refine B_if_ne C dX4_isFetchedBehindNext_22 ?_ ?_
      · refine R_iconst C (0) dX4_isFetchedBehindNext_54 (by decide) ?_
        refine R_loc (lv2 := []) [] rfl ?_
        exact R_end (fun (w : Int32) (s : Sg) => V κ G (QQ κ G E (some (.int r)) σ') E s (false, 0, 0) 55 [] [.int w]) Kw5
      · refine R_aload_n C 0 rfl dX4_isFetchedBehindNext_25 ?_
        refine R_getr C fl4_49 rfl ha0 rx1 dX4_isFetchedBehindNext_26 ?_
        refine R_iload_n C 1 rfl dX4_isFetchedBehindNext_29 ?_
        refine R_ck (fun h9 => ?_)
        refine R_iald C cx1 h9 dX4_isFetchedBehindNext_30 ?_
        refine R_aload_n C 0 rfl dX4_isFetchedBehindNext_31 ?_
        refine R_dr (fun x10 rx10 cx10 => ?_)
        refine R_getr C fl4_42 rfl ha0 rx10 dX4_isFetchedBehindNext_32 ?_
        refine R_aload_n C 0 rfl dX4_isFetchedBehindNext_35 ?_
        refine R_getr C fl4_42 rfl ha0 rx10 dX4_isFetchedBehindNext_36 ?_
        refine R_dr (fun x11 rx11 cx11 => ?_)
        refine R_getr C fl4_136 rfl cx10 rx11 dX4_isFetchedBehindNext_39 ?_
        refine R_iload_n C 1 rfl dX4_isFetchedBehindNext_42 ?_
        refine R_ck (fun h12 => ?_)
        refine R_iald C cx11 h12 dX4_isFetchedBehindNext_43 ?_
        refine R_bd (fun r15 s13 q14 => ?_)
        refine R_callVi [.int (gi s4 x11 a1.toNatClampNeg)] [.int (gi s4 x1 a1.toNatClampNeg)] C ml4_139 (kX1_sizeOf q14) (by rw [hR]; exact ⟨rfl, rfl, Nat.le_of_ble_eq_true rfl, Nat.le_of_ble_eq_true rfl, Nat.zero_le _, Nat.zero_le _⟩) cx10 rfl rfl (Nat.le_of_ble_eq_true rfl) dX4_isFetchedBehindNext_44 ?_
        refine B_icmp_ge C dX4_isFetchedBehindNext_47 ?_ ?_
        · refine R_iconst C (0) dX4_isFetchedBehindNext_54 (by decide) ?_
          refine R_loc (lv2 := []) [] rfl ?_
          exact R_end (fun (w : Int32) (s : Sg) => V κ G (QQ κ G E (some (.int r)) σ') E s (false, 0, 0) 55 [] [.int w]) Kw5
        · refine R_iconst C (1) dX4_isFetchedBehindNext_50 (by decide) ?_
          refine R_goto C dX4_isFetchedBehindNext_51 ?_
          refine R_loc (lv2 := []) [] rfl ?_
          exact R_end (fun (w : Int32) (s : Sg) => V κ G (QQ κ G E (some (.int r)) σ') E s (false, 0, 0) 55 [] [.int w]) Kw5
theorem dX4_fetchedTape_0 : dk cX4_fetchedTape 0 1 (.aload_n 0) 1 := by unfold dk; decide +kernel
theorem dX4_fetchedTape_1 : dk cX4_fetchedTape 1 4 (.getfield 42) 3 := by unfold dk; decide +kernel
theorem dX4_fetchedTape_4 : dk cX4_fetchedTape 4 7 (.invokevirtual 125) 3 := by unfold dk; decide +kernel
theorem dX4_fetchedTape_7 : dk cX4_fetchedTape 7 8 (.iconst 0) 1 := by unfold dk; decide +kernel
theorem dX4_fetchedTape_8 : dk cX4_fetchedTape 8 9 (.istore_n 3) 1 := by unfold dk; decide +kernel
theorem dX4_fetchedTape_9 : dk cX4_fetchedTape 9 10 (.iload_n 3) 1 := by unfold dk; decide +kernel
theorem dX4_fetchedTape_10 : dk cX4_fetchedTape 10 12 (.bipush 6) 2 := by unfold dk; decide +kernel
theorem dX4_fetchedTape_15 : dk cX4_fetchedTape 15 16 (.aload_n 0) 1 := by unfold dk; decide +kernel
theorem dX4_fetchedTape_16 : dk cX4_fetchedTape 16 19 (.getfield 49) 3 := by unfold dk; decide +kernel
theorem dX4_fetchedTape_19 : dk cX4_fetchedTape 19 20 (.iload_n 3) 1 := by unfold dk; decide +kernel
theorem dX4_fetchedTape_20 : dk cX4_fetchedTape 20 21 (.iconst 0) 1 := by unfold dk; decide +kernel
theorem dX4_fetchedTape_21 : dk cX4_fetchedTape 21 22 (.iastore) 1 := by unfold dk; decide +kernel
theorem dX4_fetchedTape_22 : dk cX4_fetchedTape 22 25 (.iinc 3 1) 3 := by unfold dk; decide +kernel
theorem dX4_fetchedTape_25 : bk cX4_fetchedTape 25 28 9 (.goto (-16)) (-16) := by unfold bk; decide +kernel
theorem dX4_fetchedTape_12 : bk cX4_fetchedTape 12 15 28 (.if_icmp .ge 16) (16) := by unfold bk; decide +kernel
theorem dX4_fetchedTape_28 : dk cX4_fetchedTape 28 29 (.iconst 0) 1 := by unfold dk; decide +kernel
theorem dX4_fetchedTape_29 : dk cX4_fetchedTape 29 30 (.istore_n 3) 1 := by unfold dk; decide +kernel
theorem dX4_fetchedTape_30 : dk cX4_fetchedTape 30 31 (.iconst 0) 1 := by unfold dk; decide +kernel
theorem dX4_fetchedTape_31 : dk cX4_fetchedTape 31 33 (.istore 4) 2 := by unfold dk; decide +kernel
theorem dX4_fetchedTape_33 : dk cX4_fetchedTape 33 35 (.iload 4) 2 := by unfold dk; decide +kernel
theorem dX4_fetchedTape_35 : dk cX4_fetchedTape 35 36 (.aload_n 0) 1 := by unfold dk; decide +kernel
theorem dX4_fetchedTape_36 : dk cX4_fetchedTape 36 39 (.getfield 12) 3 := by unfold dk; decide +kernel
theorem dX4_fetchedTape_39 : dk cX4_fetchedTape 39 42 (.getfield 66) 3 := by unfold dk; decide +kernel
theorem dX4_fetchedTape_45 : dk cX4_fetchedTape 45 46 (.aload_n 0) 1 := by unfold dk; decide +kernel
theorem dX4_fetchedTape_46 : dk cX4_fetchedTape 46 49 (.getfield 12) 3 := by unfold dk; decide +kernel
theorem dX4_fetchedTape_49 : dk cX4_fetchedTape 49 51 (.iload 4) 2 := by unfold dk; decide +kernel
theorem dX4_fetchedTape_51 : dk cX4_fetchedTape 51 52 (.aload_n 0) 1 := by unfold dk; decide +kernel
theorem dX4_fetchedTape_52 : dk cX4_fetchedTape 52 55 (.getfield 42) 3 := by unfold dk; decide +kernel
theorem dX4_fetchedTape_55 : dk cX4_fetchedTape 55 58 (.getfield 128) 3 := by unfold dk; decide +kernel
theorem dX4_fetchedTape_58 : dk cX4_fetchedTape 58 61 (.invokevirtual 115) 3 := by unfold dk; decide +kernel
theorem dX4_fetchedTape_61 : dk cX4_fetchedTape 61 63 (.istore 5) 2 := by unfold dk; decide +kernel
theorem dX4_fetchedTape_63 : dk cX4_fetchedTape 63 64 (.aload_n 0) 1 := by unfold dk; decide +kernel
theorem dX4_fetchedTape_64 : dk cX4_fetchedTape 64 67 (.getfield 42) 3 := by unfold dk; decide +kernel
theorem dX4_fetchedTape_67 : dk cX4_fetchedTape 67 68 (.aload_n 0) 1 := by unfold dk; decide +kernel
theorem dX4_fetchedTape_68 : dk cX4_fetchedTape 68 71 (.getfield 46) 3 := by unfold dk; decide +kernel
theorem dX4_fetchedTape_71 : dk cX4_fetchedTape 71 72 (.aload_n 0) 1 := by unfold dk; decide +kernel
theorem dX4_fetchedTape_72 : dk cX4_fetchedTape 72 75 (.getfield 33) 3 := by unfold dk; decide +kernel
theorem dX4_fetchedTape_75 : dk cX4_fetchedTape 75 78 (.getfield 119) 3 := by unfold dk; decide +kernel
theorem dX4_fetchedTape_78 : dk cX4_fetchedTape 78 80 (.iload 5) 2 := by unfold dk; decide +kernel
theorem dX4_fetchedTape_80 : dk cX4_fetchedTape 80 81 (.iaload) 1 := by unfold dk; decide +kernel
theorem dX4_fetchedTape_81 : dk cX4_fetchedTape 81 82 (.iaload) 1 := by unfold dk; decide +kernel
theorem dX4_fetchedTape_82 : dk cX4_fetchedTape 82 85 (.invokevirtual 108) 3 := by unfold dk; decide +kernel
theorem dX4_fetchedTape_85 : dk cX4_fetchedTape 85 87 (.istore 6) 2 := by unfold dk; decide +kernel
theorem dX4_fetchedTape_87 : dk cX4_fetchedTape 87 89 (.iload 6) 2 := by unfold dk; decide +kernel
theorem dX4_fetchedTape_89 : dk cX4_fetchedTape 89 90 (.iconst (-1)) 1 := by unfold dk; decide +kernel
theorem dX4_fetchedTape_114 : dk cX4_fetchedTape 114 117 (.iinc 4 1) 3 := by unfold dk; decide +kernel
theorem dX4_fetchedTape_117 : bk cX4_fetchedTape 117 120 33 (.goto (-84)) (-84) := by unfold bk; decide +kernel
theorem dX4_fetchedTape_93 : dk cX4_fetchedTape 93 94 (.aload_n 0) 1 := by unfold dk; decide +kernel
theorem dX4_fetchedTape_94 : dk cX4_fetchedTape 94 96 (.iload 6) 2 := by unfold dk; decide +kernel
theorem dX4_fetchedTape_96 : dk cX4_fetchedTape 96 97 (.iload_n 1) 1 := by unfold dk; decide +kernel
theorem dX4_fetchedTape_97 : dk cX4_fetchedTape 97 100 (.invokevirtual 132) 3 := by unfold dk; decide +kernel
theorem dX4_fetchedTape_103 : dk cX4_fetchedTape 103 104 (.iload_n 3) 1 := by unfold dk; decide +kernel
theorem dX4_fetchedTape_104 : dk cX4_fetchedTape 104 105 (.iload_n 2) 1 := by unfold dk; decide +kernel
theorem dX4_fetchedTape_111 : dk cX4_fetchedTape 111 114 (.iinc 3 1) 3 := by unfold dk; decide +kernel
theorem dX4_fetchedTape_108 : dk cX4_fetchedTape 108 110 (.iload 6) 2 := by unfold dk; decide +kernel
theorem dX4_fetchedTape_110 : dk cX4_fetchedTape 110 111 (.ireturn) 1 := by unfold dk; decide +kernel
theorem dX4_fetchedTape_105 : bk cX4_fetchedTape 105 108 111 (.if_icmp .ne 6) (6) := by unfold bk; decide +kernel
theorem dX4_fetchedTape_100 : bk cX4_fetchedTape 100 103 114 (.ifCond .eq 14) (14) := by unfold bk; decide +kernel
theorem dX4_fetchedTape_90 : bk cX4_fetchedTape 90 93 114 (.if_icmp .eq 24) (24) := by unfold bk; decide +kernel
theorem dX4_fetchedTape_42 : bk cX4_fetchedTape 42 45 120 (.if_icmp .ge 78) (78) := by unfold bk; decide +kernel
theorem dX4_fetchedTape_120 : dk cX4_fetchedTape 120 121 (.iload_n 2) 1 := by unfold dk; decide +kernel
theorem dX4_fetchedTape_121 : dk cX4_fetchedTape 121 122 (.iconst (-1)) 1 := by unfold dk; decide +kernel
theorem dX4_fetchedTape_122 : bk cX4_fetchedTape 122 125 129 (.if_icmp .ne 7) (7) := by unfold bk; decide +kernel
theorem dX4_fetchedTape_129 : dk cX4_fetchedTape 129 131 (.bipush (-2)) 2 := by unfold dk; decide +kernel
theorem dX4_fetchedTape_125 : dk cX4_fetchedTape 125 126 (.iload_n 3) 1 := by unfold dk; decide +kernel
theorem dX4_fetchedTape_126 : bk cX4_fetchedTape 126 129 131 (.goto 5) (5) := by unfold bk; decide +kernel
theorem dX4_fetchedTape_131 : dk cX4_fetchedTape 131 132 (.ireturn) 1 := by unfold dk; decide +kernel
set_option maxHeartbeats 4000000 in
set_option maxRecDepth 100000 in
theorem kX4_fetchedTape {l : Launch} {G : Gl} {E : En} {a0 : Nat} {a1 : Int32} {a2 : Int32} {σ σ' : Sg} {r : Int32} : fX4_fetchedTape E a0 a1 a2 σ = some (r, σ') → CT l yX4_fetchedTape cX4_fetchedTape 7 (some .int) ({ frames := 3, cells := 0, slots := 0, locals := 63 } : Room) [.ref (G.1 + a0), .int a1, .int a2] G E σ (some (.int r)) σ' := by
  intro h
  refine CT_of (lv0 := [(0, .ref (G.1 + a0)), (1, .int a1), (2, .int a2)]) (by decide) (Nat.le_of_ble_eq_true rfl) rfl (fun κ hl hR hr C => ?_)
  have C : Cx κ G cX4_fetchedTape RX4 7 := C
  revert h
  unfold fX4_fetchedTape
  refine R_tk (fun ha0 => ?_)
  refine R_aload_n C 0 rfl dX4_fetchedTape_0 ?_
  refine R_dr (fun x1 rx1 cx1 => ?_)
  refine R_getr C fl4_42 rfl ha0 rx1 dX4_fetchedTape_1 ?_
  refine R_bv (fun s2 q3 => ?_)
  refine R_callVv [] [] C ml4_125 (kX1_look q3) (by rw [hR]; exact ⟨rfl, rfl, Nat.le_of_ble_eq_true rfl, Nat.le_of_ble_eq_true rfl, Nat.zero_le _, Nat.zero_le _⟩) cx1 rfl rfl (Nat.le_of_ble_eq_true rfl) dX4_fetchedTape_4 ?_
  refine R_iconst C (0) dX4_fetchedTape_7 (by decide) ?_
  refine R_istore_n (lv2 := [(3, .int (0 : Int32)), (0, .ref (G.1 + a0)), (1, .int a1), (2, .int a2)]) C dX4_fetchedTape_8 rfl (by decide) rfl ?_
  refine R_loc (lv2 := [(0, .ref (G.1 + a0)), (1, .int a1), (2, .int a2), (3, .int (0 : Int32))]) [1, 2, 3, 0] rfl ?_
  refine R_loop (fun (a : (Int32) × Sg) => V κ G (QQ κ G E (some (.int r)) σ') E a.2 (false, 0, 0) 9 [(0, .ref (G.1 + a0)), (1, .int a1), (2, .int a2), (3, .int a.1)] []) (fun (o : (Int32)) (s : Sg) => V κ G (QQ κ G E (some (.int r)) σ') E s (false, 0, 0) 28 [(0, .ref (G.1 + a0)), (1, .int a1), (2, .int a2)] []) ((0 : Int32), s2) (fun o14 s15 => ?_) (fun rec I9 a b7 s8 K6 => ?_)
  · refine R_iconst C (0) dX4_fetchedTape_28 (by decide) ?_
    refine R_istore_n (lv2 := [(3, .int (0 : Int32)), (0, .ref (G.1 + a0)), (1, .int a1), (2, .int a2)]) C dX4_fetchedTape_29 rfl (by decide) rfl ?_
    refine R_iconst C (0) dX4_fetchedTape_30 (by decide) ?_
    refine R_istore (lv2 := [(4, .int (0 : Int32)), (3, .int (0 : Int32)), (0, .ref (G.1 + a0)), (1, .int a1), (2, .int a2)]) C dX4_fetchedTape_31 (by decide) rfl ?_
    refine R_loc (lv2 := [(0, .ref (G.1 + a0)), (1, .int a1), (2, .int a2), (3, .int (0 : Int32)), (4, .int (0 : Int32))]) [2, 3, 4, 1, 0] rfl ?_
    refine R_loop (fun (a : (Int32 × Int32) × Sg) => V κ G (QQ κ G E (some (.int r)) σ') E a.2 (false, 0, 0) 33 [(0, .ref (G.1 + a0)), (1, .int a1), (2, .int a2), (3, .int a.1.1), (4, .int a.1.2)] []) (fun (o : ((Int32 × Int32) ⊕ Int32)) (s : Sg) => sm o (fun o => V κ G (QQ κ G E (some (.int r)) σ') E s (false, 0, 0) 120 [(2, .int a2), (3, .int o.1)] []) (fun rr => some (rr, s) = some (r, σ'))) (((0 : Int32), (0 : Int32)), s15) (fun o42 s43 => ?_) (fun rec I22 a b20 s21 K19 => ?_)
    · rcases o42 with vo42 | ro42
      · refine R_sml ?_
        refine R_iload_n C 0 rfl dX4_fetchedTape_120 ?_
        refine R_iconst C (-1) dX4_fetchedTape_121 (by decide) ?_
        refine R_bdK (fun (w : Int32) (s : Sg) => V κ G (QQ κ G E (some (.int r)) σ') E s (false, 0, 0) 131 [] [.int w]) (fun w44 s45 => ?_) (fun w44 s45 Kw44 => ?_)
        · exact R_iret C hr dX4_fetchedTape_131
        · refine B_icmp_ne C dX4_fetchedTape_122 ?_ ?_
          · refine R_bipush C (-2) dX4_fetchedTape_129 (by decide) ?_
            refine R_loc (lv2 := []) [] rfl ?_
            exact R_end (fun (w : Int32) (s : Sg) => V κ G (QQ κ G E (some (.int r)) σ') E s (false, 0, 0) 131 [] [.int w]) Kw44
          · refine R_iload_n C 1 rfl dX4_fetchedTape_125 ?_
            refine R_goto C dX4_fetchedTape_126 ?_
            refine R_loc (lv2 := []) [] rfl ?_
            exact R_end (fun (w : Int32) (s : Sg) => V κ G (QQ κ G E (some (.int r)) σ') E s (false, 0, 0) 131 [] [.int w]) Kw44
      · exact fun h => h
    · obtain ⟨⟨v16, v17⟩, s18⟩ := a
      show bX4_fetchedTape_33 E a0 x1 a1 a2 (fun u0 u1 t => rec ((u0, u1), t)) v16 v17 s18 = some (b20, s21) → V κ G (QQ κ G E (some (.int r)) σ') E s18 (false, 0, 0) 33 [(0, .ref (G.1 + a0)), (1, .int a1), (2, .int a2), (3, .int v16), (4, .int v17)] []
      unfold bX4_fetchedTape_33
      refine R_iload C 4 rfl dX4_fetchedTape_33 ?_
      refine R_aload_n C 0 rfl dX4_fetchedTape_35 ?_
      refine R_dr (fun x23 rx23 cx23 => ?_)
      refine R_getr C fl4_12 rfl ha0 rx23 dX4_fetchedTape_36 ?_
      refine R_geti C fl4_66 rfl cx23 dX4_fetchedTape_39 ?_
      refine B_icmp_ge C dX4_fetchedTape_42 ?_ ?_
      · refine R_loc (lv2 := [(2, .int a2), (3, .int v16)]) [2, 3] rfl ?_
        exact R_inr (VX := (fun (o : ((Int32 × Int32) ⊕ Int32)) (s : Sg) => sm o (fun o => V κ G (QQ κ G E (some (.int r)) σ') E s (false, 0, 0) 120 [(2, .int a2), (3, .int o.1)] []) (fun rr => some (rr, s) = some (r, σ')))) (i := .inl) K19 (fun h => h)
      · refine R_aload_n C 0 rfl dX4_fetchedTape_45 ?_
        refine R_getr C fl4_12 rfl ha0 rx23 dX4_fetchedTape_46 ?_
        refine R_iload C 4 rfl dX4_fetchedTape_49 ?_
        refine R_aload_n C 0 rfl dX4_fetchedTape_51 ?_
        refine R_getr C fl4_42 rfl ha0 rx1 dX4_fetchedTape_52 ?_
        refine R_geti C fl4_128 rfl cx1 dX4_fetchedTape_55 ?_
        refine R_bd (fun r26 s24 q25 => ?_)
        refine R_callVi [.int v17, .int (gi s18 x1 15)] [] C ml4_115 (kX3_ranked q25) (by rw [hR]; exact ⟨rfl, rfl, Nat.le_of_ble_eq_true rfl, Nat.le_of_ble_eq_true rfl, Nat.zero_le _, Nat.zero_le _⟩) cx23 rfl rfl (Nat.le_of_ble_eq_true rfl) dX4_fetchedTape_58 ?_
        refine R_istore (lv2 := [(5, .int r26), (0, .ref (G.1 + a0)), (1, .int a1), (2, .int a2), (3, .int v16), (4, .int v17)]) C dX4_fetchedTape_61 (by decide) rfl ?_
        refine R_aload_n C 1 rfl dX4_fetchedTape_63 ?_
        refine R_getr C fl4_42 rfl ha0 rx1 dX4_fetchedTape_64 ?_
        refine R_aload_n C 1 rfl dX4_fetchedTape_67 ?_
        refine R_dr (fun x27 rx27 cx27 => ?_)
        refine R_getr C fl4_46 rfl ha0 rx27 dX4_fetchedTape_68 ?_
        refine R_aload_n C 1 rfl dX4_fetchedTape_71 ?_
        refine R_dr (fun x28 rx28 cx28 => ?_)
        refine R_getr C fl4_33 rfl ha0 rx28 dX4_fetchedTape_72 ?_
        refine R_dr (fun x29 rx29 cx29 => ?_)
        refine R_getr C fl4_119 rfl cx28 rx29 dX4_fetchedTape_75 ?_
        refine R_iload C 0 rfl dX4_fetchedTape_78 ?_
        refine R_ck (fun h30 => ?_)
        refine R_iald C cx29 h30 dX4_fetchedTape_80 ?_
        refine R_ck (fun h31 => ?_)
        refine R_iald C cx27 h31 dX4_fetchedTape_81 ?_
        refine R_bd (fun r34 s32 q33 => ?_)
        refine R_callVi [.int (gi s24 x27 (gi s24 x29 r26.toNatClampNeg).toNatClampNeg)] [] C ml4_108 (kX1_takenFrom q33) (by rw [hR]; exact ⟨rfl, rfl, Nat.le_of_ble_eq_true rfl, Nat.le_of_ble_eq_true rfl, Nat.zero_le _, Nat.zero_le _⟩) cx1 rfl rfl (Nat.le_of_ble_eq_true rfl) dX4_fetchedTape_82 ?_
        refine R_istore (lv2 := [(6, .int r34), (5, .int r26), (0, .ref (G.1 + a0)), (1, .int a1), (2, .int a2), (3, .int v16), (4, .int v17)]) C dX4_fetchedTape_85 (by decide) rfl ?_
        refine R_iload C 0 rfl dX4_fetchedTape_87 ?_
        refine R_iconst C (-1) dX4_fetchedTape_89 (by decide) ?_
        refine B_icmp_eq C dX4_fetchedTape_90 ?_ ?_
        · refine S_iinc (fun v35 => [(4, .int v35), (6, .int r34), (5, .int r26), (0, .ref (G.1 + a0)), (1, .int a1), (2, .int a2), (3, .int v16)]) 6 C dX4_fetchedTape_114 rfl (by decide) (by decide) (fun _ => rfl) (fun v35 => ?_)
          refine R_goto C dX4_fetchedTape_117 ?_
          refine R_loc (lv2 := [(0, .ref (G.1 + a0)), (1, .int a1), (2, .int a2), (3, .int v16), (4, .int v35)]) [3, 4, 5, 6, 0] rfl ?_
          exact I22 ((v16, v35), s32) b20 s21 K19
        · refine R_aload_n C 2 rfl dX4_fetchedTape_93 ?_
          refine R_iload C 0 rfl dX4_fetchedTape_94 ?_
          refine R_iload_n C 3 rfl dX4_fetchedTape_96 ?_
          refine R_bd (fun r38 s36 q37 => ?_)
          refine R_callVi [.int r34, .int a1] [] C ml4_132 (kX4_isFetchedBehindNext q37) (by rw [hR]; exact ⟨rfl, rfl, Nat.le_of_ble_eq_true rfl, Nat.le_of_ble_eq_true rfl, Nat.zero_le _, Nat.zero_le _⟩) ha0 rfl rfl (Nat.le_of_ble_eq_true rfl) dX4_fetchedTape_97 ?_
          refine B_if_eq C dX4_fetchedTape_100 ?_ ?_
          · refine S_iinc (fun v39 => [(4, .int v39), (6, .int r34), (5, .int r26), (0, .ref (G.1 + a0)), (1, .int a1), (2, .int a2), (3, .int v16)]) 6 C dX4_fetchedTape_114 rfl (by decide) (by decide) (fun _ => rfl) (fun v39 => ?_)
            refine R_goto C dX4_fetchedTape_117 ?_
            refine R_loc (lv2 := [(0, .ref (G.1 + a0)), (1, .int a1), (2, .int a2), (3, .int v16), (4, .int v39)]) [3, 4, 5, 6, 0] rfl ?_
            exact I22 ((v16, v39), s36) b20 s21 K19
          · refine R_iload_n C 5 rfl dX4_fetchedTape_103 ?_
            refine R_iload_n C 4 rfl dX4_fetchedTape_104 ?_
            refine B_icmp_ne C dX4_fetchedTape_105 ?_ ?_
            · refine S_iinc (fun v40 => [(3, .int v40), (6, .int r34), (5, .int r26), (0, .ref (G.1 + a0)), (1, .int a1), (2, .int a2), (4, .int v17)]) 5 C dX4_fetchedTape_111 rfl (by decide) (by decide) (fun _ => rfl) (fun v40 => ?_)
              refine S_iinc (fun v41 => [(4, .int v41), (3, .int v40), (6, .int r34), (5, .int r26), (0, .ref (G.1 + a0)), (1, .int a1), (2, .int a2)]) 6 C dX4_fetchedTape_114 rfl (by decide) (by decide) (fun _ => rfl) (fun v41 => ?_)
              refine R_goto C dX4_fetchedTape_117 ?_
              refine R_loc (lv2 := [(0, .ref (G.1 + a0)), (1, .int a1), (2, .int a2), (3, .int v40), (4, .int v41)]) [4, 5, 6, 1, 0] rfl ?_
              exact I22 ((v40, v41), s36) b20 s21 K19
            · refine R_iload C 0 rfl dX4_fetchedTape_108 ?_
              exact R_inr (VX := (fun (o : ((Int32 × Int32) ⊕ Int32)) (s : Sg) => sm o (fun o => V κ G (QQ κ G E (some (.int r)) σ') E s (false, 0, 0) 120 [(2, .int a2), (3, .int o.1)] []) (fun rr => some (rr, s) = some (r, σ')))) (i := .inr) K19 (R_iret C hr dX4_fetchedTape_110)
  · obtain ⟨v4, s5⟩ := a
    show bX4_fetchedTape_9 E a0 (fun u0 t => rec (u0, t)) v4 s5 = some (b7, s8) → V κ G (QQ κ G E (some (.int r)) σ') E s5 (false, 0, 0) 9 [(0, .ref (G.1 + a0)), (1, .int a1), (2, .int a2), (3, .int v4)] []
    unfold bX4_fetchedTape_9
    refine R_iload_n C 3 rfl dX4_fetchedTape_9 ?_
    refine R_bipush C (6) dX4_fetchedTape_10 (by decide) ?_
    refine B_icmp_ge C dX4_fetchedTape_12 ?_ ?_
    · refine R_loc (lv2 := [(0, .ref (G.1 + a0)), (1, .int a1), (2, .int a2)]) [0, 1, 2] rfl ?_
      exact R_end (fun (o : (Int32)) (s : Sg) => V κ G (QQ κ G E (some (.int r)) σ') E s (false, 0, 0) 28 [(0, .ref (G.1 + a0)), (1, .int a1), (2, .int a2)] []) K6
    · refine R_aload_n C 0 rfl dX4_fetchedTape_15 ?_
      refine R_dr (fun x10 rx10 cx10 => ?_)
      refine R_getr C fl4_49 rfl ha0 rx10 dX4_fetchedTape_16 ?_
      refine R_iload_n C 3 rfl dX4_fetchedTape_19 ?_
      refine R_iconst C (0) dX4_fetchedTape_20 (by decide) ?_
      refine R_ck (fun h11 => ?_)
      refine S_iast C cx10 h11 dX4_fetchedTape_21 (fun s12 => ?_)
      refine S_iinc (fun v13 => [(3, .int v13), (0, .ref (G.1 + a0)), (1, .int a1), (2, .int a2)]) 3 C dX4_fetchedTape_22 rfl (by decide) (by decide) (fun _ => rfl) (fun v13 => ?_)
      refine R_goto C dX4_fetchedTape_25 ?_
      refine R_loc (lv2 := [(0, .ref (G.1 + a0)), (1, .int a1), (2, .int a2), (3, .int v13)]) [1, 2, 3, 0] rfl ?_
      exact I9 (v13, s12) b7 s8 K6
