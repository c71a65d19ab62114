theorem dX1_copyFrom_0 : dk cX1_copyFrom 0 1 (.aload_n 0) 1 := by unfold dk; decide +kernel
theorem dX1_copyFrom_1 : dk cX1_copyFrom 1 2 (.aload_n 1) 1 := by unfold dk; decide +kernel
theorem dX1_copyFrom_2 : dk cX1_copyFrom 2 5 (.getfield 55) 3 := by unfold dk; decide +kernel
theorem dX1_copyFrom_5 : dk cX1_copyFrom 5 8 (.putfield 55) 3 := by unfold dk; decide +kernel
theorem dX1_copyFrom_8 : dk cX1_copyFrom 8 9 (.aload_n 0) 1 := by unfold dk; decide +kernel
theorem dX1_copyFrom_9 : dk cX1_copyFrom 9 10 (.aload_n 1) 1 := by unfold dk; decide +kernel
theorem dX1_copyFrom_10 : dk cX1_copyFrom 10 13 (.getfield 58) 3 := by unfold dk; decide +kernel
theorem dX1_copyFrom_13 : dk cX1_copyFrom 13 16 (.putfield 58) 3 := by unfold dk; decide +kernel
theorem dX1_copyFrom_16 : dk cX1_copyFrom 16 17 (.aload_n 0) 1 := by unfold dk; decide +kernel
theorem dX1_copyFrom_17 : dk cX1_copyFrom 17 18 (.aload_n 1) 1 := by unfold dk; decide +kernel
theorem dX1_copyFrom_18 : dk cX1_copyFrom 18 21 (.getfield 9) 3 := by unfold dk; decide +kernel
theorem dX1_copyFrom_21 : dk cX1_copyFrom 21 24 (.putfield 9) 3 := by unfold dk; decide +kernel
theorem dX1_copyFrom_24 : dk cX1_copyFrom 24 25 (.aload_n 0) 1 := by unfold dk; decide +kernel
theorem dX1_copyFrom_25 : dk cX1_copyFrom 25 26 (.aload_n 1) 1 := by unfold dk; decide +kernel
theorem dX1_copyFrom_26 : dk cX1_copyFrom 26 29 (.getfield 61) 3 := by unfold dk; decide +kernel
theorem dX1_copyFrom_29 : dk cX1_copyFrom 29 32 (.putfield 61) 3 := by unfold dk; decide +kernel
theorem dX1_copyFrom_32 : dk cX1_copyFrom 32 33 (.aload_n 0) 1 := by unfold dk; decide +kernel
theorem dX1_copyFrom_33 : dk cX1_copyFrom 33 34 (.aload_n 1) 1 := by unfold dk; decide +kernel
theorem dX1_copyFrom_34 : dk cX1_copyFrom 34 37 (.getfield 65) 3 := by unfold dk; decide +kernel
theorem dX1_copyFrom_37 : dk cX1_copyFrom 37 38 (.aload_n 0) 1 := by unfold dk; decide +kernel
theorem dX1_copyFrom_38 : dk cX1_copyFrom 38 41 (.getfield 48) 3 := by unfold dk; decide +kernel
theorem dX1_copyFrom_41 : dk cX1_copyFrom 41 42 (.arraylength) 1 := by unfold dk; decide +kernel
theorem dX1_copyFrom_42 : dk cX1_copyFrom 42 45 (.invokestatic 68) 3 := by unfold dk; decide +kernel
theorem dX1_copyFrom_45 : dk cX1_copyFrom 45 48 (.putfield 65) 3 := by unfold dk; decide +kernel
theorem dX1_copyFrom_48 : dk cX1_copyFrom 48 49 (.aload_n 0) 1 := by unfold dk; decide +kernel
theorem dX1_copyFrom_49 : dk cX1_copyFrom 49 50 (.aload_n 1) 1 := by unfold dk; decide +kernel
theorem dX1_copyFrom_50 : dk cX1_copyFrom 50 53 (.getfield 71) 3 := by unfold dk; decide +kernel
theorem dX1_copyFrom_53 : dk cX1_copyFrom 53 56 (.putfield 71) 3 := by unfold dk; decide +kernel
theorem dX1_copyFrom_56 : dk cX1_copyFrom 56 57 (.aload_n 0) 1 := by unfold dk; decide +kernel
theorem dX1_copyFrom_57 : dk cX1_copyFrom 57 58 (.aload_n 1) 1 := by unfold dk; decide +kernel
theorem dX1_copyFrom_58 : dk cX1_copyFrom 58 61 (.getfield 74) 3 := by unfold dk; decide +kernel
theorem dX1_copyFrom_61 : dk cX1_copyFrom 61 64 (.putfield 74) 3 := by unfold dk; decide +kernel
theorem dX1_copyFrom_64 : dk cX1_copyFrom 64 65 (.aload_n 0) 1 := by unfold dk; decide +kernel
theorem dX1_copyFrom_65 : dk cX1_copyFrom 65 66 (.aload_n 1) 1 := by unfold dk; decide +kernel
theorem dX1_copyFrom_66 : dk cX1_copyFrom 66 69 (.getfield 77) 3 := by unfold dk; decide +kernel
theorem dX1_copyFrom_69 : dk cX1_copyFrom 69 72 (.putfield 77) 3 := by unfold dk; decide +kernel
theorem dX1_copyFrom_72 : dk cX1_copyFrom 72 73 (.aload_n 1) 1 := by unfold dk; decide +kernel
theorem dX1_copyFrom_73 : dk cX1_copyFrom 73 76 (.getfield 48) 3 := by unfold dk; decide +kernel
theorem dX1_copyFrom_76 : dk cX1_copyFrom 76 77 (.iconst 0) 1 := by unfold dk; decide +kernel
theorem dX1_copyFrom_77 : dk cX1_copyFrom 77 78 (.aload_n 0) 1 := by unfold dk; decide +kernel
theorem dX1_copyFrom_78 : dk cX1_copyFrom 78 81 (.getfield 48) 3 := by unfold dk; decide +kernel
theorem dX1_copyFrom_81 : dk cX1_copyFrom 81 82 (.iconst 0) 1 := by unfold dk; decide +kernel
theorem dX1_copyFrom_82 : dk cX1_copyFrom 82 83 (.aload_n 0) 1 := by unfold dk; decide +kernel
theorem dX1_copyFrom_83 : dk cX1_copyFrom 83 86 (.getfield 65) 3 := by unfold dk; decide +kernel
theorem dX1_copyFrom_86 : dk cX1_copyFrom 86 89 (.invokestatic 80) 3 := by unfold dk; decide +kernel
theorem dX1_copyFrom_89 : dk cX1_copyFrom 89 90 (.aload_n 1) 1 := by unfold dk; decide +kernel
theorem dX1_copyFrom_90 : dk cX1_copyFrom 90 93 (.getfield 25) 3 := by unfold dk; decide +kernel
theorem dX1_copyFrom_93 : dk cX1_copyFrom 93 94 (.iconst 0) 1 := by unfold dk; decide +kernel
theorem dX1_copyFrom_94 : dk cX1_copyFrom 94 95 (.aload_n 0) 1 := by unfold dk; decide +kernel
theorem dX1_copyFrom_95 : dk cX1_copyFrom 95 98 (.getfield 25) 3 := by unfold dk; decide +kernel
theorem dX1_copyFrom_98 : dk cX1_copyFrom 98 99 (.iconst 0) 1 := by unfold dk; decide +kernel
theorem dX1_copyFrom_99 : dk cX1_copyFrom 99 101 (.bipush 6) 2 := by unfold dk; decide +kernel
theorem dX1_copyFrom_101 : dk cX1_copyFrom 101 104 (.invokestatic 80) 3 := by unfold dk; decide +kernel
theorem dX1_copyFrom_104 : dk cX1_copyFrom 104 105 (.iconst 0) 1 := by unfold dk; decide +kernel
theorem dX1_copyFrom_105 : dk cX1_copyFrom 105 106 (.istore_n 2) 1 := by unfold dk; decide +kernel
theorem dX1_copyFrom_106 : dk cX1_copyFrom 106 107 (.iload_n 2) 1 := by unfold dk; decide +kernel
theorem dX1_copyFrom_107 : dk cX1_copyFrom 107 108 (.aload_n 0) 1 := by unfold dk; decide +kernel
theorem dX1_copyFrom_108 : dk cX1_copyFrom 108 111 (.getfield 65) 3 := by unfold dk; decide +kernel
theorem dX1_copyFrom_114 : dk cX1_copyFrom 114 115 (.aload_n 0) 1 := by unfold dk; decide +kernel
theorem dX1_copyFrom_115 : dk cX1_copyFrom 115 118 (.getfield 51) 3 := by unfold dk; decide +kernel
theorem dX1_copyFrom_118 : dk cX1_copyFrom 118 119 (.iload_n 2) 1 := by unfold dk; decide +kernel
theorem dX1_copyFrom_119 : dk cX1_copyFrom 119 120 (.aload_n 1) 1 := by unfold dk; decide +kernel
theorem dX1_copyFrom_120 : dk cX1_copyFrom 120 123 (.getfield 51) 3 := by unfold dk; decide +kernel
theorem dX1_copyFrom_123 : dk cX1_copyFrom 123 124 (.iload_n 2) 1 := by unfold dk; decide +kernel
theorem dX1_copyFrom_124 : dk cX1_copyFrom 124 125 (.baload) 1 := by unfold dk; decide +kernel
theorem dX1_copyFrom_125 : dk cX1_copyFrom 125 126 (.bastore) 1 := by unfold dk; decide +kernel
theorem dX1_copyFrom_126 : dk cX1_copyFrom 126 129 (.iinc 2 1) 3 := by unfold dk; decide +kernel
theorem dX1_copyFrom_129 : bk cX1_copyFrom 129 132 106 (.goto (-23)) (-23) := by unfold bk; decide +kernel
theorem dX1_copyFrom_111 : bk cX1_copyFrom 111 114 132 (.if_icmp .ge 21) (21) := by unfold bk; decide +kernel
theorem dX1_copyFrom_132 : dk cX1_copyFrom 132 133 (.iconst 0) 1 := by unfold dk; decide +kernel
theorem dX1_copyFrom_133 : dk cX1_copyFrom 133 134 (.istore_n 2) 1 := by unfold dk; decide +kernel
theorem dX1_copyFrom_134 : dk cX1_copyFrom 134 135 (.iload_n 2) 1 := by unfold dk; decide +kernel
theorem dX1_copyFrom_135 : dk cX1_copyFrom 135 137 (.bipush 6) 2 := by unfold dk; decide +kernel
theorem dX1_copyFrom_140 : dk cX1_copyFrom 140 141 (.aload_n 0) 1 := by unfold dk; decide +kernel
theorem dX1_copyFrom_141 : dk cX1_copyFrom 141 144 (.getfield 17) 3 := by unfold dk; decide +kernel
theorem dX1_copyFrom_144 : dk cX1_copyFrom 144 145 (.iload_n 2) 1 := by unfold dk; decide +kernel
theorem dX1_copyFrom_145 : dk cX1_copyFrom 145 146 (.aaload) 1 := by unfold dk; decide +kernel
theorem dX1_copyFrom_146 : dk cX1_copyFrom 146 147 (.aload_n 1) 1 := by unfold dk; decide +kernel
theorem dX1_copyFrom_147 : dk cX1_copyFrom 147 150 (.getfield 17) 3 := by unfold dk; decide +kernel
theorem dX1_copyFrom_150 : dk cX1_copyFrom 150 151 (.iload_n 2) 1 := by unfold dk; decide +kernel
theorem dX1_copyFrom_151 : dk cX1_copyFrom 151 152 (.aaload) 1 := by unfold dk; decide +kernel
theorem dX1_copyFrom_152 : dk cX1_copyFrom 152 155 (.invokevirtual 86) 3 := by unfold dk; decide +kernel
theorem dX1_copyFrom_155 : dk cX1_copyFrom 155 156 (.aload_n 0) 1 := by unfold dk; decide +kernel
theorem dX1_copyFrom_156 : dk cX1_copyFrom 156 159 (.getfield 21) 3 := by unfold dk; decide +kernel
theorem dX1_copyFrom_159 : dk cX1_copyFrom 159 160 (.iload_n 2) 1 := by unfold dk; decide +kernel
theorem dX1_copyFrom_160 : dk cX1_copyFrom 160 161 (.aload_n 1) 1 := by unfold dk; decide +kernel
theorem dX1_copyFrom_161 : dk cX1_copyFrom 161 164 (.getfield 21) 3 := by unfold dk; decide +kernel
theorem dX1_copyFrom_164 : dk cX1_copyFrom 164 165 (.iload_n 2) 1 := by unfold dk; decide +kernel
theorem dX1_copyFrom_165 : dk cX1_copyFrom 165 166 (.baload) 1 := by unfold dk; decide +kernel
theorem dX1_copyFrom_166 : dk cX1_copyFrom 166 167 (.bastore) 1 := by unfold dk; decide +kernel
theorem dX1_copyFrom_167 : dk cX1_copyFrom 167 170 (.iinc 2 1) 3 := by unfold dk; decide +kernel
theorem dX1_copyFrom_170 : bk cX1_copyFrom 170 173 134 (.goto (-36)) (-36) := by unfold bk; decide +kernel
theorem dX1_copyFrom_137 : bk cX1_copyFrom 137 140 173 (.if_icmp .ge 36) (36) := by unfold bk; decide +kernel
theorem dX1_copyFrom_173 : dk cX1_copyFrom 173 174 (.return_) 1 := by unfold dk; decide +kernel
set_option maxHeartbeats 4000000 in
set_option maxRecDepth 100000 in
theorem kX1_copyFrom {l : Launch} {G : Gl} {E : En} {a0 : Nat} {a1 : Nat} {σ σ' : Sg} : fX1_copyFrom E a0 a1 σ = some σ' → CT l yX1_copyFrom cX1_copyFrom 3 none ({ frames := 2, cells := 0, slots := 0, locals := 81 } : Room) [.ref (G.1 + a0), .ref (G.1 + a1)] G E σ none σ' := by
  intro h
  refine CT_of (lv0 := [(0, .ref (G.1 + a0)), (1, .ref (G.1 + a1))]) (by decide) (Nat.le_of_ble_eq_true rfl) rfl (fun κ hl hR hr C => ?_)
  have C : Cx κ G cX1_copyFrom RX1 3 := C
  revert h
  unfold fX1_copyFrom
  refine R_tk (fun ha0 => ?_)
  refine R_tk (fun ha1 => ?_)
  refine R_aload_n C 0 rfl dX1_copyFrom_0 ?_
  refine R_aload_n C 1 rfl dX1_copyFrom_1 ?_
  refine R_geti C fl1_55 rfl ha1 dX1_copyFrom_2 ?_
  refine S_puti C fl1_55 rfl ha0 rfl rfl dX1_copyFrom_5 (fun s1 => ?_)
  refine R_aload_n C 0 rfl dX1_copyFrom_8 ?_
  refine R_aload_n C 1 rfl dX1_copyFrom_9 ?_
  refine R_geti C fl1_58 rfl ha1 dX1_copyFrom_10 ?_
  refine S_puti C fl1_58 rfl ha0 rfl rfl dX1_copyFrom_13 (fun s2 => ?_)
  refine R_aload_n C 0 rfl dX1_copyFrom_16 ?_
  refine R_aload_n C 1 rfl dX1_copyFrom_17 ?_
  refine R_geti C fl1_9 rfl ha1 dX1_copyFrom_18 ?_
  refine S_puti C fl1_9 rfl ha0 rfl rfl dX1_copyFrom_21 (fun s3 => ?_)
  refine R_aload_n C 0 rfl dX1_copyFrom_24 ?_
  refine R_aload_n C 1 rfl dX1_copyFrom_25 ?_
  refine R_geti C fl1_61 rfl ha1 dX1_copyFrom_26 ?_
  refine R_kb (fun h4 => ?_)
  refine S_puti C fl1_61 rfl ha0 (nb h4) (fb h4) dX1_copyFrom_29 (fun s5 => ?_)
  refine R_aload_n C 0 rfl dX1_copyFrom_32 ?_
  refine R_aload_n C 1 rfl dX1_copyFrom_33 ?_
  refine R_geti C fl1_65 rfl ha1 dX1_copyFrom_34 ?_
  refine R_aload_n C 0 rfl dX1_copyFrom_37 ?_
  refine R_dr (fun x6 rx6 cx6 => ?_)
  refine R_getr C fl1_48 rfl ha0 rx6 dX1_copyFrom_38 ?_
  refine R_alen C cx6 (by omega) (by omega) dX1_copyFrom_41 ?_
  refine R_mmin C jd1_68 (by rw [hR]; exact ⟨Nat.le_of_ble_eq_true rfl, Nat.le_of_ble_eq_true rfl, Nat.zero_le _, Nat.zero_le _⟩) dX1_copyFrom_42 ?_
  refine S_puti C fl1_65 rfl ha0 rfl rfl dX1_copyFrom_45 (fun s7 => ?_)
  refine R_aload_n C 0 rfl dX1_copyFrom_48 ?_
  refine R_aload_n C 1 rfl dX1_copyFrom_49 ?_
  refine R_geti C fl1_71 rfl ha1 dX1_copyFrom_50 ?_
  refine S_puti C fl1_71 rfl ha0 rfl rfl dX1_copyFrom_53 (fun s8 => ?_)
  refine R_aload_n C 0 rfl dX1_copyFrom_56 ?_
  refine R_aload_n C 1 rfl dX1_copyFrom_57 ?_
  refine R_geti C fl1_74 rfl ha1 dX1_copyFrom_58 ?_
  refine S_puti C fl1_74 rfl ha0 rfl rfl dX1_copyFrom_61 (fun s9 => ?_)
  refine R_aload_n C 0 rfl dX1_copyFrom_64 ?_
  refine R_aload_n C 1 rfl dX1_copyFrom_65 ?_
  refine R_geti C fl1_77 rfl ha1 dX1_copyFrom_66 ?_
  refine R_kb (fun h10 => ?_)
  refine S_puti C fl1_77 rfl ha0 (nb h10) (fb h10) dX1_copyFrom_69 (fun s11 => ?_)
  refine R_aload_n C 1 rfl dX1_copyFrom_72 ?_
  refine R_dr (fun x12 rx12 cx12 => ?_)
  refine R_getr C fl1_48 rfl ha1 rx12 dX1_copyFrom_73 ?_
  refine R_iconst C (0) dX1_copyFrom_76 (by decide) ?_
  refine R_aload_n C 0 rfl dX1_copyFrom_77 ?_
  refine R_getr C fl1_48 rfl ha0 rx6 dX1_copyFrom_78 ?_
  refine R_iconst C (0) dX1_copyFrom_81 (by decide) ?_
  refine R_aload_n C 0 rfl dX1_copyFrom_82 ?_
  refine R_geti C fl1_65 rfl ha0 dX1_copyFrom_83 ?_
  refine S_acopy C jd1_80 cx12 cx6 (by rw [hR]; exact ⟨Nat.le_of_ble_eq_true rfl, Nat.le_of_ble_eq_true rfl⟩) dX1_copyFrom_86 (fun s13 => ?_)
  refine R_aload_n C 1 rfl dX1_copyFrom_89 ?_
  refine R_dr (fun x14 rx14 cx14 => ?_)
  refine R_getr C fl1_25 rfl ha1 rx14 dX1_copyFrom_90 ?_
  refine R_iconst C (0) dX1_copyFrom_93 (by decide) ?_
  refine R_aload_n C 0 rfl dX1_copyFrom_94 ?_
  refine R_dr (fun x15 rx15 cx15 => ?_)
  refine R_getr C fl1_25 rfl ha0 rx15 dX1_copyFrom_95 ?_
  refine R_iconst C (0) dX1_copyFrom_98 (by decide) ?_
  refine R_bipush C (6) dX1_copyFrom_99 (by decide) ?_
  refine S_acopy C jd1_80 cx14 cx15 (by rw [hR]; exact ⟨Nat.le_of_ble_eq_true rfl, Nat.le_of_ble_eq_true rfl⟩) dX1_copyFrom_101 (fun s16 => ?_)
  refine R_iconst C (0) dX1_copyFrom_104 (by decide) ?_
  refine R_istore_n (lv2 := [(2, .int (0 : Int32)), (0, .ref (G.1 + a0)), (1, .ref (G.1 + a1))]) C dX1_copyFrom_105 rfl (by decide) rfl ?_
  refine R_loc (lv2 := [(0, .ref (G.1 + a0)), (1, .ref (G.1 + a1)), (2, .int (0 : Int32))]) [1, 2, 0] rfl ?_
  refine R_loop (fun (a : (Int32) × Sg) => V κ G (QQ κ G E none σ') E a.2 (false, 0, 0) 106 [(0, .ref (G.1 + a0)), (1, .ref (G.1 + a1)), (2, .int a.1)] []) (fun (o : (Int32)) (s : Sg) => V κ G (QQ κ G E none σ') E s (false, 0, 0) 132 [(0, .ref (G.1 + a0)), (1, .ref (G.1 + a1))] []) ((0 : Int32), s16) (fun o29 s30 => ?_) (fun rec I22 a b20 s21 K19 => ?_)
  · refine R_iconst C (0) dX1_copyFrom_132 (by decide) ?_
    refine R_istore_n (lv2 := [(2, .int (0 : Int32)), (0, .ref (G.1 + a0)), (1, .ref (G.1 + a1))]) C dX1_copyFrom_133 rfl (by decide) rfl ?_
    refine R_loc (lv2 := [(0, .ref (G.1 + a0)), (1, .ref (G.1 + a1)), (2, .int (0 : Int32))]) [1, 2, 0] rfl ?_
    refine R_loop (fun (a : (Int32) × Sg) => V κ G (QQ κ G E none σ') E a.2 (false, 0, 0) 134 [(0, .ref (G.1 + a0)), (1, .ref (G.1 + a1)), (2, .int a.1)] []) (fun (o : (Int32)) (s : Sg) => V κ G (QQ κ G E none σ') E s (false, 0, 0) 173 [] []) ((0 : Int32), s30) (fun o51 s52 => ?_) (fun rec I36 a b34 s35 K33 => ?_)
    · exact R_vret C hr dX1_copyFrom_173
    · obtain ⟨v31, s32⟩ := a
      show bX1_copyFrom_134 E a0 a1 (fun u0 t => rec (u0, t)) v31 s32 = some (b34, s35) → V κ G (QQ κ G E none σ') E s32 (false, 0, 0) 134 [(0, .ref (G.1 + a0)), (1, .ref (G.1 + a1)), (2, .int v31)] []
      unfold bX1_copyFrom_134
      refine R_iload_n C 2 rfl dX1_copyFrom_134 ?_
      refine R_bipush C (6) dX1_copyFrom_135 (by decide) ?_
      refine B_icmp_ge C dX1_copyFrom_137 ?_ ?_
      · refine R_loc (lv2 := []) [] rfl ?_
        exact R_end (fun (o : (Int32)) (s : Sg) => V κ G (QQ κ G E none σ') E s (false, 0, 0) 173 [] []) K33
      · refine R_aload_n C 0 rfl dX1_copyFrom_140 ?_
        refine R_dr (fun x37 rx37 cx37 => ?_)
        refine R_getr C fl1_17 rfl ha0 rx37 dX1_copyFrom_141 ?_
        refine R_iload_n C 2 rfl dX1_copyFrom_144 ?_
        refine R_ck (fun h38 => ?_)
        refine R_dr (fun x39 rx39 cx39 => ?_)
        refine R_aald4 C cx37 h38 rx39 dX1_copyFrom_145 ?_
        refine R_aload_n C 1 rfl dX1_copyFrom_146 ?_
        refine R_dr (fun x40 rx40 cx40 => ?_)
        refine R_getr C fl1_17 rfl ha1 rx40 dX1_copyFrom_147 ?_
        refine R_iload_n C 2 rfl dX1_copyFrom_150 ?_
        refine R_ck (fun h41 => ?_)
        refine R_dr (fun x42 rx42 cx42 => ?_)
        refine R_aald4 C cx40 h41 rx42 dX1_copyFrom_151 ?_
        refine R_bv (fun s43 q44 => ?_)
        refine R_callVv [.ref (G.1 + x42)] [] C ml1_86 (kX5_copyFrom q44) (by rw [hR]; exact ⟨rfl, rfl, Nat.le_of_ble_eq_true rfl, Nat.le_of_ble_eq_true rfl, Nat.zero_le _, Nat.zero_le _⟩) cx39 rfl rfl (Nat.le_of_ble_eq_true rfl) dX1_copyFrom_152 ?_
        refine R_aload_n C 0 rfl dX1_copyFrom_155 ?_
        refine R_dr (fun x45 rx45 cx45 => ?_)
        refine R_getr C fl1_21 rfl ha0 rx45 dX1_copyFrom_156 ?_
        refine R_iload_n C 2 rfl dX1_copyFrom_159 ?_
        refine R_aload_n C 1 rfl dX1_copyFrom_160 ?_
        refine R_dr (fun x46 rx46 cx46 => ?_)
        refine R_getr C fl1_21 rfl ha1 rx46 dX1_copyFrom_161 ?_
        refine R_iload_n C 2 rfl dX1_copyFrom_164 ?_
        refine R_ck (fun h47 => ?_)
        refine R_zald C cx46 h47 dX1_copyFrom_165 ?_
        refine R_ck (fun h48 => ?_)
        refine S_zast C cx45 h48 dX1_copyFrom_166 (fun s49 => ?_)
        refine S_iinc (fun v50 => [(2, .int v50), (0, .ref (G.1 + a0)), (1, .ref (G.1 + a1))]) 2 C dX1_copyFrom_167 rfl (by decide) (by decide) (fun _ => rfl) (fun v50 => ?_)
        refine R_goto C dX1_copyFrom_170 ?_
        refine R_loc (lv2 := [(0, .ref (G.1 + a0)), (1, .ref (G.1 + a1)), (2, .int v50)]) [1, 2, 0] rfl ?_
        exact I36 (v50, s49) b34 s35 K33
  · obtain ⟨v17, s18⟩ := a
    show bX1_copyFrom_106 E a0 a1 (fun u0 t => rec (u0, t)) v17 s18 = some (b20, s21) → V κ G (QQ κ G E none σ') E s18 (false, 0, 0) 106 [(0, .ref (G.1 + a0)), (1, .ref (G.1 + a1)), (2, .int v17)] []
    unfold bX1_copyFrom_106
    refine R_iload_n C 2 rfl dX1_copyFrom_106 ?_
    refine R_aload_n C 0 rfl dX1_copyFrom_107 ?_
    refine R_geti C fl1_65 rfl ha0 dX1_copyFrom_108 ?_
    refine B_icmp_ge C dX1_copyFrom_111 ?_ ?_
    · refine R_loc (lv2 := [(0, .ref (G.1 + a0)), (1, .ref (G.1 + a1))]) [0, 1] rfl ?_
      exact R_end (fun (o : (Int32)) (s : Sg) => V κ G (QQ κ G E none σ') E s (false, 0, 0) 132 [(0, .ref (G.1 + a0)), (1, .ref (G.1 + a1))] []) K19
    · refine R_aload_n C 0 rfl dX1_copyFrom_114 ?_
      refine R_dr (fun x23 rx23 cx23 => ?_)
      refine R_getr C fl1_51 rfl ha0 rx23 dX1_copyFrom_115 ?_
      refine R_iload_n C 2 rfl dX1_copyFrom_118 ?_
      refine R_aload_n C 1 rfl dX1_copyFrom_119 ?_
      refine R_dr (fun x24 rx24 cx24 => ?_)
      refine R_getr C fl1_51 rfl ha1 rx24 dX1_copyFrom_120 ?_
      refine R_iload_n C 2 rfl dX1_copyFrom_123 ?_
      refine R_ck (fun h25 => ?_)
      refine R_zald C cx24 h25 dX1_copyFrom_124 ?_
      refine R_ck (fun h26 => ?_)
      refine S_zast C cx23 h26 dX1_copyFrom_125 (fun s27 => ?_)
      refine S_iinc (fun v28 => [(2, .int v28), (0, .ref (G.1 + a0)), (1, .ref (G.1 + a1))]) 2 C dX1_copyFrom_126 rfl (by decide) (by decide) (fun _ => rfl) (fun v28 => ?_)
      refine R_goto C dX1_copyFrom_129 ?_
      refine R_loc (lv2 := [(0, .ref (G.1 + a0)), (1, .ref (G.1 + a1)), (2, .int v28)]) [1, 2, 0] rfl ?_
      exact I22 (v28, s27) b20 s21 K19
theorem dX1_begin_0 : dk cX1_begin 0 1 (.aload_n 0) 1 := by unfold dk; decide +kernel
theorem dX1_begin_1 : dk cX1_begin 1 2 (.iload_n 1) 1 := by unfold dk; decide +kernel
theorem dX1_begin_2 : dk cX1_begin 2 5 (.putfield 55) 3 := by unfold dk; decide +kernel
theorem dX1_begin_5 : dk cX1_begin 5 6 (.aload_n 0) 1 := by unfold dk; decide +kernel
theorem dX1_begin_6 : dk cX1_begin 6 7 (.iconst 3) 1 := by unfold dk; decide +kernel
theorem dX1_begin_7 : dk cX1_begin 7 8 (.iload_n 2) 1 := by unfold dk; decide +kernel
theorem dX1_begin_8 : dk cX1_begin 8 10 (.bipush 6) 2 := by unfold dk; decide +kernel
theorem dX1_begin_10 : dk cX1_begin 10 13 (.invokestatic 68) 3 := by unfold dk; decide +kernel
theorem dX1_begin_13 : dk cX1_begin 13 16 (.invokestatic 42) 3 := by unfold dk; decide +kernel
theorem dX1_begin_16 : dk cX1_begin 16 19 (.putfield 58) 3 := by unfold dk; decide +kernel
theorem dX1_begin_19 : dk cX1_begin 19 20 (.aload_n 0) 1 := by unfold dk; decide +kernel
theorem dX1_begin_20 : dk cX1_begin 20 21 (.aload_n 0) 1 := by unfold dk; decide +kernel
theorem dX1_begin_21 : dk cX1_begin 21 24 (.getfield 58) 3 := by unfold dk; decide +kernel
theorem dX1_begin_24 : dk cX1_begin 24 25 (.iconst 2) 1 := by unfold dk; decide +kernel
theorem dX1_begin_25 : dk cX1_begin 25 26 (.idiv) 1 := by unfold dk; decide +kernel
theorem dX1_begin_26 : dk cX1_begin 26 29 (.putfield 9) 3 := by unfold dk; decide +kernel
theorem dX1_begin_29 : dk cX1_begin 29 30 (.aload_n 0) 1 := by unfold dk; decide +kernel
theorem dX1_begin_30 : dk cX1_begin 30 31 (.iload_n 3) 1 := by unfold dk; decide +kernel
theorem dX1_begin_31 : dk cX1_begin 31 34 (.putfield 61) 3 := by unfold dk; decide +kernel
theorem dX1_begin_34 : dk cX1_begin 34 35 (.aload_n 0) 1 := by unfold dk; decide +kernel
theorem dX1_begin_35 : dk cX1_begin 35 36 (.iconst 0) 1 := by unfold dk; decide +kernel
theorem dX1_begin_36 : dk cX1_begin 36 39 (.putfield 65) 3 := by unfold dk; decide +kernel
theorem dX1_begin_39 : dk cX1_begin 39 40 (.aload_n 0) 1 := by unfold dk; decide +kernel
theorem dX1_begin_40 : dk cX1_begin 40 41 (.iconst 0) 1 := by unfold dk; decide +kernel
theorem dX1_begin_41 : dk cX1_begin 41 44 (.putfield 71) 3 := by unfold dk; decide +kernel
theorem dX1_begin_44 : dk cX1_begin 44 45 (.iconst 0) 1 := by unfold dk; decide +kernel
theorem dX1_begin_45 : dk cX1_begin 45 47 (.istore 4) 2 := by unfold dk; decide +kernel
theorem dX1_begin_47 : dk cX1_begin 47 49 (.iload 4) 2 := by unfold dk; decide +kernel
theorem dX1_begin_49 : dk cX1_begin 49 51 (.bipush 6) 2 := by unfold dk; decide +kernel
theorem dX1_begin_54 : dk cX1_begin 54 55 (.aload_n 0) 1 := by unfold dk; decide +kernel
theorem dX1_begin_55 : dk cX1_begin 55 58 (.getfield 17) 3 := by unfold dk; decide +kernel
theorem dX1_begin_58 : dk cX1_begin 58 60 (.iload 4) 2 := by unfold dk; decide +kernel
theorem dX1_begin_60 : dk cX1_begin 60 61 (.aaload) 1 := by unfold dk; decide +kernel
theorem dX1_begin_61 : dk cX1_begin 61 64 (.invokevirtual 90) 3 := by unfold dk; decide +kernel
theorem dX1_begin_64 : dk cX1_begin 64 65 (.aload_n 0) 1 := by unfold dk; decide +kernel
theorem dX1_begin_65 : dk cX1_begin 65 68 (.getfield 39) 3 := by unfold dk; decide +kernel
theorem dX1_begin_68 : dk cX1_begin 68 70 (.iload 4) 2 := by unfold dk; decide +kernel
theorem dX1_begin_70 : dk cX1_begin 70 71 (.iconst 0) 1 := by unfold dk; decide +kernel
theorem dX1_begin_71 : dk cX1_begin 71 72 (.iastore) 1 := by unfold dk; decide +kernel
theorem dX1_begin_72 : dk cX1_begin 72 75 (.iinc 4 1) 3 := by unfold dk; decide +kernel
theorem dX1_begin_75 : bk cX1_begin 75 78 47 (.goto (-28)) (-28) := by unfold bk; decide +kernel
theorem dX1_begin_51 : bk cX1_begin 51 54 78 (.if_icmp .ge 27) (27) := by unfold bk; decide +kernel
theorem dX1_begin_78 : dk cX1_begin 78 79 (.iconst 0) 1 := by unfold dk; decide +kernel
theorem dX1_begin_79 : dk cX1_begin 79 81 (.istore 4) 2 := by unfold dk; decide +kernel
theorem dX1_begin_81 : dk cX1_begin 81 83 (.iload 4) 2 := by unfold dk; decide +kernel
theorem dX1_begin_83 : dk cX1_begin 83 85 (.bipush 6) 2 := by unfold dk; decide +kernel
theorem dX1_begin_88 : dk cX1_begin 88 89 (.aload_n 0) 1 := by unfold dk; decide +kernel
theorem dX1_begin_89 : dk cX1_begin 89 92 (.getfield 25) 3 := by unfold dk; decide +kernel
theorem dX1_begin_92 : dk cX1_begin 92 94 (.iload 4) 2 := by unfold dk; decide +kernel
theorem dX1_begin_94 : dk cX1_begin 94 95 (.iconst 0) 1 := by unfold dk; decide +kernel
theorem dX1_begin_95 : dk cX1_begin 95 96 (.iastore) 1 := by unfold dk; decide +kernel
theorem dX1_begin_96 : dk cX1_begin 96 99 (.iinc 4 1) 3 := by unfold dk; decide +kernel
theorem dX1_begin_99 : bk cX1_begin 99 102 81 (.goto (-18)) (-18) := by unfold bk; decide +kernel
theorem dX1_begin_85 : bk cX1_begin 85 88 102 (.if_icmp .ge 17) (17) := by unfold bk; decide +kernel
theorem dX1_begin_102 : dk cX1_begin 102 103 (.return_) 1 := by unfold dk; decide +kernel
set_option maxHeartbeats 4000000 in
set_option maxRecDepth 100000 in
theorem kX1_begin {l : Launch} {G : Gl} {E : En} {a0 : Nat} {a1 : Int32} {a2 : Int32} {a3 : Int32} {σ σ' : Sg} : fX1_begin E a0 a1 a2 a3 σ = some σ' → CT l yX1_begin cX1_begin 5 none ({ frames := 1, cells := 0, slots := 0, locals := 21 } : Room) [.ref (G.1 + a0), .int a1, .int a2, .int a3] G E σ none σ' := by
  intro h
  refine CT_of (lv0 := [(0, .ref (G.1 + a0)), (1, .int a1), (2, .int a2), (3, .int a3)]) (by decide) (Nat.le_of_ble_eq_true rfl) rfl (fun κ hl hR hr C => ?_)
  have C : Cx κ G cX1_begin RX1 5 := C
  revert h
  unfold fX1_begin
  refine R_tk (fun ha0 => ?_)
  refine R_aload_n C 0 rfl dX1_begin_0 ?_
  refine R_iload_n C 1 rfl dX1_begin_1 ?_
  refine S_puti C fl1_55 rfl ha0 rfl rfl dX1_begin_2 (fun s1 => ?_)
  refine R_aload_n C 0 rfl dX1_begin_5 ?_
  refine R_iconst C (3) dX1_begin_6 (by decide) ?_
  refine R_iload_n C 2 rfl dX1_begin_7 ?_
  refine R_bipush C (6) dX1_begin_8 (by decide) ?_
  refine R_mmin C jd1_68 (by rw [hR]; exact ⟨Nat.le_of_ble_eq_true rfl, Nat.le_of_ble_eq_true rfl, Nat.zero_le _, Nat.zero_le _⟩) dX1_begin_10 ?_
  refine R_mmax C jd1_42 (by rw [hR]; exact ⟨Nat.le_of_ble_eq_true rfl, Nat.le_of_ble_eq_true rfl, Nat.zero_le _, Nat.zero_le _⟩) dX1_begin_13 ?_
  refine S_puti C fl1_58 rfl ha0 rfl rfl dX1_begin_16 (fun s2 => ?_)
  refine R_aload_n C 0 rfl dX1_begin_19 ?_
  refine R_aload_n C 0 rfl dX1_begin_20 ?_
  refine R_geti C fl1_58 rfl ha0 dX1_begin_21 ?_
  refine R_iconst C (2) dX1_begin_24 (by decide) ?_
  refine R_idiv C dX1_begin_25 (by decide) ?_
  refine S_puti C fl1_9 rfl ha0 rfl rfl dX1_begin_26 (fun s3 => ?_)
  refine R_aload_n C 0 rfl dX1_begin_29 ?_
  refine R_iload_n C 3 rfl dX1_begin_30 ?_
  refine R_kb (fun h4 => ?_)
  refine S_puti C fl1_61 rfl ha0 (nb h4) (fb h4) dX1_begin_31 (fun s5 => ?_)
  refine R_aload_n C 0 rfl dX1_begin_34 ?_
  refine R_iconst C (0) dX1_begin_35 (by decide) ?_
  refine S_puti C fl1_65 rfl ha0 rfl rfl dX1_begin_36 (fun s6 => ?_)
  refine R_aload_n C 0 rfl dX1_begin_39 ?_
  refine R_iconst C (0) dX1_begin_40 (by decide) ?_
  refine S_puti C fl1_71 rfl ha0 rfl rfl dX1_begin_41 (fun s7 => ?_)
  refine R_iconst C (0) dX1_begin_44 (by decide) ?_
  refine R_istore (lv2 := [(4, .int (0 : Int32)), (0, .ref (G.1 + a0)), (1, .int a1), (2, .int a2), (3, .int a3)]) C dX1_begin_45 (by decide) rfl ?_
  refine R_loc (lv2 := [(0, .ref (G.1 + a0)), (4, .int (0 : Int32))]) [1, 0] rfl ?_
  refine R_loop (fun (a : (Int32) × Sg) => V κ G (QQ κ G E none σ') E a.2 (false, 0, 0) 47 [(0, .ref (G.1 + a0)), (4, .int a.1)] []) (fun (o : (Int32)) (s : Sg) => V κ G (QQ κ G E none σ') E s (false, 0, 0) 78 [(0, .ref (G.1 + a0))] []) ((0 : Int32), s7) (fun o23 s24 => ?_) (fun rec I13 a b11 s12 K10 => ?_)
  · refine R_iconst C (0) dX1_begin_78 (by decide) ?_
    refine R_istore (lv2 := [(4, .int (0 : Int32)), (0, .ref (G.1 + a0))]) C dX1_begin_79 (by decide) rfl ?_
    refine R_loc (lv2 := [(0, .ref (G.1 + a0)), (4, .int (0 : Int32))]) [1, 0] rfl ?_
    refine R_loop (fun (a : (Int32) × Sg) => V κ G (QQ κ G E none σ') E a.2 (false, 0, 0) 81 [(0, .ref (G.1 + a0)), (4, .int a.1)] []) (fun (o : (Int32)) (s : Sg) => V κ G (QQ κ G E none σ') E s (false, 0, 0) 102 [] []) ((0 : Int32), s24) (fun o35 s36 => ?_) (fun rec I30 a b28 s29 K27 => ?_)
    · exact R_vret C hr dX1_begin_102
    · obtain ⟨v25, s26⟩ := a
      show bX1_begin_81 E a0 (fun u0 t => rec (u0, t)) v25 s26 = some (b28, s29) → V κ G (QQ κ G E none σ') E s26 (false, 0, 0) 81 [(0, .ref (G.1 + a0)), (4, .int v25)] []
      unfold bX1_begin_81
      refine R_iload C 1 rfl dX1_begin_81 ?_
      refine R_bipush C (6) dX1_begin_83 (by decide) ?_
      refine B_icmp_ge C dX1_begin_85 ?_ ?_
      · refine R_loc (lv2 := []) [] rfl ?_
        exact R_end (fun (o : (Int32)) (s : Sg) => V κ G (QQ κ G E none σ') E s (false, 0, 0) 102 [] []) K27
      · refine R_aload_n C 0 rfl dX1_begin_88 ?_
        refine R_dr (fun x31 rx31 cx31 => ?_)
        refine R_getr C fl1_25 rfl ha0 rx31 dX1_begin_89 ?_
        refine R_iload C 1 rfl dX1_begin_92 ?_
        refine R_iconst C (0) dX1_begin_94 (by decide) ?_
        refine R_ck (fun h32 => ?_)
        refine S_iast C cx31 h32 dX1_begin_95 (fun s33 => ?_)
        refine S_iinc (fun v34 => [(4, .int v34), (0, .ref (G.1 + a0))]) 1 C dX1_begin_96 rfl (by decide) (by decide) (fun _ => rfl) (fun v34 => ?_)
        refine R_goto C dX1_begin_99 ?_
        refine R_loc (lv2 := [(0, .ref (G.1 + a0)), (4, .int v34)]) [1, 0] rfl ?_
        exact I30 (v34, s33) b28 s29 K27
  · obtain ⟨v8, s9⟩ := a
    show bX1_begin_47 E a0 (fun u0 t => rec (u0, t)) v8 s9 = some (b11, s12) → V κ G (QQ κ G E none σ') E s9 (false, 0, 0) 47 [(0, .ref (G.1 + a0)), (4, .int v8)] []
    unfold bX1_begin_47
    refine R_iload C 1 rfl dX1_begin_47 ?_
    refine R_bipush C (6) dX1_begin_49 (by decide) ?_
    refine B_icmp_ge C dX1_begin_51 ?_ ?_
    · refine R_loc (lv2 := [(0, .ref (G.1 + a0))]) [0] rfl ?_
      exact R_end (fun (o : (Int32)) (s : Sg) => V κ G (QQ κ G E none σ') E s (false, 0, 0) 78 [(0, .ref (G.1 + a0))] []) K10
    · refine R_aload_n C 0 rfl dX1_begin_54 ?_
      refine R_dr (fun x14 rx14 cx14 => ?_)
      refine R_getr C fl1_17 rfl ha0 rx14 dX1_begin_55 ?_
      refine R_iload C 1 rfl dX1_begin_58 ?_
      refine R_ck (fun h15 => ?_)
      refine R_dr (fun x16 rx16 cx16 => ?_)
      refine R_aald4 C cx14 h15 rx16 dX1_begin_60 ?_
      refine R_bv (fun s17 q18 => ?_)
      refine R_callVv [] [] C ml1_90 (kX5_wipe q18) (by rw [hR]; exact ⟨rfl, rfl, Nat.le_of_ble_eq_true rfl, Nat.le_of_ble_eq_true rfl, Nat.zero_le _, Nat.zero_le _⟩) cx16 rfl rfl (Nat.le_of_ble_eq_true rfl) dX1_begin_61 ?_
      refine R_aload_n C 0 rfl dX1_begin_64 ?_
      refine R_dr (fun x19 rx19 cx19 => ?_)
      refine R_getr C fl1_39 rfl ha0 rx19 dX1_begin_65 ?_
      refine R_iload C 1 rfl dX1_begin_68 ?_
      refine R_iconst C (0) dX1_begin_70 (by decide) ?_
      refine R_ck (fun h20 => ?_)
      refine S_iast C cx19 h20 dX1_begin_71 (fun s21 => ?_)
      refine S_iinc (fun v22 => [(4, .int v22), (0, .ref (G.1 + a0))]) 1 C dX1_begin_72 rfl (by decide) (by decide) (fun _ => rfl) (fun v22 => ?_)
      refine R_goto C dX1_begin_75 ?_
      refine R_loc (lv2 := [(0, .ref (G.1 + a0)), (4, .int v22)]) [1, 0] rfl ?_
      exact I13 (v22, s21) b11 s12 K10
theorem dX1_load_0 : dk cX1_load 0 1 (.aload_n 0) 1 := by unfold dk; decide +kernel
theorem dX1_load_1 : dk cX1_load 1 4 (.getfield 65) 3 := by unfold dk; decide +kernel
theorem dX1_load_4 : dk cX1_load 4 5 (.aload_n 0) 1 := by unfold dk; decide +kernel
theorem dX1_load_5 : dk cX1_load 5 8 (.getfield 48) 3 := by unfold dk; decide +kernel
theorem dX1_load_8 : dk cX1_load 8 9 (.arraylength) 1 := by unfold dk; decide +kernel
theorem dX1_load_9 : bk cX1_load 9 12 42 (.if_icmp .ge 33) (33) := by unfold bk; decide +kernel
theorem dX1_load_12 : dk cX1_load 12 13 (.aload_n 0) 1 := by unfold dk; decide +kernel
theorem dX1_load_13 : dk cX1_load 13 16 (.getfield 48) 3 := by unfold dk; decide +kernel
theorem dX1_load_16 : dk cX1_load 16 17 (.aload_n 0) 1 := by unfold dk; decide +kernel
theorem dX1_load_17 : dk cX1_load 17 20 (.getfield 65) 3 := by unfold dk; decide +kernel
theorem dX1_load_20 : dk cX1_load 20 21 (.iload_n 1) 1 := by unfold dk; decide +kernel
theorem dX1_load_21 : dk cX1_load 21 22 (.iastore) 1 := by unfold dk; decide +kernel
theorem dX1_load_22 : dk cX1_load 22 23 (.aload_n 0) 1 := by unfold dk; decide +kernel
theorem dX1_load_23 : dk cX1_load 23 26 (.getfield 51) 3 := by unfold dk; decide +kernel
theorem dX1_load_26 : dk cX1_load 26 27 (.aload_n 0) 1 := by unfold dk; decide +kernel
theorem dX1_load_27 : dk cX1_load 27 30 (.getfield 65) 3 := by unfold dk; decide +kernel
theorem dX1_load_30 : dk cX1_load 30 31 (.iload_n 2) 1 := by unfold dk; decide +kernel
theorem dX1_load_31 : dk cX1_load 31 32 (.bastore) 1 := by unfold dk; decide +kernel
theorem dX1_load_32 : dk cX1_load 32 33 (.aload_n 0) 1 := by unfold dk; decide +kernel
theorem dX1_load_33 : dk cX1_load 33 34 (.dup) 1 := by unfold dk; decide +kernel
theorem dX1_load_34 : dk cX1_load 34 37 (.getfield 65) 3 := by unfold dk; decide +kernel
theorem dX1_load_37 : dk cX1_load 37 38 (.iconst 1) 1 := by unfold dk; decide +kernel
theorem dX1_load_38 : dk cX1_load 38 39 (.iadd) 1 := by unfold dk; decide +kernel
theorem dX1_load_39 : dk cX1_load 39 42 (.putfield 65) 3 := by unfold dk; decide +kernel
theorem dX1_load_42 : dk cX1_load 42 43 (.return_) 1 := by unfold dk; decide +kernel
set_option maxHeartbeats 4000000 in
set_option maxRecDepth 100000 in
theorem kX1_load {l : Launch} {G : Gl} {E : En} {a0 : Nat} {a1 : Int32} {a2 : Int32} {σ σ' : Sg} : fX1_load E a0 a1 a2 σ = some σ' → CT l yX1_load cX1_load 3 none ({ frames := 0, cells := 0, slots := 0, locals := 0 } : Room) [.ref (G.1 + a0), .int a1, .int a2] G E σ none σ' := by
  intro h
  refine CT_of (lv0 := [(0, .ref (G.1 + a0)), (1, .int a1), (2, .int a2)]) (by decide) (Nat.le_of_ble_eq_true rfl) rfl (fun κ hl hR hr C => ?_)
  have C : Cx κ G cX1_load RX1 3 := C
  revert h
  unfold fX1_load
  refine R_tk (fun ha0 => ?_)
  refine R_aload_n C 0 rfl dX1_load_0 ?_
  refine R_geti C fl1_65 rfl ha0 dX1_load_1 ?_
  refine R_aload_n C 0 rfl dX1_load_4 ?_
  refine R_dr (fun x1 rx1 cx1 => ?_)
  refine R_getr C fl1_48 rfl ha0 rx1 dX1_load_5 ?_
  refine R_alen C cx1 (by omega) (by omega) dX1_load_8 ?_
  refine R_bdK (fun (w : Unit) (s : Sg) => V κ G (QQ κ G E none σ') E s (false, 0, 0) 42 [] []) (fun w2 s3 => ?_) (fun w2 s3 Kw2 => ?_)
  · exact R_vret C hr dX1_load_42
  · refine B_icmp_ge C dX1_load_9 ?_ ?_
    · refine R_loc (lv2 := []) [] rfl ?_
      exact R_end (fun (w : Unit) (s : Sg) => V κ G (QQ κ G E none σ') E s (false, 0, 0) 42 [] []) Kw2
    · refine R_aload_n C 0 rfl dX1_load_12 ?_
      refine R_getr C fl1_48 rfl ha0 rx1 dX1_load_13 ?_
      refine R_aload_n C 0 rfl dX1_load_16 ?_
      refine R_geti C fl1_65 rfl ha0 dX1_load_17 ?_
      refine R_iload_n C 1 rfl dX1_load_20 ?_
      refine R_ck (fun h4 => ?_)
      refine S_iast C cx1 h4 dX1_load_21 (fun s5 => ?_)
      refine R_aload_n C 0 rfl dX1_load_22 ?_
      refine R_dr (fun x6 rx6 cx6 => ?_)
      refine R_getr C fl1_51 rfl ha0 rx6 dX1_load_23 ?_
      refine R_aload_n C 0 rfl dX1_load_26 ?_
      refine R_geti C fl1_65 rfl ha0 dX1_load_27 ?_
      refine R_iload_n C 2 rfl dX1_load_30 ?_
      refine R_ck (fun h7 => ?_)
      refine S_zast C cx6 h7 dX1_load_31 (fun s8 => ?_)
      refine R_aload_n C 0 rfl dX1_load_32 ?_
      refine R_dup C dX1_load_33 rfl ?_
      refine R_geti C fl1_65 rfl ha0 dX1_load_34 ?_
      refine R_iconst C (1) dX1_load_37 (by decide) ?_
      refine R_iadd C dX1_load_38 ?_
      refine S_puti C fl1_65 rfl ha0 rfl rfl dX1_load_39 (fun s9 => ?_)
      refine R_loc (lv2 := []) [] rfl ?_
      exact R_end (fun (w : Unit) (s : Sg) => V κ G (QQ κ G E none σ') E s (false, 0, 0) 42 [] []) Kw2
theorem dX1_dealByTurns_0 : dk cX1_dealByTurns 0 1 (.iconst 0) 1 := by unfold dk; decide +kernel
theorem dX1_dealByTurns_1 : dk cX1_dealByTurns 1 2 (.istore_n 1) 1 := by unfold dk; decide +kernel
theorem dX1_dealByTurns_2 : dk cX1_dealByTurns 2 3 (.iload_n 1) 1 := by unfold dk; decide +kernel
theorem dX1_dealByTurns_3 : dk cX1_dealByTurns 3 4 (.aload_n 0) 1 := by unfold dk; decide +kernel
theorem dX1_dealByTurns_4 : dk cX1_dealByTurns 4 7 (.getfield 65) 3 := by unfold dk; decide +kernel
theorem dX1_dealByTurns_10 : dk cX1_dealByTurns 10 11 (.aload_n 0) 1 := by unfold dk; decide +kernel
theorem dX1_dealByTurns_11 : dk cX1_dealByTurns 11 14 (.getfield 17) 3 := by unfold dk; decide +kernel
theorem dX1_dealByTurns_14 : dk cX1_dealByTurns 14 15 (.iload_n 1) 1 := by unfold dk; decide +kernel
theorem dX1_dealByTurns_15 : dk cX1_dealByTurns 15 16 (.aload_n 0) 1 := by unfold dk; decide +kernel
theorem dX1_dealByTurns_16 : dk cX1_dealByTurns 16 19 (.getfield 9) 3 := by unfold dk; decide +kernel
theorem dX1_dealByTurns_19 : dk cX1_dealByTurns 19 20 (.irem) 1 := by unfold dk; decide +kernel
theorem dX1_dealByTurns_20 : dk cX1_dealByTurns 20 21 (.aaload) 1 := by unfold dk; decide +kernel
theorem dX1_dealByTurns_21 : dk cX1_dealByTurns 21 22 (.iload_n 1) 1 := by unfold dk; decide +kernel
theorem dX1_dealByTurns_22 : dk cX1_dealByTurns 22 25 (.invokevirtual 110) 3 := by unfold dk; decide +kernel
theorem dX1_dealByTurns_25 : dk cX1_dealByTurns 25 28 (.iinc 1 1) 3 := by unfold dk; decide +kernel
theorem dX1_dealByTurns_28 : bk cX1_dealByTurns 28 31 2 (.goto (-26)) (-26) := by unfold bk; decide +kernel
theorem dX1_dealByTurns_7 : bk cX1_dealByTurns 7 10 31 (.if_icmp .ge 24) (24) := by unfold bk; decide +kernel
theorem dX1_dealByTurns_31 : dk cX1_dealByTurns 31 32 (.aload_n 0) 1 := by unfold dk; decide +kernel
theorem dX1_dealByTurns_32 : dk cX1_dealByTurns 32 33 (.aload_n 0) 1 := by unfold dk; decide +kernel
theorem dX1_dealByTurns_33 : dk cX1_dealByTurns 33 36 (.getfield 65) 3 := by unfold dk; decide +kernel
theorem dX1_dealByTurns_36 : dk cX1_dealByTurns 36 39 (.putfield 71) 3 := by unfold dk; decide +kernel
theorem dX1_dealByTurns_39 : dk cX1_dealByTurns 39 40 (.aload_n 0) 1 := by unfold dk; decide +kernel
theorem dX1_dealByTurns_40 : dk cX1_dealByTurns 40 41 (.aload_n 0) 1 := by unfold dk; decide +kernel
theorem dX1_dealByTurns_41 : dk cX1_dealByTurns 41 44 (.getfield 9) 3 := by unfold dk; decide +kernel
theorem dX1_dealByTurns_44 : dk cX1_dealByTurns 44 47 (.putfield 74) 3 := by unfold dk; decide +kernel
theorem dX1_dealByTurns_47 : dk cX1_dealByTurns 47 48 (.aload_n 0) 1 := by unfold dk; decide +kernel
theorem dX1_dealByTurns_48 : dk cX1_dealByTurns 48 51 (.getfield 25) 3 := by unfold dk; decide +kernel
theorem dX1_dealByTurns_51 : dk cX1_dealByTurns 51 52 (.iconst 5) 1 := by unfold dk; decide +kernel
theorem dX1_dealByTurns_52 : dk cX1_dealByTurns 52 53 (.iconst (-1)) 1 := by unfold dk; decide +kernel
theorem dX1_dealByTurns_53 : dk cX1_dealByTurns 53 54 (.iastore) 1 := by unfold dk; decide +kernel
theorem dX1_dealByTurns_54 : dk cX1_dealByTurns 54 55 (.return_) 1 := by unfold dk; decide +kernel
set_option maxHeartbeats 4000000 in
set_option maxRecDepth 100000 in
theorem kX1_dealByTurns {l : Launch} {G : Gl} {E : En} {a0 : Nat} {σ σ' : Sg} : fX1_dealByTurns E a0 σ = some σ' → CT l yX1_dealByTurns cX1_dealByTurns 2 none ({ frames := 1, cells := 0, slots := 0, locals := 21 } : Room) [.ref (G.1 + a0)] G E σ none σ' := by
  intro h
  refine CT_of (lv0 := [(0, .ref (G.1 + a0))]) (by decide) (Nat.le_of_ble_eq_true rfl) rfl (fun κ hl hR hr C => ?_)
  have C : Cx κ G cX1_dealByTurns RX1 2 := C
  revert h
  unfold fX1_dealByTurns
  refine R_tk (fun ha0 => ?_)
  refine R_iconst C (0) dX1_dealByTurns_0 (by decide) ?_
  refine R_istore_n (lv2 := [(1, .int (0 : Int32)), (0, .ref (G.1 + a0))]) C dX1_dealByTurns_1 rfl (by decide) rfl ?_
  refine R_loc (lv2 := [(0, .ref (G.1 + a0)), (1, .int (0 : Int32))]) [1, 0] rfl ?_
  refine R_loop (fun (a : (Int32) × Sg) => V κ G (QQ κ G E none σ') E a.2 (false, 0, 0) 2 [(0, .ref (G.1 + a0)), (1, .int a.1)] []) (fun (o : (Int32)) (s : Sg) => V κ G (QQ κ G E none σ') E s (false, 0, 0) 31 [(0, .ref (G.1 + a0))] []) ((0 : Int32), σ) (fun o14 s15 => ?_) (fun rec I6 a b4 s5 K3 => ?_)
  · refine R_aload_n C 0 rfl dX1_dealByTurns_31 ?_
    refine R_aload_n C 0 rfl dX1_dealByTurns_32 ?_
    refine R_geti C fl1_65 rfl ha0 dX1_dealByTurns_33 ?_
    refine S_puti C fl1_71 rfl ha0 rfl rfl dX1_dealByTurns_36 (fun s16 => ?_)
    refine R_aload_n C 0 rfl dX1_dealByTurns_39 ?_
    refine R_aload_n C 0 rfl dX1_dealByTurns_40 ?_
    refine R_geti C fl1_9 rfl ha0 dX1_dealByTurns_41 ?_
    refine S_puti C fl1_74 rfl ha0 rfl rfl dX1_dealByTurns_44 (fun s17 => ?_)
    refine R_aload_n C 0 rfl dX1_dealByTurns_47 ?_
    refine R_dr (fun x18 rx18 cx18 => ?_)
    refine R_getr C fl1_25 rfl ha0 rx18 dX1_dealByTurns_48 ?_
    refine R_iconst C (5) dX1_dealByTurns_51 (by decide) ?_
    refine R_iconst C (-1) dX1_dealByTurns_52 (by decide) ?_
    refine R_ck (fun h19 => ?_)
    refine S_iast C cx18 h19 dX1_dealByTurns_53 (fun s20 => ?_)
    exact R_vret C hr dX1_dealByTurns_54
  · obtain ⟨v1, s2⟩ := a
    show bX1_dealByTurns_2 E a0 (fun u0 t => rec (u0, t)) v1 s2 = some (b4, s5) → V κ G (QQ κ G E none σ') E s2 (false, 0, 0) 2 [(0, .ref (G.1 + a0)), (1, .int v1)] []
    unfold bX1_dealByTurns_2
    refine R_iload_n C 1 rfl dX1_dealByTurns_2 ?_
    refine R_aload_n C 0 rfl dX1_dealByTurns_3 ?_
    refine R_geti C fl1_65 rfl ha0 dX1_dealByTurns_4 ?_
    refine B_icmp_ge C dX1_dealByTurns_7 ?_ ?_
    · refine R_loc (lv2 := [(0, .ref (G.1 + a0))]) [0] rfl ?_
      exact R_end (fun (o : (Int32)) (s : Sg) => V κ G (QQ κ G E none σ') E s (false, 0, 0) 31 [(0, .ref (G.1 + a0))] []) K3
    · refine R_aload_n C 0 rfl dX1_dealByTurns_10 ?_
      refine R_dr (fun x7 rx7 cx7 => ?_)
      refine R_getr C fl1_17 rfl ha0 rx7 dX1_dealByTurns_11 ?_
      refine R_iload_n C 1 rfl dX1_dealByTurns_14 ?_
      refine R_aload_n C 0 rfl dX1_dealByTurns_15 ?_
      refine R_geti C fl1_9 rfl ha0 dX1_dealByTurns_16 ?_
      refine R_nz (fun h8 => ?_)
      refine R_irem C dX1_dealByTurns_19 h8 ?_
      refine R_ck (fun h9 => ?_)
      refine R_dr (fun x10 rx10 cx10 => ?_)
      refine R_aald4 C cx7 h9 rx10 dX1_dealByTurns_20 ?_
      refine R_iload_n C 1 rfl dX1_dealByTurns_21 ?_
      refine R_bv (fun s11 q12 => ?_)
      refine R_callVv [.int v1] [] C ml1_110 (kX5_write q12) (by rw [hR]; exact ⟨rfl, rfl, Nat.le_of_ble_eq_true rfl, Nat.le_of_ble_eq_true rfl, Nat.zero_le _, Nat.zero_le _⟩) cx10 rfl rfl (Nat.le_of_ble_eq_true rfl) dX1_dealByTurns_22 ?_
      refine S_iinc (fun v13 => [(1, .int v13), (0, .ref (G.1 + a0))]) 1 C dX1_dealByTurns_25 rfl (by decide) (by decide) (fun _ => rfl) (fun v13 => ?_)
      refine R_goto C dX1_dealByTurns_28 ?_
      refine R_loc (lv2 := [(0, .ref (G.1 + a0)), (1, .int v13)]) [1, 0] rfl ?_
      exact I6 (v13, s11) b4 s5 K3
theorem dX1_firstPlace_0 : dk cX1_firstPlace 0 1 (.iconst 0) 1 := by unfold dk; decide +kernel
theorem dX1_firstPlace_1 : dk cX1_firstPlace 1 2 (.istore_n 1) 1 := by unfold dk; decide +kernel
theorem dX1_firstPlace_2 : dk cX1_firstPlace 2 3 (.iload_n 1) 1 := by unfold dk; decide +kernel
theorem dX1_firstPlace_3 : dk cX1_firstPlace 3 4 (.aload_n 0) 1 := by unfold dk; decide +kernel
theorem dX1_firstPlace_4 : dk cX1_firstPlace 4 7 (.getfield 58) 3 := by unfold dk; decide +kernel
theorem dX1_firstPlace_7 : dk cX1_firstPlace 7 8 (.iconst 1) 1 := by unfold dk; decide +kernel
theorem dX1_firstPlace_8 : dk cX1_firstPlace 8 9 (.isub) 1 := by unfold dk; decide +kernel
theorem dX1_firstPlace_12 : dk cX1_firstPlace 12 13 (.aload_n 0) 1 := by unfold dk; decide +kernel
theorem dX1_firstPlace_13 : dk cX1_firstPlace 13 16 (.getfield 35) 3 := by unfold dk; decide +kernel
theorem dX1_firstPlace_16 : dk cX1_firstPlace 16 19 (.getfield 127) 3 := by unfold dk; decide +kernel
theorem dX1_firstPlace_19 : dk cX1_firstPlace 19 20 (.iload_n 1) 1 := by unfold dk; decide +kernel
theorem dX1_firstPlace_20 : dk cX1_firstPlace 20 21 (.iaload) 1 := by unfold dk; decide +kernel
theorem dX1_firstPlace_26 : dk cX1_firstPlace 26 29 (.iinc 1 1) 3 := by unfold dk; decide +kernel
theorem dX1_firstPlace_29 : bk cX1_firstPlace 29 32 2 (.goto (-27)) (-27) := by unfold bk; decide +kernel
theorem dX1_firstPlace_24 : dk cX1_firstPlace 24 25 (.iload_n 1) 1 := by unfold dk; decide +kernel
theorem dX1_firstPlace_25 : dk cX1_firstPlace 25 26 (.ireturn) 1 := by unfold dk; decide +kernel
theorem dX1_firstPlace_21 : bk cX1_firstPlace 21 24 26 (.ifCond .le 5) (5) := by unfold bk; decide +kernel
theorem dX1_firstPlace_9 : bk cX1_firstPlace 9 12 32 (.if_icmp .ge 23) (23) := by unfold bk; decide +kernel
theorem dX1_firstPlace_32 : dk cX1_firstPlace 32 33 (.iconst 0) 1 := by unfold dk; decide +kernel
theorem dX1_firstPlace_33 : dk cX1_firstPlace 33 34 (.ireturn) 1 := by unfold dk; decide +kernel
set_option maxHeartbeats 4000000 in
set_option maxRecDepth 100000 in
theorem kX1_firstPlace {l : Launch} {G : Gl} {E : En} {a0 : Nat} {σ σ' : Sg} {r : Int32} : fX1_firstPlace E a0 σ = some (r, σ') → CT l yX1_firstPlace cX1_firstPlace 2 (some .int) ({ frames := 0, cells := 0, slots := 0, locals := 0 } : Room) [.ref (G.1 + a0)] G E σ (some (.int r)) σ' := by
  intro h
  refine CT_of (lv0 := [(0, .ref (G.1 + a0))]) (by decide) (Nat.le_of_ble_eq_true rfl) rfl (fun κ hl hR hr C => ?_)
  have C : Cx κ G cX1_firstPlace RX1 2 := C
  revert h
  unfold fX1_firstPlace
  refine R_tk (fun ha0 => ?_)
  refine R_iconst C (0) dX1_firstPlace_0 (by decide) ?_
  refine R_istore_n (lv2 := [(1, .int (0 : Int32)), (0, .ref (G.1 + a0))]) C dX1_firstPlace_1 rfl (by decide) rfl ?_
  refine R_loc (lv2 := [(0, .ref (G.1 + a0)), (1, .int (0 : Int32))]) [1, 0] rfl ?_
  refine R_loop (fun (a : (Int32) × Sg) => V κ G (QQ κ G E (some (.int r)) σ') E a.2 (false, 0, 0) 2 [(0, .ref (G.1 + a0)), (1, .int a.1)] []) (fun (o : ((Int32) ⊕ Int32)) (s : Sg) => sm o (fun o => V κ G (QQ κ G E (some (.int r)) σ') E s (false, 0, 0) 32 [] []) (fun rr => some (rr, s) = some (r, σ'))) ((0 : Int32), σ) (fun o11 s12 => ?_) (fun rec I6 a b4 s5 K3 => ?_)
  · rcases o11 with vo11 | ro11
    · refine R_sml ?_
      refine R_iconst C (0) dX1_firstPlace_32 (by decide) ?_
      exact R_iret C hr dX1_firstPlace_33
    · exact fun h => h
  · obtain ⟨v1, s2⟩ := a
    show bX1_firstPlace_2 E a0 (fun u0 t => rec (u0, t)) v1 s2 = some (b4, s5) → V κ G (QQ κ G E (some (.int r)) σ') E s2 (false, 0, 0) 2 [(0, .ref (G.1 + a0)), (1, .int v1)] []
    unfold bX1_firstPlace_2
    refine R_iload_n C 1 rfl dX1_firstPlace_2 ?_
    refine R_aload_n C 0 rfl dX1_firstPlace_3 ?_
    refine R_geti C fl1_58 rfl ha0 dX1_firstPlace_4 ?_
    refine R_iconst C (1) dX1_firstPlace_7 (by decide) ?_
    refine R_isub C dX1_firstPlace_8 ?_
    refine B_icmp_ge C dX1_firstPlace_9 ?_ ?_
    · refine R_loc (lv2 := []) [] rfl ?_
      exact R_inr (VX := (fun (o : ((Int32) ⊕ Int32)) (s : Sg) => sm o (fun o => V κ G (QQ κ G E (some (.int r)) σ') E s (false, 0, 0) 32 [] []) (fun rr => some (rr, s) = some (r, σ')))) (i := .inl) K3 (fun h => h)
    · refine R_aload_n C 0 rfl dX1_firstPlace_12 ?_
      refine R_dr (fun x7 rx7 cx7 => ?_)
      refine R_getr C fl1_35 rfl ha0 rx7 dX1_firstPlace_13 ?_
      refine R_dr (fun x8 rx8 cx8 => ?_)
      refine R_getr C fl1_127 rfl cx7 rx8 dX1_firstPlace_16 ?_
      refine R_iload_n C 1 rfl dX1_firstPlace_19 ?_
      refine R_ck (fun h9 => ?_)
      refine R_iald C cx8 h9 dX1_firstPlace_20 ?_
      refine B_if_le C dX1_firstPlace_21 ?_ ?_
      · refine S_iinc (fun v10 => [(1, .int v10), (0, .ref (G.1 + a0))]) 1 C dX1_firstPlace_26 rfl (by decide) (by decide) (fun _ => rfl) (fun v10 => ?_)
        refine R_goto C dX1_firstPlace_29 ?_
        refine R_loc (lv2 := [(0, .ref (G.1 + a0)), (1, .int v10)]) [1, 0] rfl ?_
        exact I6 (v10, s2) b4 s5 K3
      · refine R_iload_n C 1 rfl dX1_firstPlace_24 ?_
        exact R_inr (VX := (fun (o : ((Int32) ⊕ Int32)) (s : Sg) => sm o (fun o => V κ G (QQ κ G E (some (.int r)) σ') E s (false, 0, 0) 32 [] []) (fun rr => some (rr, s) = some (r, σ')))) (i := .inr) K3 (R_iret C hr dX1_firstPlace_25)
theorem dX1_fewestBlanks_0 : dk cX1_fewestBlanks 0 1 (.aload_n 0) 1 := by unfold dk; decide +kernel
theorem dX1_fewestBlanks_1 : dk cX1_fewestBlanks 1 4 (.invokevirtual 121) 3 := by unfold dk; decide +kernel
theorem dX1_fewestBlanks_4 : dk cX1_fewestBlanks 4 5 (.istore_n 1) 1 := by unfold dk; decide +kernel
theorem dX1_fewestBlanks_5 : dk cX1_fewestBlanks 5 6 (.iload_n 1) 1 := by unfold dk; decide +kernel
theorem dX1_fewestBlanks_6 : dk cX1_fewestBlanks 6 7 (.iconst 1) 1 := by unfold dk; decide +kernel
theorem dX1_fewestBlanks_7 : dk cX1_fewestBlanks 7 8 (.iadd) 1 := by unfold dk; decide +kernel
theorem dX1_fewestBlanks_8 : dk cX1_fewestBlanks 8 9 (.istore_n 2) 1 := by unfold dk; decide +kernel
theorem dX1_fewestBlanks_9 : dk cX1_fewestBlanks 9 10 (.iload_n 2) 1 := by unfold dk; decide +kernel
theorem dX1_fewestBlanks_10 : dk cX1_fewestBlanks 10 11 (.aload_n 0) 1 := by unfold dk; decide +kernel
theorem dX1_fewestBlanks_11 : dk cX1_fewestBlanks 11 14 (.getfield 58) 3 := by unfold dk; decide +kernel
theorem dX1_fewestBlanks_14 : dk cX1_fewestBlanks 14 15 (.iconst 1) 1 := by unfold dk; decide +kernel
theorem dX1_fewestBlanks_15 : dk cX1_fewestBlanks 15 16 (.isub) 1 := by unfold dk; decide +kernel
theorem dX1_fewestBlanks_19 : dk cX1_fewestBlanks 19 20 (.aload_n 0) 1 := by unfold dk; decide +kernel
theorem dX1_fewestBlanks_20 : dk cX1_fewestBlanks 20 23 (.getfield 35) 3 := by unfold dk; decide +kernel
theorem dX1_fewestBlanks_23 : dk cX1_fewestBlanks 23 26 (.getfield 127) 3 := by unfold dk; decide +kernel
theorem dX1_fewestBlanks_26 : dk cX1_fewestBlanks 26 27 (.iload_n 2) 1 := by unfold dk; decide +kernel
theorem dX1_fewestBlanks_27 : dk cX1_fewestBlanks 27 28 (.iaload) 1 := by unfold dk; decide +kernel
theorem dX1_fewestBlanks_28 : bk cX1_fewestBlanks 28 31 48 (.ifCond .le 20) (20) := by unfold bk; decide +kernel
theorem dX1_fewestBlanks_31 : dk cX1_fewestBlanks 31 32 (.aload_n 0) 1 := by unfold dk; decide +kernel
theorem dX1_fewestBlanks_32 : dk cX1_fewestBlanks 32 35 (.getfield 39) 3 := by unfold dk; decide +kernel
theorem dX1_fewestBlanks_35 : dk cX1_fewestBlanks 35 36 (.iload_n 2) 1 := by unfold dk; decide +kernel
theorem dX1_fewestBlanks_36 : dk cX1_fewestBlanks 36 37 (.iaload) 1 := by unfold dk; decide +kernel
theorem dX1_fewestBlanks_37 : dk cX1_fewestBlanks 37 38 (.aload_n 0) 1 := by unfold dk; decide +kernel
theorem dX1_fewestBlanks_38 : dk cX1_fewestBlanks 38 41 (.getfield 39) 3 := by unfold dk; decide +kernel
theorem dX1_fewestBlanks_41 : dk cX1_fewestBlanks 41 42 (.iload_n 1) 1 := by unfold dk; decide +kernel
theorem dX1_fewestBlanks_42 : dk cX1_fewestBlanks 42 43 (.iaload) 1 := by unfold dk; decide +kernel
theorem dX1_fewestBlanks_46 : dk cX1_fewestBlanks 46 47 (.iload_n 2) 1 := by unfold dk; decide +kernel
theorem dX1_fewestBlanks_47 : dk cX1_fewestBlanks 47 48 (.istore_n 1) 1 := by unfold dk; decide +kernel
theorem dX1_fewestBlanks_43 : bk cX1_fewestBlanks 43 46 48 (.if_icmp .ge 5) (5) := by unfold bk; decide +kernel
theorem dX1_fewestBlanks_48 : dk cX1_fewestBlanks 48 51 (.iinc 2 1) 3 := by unfold dk; decide +kernel
theorem dX1_fewestBlanks_51 : bk cX1_fewestBlanks 51 54 9 (.goto (-42)) (-42) := by unfold bk; decide +kernel
theorem dX1_fewestBlanks_16 : bk cX1_fewestBlanks 16 19 54 (.if_icmp .ge 38) (38) := by unfold bk; decide +kernel
theorem dX1_fewestBlanks_54 : dk cX1_fewestBlanks 54 55 (.iload_n 1) 1 := by unfold dk; decide +kernel
theorem dX1_fewestBlanks_55 : dk cX1_fewestBlanks 55 56 (.ireturn) 1 := by unfold dk; decide +kernel
set_option maxHeartbeats 4000000 in
set_option maxRecDepth 100000 in
theorem kX1_fewestBlanks {l : Launch} {G : Gl} {E : En} {a0 : Nat} {σ σ' : Sg} {r : Int32} : fX1_fewestBlanks E a0 σ = some (r, σ') → CT l yX1_fewestBlanks cX1_fewestBlanks 3 (some .int) ({ frames := 1, cells := 0, slots := 0, locals := 21 } : Room) [.ref (G.1 + a0)] G E σ (some (.int r)) σ' := by
  intro h
  refine CT_of (lv0 := [(0, .ref (G.1 + a0))]) (by decide) (Nat.le_of_ble_eq_true rfl) rfl (fun κ hl hR hr C => ?_)
  have C : Cx κ G cX1_fewestBlanks RX1 3 := C
  revert h
  unfold fX1_fewestBlanks
  refine R_tk (fun ha0 => ?_)
  refine R_aload_n C 0 rfl dX1_fewestBlanks_0 ?_
  refine R_bd (fun r3 s1 q2 => ?_)
  refine R_callVi [] [] C ml1_121 (kX1_firstPlace q2) (by rw [hR]; exact ⟨rfl, rfl, Nat.le_of_ble_eq_true rfl, Nat.le_of_ble_eq_true rfl, Nat.zero_le _, Nat.zero_le _⟩) ha0 rfl rfl (Nat.le_of_ble_eq_true rfl) dX1_fewestBlanks_1 ?_
  refine R_istore_n (lv2 := [(1, .int r3), (0, .ref (G.1 + a0))]) C dX1_fewestBlanks_4 rfl (by decide) rfl ?_
  refine R_iload_n C 0 rfl dX1_fewestBlanks_5 ?_
  refine R_iconst C (1) dX1_fewestBlanks_6 (by decide) ?_
  refine R_iadd C dX1_fewestBlanks_7 ?_
  refine S_istore_n C dX1_fewestBlanks_8 rfl (fun v4 => [(2, .int v4), (1, .int r3), (0, .ref (G.1 + a0))]) (by decide) (fun _ => rfl) (fun v4 => ?_)
  refine R_loc (lv2 := [(0, .ref (G.1 + a0)), (1, .int r3), (2, .int v4)]) [2, 1, 0] rfl ?_
  refine R_loop (fun (a : (Int32 × Int32) × Sg) => V κ G (QQ κ G E (some (.int r)) σ') E a.2 (false, 0, 0) 9 [(0, .ref (G.1 + a0)), (1, .int a.1.1), (2, .int a.1.2)] []) (fun (o : (Int32 × Int32)) (s : Sg) => V κ G (QQ κ G E (some (.int r)) σ') E s (false, 0, 0) 54 [(1, .int o.1)] []) ((r3, v4), s1) (fun o21 s22 => ?_) (fun rec I11 a b9 s10 K8 => ?_)
  · refine R_iload_n C 0 rfl dX1_fewestBlanks_54 ?_
    exact R_iret C hr dX1_fewestBlanks_55
  · obtain ⟨⟨v5, v6⟩, s7⟩ := a
    show bX1_fewestBlanks_9 E a0 (fun u0 u1 t => rec ((u0, u1), t)) v5 v6 s7 = some (b9, s10) → V κ G (QQ κ G E (some (.int r)) σ') E s7 (false, 0, 0) 9 [(0, .ref (G.1 + a0)), (1, .int v5), (2, .int v6)] []
    unfold bX1_fewestBlanks_9
    refine R_iload_n C 2 rfl dX1_fewestBlanks_9 ?_
    refine R_aload_n C 0 rfl dX1_fewestBlanks_10 ?_
    refine R_geti C fl1_58 rfl ha0 dX1_fewestBlanks_11 ?_
    refine R_iconst C (1) dX1_fewestBlanks_14 (by decide) ?_
    refine R_isub C dX1_fewestBlanks_15 ?_
    refine B_icmp_ge C dX1_fewestBlanks_16 ?_ ?_
    · refine R_loc (lv2 := [(1, .int v5)]) [1] rfl ?_
      exact R_end (fun (o : (Int32 × Int32)) (s : Sg) => V κ G (QQ κ G E (some (.int r)) σ') E s (false, 0, 0) 54 [(1, .int o.1)] []) K8
    · refine R_aload_n C 0 rfl dX1_fewestBlanks_19 ?_
      refine R_dr (fun x12 rx12 cx12 => ?_)
      refine R_getr C fl1_35 rfl ha0 rx12 dX1_fewestBlanks_20 ?_
      refine R_dr (fun x13 rx13 cx13 => ?_)
      refine R_getr C fl1_127 rfl cx12 rx13 dX1_fewestBlanks_23 ?_
      refine R_iload_n C 2 rfl dX1_fewestBlanks_26 ?_
      refine R_ck (fun h14 => ?_)
      refine R_iald C cx13 h14 dX1_fewestBlanks_27 ?_
      refine R_bdK (fun (w : Int32) (s : Sg) => V κ G (QQ κ G E (some (.int r)) σ') E s (false, 0, 0) 48 [(0, .ref (G.1 + a0)), (2, .int v6), (1, .int w)] []) (fun w15 s16 => ?_) (fun w15 s16 Kw15 => ?_)
      · refine S_iinc (fun v20 => [(2, .int v20), (0, .ref (G.1 + a0)), (1, .int w15)]) 1 C dX1_fewestBlanks_48 rfl (by decide) (by decide) (fun _ => rfl) (fun v20 => ?_)
        refine R_goto C dX1_fewestBlanks_51 ?_
        refine R_loc (lv2 := [(0, .ref (G.1 + a0)), (1, .int w15), (2, .int v20)]) [1, 2, 0] rfl ?_
        exact I11 ((w15, v20), s16) b9 s10 K8
      · refine B_if_le C dX1_fewestBlanks_28 ?_ ?_
        · refine R_loc (lv2 := [(0, .ref (G.1 + a0)), (2, .int v6), (1, .int v5)]) [0, 2, 1] rfl ?_
          exact R_end (fun (w : Int32) (s : Sg) => V κ G (QQ κ G E (some (.int r)) σ') E s (false, 0, 0) 48 [(0, .ref (G.1 + a0)), (2, .int v6), (1, .int w)] []) Kw15
        · refine R_aload_n C 0 rfl dX1_fewestBlanks_31 ?_
          refine R_dr (fun x17 rx17 cx17 => ?_)
          refine R_getr C fl1_39 rfl ha0 rx17 dX1_fewestBlanks_32 ?_
          refine R_iload_n C 2 rfl dX1_fewestBlanks_35 ?_
          refine R_ck (fun h18 => ?_)
          refine R_iald C cx17 h18 dX1_fewestBlanks_36 ?_
          refine R_aload_n C 0 rfl dX1_fewestBlanks_37 ?_
          refine R_getr C fl1_39 rfl ha0 rx17 dX1_fewestBlanks_38 ?_
          refine R_iload_n C 1 rfl dX1_fewestBlanks_41 ?_
          refine R_ck (fun h19 => ?_)
          refine R_iald C cx17 h19 dX1_fewestBlanks_42 ?_
          refine B_icmp_ge C dX1_fewestBlanks_43 ?_ ?_
          · refine R_loc (lv2 := [(0, .ref (G.1 + a0)), (2, .int v6), (1, .int v5)]) [0, 2, 1] rfl ?_
            exact R_end (fun (w : Int32) (s : Sg) => V κ G (QQ κ G E (some (.int r)) σ') E s (false, 0, 0) 48 [(0, .ref (G.1 + a0)), (2, .int v6), (1, .int w)] []) Kw15
          · refine R_iload_n C 2 rfl dX1_fewestBlanks_46 ?_
            refine R_istore_n (lv2 := [(1, .int v6), (0, .ref (G.1 + a0)), (2, .int v6)]) C dX1_fewestBlanks_47 rfl (by decide) rfl ?_
            refine R_loc (lv2 := [(0, .ref (G.1 + a0)), (2, .int v6), (1, .int v6)]) [1, 2, 0] rfl ?_
            exact R_end (fun (w : Int32) (s : Sg) => V κ G (QQ κ G E (some (.int r)) σ') E s (false, 0, 0) 48 [(0, .ref (G.1 + a0)), (2, .int v6), (1, .int w)] []) Kw15
theorem dX1_writeBlanks_0 : dk cX1_writeBlanks 0 1 (.iconst 0) 1 := by unfold dk; decide +kernel
theorem dX1_writeBlanks_1 : dk cX1_writeBlanks 1 2 (.istore_n 1) 1 := by unfold dk; decide +kernel
theorem dX1_writeBlanks_2 : dk cX1_writeBlanks 2 3 (.iload_n 1) 1 := by unfold dk; decide +kernel
theorem dX1_writeBlanks_3 : dk cX1_writeBlanks 3 4 (.aload_n 0) 1 := by unfold dk; decide +kernel
theorem dX1_writeBlanks_4 : dk cX1_writeBlanks 4 7 (.getfield 58) 3 := by unfold dk; decide +kernel
theorem dX1_writeBlanks_7 : dk cX1_writeBlanks 7 8 (.iconst 1) 1 := by unfold dk; decide +kernel
theorem dX1_writeBlanks_8 : dk cX1_writeBlanks 8 9 (.isub) 1 := by unfold dk; decide +kernel
theorem dX1_writeBlanks_12 : dk cX1_writeBlanks 12 13 (.iconst 0) 1 := by unfold dk; decide +kernel
theorem dX1_writeBlanks_13 : dk cX1_writeBlanks 13 14 (.istore_n 2) 1 := by unfold dk; decide +kernel
theorem dX1_writeBlanks_14 : dk cX1_writeBlanks 14 15 (.iload_n 2) 1 := by unfold dk; decide +kernel
theorem dX1_writeBlanks_15 : dk cX1_writeBlanks 15 16 (.aload_n 0) 1 := by unfold dk; decide +kernel
theorem dX1_writeBlanks_16 : dk cX1_writeBlanks 16 19 (.getfield 39) 3 := by unfold dk; decide +kernel
theorem dX1_writeBlanks_19 : dk cX1_writeBlanks 19 20 (.iload_n 1) 1 := by unfold dk; decide +kernel
theorem dX1_writeBlanks_20 : dk cX1_writeBlanks 20 21 (.iaload) 1 := by unfold dk; decide +kernel
theorem dX1_writeBlanks_24 : dk cX1_writeBlanks 24 25 (.aload_n 0) 1 := by unfold dk; decide +kernel
theorem dX1_writeBlanks_25 : dk cX1_writeBlanks 25 28 (.getfield 17) 3 := by unfold dk; decide +kernel
theorem dX1_writeBlanks_28 : dk cX1_writeBlanks 28 29 (.iload_n 1) 1 := by unfold dk; decide +kernel
theorem dX1_writeBlanks_29 : dk cX1_writeBlanks 29 30 (.aaload) 1 := by unfold dk; decide +kernel
theorem dX1_writeBlanks_30 : dk cX1_writeBlanks 30 31 (.iconst (-1)) 1 := by unfold dk; decide +kernel
theorem dX1_writeBlanks_31 : dk cX1_writeBlanks 31 34 (.invokevirtual 110) 3 := by unfold dk; decide +kernel
theorem dX1_writeBlanks_34 : dk cX1_writeBlanks 34 37 (.iinc 2 1) 3 := by unfold dk; decide +kernel
theorem dX1_writeBlanks_37 : bk cX1_writeBlanks 37 40 14 (.goto (-23)) (-23) := by unfold bk; decide +kernel
theorem dX1_writeBlanks_21 : bk cX1_writeBlanks 21 24 40 (.if_icmp .ge 19) (19) := by unfold bk; decide +kernel
theorem dX1_writeBlanks_40 : dk cX1_writeBlanks 40 43 (.iinc 1 1) 3 := by unfold dk; decide +kernel
theorem dX1_writeBlanks_43 : bk cX1_writeBlanks 43 46 2 (.goto (-41)) (-41) := by unfold bk; decide +kernel
theorem dX1_writeBlanks_9 : bk cX1_writeBlanks 9 12 46 (.if_icmp .ge 37) (37) := by unfold bk; decide +kernel
theorem dX1_writeBlanks_46 : dk cX1_writeBlanks 46 47 (.return_) 1 := by unfold dk; decide +kernel
set_option maxHeartbeats 4000000 in
set_option maxRecDepth 100000 in
theorem kX1_writeBlanks {l : Launch} {G : Gl} {E : En} {a0 : Nat} {σ σ' : Sg} : fX1_writeBlanks E a0 σ = some σ' → CT l yX1_writeBlanks cX1_writeBlanks 3 none ({ frames := 1, cells := 0, slots := 0, locals := 21 } : Room) [.ref (G.1 + a0)] G E σ none σ' := by
  intro h
  refine CT_of (lv0 := [(0, .ref (G.1 + a0))]) (by decide) (Nat.le_of_ble_eq_true rfl) rfl (fun κ hl hR hr C => ?_)
  have C : Cx κ G cX1_writeBlanks RX1 3 := C
  revert h
  unfold fX1_writeBlanks
  refine R_tk (fun ha0 => ?_)
  refine R_iconst C (0) dX1_writeBlanks_0 (by decide) ?_
  refine R_istore_n (lv2 := [(1, .int (0 : Int32)), (0, .ref (G.1 + a0))]) C dX1_writeBlanks_1 rfl (by decide) rfl ?_
  refine R_loc (lv2 := [(0, .ref (G.1 + a0)), (1, .int (0 : Int32))]) [1, 0] rfl ?_
  refine R_loop (fun (a : (Int32) × Sg) => V κ G (QQ κ G E none σ') E a.2 (false, 0, 0) 2 [(0, .ref (G.1 + a0)), (1, .int a.1)] []) (fun (o : (Int32)) (s : Sg) => V κ G (QQ κ G E none σ') E s (false, 0, 0) 46 [] []) ((0 : Int32), σ) (fun o24 s25 => ?_) (fun rec I6 a b4 s5 K3 => ?_)
  · exact R_vret C hr dX1_writeBlanks_46
  · obtain ⟨v1, s2⟩ := a
    show bX1_writeBlanks_2 E a0 (fun u0 t => rec (u0, t)) v1 s2 = some (b4, s5) → V κ G (QQ κ G E none σ') E s2 (false, 0, 0) 2 [(0, .ref (G.1 + a0)), (1, .int v1)] []
    unfold bX1_writeBlanks_2
    refine R_iload_n C 1 rfl dX1_writeBlanks_2 ?_
    refine R_aload_n C 0 rfl dX1_writeBlanks_3 ?_
    refine R_geti C fl1_58 rfl ha0 dX1_writeBlanks_4 ?_
    refine R_iconst C (1) dX1_writeBlanks_7 (by decide) ?_
    refine R_isub C dX1_writeBlanks_8 ?_
    refine B_icmp_ge C dX1_writeBlanks_9 ?_ ?_
    · refine R_loc (lv2 := []) [] rfl ?_
      exact R_end (fun (o : (Int32)) (s : Sg) => V κ G (QQ κ G E none σ') E s (false, 0, 0) 46 [] []) K3
    · refine R_iconst C (0) dX1_writeBlanks_12 (by decide) ?_
      refine R_istore_n (lv2 := [(2, .int (0 : Int32)), (0, .ref (G.1 + a0)), (1, .int v1)]) C dX1_writeBlanks_13 rfl (by decide) rfl ?_
      refine R_loc (lv2 := [(0, .ref (G.1 + a0)), (1, .int v1), (2, .int (0 : Int32))]) [1, 2, 0] rfl ?_
      refine R_loop (fun (a : (Int32) × Sg) => V κ G (QQ κ G E none σ') E a.2 (false, 0, 0) 14 [(0, .ref (G.1 + a0)), (1, .int v1), (2, .int a.1)] []) (fun (o : (Int32)) (s : Sg) => V κ G (QQ κ G E none σ') E s (false, 0, 0) 40 [(0, .ref (G.1 + a0)), (1, .int v1)] []) ((0 : Int32), s2) (fun o21 s22 => ?_) (fun rec I12 a b10 s11 K9 => ?_)
      · refine S_iinc (fun v23 => [(1, .int v23), (0, .ref (G.1 + a0))]) 1 C dX1_writeBlanks_40 rfl (by decide) (by decide) (fun _ => rfl) (fun v23 => ?_)
        refine R_goto C dX1_writeBlanks_43 ?_
        refine R_loc (lv2 := [(0, .ref (G.1 + a0)), (1, .int v23)]) [1, 0] rfl ?_
        exact I6 (v23, s22) b4 s5 K3
      · obtain ⟨v7, s8⟩ := a
        show bX1_writeBlanks_14 E a0 v1 (fun u0 t => rec (u0, t)) v7 s8 = some (b10, s11) → V κ G (QQ κ G E none σ') E s8 (false, 0, 0) 14 [(0, .ref (G.1 + a0)), (1, .int v1), (2, .int v7)] []
        unfold bX1_writeBlanks_14
        refine R_iload_n C 2 rfl dX1_writeBlanks_14 ?_
        refine R_aload_n C 0 rfl dX1_writeBlanks_15 ?_
        refine R_dr (fun x13 rx13 cx13 => ?_)
        refine R_getr C fl1_39 rfl ha0 rx13 dX1_writeBlanks_16 ?_
        refine R_iload_n C 1 rfl dX1_writeBlanks_19 ?_
        refine R_ck (fun h14 => ?_)
        refine R_iald C cx13 h14 dX1_writeBlanks_20 ?_
        refine B_icmp_ge C dX1_writeBlanks_21 ?_ ?_
        · refine R_loc (lv2 := [(0, .ref (G.1 + a0)), (1, .int v1)]) [0, 1] rfl ?_
          exact R_end (fun (o : (Int32)) (s : Sg) => V κ G (QQ κ G E none σ') E s (false, 0, 0) 40 [(0, .ref (G.1 + a0)), (1, .int v1)] []) K9
        · refine R_aload_n C 0 rfl dX1_writeBlanks_24 ?_
          refine R_dr (fun x15 rx15 cx15 => ?_)
          refine R_getr C fl1_17 rfl ha0 rx15 dX1_writeBlanks_25 ?_
          refine R_iload_n C 1 rfl dX1_writeBlanks_28 ?_
          refine R_ck (fun h16 => ?_)
          refine R_dr (fun x17 rx17 cx17 => ?_)
          refine R_aald4 C cx15 h16 rx17 dX1_writeBlanks_29 ?_
          refine R_iconst C (-1) dX1_writeBlanks_30 (by decide) ?_
          refine R_bv (fun s18 q19 => ?_)
          refine R_callVv [.int (-1 : Int32)] [] C ml1_110 (kX5_write q19) (by rw [hR]; exact ⟨rfl, rfl, Nat.le_of_ble_eq_true rfl, Nat.le_of_ble_eq_true rfl, Nat.zero_le _, Nat.zero_le _⟩) cx17 rfl rfl (Nat.le_of_ble_eq_true rfl) dX1_writeBlanks_31 ?_
          refine S_iinc (fun v20 => [(2, .int v20), (0, .ref (G.1 + a0)), (1, .int v1)]) 2 C dX1_writeBlanks_34 rfl (by decide) (by decide) (fun _ => rfl) (fun v20 => ?_)
          refine R_goto C dX1_writeBlanks_37 ?_
          refine R_loc (lv2 := [(0, .ref (G.1 + a0)), (1, .int v1), (2, .int v20)]) [1, 2, 0] rfl ?_
          exact I12 (v20, s18) b10 s11 K9
theorem dX1_mostPlaces_0 : dk cX1_mostPlaces 0 1 (.iconst 0) 1 := by unfold dk; decide +kernel
theorem dX1_mostPlaces_1 : dk cX1_mostPlaces 1 2 (.istore_n 1) 1 := by unfold dk; decide +kernel
theorem dX1_mostPlaces_2 : dk cX1_mostPlaces 2 3 (.iconst 1) 1 := by unfold dk; decide +kernel
theorem dX1_mostPlaces_3 : dk cX1_mostPlaces 3 4 (.istore_n 2) 1 := by unfold dk; decide +kernel
theorem dX1_mostPlaces_4 : dk cX1_mostPlaces 4 5 (.iload_n 2) 1 := by unfold dk; decide +kernel
theorem dX1_mostPlaces_5 : dk cX1_mostPlaces 5 6 (.aload_n 0) 1 := by unfold dk; decide +kernel
theorem dX1_mostPlaces_6 : dk cX1_mostPlaces 6 9 (.getfield 58) 3 := by unfold dk; decide +kernel
theorem dX1_mostPlaces_9 : dk cX1_mostPlaces 9 10 (.iconst 1) 1 := by unfold dk; decide +kernel
theorem dX1_mostPlaces_10 : dk cX1_mostPlaces 10 11 (.isub) 1 := by unfold dk; decide +kernel
theorem dX1_mostPlaces_14 : dk cX1_mostPlaces 14 15 (.aload_n 0) 1 := by unfold dk; decide +kernel
theorem dX1_mostPlaces_15 : dk cX1_mostPlaces 15 18 (.getfield 35) 3 := by unfold dk; decide +kernel
theorem dX1_mostPlaces_18 : dk cX1_mostPlaces 18 21 (.getfield 127) 3 := by unfold dk; decide +kernel
theorem dX1_mostPlaces_21 : dk cX1_mostPlaces 21 22 (.iload_n 2) 1 := by unfold dk; decide +kernel
theorem dX1_mostPlaces_22 : dk cX1_mostPlaces 22 23 (.iaload) 1 := by unfold dk; decide +kernel
theorem dX1_mostPlaces_23 : dk cX1_mostPlaces 23 24 (.aload_n 0) 1 := by unfold dk; decide +kernel
theorem dX1_mostPlaces_24 : dk cX1_mostPlaces 24 27 (.getfield 35) 3 := by unfold dk; decide +kernel
theorem dX1_mostPlaces_27 : dk cX1_mostPlaces 27 30 (.getfield 127) 3 := by unfold dk; decide +kernel
theorem dX1_mostPlaces_30 : dk cX1_mostPlaces 30 31 (.iload_n 1) 1 := by unfold dk; decide +kernel
theorem dX1_mostPlaces_31 : dk cX1_mostPlaces 31 32 (.iaload) 1 := by unfold dk; decide +kernel
theorem dX1_mostPlaces_32 : bk cX1_mostPlaces 32 35 37 (.if_icmp .le 5) (5) := by unfold bk; decide +kernel
theorem dX1_mostPlaces_35 : dk cX1_mostPlaces 35 36 (.iload_n 2) 1 := by unfold dk; decide +kernel
theorem dX1_mostPlaces_36 : dk cX1_mostPlaces 36 37 (.istore_n 1) 1 := by unfold dk; decide +kernel
theorem dX1_mostPlaces_37 : dk cX1_mostPlaces 37 40 (.iinc 2 1) 3 := by unfold dk; decide +kernel
theorem dX1_mostPlaces_40 : bk cX1_mostPlaces 40 43 4 (.goto (-36)) (-36) := by unfold bk; decide +kernel
theorem dX1_mostPlaces_11 : bk cX1_mostPlaces 11 14 43 (.if_icmp .ge 32) (32) := by unfold bk; decide +kernel
theorem dX1_mostPlaces_43 : dk cX1_mostPlaces 43 44 (.iload_n 1) 1 := by unfold dk; decide +kernel
theorem dX1_mostPlaces_44 : dk cX1_mostPlaces 44 45 (.ireturn) 1 := by unfold dk; decide +kernel
set_option maxHeartbeats 4000000 in
set_option maxRecDepth 100000 in
theorem kX1_mostPlaces {l : Launch} {G : Gl} {E : En} {a0 : Nat} {σ σ' : Sg} {r : Int32} : fX1_mostPlaces E a0 σ = some (r, σ') → CT l yX1_mostPlaces cX1_mostPlaces 3 (some .int) ({ frames := 0, cells := 0, slots := 0, locals := 0 } : Room) [.ref (G.1 + a0)] G E σ (some (.int r)) σ' := by
  intro h
  refine CT_of (lv0 := [(0, .ref (G.1 + a0))]) (by decide) (Nat.le_of_ble_eq_true rfl) rfl (fun κ hl hR hr C => ?_)
  have C : Cx κ G cX1_mostPlaces RX1 3 := C
  revert h
  unfold fX1_mostPlaces
  refine R_tk (fun ha0 => ?_)
  refine R_iconst C (0) dX1_mostPlaces_0 (by decide) ?_
  refine R_istore_n (lv2 := [(1, .int (0 : Int32)), (0, .ref (G.1 + a0))]) C dX1_mostPlaces_1 rfl (by decide) rfl ?_
  refine R_iconst C (1) dX1_mostPlaces_2 (by decide) ?_
  refine R_istore_n (lv2 := [(2, .int (1 : Int32)), (1, .int (0 : Int32)), (0, .ref (G.1 + a0))]) C dX1_mostPlaces_3 rfl (by decide) rfl ?_
  refine R_loc (lv2 := [(0, .ref (G.1 + a0)), (1, .int (0 : Int32)), (2, .int (1 : Int32))]) [2, 1, 0] rfl ?_
  refine R_loop (fun (a : (Int32 × Int32) × Sg) => V κ G (QQ κ G E (some (.int r)) σ') E a.2 (false, 0, 0) 4 [(0, .ref (G.1 + a0)), (1, .int a.1.1), (2, .int a.1.2)] []) (fun (o : (Int32 × Int32)) (s : Sg) => V κ G (QQ κ G E (some (.int r)) σ') E s (false, 0, 0) 43 [(1, .int o.1)] []) (((0 : Int32), (1 : Int32)), σ) (fun o15 s16 => ?_) (fun rec I7 a b5 s6 K4 => ?_)
  · refine R_iload_n C 0 rfl dX1_mostPlaces_43 ?_
    exact R_iret C hr dX1_mostPlaces_44
  · obtain ⟨⟨v1, v2⟩, s3⟩ := a
    show bX1_mostPlaces_4 E a0 (fun u0 u1 t => rec ((u0, u1), t)) v1 v2 s3 = some (b5, s6) → V κ G (QQ κ G E (some (.int r)) σ') E s3 (false, 0, 0) 4 [(0, .ref (G.1 + a0)), (1, .int v1), (2, .int v2)] []
    unfold bX1_mostPlaces_4
    refine R_iload_n C 2 rfl dX1_mostPlaces_4 ?_
    refine R_aload_n C 0 rfl dX1_mostPlaces_5 ?_
    refine R_geti C fl1_58 rfl ha0 dX1_mostPlaces_6 ?_
    refine R_iconst C (1) dX1_mostPlaces_9 (by decide) ?_
    refine R_isub C dX1_mostPlaces_10 ?_
    refine B_icmp_ge C dX1_mostPlaces_11 ?_ ?_
    · refine R_loc (lv2 := [(1, .int v1)]) [1] rfl ?_
      exact R_end (fun (o : (Int32 × Int32)) (s : Sg) => V κ G (QQ κ G E (some (.int r)) σ') E s (false, 0, 0) 43 [(1, .int o.1)] []) K4
    · refine R_aload_n C 0 rfl dX1_mostPlaces_14 ?_
      refine R_dr (fun x8 rx8 cx8 => ?_)
      refine R_getr C fl1_35 rfl ha0 rx8 dX1_mostPlaces_15 ?_
      refine R_dr (fun x9 rx9 cx9 => ?_)
      refine R_getr C fl1_127 rfl cx8 rx9 dX1_mostPlaces_18 ?_
      refine R_iload_n C 2 rfl dX1_mostPlaces_21 ?_
      refine R_ck (fun h10 => ?_)
      refine R_iald C cx9 h10 dX1_mostPlaces_22 ?_
      refine R_aload_n C 0 rfl dX1_mostPlaces_23 ?_
      refine R_getr C fl1_35 rfl ha0 rx8 dX1_mostPlaces_24 ?_
      refine R_getr C fl1_127 rfl cx8 rx9 dX1_mostPlaces_27 ?_
      refine R_iload_n C 1 rfl dX1_mostPlaces_30 ?_
      refine R_ck (fun h11 => ?_)
      refine R_iald C cx9 h11 dX1_mostPlaces_31 ?_
      refine R_bdK (fun (w : Int32) (s : Sg) => V κ G (QQ κ G E (some (.int r)) σ') E s (false, 0, 0) 37 [(0, .ref (G.1 + a0)), (2, .int v2), (1, .int w)] []) (fun w12 s13 => ?_) (fun w12 s13 Kw12 => ?_)
      · refine S_iinc (fun v14 => [(2, .int v14), (0, .ref (G.1 + a0)), (1, .int w12)]) 1 C dX1_mostPlaces_37 rfl (by decide) (by decide) (fun _ => rfl) (fun v14 => ?_)
        refine R_goto C dX1_mostPlaces_40 ?_
        refine R_loc (lv2 := [(0, .ref (G.1 + a0)), (1, .int w12), (2, .int v14)]) [1, 2, 0] rfl ?_
        exact I7 ((w12, v14), s13) b5 s6 K4
      · refine B_icmp_le C dX1_mostPlaces_32 ?_ ?_
        · refine R_loc (lv2 := [(0, .ref (G.1 + a0)), (2, .int v2), (1, .int v1)]) [0, 2, 1] rfl ?_
          exact R_end (fun (w : Int32) (s : Sg) => V κ G (QQ κ G E (some (.int r)) σ') E s (false, 0, 0) 37 [(0, .ref (G.1 + a0)), (2, .int v2), (1, .int w)] []) Kw12
        · refine R_iload_n C 2 rfl dX1_mostPlaces_35 ?_
          refine R_istore_n (lv2 := [(1, .int v2), (0, .ref (G.1 + a0)), (2, .int v2)]) C dX1_mostPlaces_36 rfl (by decide) rfl ?_
          refine R_loc (lv2 := [(0, .ref (G.1 + a0)), (2, .int v2), (1, .int v2)]) [1, 2, 0] rfl ?_
          exact R_end (fun (w : Int32) (s : Sg) => V κ G (QQ κ G E (some (.int r)) σ') E s (false, 0, 0) 37 [(0, .ref (G.1 + a0)), (2, .int v2), (1, .int w)] []) Kw12
theorem dX1_dealByNumbers_0 : dk cX1_dealByNumbers 0 1 (.aload_n 0) 1 := by unfold dk; decide +kernel
theorem dX1_dealByNumbers_1 : dk cX1_dealByNumbers 1 2 (.aload_n 0) 1 := by unfold dk; decide +kernel
theorem dX1_dealByNumbers_2 : dk cX1_dealByNumbers 2 5 (.getfield 35) 3 := by unfold dk; decide +kernel
theorem dX1_dealByNumbers_5 : dk cX1_dealByNumbers 5 8 (.invokevirtual 114) 3 := by unfold dk; decide +kernel
theorem dX1_dealByNumbers_8 : dk cX1_dealByNumbers 8 11 (.putfield 71) 3 := by unfold dk; decide +kernel
theorem dX1_dealByNumbers_11 : dk cX1_dealByNumbers 11 12 (.aload_n 0) 1 := by unfold dk; decide +kernel
theorem dX1_dealByNumbers_12 : dk cX1_dealByNumbers 12 15 (.getfield 25) 3 := by unfold dk; decide +kernel
theorem dX1_dealByNumbers_15 : dk cX1_dealByNumbers 15 16 (.iconst 5) 1 := by unfold dk; decide +kernel
theorem dX1_dealByNumbers_16 : dk cX1_dealByNumbers 16 17 (.aload_n 0) 1 := by unfold dk; decide +kernel
theorem dX1_dealByNumbers_17 : dk cX1_dealByNumbers 17 20 (.getfield 35) 3 := by unfold dk; decide +kernel
theorem dX1_dealByNumbers_20 : dk cX1_dealByNumbers 20 23 (.getfield 118) 3 := by unfold dk; decide +kernel
theorem dX1_dealByNumbers_23 : dk cX1_dealByNumbers 23 24 (.iastore) 1 := by unfold dk; decide +kernel
theorem dX1_dealByNumbers_24 : dk cX1_dealByNumbers 24 25 (.aload_n 0) 1 := by unfold dk; decide +kernel
theorem dX1_dealByNumbers_25 : dk cX1_dealByNumbers 25 28 (.getfield 25) 3 := by unfold dk; decide +kernel
theorem dX1_dealByNumbers_28 : dk cX1_dealByNumbers 28 29 (.iconst 4) 1 := by unfold dk; decide +kernel
theorem dX1_dealByNumbers_29 : dk cX1_dealByNumbers 29 30 (.aload_n 0) 1 := by unfold dk; decide +kernel
theorem dX1_dealByNumbers_30 : dk cX1_dealByNumbers 30 33 (.getfield 71) 3 := by unfold dk; decide +kernel
theorem dX1_dealByNumbers_33 : dk cX1_dealByNumbers 33 34 (.aload_n 0) 1 := by unfold dk; decide +kernel
theorem dX1_dealByNumbers_34 : dk cX1_dealByNumbers 34 37 (.getfield 65) 3 := by unfold dk; decide +kernel
theorem dX1_dealByNumbers_37 : dk cX1_dealByNumbers 37 38 (.isub) 1 := by unfold dk; decide +kernel
theorem dX1_dealByNumbers_38 : dk cX1_dealByNumbers 38 39 (.iastore) 1 := by unfold dk; decide +kernel
theorem dX1_dealByNumbers_39 : dk cX1_dealByNumbers 39 40 (.iconst 0) 1 := by unfold dk; decide +kernel
theorem dX1_dealByNumbers_40 : dk cX1_dealByNumbers 40 41 (.istore_n 2) 1 := by unfold dk; decide +kernel
theorem dX1_dealByNumbers_41 : dk cX1_dealByNumbers 41 42 (.iload_n 2) 1 := by unfold dk; decide +kernel
theorem dX1_dealByNumbers_42 : dk cX1_dealByNumbers 42 43 (.aload_n 0) 1 := by unfold dk; decide +kernel
theorem dX1_dealByNumbers_43 : dk cX1_dealByNumbers 43 46 (.getfield 25) 3 := by unfold dk; decide +kernel
theorem dX1_dealByNumbers_46 : dk cX1_dealByNumbers 46 47 (.iconst 4) 1 := by unfold dk; decide +kernel
theorem dX1_dealByNumbers_47 : dk cX1_dealByNumbers 47 48 (.iaload) 1 := by unfold dk; decide +kernel
theorem dX1_dealByNumbers_51 : dk cX1_dealByNumbers 51 52 (.iload_n 1) 1 := by unfold dk; decide +kernel
theorem dX1_dealByNumbers_52 : bk cX1_dealByNumbers 52 55 62 (.ifCond .eq 10) (10) := by unfold bk; decide +kernel
theorem dX1_dealByNumbers_62 : dk cX1_dealByNumbers 62 63 (.aload_n 0) 1 := by unfold dk; decide +kernel
theorem dX1_dealByNumbers_63 : dk cX1_dealByNumbers 63 66 (.invokevirtual 124) 3 := by unfold dk; decide +kernel
theorem dX1_dealByNumbers_55 : dk cX1_dealByNumbers 55 56 (.aload_n 0) 1 := by unfold dk; decide +kernel
theorem dX1_dealByNumbers_56 : dk cX1_dealByNumbers 56 59 (.invokevirtual 121) 3 := by unfold dk; decide +kernel
theorem dX1_dealByNumbers_59 : bk cX1_dealByNumbers 59 62 66 (.goto 7) (7) := by unfold bk; decide +kernel
theorem dX1_dealByNumbers_66 : dk cX1_dealByNumbers 66 67 (.istore_n 3) 1 := by unfold dk; decide +kernel
theorem dX1_dealByNumbers_67 : dk cX1_dealByNumbers 67 68 (.aload_n 0) 1 := by unfold dk; decide +kernel
theorem dX1_dealByNumbers_68 : dk cX1_dealByNumbers 68 71 (.getfield 39) 3 := by unfold dk; decide +kernel
theorem dX1_dealByNumbers_71 : dk cX1_dealByNumbers 71 72 (.iload_n 3) 1 := by unfold dk; decide +kernel
theorem dX1_dealByNumbers_72 : dk cX1_dealByNumbers 72 73 (.dup2) 1 := by unfold dk; decide +kernel
theorem dX1_dealByNumbers_73 : dk cX1_dealByNumbers 73 74 (.iaload) 1 := by unfold dk; decide +kernel
theorem dX1_dealByNumbers_74 : dk cX1_dealByNumbers 74 75 (.iconst 1) 1 := by unfold dk; decide +kernel
theorem dX1_dealByNumbers_75 : dk cX1_dealByNumbers 75 76 (.iadd) 1 := by unfold dk; decide +kernel
theorem dX1_dealByNumbers_76 : dk cX1_dealByNumbers 76 77 (.iastore) 1 := by unfold dk; decide +kernel
theorem dX1_dealByNumbers_77 : dk cX1_dealByNumbers 77 78 (.aload_n 0) 1 := by unfold dk; decide +kernel
theorem dX1_dealByNumbers_78 : dk cX1_dealByNumbers 78 81 (.getfield 35) 3 := by unfold dk; decide +kernel
theorem dX1_dealByNumbers_81 : dk cX1_dealByNumbers 81 84 (.getfield 127) 3 := by unfold dk; decide +kernel
theorem dX1_dealByNumbers_84 : dk cX1_dealByNumbers 84 85 (.iload_n 3) 1 := by unfold dk; decide +kernel
theorem dX1_dealByNumbers_85 : dk cX1_dealByNumbers 85 86 (.dup2) 1 := by unfold dk; decide +kernel
theorem dX1_dealByNumbers_86 : dk cX1_dealByNumbers 86 87 (.iaload) 1 := by unfold dk; decide +kernel
theorem dX1_dealByNumbers_87 : dk cX1_dealByNumbers 87 88 (.iconst 1) 1 := by unfold dk; decide +kernel
theorem dX1_dealByNumbers_88 : dk cX1_dealByNumbers 88 89 (.isub) 1 := by unfold dk; decide +kernel
theorem dX1_dealByNumbers_89 : dk cX1_dealByNumbers 89 90 (.iastore) 1 := by unfold dk; decide +kernel
theorem dX1_dealByNumbers_90 : dk cX1_dealByNumbers 90 93 (.iinc 2 1) 3 := by unfold dk; decide +kernel
theorem dX1_dealByNumbers_93 : bk cX1_dealByNumbers 93 96 41 (.goto (-52)) (-52) := by unfold bk; decide +kernel
theorem dX1_dealByNumbers_48 : bk cX1_dealByNumbers 48 51 96 (.if_icmp .ge 48) (48) := by unfold bk; decide +kernel
theorem dX1_dealByNumbers_96 : dk cX1_dealByNumbers 96 97 (.aload_n 0) 1 := by unfold dk; decide +kernel
theorem dX1_dealByNumbers_97 : dk cX1_dealByNumbers 97 100 (.getfield 61) 3 := by unfold dk; decide +kernel
theorem dX1_dealByNumbers_100 : bk cX1_dealByNumbers 100 103 107 (.ifCond .ne 7) (7) := by unfold bk; decide +kernel
theorem dX1_dealByNumbers_103 : dk cX1_dealByNumbers 103 104 (.aload_n 0) 1 := by unfold dk; decide +kernel
theorem dX1_dealByNumbers_104 : dk cX1_dealByNumbers 104 107 (.invokevirtual 130) 3 := by unfold dk; decide +kernel
theorem dX1_dealByNumbers_107 : dk cX1_dealByNumbers 107 108 (.iconst 0) 1 := by unfold dk; decide +kernel
theorem dX1_dealByNumbers_108 : dk cX1_dealByNumbers 108 109 (.istore_n 2) 1 := by unfold dk; decide +kernel
theorem dX1_dealByNumbers_109 : dk cX1_dealByNumbers 109 110 (.iload_n 2) 1 := by unfold dk; decide +kernel
theorem dX1_dealByNumbers_110 : dk cX1_dealByNumbers 110 111 (.aload_n 0) 1 := by unfold dk; decide +kernel
theorem dX1_dealByNumbers_111 : dk cX1_dealByNumbers 111 114 (.getfield 65) 3 := by unfold dk; decide +kernel
theorem dX1_dealByNumbers_117 : dk cX1_dealByNumbers 117 118 (.aload_n 0) 1 := by unfold dk; decide +kernel
theorem dX1_dealByNumbers_118 : dk cX1_dealByNumbers 118 121 (.invokevirtual 133) 3 := by unfold dk; decide +kernel
theorem dX1_dealByNumbers_121 : dk cX1_dealByNumbers 121 122 (.istore_n 3) 1 := by unfold dk; decide +kernel
theorem dX1_dealByNumbers_122 : dk cX1_dealByNumbers 122 123 (.aload_n 0) 1 := by unfold dk; decide +kernel
theorem dX1_dealByNumbers_123 : dk cX1_dealByNumbers 123 126 (.getfield 17) 3 := by unfold dk; decide +kernel
theorem dX1_dealByNumbers_126 : dk cX1_dealByNumbers 126 127 (.iload_n 3) 1 := by unfold dk; decide +kernel
theorem dX1_dealByNumbers_127 : dk cX1_dealByNumbers 127 128 (.aaload) 1 := by unfold dk; decide +kernel
theorem dX1_dealByNumbers_128 : dk cX1_dealByNumbers 128 129 (.iload_n 2) 1 := by unfold dk; decide +kernel
theorem dX1_dealByNumbers_129 : dk cX1_dealByNumbers 129 132 (.invokevirtual 110) 3 := by unfold dk; decide +kernel
theorem dX1_dealByNumbers_132 : dk cX1_dealByNumbers 132 133 (.aload_n 0) 1 := by unfold dk; decide +kernel
theorem dX1_dealByNumbers_133 : dk cX1_dealByNumbers 133 136 (.getfield 35) 3 := by unfold dk; decide +kernel
theorem dX1_dealByNumbers_136 : dk cX1_dealByNumbers 136 139 (.getfield 127) 3 := by unfold dk; decide +kernel
theorem dX1_dealByNumbers_139 : dk cX1_dealByNumbers 139 140 (.iload_n 3) 1 := by unfold dk; decide +kernel
theorem dX1_dealByNumbers_140 : dk cX1_dealByNumbers 140 141 (.dup2) 1 := by unfold dk; decide +kernel
theorem dX1_dealByNumbers_141 : dk cX1_dealByNumbers 141 142 (.iaload) 1 := by unfold dk; decide +kernel
theorem dX1_dealByNumbers_142 : dk cX1_dealByNumbers 142 143 (.iconst 1) 1 := by unfold dk; decide +kernel
theorem dX1_dealByNumbers_143 : dk cX1_dealByNumbers 143 144 (.isub) 1 := by unfold dk; decide +kernel
theorem dX1_dealByNumbers_144 : dk cX1_dealByNumbers 144 145 (.iastore) 1 := by unfold dk; decide +kernel
theorem dX1_dealByNumbers_145 : dk cX1_dealByNumbers 145 148 (.iinc 2 1) 3 := by unfold dk; decide +kernel
theorem dX1_dealByNumbers_148 : bk cX1_dealByNumbers 148 151 109 (.goto (-39)) (-39) := by unfold bk; decide +kernel
theorem dX1_dealByNumbers_114 : bk cX1_dealByNumbers 114 117 151 (.if_icmp .ge 37) (37) := by unfold bk; decide +kernel
theorem dX1_dealByNumbers_151 : dk cX1_dealByNumbers 151 152 (.aload_n 0) 1 := by unfold dk; decide +kernel
theorem dX1_dealByNumbers_152 : dk cX1_dealByNumbers 152 155 (.getfield 61) 3 := by unfold dk; decide +kernel
theorem dX1_dealByNumbers_155 : bk cX1_dealByNumbers 155 158 162 (.ifCond .eq 7) (7) := by unfold bk; decide +kernel
theorem dX1_dealByNumbers_158 : dk cX1_dealByNumbers 158 159 (.aload_n 0) 1 := by unfold dk; decide +kernel
theorem dX1_dealByNumbers_159 : dk cX1_dealByNumbers 159 162 (.invokevirtual 130) 3 := by unfold dk; decide +kernel
theorem dX1_dealByNumbers_162 : dk cX1_dealByNumbers 162 163 (.aload_n 0) 1 := by unfold dk; decide +kernel
theorem dX1_dealByNumbers_163 : dk cX1_dealByNumbers 163 164 (.aload_n 0) 1 := by unfold dk; decide +kernel
theorem dX1_dealByNumbers_164 : dk cX1_dealByNumbers 164 167 (.getfield 58) 3 := by unfold dk; decide +kernel
theorem dX1_dealByNumbers_167 : dk cX1_dealByNumbers 167 168 (.iconst 1) 1 := by unfold dk; decide +kernel
theorem dX1_dealByNumbers_168 : dk cX1_dealByNumbers 168 169 (.isub) 1 := by unfold dk; decide +kernel
theorem dX1_dealByNumbers_169 : dk cX1_dealByNumbers 169 172 (.putfield 74) 3 := by unfold dk; decide +kernel
theorem dX1_dealByNumbers_172 : dk cX1_dealByNumbers 172 173 (.return_) 1 := by unfold dk; decide +kernel
set_option maxHeartbeats 4000000 in
set_option maxRecDepth 100000 in
theorem kX1_dealByNumbers {l : Launch} {G : Gl} {E : En} {a0 : Nat} {a1 : Int32} {σ σ' : Sg} : fX1_dealByNumbers E a0 a1 σ = some σ' → CT l yX1_dealByNumbers cX1_dealByNumbers 4 none ({ frames := 2, cells := 0, slots := 0, locals := 43 } : Room) [.ref (G.1 + a0), .int a1] G E σ none σ' := by
  intro h
  refine CT_of (lv0 := [(0, .ref (G.1 + a0)), (1, .int a1)]) (by decide) (Nat.le_of_ble_eq_true rfl) rfl (fun κ hl hR hr C => ?_)
  have C : Cx κ G cX1_dealByNumbers RX1 4 := C
  revert h
  unfold fX1_dealByNumbers
  refine R_tk (fun ha0 => ?_)
  refine R_aload_n C 0 rfl dX1_dealByNumbers_0 ?_
  refine R_aload_n C 0 rfl dX1_dealByNumbers_1 ?_
  refine R_dr (fun x1 rx1 cx1 => ?_)
  refine R_getr C fl1_35 rfl ha0 rx1 dX1_dealByNumbers_2 ?_
  refine R_bd (fun r4 s2 q3 => ?_)
  refine R_callVi [] [.ref (G.1 + a0)] C ml1_114 (kX2_together q3) (by rw [hR]; exact ⟨rfl, rfl, Nat.le_of_ble_eq_true rfl, Nat.le_of_ble_eq_true rfl, Nat.zero_le _, Nat.zero_le _⟩) cx1 rfl rfl (Nat.le_of_ble_eq_true rfl) dX1_dealByNumbers_5 ?_
  refine S_puti C fl1_71 rfl ha0 rfl rfl dX1_dealByNumbers_8 (fun s5 => ?_)
  refine R_aload_n C 0 rfl dX1_dealByNumbers_11 ?_
  refine R_dr (fun x6 rx6 cx6 => ?_)
  refine R_getr C fl1_25 rfl ha0 rx6 dX1_dealByNumbers_12 ?_
  refine R_iconst C (5) dX1_dealByNumbers_15 (by decide) ?_
  refine R_aload_n C 0 rfl dX1_dealByNumbers_16 ?_
  refine R_getr C fl1_35 rfl ha0 rx1 dX1_dealByNumbers_17 ?_
  refine R_geti C fl1_118 rfl cx1 dX1_dealByNumbers_20 ?_
  refine R_ck (fun h7 => ?_)
  refine S_iast C cx6 h7 dX1_dealByNumbers_23 (fun s8 => ?_)
  refine R_aload_n C 0 rfl dX1_dealByNumbers_24 ?_
  refine R_getr C fl1_25 rfl ha0 rx6 dX1_dealByNumbers_25 ?_
  refine R_iconst C (4) dX1_dealByNumbers_28 (by decide) ?_
  refine R_aload_n C 0 rfl dX1_dealByNumbers_29 ?_
  refine R_geti C fl1_71 rfl ha0 dX1_dealByNumbers_30 ?_
  refine R_aload_n C 0 rfl dX1_dealByNumbers_33 ?_
  refine R_geti C fl1_65 rfl ha0 dX1_dealByNumbers_34 ?_
  refine R_isub C dX1_dealByNumbers_37 ?_
  refine R_ck (fun h9 => ?_)
  refine S_iast C cx6 h9 dX1_dealByNumbers_38 (fun s10 => ?_)
  refine R_iconst C (0) dX1_dealByNumbers_39 (by decide) ?_
  refine R_istore_n (lv2 := [(2, .int (0 : Int32)), (0, .ref (G.1 + a0)), (1, .int a1)]) C dX1_dealByNumbers_40 rfl (by decide) rfl ?_
  refine R_loc (lv2 := [(0, .ref (G.1 + a0)), (1, .int a1), (2, .int (0 : Int32))]) [1, 2, 0] rfl ?_
  refine R_loop (fun (a : (Int32) × Sg) => V κ G (QQ κ G E none σ') E a.2 (false, 0, 0) 41 [(0, .ref (G.1 + a0)), (1, .int a1), (2, .int a.1)] []) (fun (o : (Int32)) (s : Sg) => V κ G (QQ κ G E none σ') E s (false, 0, 0) 96 [(0, .ref (G.1 + a0))] []) ((0 : Int32), s10) (fun o35 s36 => ?_) (fun rec I16 a b14 s15 K13 => ?_)
  · refine R_aload_n C 0 rfl dX1_dealByNumbers_96 ?_
    refine R_geti C fl1_61 rfl ha0 dX1_dealByNumbers_97 ?_
    refine R_bdK (fun (w : Unit) (s : Sg) => V κ G (QQ κ G E none σ') E s (false, 0, 0) 107 [(0, .ref (G.1 + a0))] []) (fun w37 s38 => ?_) (fun w37 s38 Kw37 => ?_)
    · refine R_iconst C (0) dX1_dealByNumbers_107 (by decide) ?_
      refine R_istore_n (lv2 := [(2, .int (0 : Int32)), (0, .ref (G.1 + a0))]) C dX1_dealByNumbers_108 rfl (by decide) rfl ?_
      refine R_loc (lv2 := [(0, .ref (G.1 + a0)), (2, .int (0 : Int32))]) [1, 0] rfl ?_
      refine R_loop (fun (a : (Int32) × Sg) => V κ G (QQ κ G E none σ') E a.2 (false, 0, 0) 109 [(0, .ref (G.1 + a0)), (2, .int a.1)] []) (fun (o : (Int32)) (s : Sg) => V κ G (QQ κ G E none σ') E s (false, 0, 0) 151 [(0, .ref (G.1 + a0))] []) ((0 : Int32), s38) (fun o60 s61 => ?_) (fun rec I46 a b44 s45 K43 => ?_)
      · refine R_aload_n C 0 rfl dX1_dealByNumbers_151 ?_
        refine R_geti C fl1_61 rfl ha0 dX1_dealByNumbers_152 ?_
        refine R_bdK (fun (w : Unit) (s : Sg) => V κ G (QQ κ G E none σ') E s (false, 0, 0) 162 [(0, .ref (G.1 + a0))] []) (fun w62 s63 => ?_) (fun w62 s63 Kw62 => ?_)
        · refine R_aload_n C 0 rfl dX1_dealByNumbers_162 ?_
          refine R_aload_n C 0 rfl dX1_dealByNumbers_163 ?_
          refine R_geti C fl1_58 rfl ha0 dX1_dealByNumbers_164 ?_
          refine R_iconst C (1) dX1_dealByNumbers_167 (by decide) ?_
          refine R_isub C dX1_dealByNumbers_168 ?_
          refine S_puti C fl1_74 rfl ha0 rfl rfl dX1_dealByNumbers_169 (fun s66 => ?_)
          exact R_vret C hr dX1_dealByNumbers_172
        · refine B_if_eq C dX1_dealByNumbers_155 ?_ ?_
          · exact R_end (fun (w : Unit) (s : Sg) => V κ G (QQ κ G E none σ') E s (false, 0, 0) 162 [(0, .ref (G.1 + a0))] []) Kw62
          · refine R_aload_n C 0 rfl dX1_dealByNumbers_158 ?_
            refine R_bv (fun s64 q65 => ?_)
            refine R_callVv [] [] C ml1_130 (kX1_writeBlanks q65) (by rw [hR]; exact ⟨rfl, rfl, Nat.le_of_ble_eq_true rfl, Nat.le_of_ble_eq_true rfl, Nat.zero_le _, Nat.zero_le _⟩) ha0 rfl rfl (Nat.le_of_ble_eq_true rfl) dX1_dealByNumbers_159 ?_
            exact R_end (fun (w : Unit) (s : Sg) => V κ G (QQ κ G E none σ') E s (false, 0, 0) 162 [(0, .ref (G.1 + a0))] []) Kw62
      · obtain ⟨v41, s42⟩ := a
        show bX1_dealByNumbers_109 E a0 x1 (fun u0 t => rec (u0, t)) v41 s42 = some (b44, s45) → V κ G (QQ κ G E none σ') E s42 (false, 0, 0) 109 [(0, .ref (G.1 + a0)), (2, .int v41)] []
        unfold bX1_dealByNumbers_109
        refine R_iload_n C 1 rfl dX1_dealByNumbers_109 ?_
        refine R_aload_n C 0 rfl dX1_dealByNumbers_110 ?_
        refine R_geti C fl1_65 rfl ha0 dX1_dealByNumbers_111 ?_
        refine B_icmp_ge C dX1_dealByNumbers_114 ?_ ?_
        · refine R_loc (lv2 := [(0, .ref (G.1 + a0))]) [0] rfl ?_
          exact R_end (fun (o : (Int32)) (s : Sg) => V κ G (QQ κ G E none σ') E s (false, 0, 0) 151 [(0, .ref (G.1 + a0))] []) K43
        · refine R_aload_n C 0 rfl dX1_dealByNumbers_117 ?_
          refine R_bd (fun r49 s47 q48 => ?_)
          refine R_callVi [] [] C ml1_133 (kX1_mostPlaces q48) (by rw [hR]; exact ⟨rfl, rfl, Nat.le_of_ble_eq_true rfl, Nat.le_of_ble_eq_true rfl, Nat.zero_le _, Nat.zero_le _⟩) ha0 rfl rfl (Nat.le_of_ble_eq_true rfl) dX1_dealByNumbers_118 ?_
          refine R_istore_n (lv2 := [(3, .int r49), (0, .ref (G.1 + a0)), (2, .int v41)]) C dX1_dealByNumbers_121 rfl (by decide) rfl ?_
          refine R_aload_n C 1 rfl dX1_dealByNumbers_122 ?_
          refine R_dr (fun x50 rx50 cx50 => ?_)
          refine R_getr C fl1_17 rfl ha0 rx50 dX1_dealByNumbers_123 ?_
          refine R_iload_n C 0 rfl dX1_dealByNumbers_126 ?_
          refine R_ck (fun h51 => ?_)
          refine R_dr (fun x52 rx52 cx52 => ?_)
          refine R_aald4 C cx50 h51 rx52 dX1_dealByNumbers_127 ?_
          refine R_iload_n C 2 rfl dX1_dealByNumbers_128 ?_
          refine R_bv (fun s53 q54 => ?_)
          refine R_callVv [.int v41] [] C ml1_110 (kX5_write q54) (by rw [hR]; exact ⟨rfl, rfl, Nat.le_of_ble_eq_true rfl, Nat.le_of_ble_eq_true rfl, Nat.zero_le _, Nat.zero_le _⟩) cx52 rfl rfl (Nat.le_of_ble_eq_true rfl) dX1_dealByNumbers_129 ?_
          refine R_aload_n C 1 rfl dX1_dealByNumbers_132 ?_
          refine R_getr C fl1_35 rfl ha0 rx1 dX1_dealByNumbers_133 ?_
          refine R_dr (fun x55 rx55 cx55 => ?_)
          refine R_getr C fl1_127 rfl cx1 rx55 dX1_dealByNumbers_136 ?_
          refine R_iload_n C 0 rfl dX1_dealByNumbers_139 ?_
          refine R_dup2 C dX1_dealByNumbers_140 rfl rfl ?_
          refine R_ck (fun h56 => ?_)
          refine R_iald C cx55 h56 dX1_dealByNumbers_141 ?_
          refine R_iconst C (1) dX1_dealByNumbers_142 (by decide) ?_
          refine R_isub C dX1_dealByNumbers_143 ?_
          refine R_ck (fun h57 => ?_)
          refine S_iast C cx55 h57 dX1_dealByNumbers_144 (fun s58 => ?_)
          refine S_iinc (fun v59 => [(2, .int v59), (3, .int r49), (0, .ref (G.1 + a0))]) 2 C dX1_dealByNumbers_145 rfl (by decide) (by decide) (fun _ => rfl) (fun v59 => ?_)
          refine R_goto C dX1_dealByNumbers_148 ?_
          refine R_loc (lv2 := [(0, .ref (G.1 + a0)), (2, .int v59)]) [2, 0] rfl ?_
          exact I46 (v59, s58) b44 s45 K43
    · refine B_if_ne C dX1_dealByNumbers_100 ?_ ?_
      · exact R_end (fun (w : Unit) (s : Sg) => V κ G (QQ κ G E none σ') E s (false, 0, 0) 107 [(0, .ref (G.1 + a0))] []) Kw37
      · refine R_aload_n C 0 rfl dX1_dealByNumbers_103 ?_
        refine R_bv (fun s39 q40 => ?_)
        refine R_callVv [] [] C ml1_130 (kX1_writeBlanks q40) (by rw [hR]; exact ⟨rfl, rfl, Nat.le_of_ble_eq_true rfl, Nat.le_of_ble_eq_true rfl, Nat.zero_le _, Nat.zero_le _⟩) ha0 rfl rfl (Nat.le_of_ble_eq_true rfl) dX1_dealByNumbers_104 ?_
        exact R_end (fun (w : Unit) (s : Sg) => V κ G (QQ κ G E none σ') E s (false, 0, 0) 107 [(0, .ref (G.1 + a0))] []) Kw37
  · obtain ⟨v11, s12⟩ := a
    show bX1_dealByNumbers_41 E x6 a1 a0 x1 (fun u0 t => rec (u0, t)) v11 s12 = some (b14, s15) → V κ G (QQ κ G E none σ') E s12 (false, 0, 0) 41 [(0, .ref (G.1 + a0)), (1, .int a1), (2, .int v11)] []
    unfold bX1_dealByNumbers_41
    refine R_iload_n C 2 rfl dX1_dealByNumbers_41 ?_
    refine R_aload_n C 0 rfl dX1_dealByNumbers_42 ?_
    refine R_getr C fl1_25 rfl ha0 rx6 dX1_dealByNumbers_43 ?_
    refine R_iconst C (4) dX1_dealByNumbers_46 (by decide) ?_
    refine R_ck (fun h17 => ?_)
    refine R_iald C cx6 h17 dX1_dealByNumbers_47 ?_
    refine B_icmp_ge C dX1_dealByNumbers_48 ?_ ?_
    · refine R_loc (lv2 := [(0, .ref (G.1 + a0))]) [0] rfl ?_
      exact R_end (fun (o : (Int32)) (s : Sg) => V κ G (QQ κ G E none σ') E s (false, 0, 0) 96 [(0, .ref (G.1 + a0))] []) K13
    · refine R_iload_n C 1 rfl dX1_dealByNumbers_51 ?_
      refine R_bdK (fun (w : Int32) (s : Sg) => V κ G (QQ κ G E none σ') E s (false, 0, 0) 66 [(0, .ref (G.1 + a0)), (1, .int a1), (2, .int v11)] [.int w]) (fun w18 s19 => ?_) (fun w18 s19 Kw18 => ?_)
      · refine R_istore_n (lv2 := [(3, .int w18), (0, .ref (G.1 + a0)), (1, .int a1), (2, .int v11)]) C dX1_dealByNumbers_66 rfl (by decide) rfl ?_
        refine R_aload_n C 1 rfl dX1_dealByNumbers_67 ?_
        refine R_dr (fun x26 rx26 cx26 => ?_)
        refine R_getr C fl1_39 rfl ha0 rx26 dX1_dealByNumbers_68 ?_
        refine R_iload_n C 0 rfl dX1_dealByNumbers_71 ?_
        refine R_dup2 C dX1_dealByNumbers_72 rfl rfl ?_
        refine R_ck (fun h27 => ?_)
        refine R_iald C cx26 h27 dX1_dealByNumbers_73 ?_
        refine R_iconst C (1) dX1_dealByNumbers_74 (by decide) ?_
        refine R_iadd C dX1_dealByNumbers_75 ?_
        refine R_ck (fun h28 => ?_)
        refine S_iast C cx26 h28 dX1_dealByNumbers_76 (fun s29 => ?_)
        refine R_aload_n C 1 rfl dX1_dealByNumbers_77 ?_
        refine R_getr C fl1_35 rfl ha0 rx1 dX1_dealByNumbers_78 ?_
        refine R_dr (fun x30 rx30 cx30 => ?_)
        refine R_getr C fl1_127 rfl cx1 rx30 dX1_dealByNumbers_81 ?_
        refine R_iload_n C 0 rfl dX1_dealByNumbers_84 ?_
        refine R_dup2 C dX1_dealByNumbers_85 rfl rfl ?_
        refine R_ck (fun h31 => ?_)
        refine R_iald C cx30 h31 dX1_dealByNumbers_86 ?_
        refine R_iconst C (1) dX1_dealByNumbers_87 (by decide) ?_
        refine R_isub C dX1_dealByNumbers_88 ?_
        refine R_ck (fun h32 => ?_)
        refine S_iast C cx30 h32 dX1_dealByNumbers_89 (fun s33 => ?_)
        refine S_iinc (fun v34 => [(2, .int v34), (3, .int w18), (0, .ref (G.1 + a0)), (1, .int a1)]) 3 C dX1_dealByNumbers_90 rfl (by decide) (by decide) (fun _ => rfl) (fun v34 => ?_)
        refine R_goto C dX1_dealByNumbers_93 ?_
        refine R_loc (lv2 := [(0, .ref (G.1 + a0)), (1, .int a1), (2, .int v34)]) [2, 3, 0] rfl ?_
        exact I16 (v34, s33) b14 s15 K13
      · refine B_if_eq C dX1_dealByNumbers_52 ?_ ?_
        · refine R_aload_n C 0 rfl dX1_dealByNumbers_62 ?_
          refine R_bd (fun r22 s20 q21 => ?_)
          refine R_callVi [] [] C ml1_124 (kX1_fewestBlanks q21) (by rw [hR]; exact ⟨rfl, rfl, Nat.le_of_ble_eq_true rfl, Nat.le_of_ble_eq_true rfl, Nat.zero_le _, Nat.zero_le _⟩) ha0 rfl rfl (Nat.le_of_ble_eq_true rfl) dX1_dealByNumbers_63 ?_
          exact R_end (fun (w : Int32) (s : Sg) => V κ G (QQ κ G E none σ') E s (false, 0, 0) 66 [(0, .ref (G.1 + a0)), (1, .int a1), (2, .int v11)] [.int w]) Kw18
        · refine R_aload_n C 0 rfl dX1_dealByNumbers_55 ?_
          refine R_bd (fun r25 s23 q24 => ?_)
          refine R_callVi [] [] C ml1_121 (kX1_firstPlace q24) (by rw [hR]; exact ⟨rfl, rfl, Nat.le_of_ble_eq_true rfl, Nat.le_of_ble_eq_true rfl, Nat.zero_le _, Nat.zero_le _⟩) ha0 rfl rfl (Nat.le_of_ble_eq_true rfl) dX1_dealByNumbers_56 ?_
          refine R_goto C dX1_dealByNumbers_59 ?_
          exact R_end (fun (w : Int32) (s : Sg) => V κ G (QQ κ G E none σ') E s (false, 0, 0) 66 [(0, .ref (G.1 + a0)), (1, .int a1), (2, .int v11)] [.int w]) Kw18
theorem dX1_openPass_0 : dk cX1_openPass 0 1 (.iconst 0) 1 := by unfold dk; decide +kernel
theorem dX1_openPass_1 : dk cX1_openPass 1 2 (.istore_n 1) 1 := by unfold dk; decide +kernel
theorem dX1_openPass_2 : dk cX1_openPass 2 3 (.iload_n 1) 1 := by unfold dk; decide +kernel
theorem dX1_openPass_3 : dk cX1_openPass 3 4 (.aload_n 0) 1 := by unfold dk; decide +kernel
theorem dX1_openPass_4 : dk cX1_openPass 4 7 (.getfield 58) 3 := by unfold dk; decide +kernel
theorem dX1_openPass_10 : dk cX1_openPass 10 11 (.aload_n 0) 1 := by unfold dk; decide +kernel
theorem dX1_openPass_11 : dk cX1_openPass 11 14 (.getfield 21) 3 := by unfold dk; decide +kernel
theorem dX1_openPass_14 : dk cX1_openPass 14 15 (.iload_n 1) 1 := by unfold dk; decide +kernel
theorem dX1_openPass_15 : dk cX1_openPass 15 16 (.aload_n 0) 1 := by unfold dk; decide +kernel
theorem dX1_openPass_16 : dk cX1_openPass 16 19 (.getfield 17) 3 := by unfold dk; decide +kernel
theorem dX1_openPass_19 : dk cX1_openPass 19 20 (.iload_n 1) 1 := by unfold dk; decide +kernel
theorem dX1_openPass_20 : dk cX1_openPass 20 21 (.aaload) 1 := by unfold dk; decide +kernel
theorem dX1_openPass_21 : dk cX1_openPass 21 24 (.invokevirtual 136) 3 := by unfold dk; decide +kernel
theorem dX1_openPass_24 : bk cX1_openPass 24 27 39 (.ifCond .le 15) (15) := by unfold bk; decide +kernel
theorem dX1_openPass_39 : dk cX1_openPass 39 40 (.iconst 0) 1 := by unfold dk; decide +kernel
theorem dX1_openPass_27 : dk cX1_openPass 27 28 (.iload_n 1) 1 := by unfold dk; decide +kernel
theorem dX1_openPass_28 : dk cX1_openPass 28 29 (.aload_n 0) 1 := by unfold dk; decide +kernel
theorem dX1_openPass_29 : dk cX1_openPass 29 32 (.getfield 74) 3 := by unfold dk; decide +kernel
theorem dX1_openPass_35 : dk cX1_openPass 35 36 (.iconst 1) 1 := by unfold dk; decide +kernel
theorem dX1_openPass_36 : bk cX1_openPass 36 39 40 (.goto 4) (4) := by unfold bk; decide +kernel
theorem dX1_openPass_32 : bk cX1_openPass 32 35 39 (.if_icmp .eq 7) (7) := by unfold bk; decide +kernel
theorem dX1_openPass_40 : dk cX1_openPass 40 41 (.bastore) 1 := by unfold dk; decide +kernel
theorem dX1_openPass_41 : dk cX1_openPass 41 44 (.iinc 1 1) 3 := by unfold dk; decide +kernel
theorem dX1_openPass_44 : bk cX1_openPass 44 47 2 (.goto (-42)) (-42) := by unfold bk; decide +kernel
theorem dX1_openPass_7 : bk cX1_openPass 7 10 47 (.if_icmp .ge 40) (40) := by unfold bk; decide +kernel
theorem dX1_openPass_47 : dk cX1_openPass 47 48 (.return_) 1 := by unfold dk; decide +kernel
set_option maxHeartbeats 4000000 in
set_option maxRecDepth 100000 in
theorem kX1_openPass {l : Launch} {G : Gl} {E : En} {a0 : Nat} {σ σ' : Sg} : fX1_openPass E a0 σ = some σ' → CT l yX1_openPass cX1_openPass 2 none ({ frames := 1, cells := 0, slots := 0, locals := 20 } : Room) [.ref (G.1 + a0)] G E σ none σ' := by
  intro h
  refine CT_of (lv0 := [(0, .ref (G.1 + a0))]) (by decide) (Nat.le_of_ble_eq_true rfl) rfl (fun κ hl hR hr C => ?_)
  have C : Cx κ G cX1_openPass RX1 2 := C
  revert h
  unfold fX1_openPass
  refine R_tk (fun ha0 => ?_)
  refine R_iconst C (0) dX1_openPass_0 (by decide) ?_
  refine R_istore_n (lv2 := [(1, .int (0 : Int32)), (0, .ref (G.1 + a0))]) C dX1_openPass_1 rfl (by decide) rfl ?_
  refine R_loc (lv2 := [(0, .ref (G.1 + a0)), (1, .int (0 : Int32))]) [1, 0] rfl ?_
  refine R_loop (fun (a : (Int32) × Sg) => V κ G (QQ κ G E none σ') E a.2 (false, 0, 0) 2 [(0, .ref (G.1 + a0)), (1, .int a.1)] []) (fun (o : (Int32)) (s : Sg) => V κ G (QQ κ G E none σ') E s (false, 0, 0) 47 [] []) ((0 : Int32), σ) (fun o19 s20 => ?_) (fun rec I6 a b4 s5 K3 => ?_)
  · exact R_vret C hr dX1_openPass_47
  · obtain ⟨v1, s2⟩ := a
    show bX1_openPass_2 E a0 (fun u0 t => rec (u0, t)) v1 s2 = some (b4, s5) → V κ G (QQ κ G E none σ') E s2 (false, 0, 0) 2 [(0, .ref (G.1 + a0)), (1, .int v1)] []
    unfold bX1_openPass_2
    refine R_iload_n C 1 rfl dX1_openPass_2 ?_
    refine R_aload_n C 0 rfl dX1_openPass_3 ?_
    refine R_geti C fl1_58 rfl ha0 dX1_openPass_4 ?_
    refine B_icmp_ge C dX1_openPass_7 ?_ ?_
    · refine R_loc (lv2 := []) [] rfl ?_
      exact R_end (fun (o : (Int32)) (s : Sg) => V κ G (QQ κ G E none σ') E s (false, 0, 0) 47 [] []) K3
    · refine R_aload_n C 0 rfl dX1_openPass_10 ?_
      refine R_dr (fun x7 rx7 cx7 => ?_)
      refine R_getr C fl1_21 rfl ha0 rx7 dX1_openPass_11 ?_
      refine R_iload_n C 1 rfl dX1_openPass_14 ?_
      refine R_aload_n C 0 rfl dX1_openPass_15 ?_
      refine R_dr (fun x8 rx8 cx8 => ?_)
      refine R_getr C fl1_17 rfl ha0 rx8 dX1_openPass_16 ?_
      refine R_iload_n C 1 rfl dX1_openPass_19 ?_
      refine R_ck (fun h9 => ?_)
      refine R_dr (fun x10 rx10 cx10 => ?_)
      refine R_aald4 C cx8 h9 rx10 dX1_openPass_20 ?_
      refine R_bd (fun r13 s11 q12 => ?_)
      refine R_callVi [] [.int v1, .ref (G.1 + x7)] C ml1_136 (kX5_size q12) (by rw [hR]; exact ⟨rfl, rfl, Nat.le_of_ble_eq_true rfl, Nat.le_of_ble_eq_true rfl, Nat.zero_le _, Nat.zero_le _⟩) cx10 rfl rfl (Nat.le_of_ble_eq_true rfl) dX1_openPass_21 ?_
      refine R_bdK (fun (w : Int32) (s : Sg) => V κ G (QQ κ G E none σ') E s (false, 0, 0) 40 [(0, .ref (G.1 + a0)), (1, .int v1)] [.int w, .int v1, .ref (G.1 + x7)]) (fun w14 s15 => ?_) (fun w14 s15 Kw14 => ?_)
      · refine R_ck (fun h16 => ?_)
        refine S_zast C cx7 h16 dX1_openPass_40 (fun s17 => ?_)
        refine S_iinc (fun v18 => [(1, .int v18), (0, .ref (G.1 + a0))]) 1 C dX1_openPass_41 rfl (by decide) (by decide) (fun _ => rfl) (fun v18 => ?_)
        refine R_goto C dX1_openPass_44 ?_
        refine R_loc (lv2 := [(0, .ref (G.1 + a0)), (1, .int v18)]) [1, 0] rfl ?_
        exact I6 (v18, s17) b4 s5 K3
      · refine B_if_le C dX1_openPass_24 ?_ ?_
        · refine R_iconst C (0) dX1_openPass_39 (by decide) ?_
          exact R_end (fun (w : Int32) (s : Sg) => V κ G (QQ κ G E none σ') E s (false, 0, 0) 40 [(0, .ref (G.1 + a0)), (1, .int v1)] [.int w, .int v1, .ref (G.1 + x7)]) Kw14
        · refine R_iload_n C 1 rfl dX1_openPass_27 ?_
          refine R_aload_n C 0 rfl dX1_openPass_28 ?_
          refine R_geti C fl1_74 rfl ha0 dX1_openPass_29 ?_
          refine B_icmp_eq C dX1_openPass_32 ?_ ?_
          · refine R_iconst C (0) dX1_openPass_39 (by decide) ?_
            exact R_end (fun (w : Int32) (s : Sg) => V κ G (QQ κ G E none σ') E s (false, 0, 0) 40 [(0, .ref (G.1 + a0)), (1, .int v1)] [.int w, .int v1, .ref (G.1 + x7)]) Kw14
          · refine R_iconst C (1) dX1_openPass_35 (by decide) ?_
            refine R_goto C dX1_openPass_36 ?_
            exact R_end (fun (w : Int32) (s : Sg) => V κ G (QQ κ G E none σ') E s (false, 0, 0) 40 [(0, .ref (G.1 + a0)), (1, .int v1)] [.int w, .int v1, .ref (G.1 + x7)]) Kw14
theorem dX1_isDown_0 : dk cX1_isDown 0 1 (.iload_n 1) 1 := by unfold dk; decide +kernel
theorem dX1_isDown_1 : bk cX1_isDown 1 4 25 (.ifCond .lt 24) (24) := by unfold bk; decide +kernel
theorem dX1_isDown_25 : dk cX1_isDown 25 26 (.iconst 0) 1 := by unfold dk; decide +kernel
theorem dX1_isDown_4 : dk cX1_isDown 4 5 (.iload_n 1) 1 := by unfold dk; decide +kernel
theorem dX1_isDown_5 : dk cX1_isDown 5 6 (.aload_n 0) 1 := by unfold dk; decide +kernel
theorem dX1_isDown_6 : dk cX1_isDown 6 9 (.getfield 65) 3 := by unfold dk; decide +kernel
theorem dX1_isDown_12 : dk cX1_isDown 12 13 (.aload_n 0) 1 := by unfold dk; decide +kernel
theorem dX1_isDown_13 : dk cX1_isDown 13 16 (.getfield 51) 3 := by unfold dk; decide +kernel
theorem dX1_isDown_16 : dk cX1_isDown 16 17 (.iload_n 1) 1 := by unfold dk; decide +kernel
theorem dX1_isDown_17 : dk cX1_isDown 17 18 (.baload) 1 := by unfold dk; decide +kernel
theorem dX1_isDown_21 : dk cX1_isDown 21 22 (.iconst 1) 1 := by unfold dk; decide +kernel
theorem dX1_isDown_22 : bk cX1_isDown 22 25 26 (.goto 4) (4) := by unfold bk; decide +kernel
theorem dX1_isDown_18 : bk cX1_isDown 18 21 25 (.ifCond .eq 7) (7) := by unfold bk; decide +kernel
theorem dX1_isDown_9 : bk cX1_isDown 9 12 25 (.if_icmp .ge 16) (16) := by unfold bk; decide +kernel
theorem dX1_isDown_26 : dk cX1_isDown 26 27 (.ireturn) 1 := by unfold dk; decide +kernel
set_option maxHeartbeats 4000000 in
set_option maxRecDepth 100000 in
theorem kX1_isDown {l : Launch} {G : Gl} {E : En} {a0 : Nat} {a1 : Int32} {σ σ' : Sg} {r : Int32} : fX1_isDown E a0 a1 σ = some (r, σ') → CT l yX1_isDown cX1_isDown 2 (some .boolean) ({ frames := 0, cells := 0, slots := 0, locals := 0 } : Room) [.ref (G.1 + a0), .int a1] G E σ (some (.int r)) σ' := by
  intro h
  refine CT_of (lv0 := [(0, .ref (G.1 + a0)), (1, .int a1)]) (by decide) (Nat.le_of_ble_eq_true rfl) rfl (fun κ hl hR hr C => ?_)
  have C : Cx κ G cX1_isDown RX1 2 := C
  revert h
  unfold fX1_isDown
  refine R_tk (fun ha0 => ?_)
  refine R_iload_n C 1 rfl dX1_isDown_0 ?_
  refine R_bdK (fun (w : Int32) (s : Sg) => V κ G (QQ κ G E (some (.int r)) σ') E s (false, 0, 0) 26 [] [.int w]) (fun w1 s2 => ?_) (fun w1 s2 Kw1 => ?_)
  · refine R_kb (fun h5 => ?_)
    exact R_zret C hr h5 dX1_isDown_26
  · refine B_if_lt C dX1_isDown_1 ?_ ?_
    · refine R_iconst C (0) dX1_isDown_25 (by decide) ?_
      refine R_loc (lv2 := []) [] rfl ?_
      exact R_end (fun (w : Int32) (s : Sg) => V κ G (QQ κ G E (some (.int r)) σ') E s (false, 0, 0) 26 [] [.int w]) Kw1
    · refine R_iload_n C 1 rfl dX1_isDown_4 ?_
      refine R_aload_n C 0 rfl dX1_isDown_5 ?_
      refine R_geti C fl1_65 rfl ha0 dX1_isDown_6 ?_
      refine B_icmp_ge C dX1_isDown_9 ?_ ?_
      · refine R_iconst C (0) dX1_isDown_25 (by decide) ?_
        refine R_loc (lv2 := []) [] rfl ?_
        exact R_end (fun (w : Int32) (s : Sg) => V κ G (QQ κ G E (some (.int r)) σ') E s (false, 0, 0) 26 [] [.int w]) Kw1
      · refine R_aload_n C 0 rfl dX1_isDown_12 ?_
        refine R_dr (fun x3 rx3 cx3 => ?_)
        refine R_getr C fl1_51 rfl ha0 rx3 dX1_isDown_13 ?_
        refine R_iload_n C 1 rfl dX1_isDown_16 ?_
        refine R_ck (fun h4 => ?_)
        refine R_zald C cx3 h4 dX1_isDown_17 ?_
        refine B_if_eq C dX1_isDown_18 ?_ ?_
        · refine R_iconst C (0) dX1_isDown_25 (by decide) ?_
          refine R_loc (lv2 := []) [] rfl ?_
          exact R_end (fun (w : Int32) (s : Sg) => V κ G (QQ κ G E (some (.int r)) σ') E s (false, 0, 0) 26 [] [.int w]) Kw1
        · refine R_iconst C (1) dX1_isDown_21 (by decide) ?_
          refine R_goto C dX1_isDown_22 ?_
          refine R_loc (lv2 := []) [] rfl ?_
          exact R_end (fun (w : Int32) (s : Sg) => V κ G (QQ κ G E (some (.int r)) σ') E s (false, 0, 0) 26 [] [.int w]) Kw1
theorem dX1_turnLast_0 : dk cX1_turnLast 0 1 (.aload_n 0) 1 := by unfold dk; decide +kernel
theorem dX1_turnLast_1 : dk cX1_turnLast 1 4 (.getfield 71) 3 := by unfold dk; decide +kernel
theorem dX1_turnLast_4 : dk cX1_turnLast 4 5 (.iconst 1) 1 := by unfold dk; decide +kernel
theorem dX1_turnLast_9 : dk cX1_turnLast 9 10 (.iconst 0) 1 := by unfold dk; decide +kernel
theorem dX1_turnLast_10 : dk cX1_turnLast 10 11 (.istore_n 1) 1 := by unfold dk; decide +kernel
theorem dX1_turnLast_11 : dk cX1_turnLast 11 12 (.iload_n 1) 1 := by unfold dk; decide +kernel
theorem dX1_turnLast_12 : dk cX1_turnLast 12 13 (.aload_n 0) 1 := by unfold dk; decide +kernel
theorem dX1_turnLast_13 : dk cX1_turnLast 13 16 (.getfield 58) 3 := by unfold dk; decide +kernel
theorem dX1_turnLast_19 : dk cX1_turnLast 19 20 (.aload_n 0) 1 := by unfold dk; decide +kernel
theorem dX1_turnLast_20 : dk cX1_turnLast 20 23 (.getfield 17) 3 := by unfold dk; decide +kernel
theorem dX1_turnLast_23 : dk cX1_turnLast 23 24 (.iload_n 1) 1 := by unfold dk; decide +kernel
theorem dX1_turnLast_24 : dk cX1_turnLast 24 25 (.aaload) 1 := by unfold dk; decide +kernel
theorem dX1_turnLast_25 : dk cX1_turnLast 25 26 (.iconst 0) 1 := by unfold dk; decide +kernel
theorem dX1_turnLast_26 : dk cX1_turnLast 26 27 (.aload_n 0) 1 := by unfold dk; decide +kernel
theorem dX1_turnLast_27 : dk cX1_turnLast 27 30 (.getfield 61) 3 := by unfold dk; decide +kernel
theorem dX1_turnLast_30 : dk cX1_turnLast 30 33 (.invokevirtual 146) 3 := by unfold dk; decide +kernel
theorem dX1_turnLast_33 : dk cX1_turnLast 33 34 (.istore_n 2) 1 := by unfold dk; decide +kernel
theorem dX1_turnLast_34 : dk cX1_turnLast 34 35 (.aload_n 0) 1 := by unfold dk; decide +kernel
theorem dX1_turnLast_35 : dk cX1_turnLast 35 36 (.iload_n 2) 1 := by unfold dk; decide +kernel
theorem dX1_turnLast_36 : dk cX1_turnLast 36 39 (.invokevirtual 149) 3 := by unfold dk; decide +kernel
theorem dX1_turnLast_39 : bk cX1_turnLast 39 42 64 (.ifCond .eq 25) (25) := by unfold bk; decide +kernel
theorem dX1_turnLast_42 : dk cX1_turnLast 42 43 (.aload_n 0) 1 := by unfold dk; decide +kernel
theorem dX1_turnLast_43 : dk cX1_turnLast 43 46 (.getfield 25) 3 := by unfold dk; decide +kernel
theorem dX1_turnLast_46 : dk cX1_turnLast 46 47 (.iconst 3) 1 := by unfold dk; decide +kernel
theorem dX1_turnLast_47 : dk cX1_turnLast 47 48 (.dup2) 1 := by unfold dk; decide +kernel
theorem dX1_turnLast_48 : dk cX1_turnLast 48 49 (.iaload) 1 := by unfold dk; decide +kernel
theorem dX1_turnLast_49 : dk cX1_turnLast 49 50 (.aload_n 0) 1 := by unfold dk; decide +kernel
theorem dX1_turnLast_50 : dk cX1_turnLast 50 53 (.getfield 48) 3 := by unfold dk; decide +kernel
theorem dX1_turnLast_53 : dk cX1_turnLast 53 54 (.iload_n 2) 1 := by unfold dk; decide +kernel
theorem dX1_turnLast_54 : dk cX1_turnLast 54 55 (.iaload) 1 := by unfold dk; decide +kernel
theorem dX1_turnLast_55 : dk cX1_turnLast 55 56 (.iadd) 1 := by unfold dk; decide +kernel
theorem dX1_turnLast_56 : dk cX1_turnLast 56 57 (.iastore) 1 := by unfold dk; decide +kernel
theorem dX1_turnLast_57 : dk cX1_turnLast 57 58 (.aload_n 0) 1 := by unfold dk; decide +kernel
theorem dX1_turnLast_58 : dk cX1_turnLast 58 61 (.getfield 51) 3 := by unfold dk; decide +kernel
theorem dX1_turnLast_61 : dk cX1_turnLast 61 62 (.iload_n 2) 1 := by unfold dk; decide +kernel
theorem dX1_turnLast_62 : dk cX1_turnLast 62 63 (.iconst 0) 1 := by unfold dk; decide +kernel
theorem dX1_turnLast_63 : dk cX1_turnLast 63 64 (.bastore) 1 := by unfold dk; decide +kernel
theorem dX1_turnLast_64 : dk cX1_turnLast 64 67 (.iinc 1 1) 3 := by unfold dk; decide +kernel
theorem dX1_turnLast_67 : bk cX1_turnLast 67 70 11 (.goto (-56)) (-56) := by unfold bk; decide +kernel
theorem dX1_turnLast_16 : bk cX1_turnLast 16 19 70 (.if_icmp .ge 54) (54) := by unfold bk; decide +kernel
theorem dX1_turnLast_70 : dk cX1_turnLast 70 71 (.return_) 1 := by unfold dk; decide +kernel
theorem dX1_turnLast_8 : dk cX1_turnLast 8 9 (.return_) 1 := by unfold dk; decide +kernel
theorem dX1_turnLast_5 : bk cX1_turnLast 5 8 9 (.if_icmp .eq 4) (4) := by unfold bk; decide +kernel
set_option maxHeartbeats 4000000 in
set_option maxRecDepth 100000 in
theorem kX1_turnLast {l : Launch} {G : Gl} {E : En} {a0 : Nat} {σ σ' : Sg} : fX1_turnLast E a0 σ = some σ' → CT l yX1_turnLast cX1_turnLast 3 none ({ frames := 2, cells := 0, slots := 0, locals := 42 } : Room) [.ref (G.1 + a0)] G E σ none σ' := by
  intro h
  refine CT_of (lv0 := [(0, .ref (G.1 + a0))]) (by decide) (Nat.le_of_ble_eq_true rfl) rfl (fun κ hl hR hr C => ?_)
  have C : Cx κ G cX1_turnLast RX1 3 := C
  revert h
  unfold fX1_turnLast
  refine R_tk (fun ha0 => ?_)
  refine R_aload_n C 0 rfl dX1_turnLast_0 ?_
  refine R_geti C fl1_71 rfl ha0 dX1_turnLast_1 ?_
  refine R_iconst C (1) dX1_turnLast_4 (by decide) ?_
  refine B_icmp_eq C dX1_turnLast_5 ?_ ?_
  · refine R_iconst C (0) dX1_turnLast_9 (by decide) ?_
    refine R_istore_n (lv2 := [(1, .int (0 : Int32)), (0, .ref (G.1 + a0))]) C dX1_turnLast_10 rfl (by decide) rfl ?_
    refine R_loc (lv2 := [(0, .ref (G.1 + a0)), (1, .int (0 : Int32))]) [1, 0] rfl ?_
    refine R_loop (fun (a : (Int32) × Sg) => V κ G (QQ κ G E none σ') E a.2 (false, 0, 0) 11 [(0, .ref (G.1 + a0)), (1, .int a.1)] []) (fun (o : (Int32)) (s : Sg) => V κ G (QQ κ G E none σ') E s (false, 0, 0) 70 [] []) ((0 : Int32), σ) (fun o28 s29 => ?_) (fun rec I6 a b4 s5 K3 => ?_)
    · exact R_vret C hr dX1_turnLast_70
    · obtain ⟨v1, s2⟩ := a
      show bX1_turnLast_11 E a0 (fun u0 t => rec (u0, t)) v1 s2 = some (b4, s5) → V κ G (QQ κ G E none σ') E s2 (false, 0, 0) 11 [(0, .ref (G.1 + a0)), (1, .int v1)] []
      unfold bX1_turnLast_11
      refine R_iload_n C 1 rfl dX1_turnLast_11 ?_
      refine R_aload_n C 0 rfl dX1_turnLast_12 ?_
      refine R_geti C fl1_58 rfl ha0 dX1_turnLast_13 ?_
      refine B_icmp_ge C dX1_turnLast_16 ?_ ?_
      · refine R_loc (lv2 := []) [] rfl ?_
        exact R_end (fun (o : (Int32)) (s : Sg) => V κ G (QQ κ G E none σ') E s (false, 0, 0) 70 [] []) K3
      · refine R_aload_n C 0 rfl dX1_turnLast_19 ?_
        refine R_dr (fun x7 rx7 cx7 => ?_)
        refine R_getr C fl1_17 rfl ha0 rx7 dX1_turnLast_20 ?_
        refine R_iload_n C 1 rfl dX1_turnLast_23 ?_
        refine R_ck (fun h8 => ?_)
        refine R_dr (fun x9 rx9 cx9 => ?_)
        refine R_aald4 C cx7 h8 rx9 dX1_turnLast_24 ?_
        refine R_iconst C (0) dX1_turnLast_25 (by decide) ?_
        refine R_aload_n C 0 rfl dX1_turnLast_26 ?_
        refine R_geti C fl1_61 rfl ha0 dX1_turnLast_27 ?_
        refine R_bd (fun r12 s10 q11 => ?_)
        refine R_callVi [.int (0 : Int32), .int (gi s2 a0 3)] [] C ml1_146 (kX5_at q11) (by rw [hR]; exact ⟨rfl, rfl, Nat.le_of_ble_eq_true rfl, Nat.le_of_ble_eq_true rfl, Nat.zero_le _, Nat.zero_le _⟩) cx9 rfl rfl (Nat.le_of_ble_eq_true rfl) dX1_turnLast_30 ?_
        refine R_istore_n (lv2 := [(2, .int r12), (0, .ref (G.1 + a0)), (1, .int v1)]) C dX1_turnLast_33 rfl (by decide) rfl ?_
        refine R_aload_n C 1 rfl dX1_turnLast_34 ?_
        refine R_iload_n C 0 rfl dX1_turnLast_35 ?_
        refine R_bd (fun r15 s13 q14 => ?_)
        refine R_callVi [.int r12] [] C ml1_149 (kX1_isDown q14) (by rw [hR]; exact ⟨rfl, rfl, Nat.le_of_ble_eq_true rfl, Nat.le_of_ble_eq_true rfl, Nat.zero_le _, Nat.zero_le _⟩) ha0 rfl rfl (Nat.le_of_ble_eq_true rfl) dX1_turnLast_36 ?_
        refine R_bdK (fun (w : Unit) (s : Sg) => V κ G (QQ κ G E none σ') E s (false, 0, 0) 64 [(0, .ref (G.1 + a0)), (1, .int v1)] []) (fun w16 s17 => ?_) (fun w16 s17 Kw16 => ?_)
        · refine S_iinc (fun v27 => [(1, .int v27), (0, .ref (G.1 + a0))]) 1 C dX1_turnLast_64 rfl (by decide) (by decide) (fun _ => rfl) (fun v27 => ?_)
          refine R_goto C dX1_turnLast_67 ?_
          refine R_loc (lv2 := [(0, .ref (G.1 + a0)), (1, .int v27)]) [1, 0] rfl ?_
          exact I6 (v27, s17) b4 s5 K3
        · refine B_if_eq C dX1_turnLast_39 ?_ ?_
          · refine R_loc (lv2 := [(0, .ref (G.1 + a0)), (1, .int v1)]) [1, 2] rfl ?_
            exact R_end (fun (w : Unit) (s : Sg) => V κ G (QQ κ G E none σ') E s (false, 0, 0) 64 [(0, .ref (G.1 + a0)), (1, .int v1)] []) Kw16
          · refine R_aload_n C 1 rfl dX1_turnLast_42 ?_
            refine R_dr (fun x18 rx18 cx18 => ?_)
            refine R_getr C fl1_25 rfl ha0 rx18 dX1_turnLast_43 ?_
            refine R_iconst C (3) dX1_turnLast_46 (by decide) ?_
            refine R_dup2 C dX1_turnLast_47 rfl rfl ?_
            refine R_ck (fun h19 => ?_)
            refine R_iald C cx18 h19 dX1_turnLast_48 ?_
            refine R_aload_n C 1 rfl dX1_turnLast_49 ?_
            refine R_dr (fun x20 rx20 cx20 => ?_)
            refine R_getr C fl1_48 rfl ha0 rx20 dX1_turnLast_50 ?_
            refine R_iload_n C 0 rfl dX1_turnLast_53 ?_
            refine R_ck (fun h21 => ?_)
            refine R_iald C cx20 h21 dX1_turnLast_54 ?_
            refine R_iadd C dX1_turnLast_55 ?_
            refine R_ck (fun h22 => ?_)
            refine S_iast C cx18 h22 dX1_turnLast_56 (fun s23 => ?_)
            refine R_aload_n C 1 rfl dX1_turnLast_57 ?_
            refine R_dr (fun x24 rx24 cx24 => ?_)
            refine R_getr C fl1_51 rfl ha0 rx24 dX1_turnLast_58 ?_
            refine R_iload_n C 0 rfl dX1_turnLast_61 ?_
            refine R_iconst C (0) dX1_turnLast_62 (by decide) ?_
            refine R_ck (fun h25 => ?_)
            refine S_zast C cx24 h25 dX1_turnLast_63 (fun s26 => ?_)
            refine R_loc (lv2 := [(0, .ref (G.1 + a0)), (1, .int v1)]) [1, 2] rfl ?_
            exact R_end (fun (w : Unit) (s : Sg) => V κ G (QQ κ G E none σ') E s (false, 0, 0) 64 [(0, .ref (G.1 + a0)), (1, .int v1)] []) Kw16
  · exact R_vret C hr dX1_turnLast_8
theorem dX1_layOut_0 : dk cX1_layOut 0 1 (.aload_n 0) 1 := by unfold dk; decide +kernel
theorem dX1_layOut_1 : dk cX1_layOut 1 4 (.getfield 55) 3 := by unfold dk; decide +kernel
theorem dX1_layOut_4 : dk cX1_layOut 4 5 (.iconst 1) 1 := by unfold dk; decide +kernel
theorem dX1_layOut_5 : bk cX1_layOut 5 8 15 (.if_icmp .ne 10) (10) := by unfold bk; decide +kernel
theorem dX1_layOut_15 : dk cX1_layOut 15 16 (.aload_n 0) 1 := by unfold dk; decide +kernel
theorem dX1_layOut_16 : dk cX1_layOut 16 19 (.getfield 35) 3 := by unfold dk; decide +kernel
theorem dX1_layOut_19 : dk cX1_layOut 19 20 (.aload_n 0) 1 := by unfold dk; decide +kernel
theorem dX1_layOut_20 : dk cX1_layOut 20 23 (.getfield 65) 3 := by unfold dk; decide +kernel
theorem dX1_layOut_23 : dk cX1_layOut 23 24 (.aload_n 0) 1 := by unfold dk; decide +kernel
theorem dX1_layOut_24 : dk cX1_layOut 24 27 (.getfield 55) 3 := by unfold dk; decide +kernel
theorem dX1_layOut_27 : dk cX1_layOut 27 28 (.aload_n 0) 1 := by unfold dk; decide +kernel
theorem dX1_layOut_28 : dk cX1_layOut 28 31 (.getfield 58) 3 := by unfold dk; decide +kernel
theorem dX1_layOut_31 : dk cX1_layOut 31 32 (.iconst 1) 1 := by unfold dk; decide +kernel
theorem dX1_layOut_32 : dk cX1_layOut 32 33 (.isub) 1 := by unfold dk; decide +kernel
theorem dX1_layOut_33 : dk cX1_layOut 33 36 (.invokevirtual 96) 3 := by unfold dk; decide +kernel
theorem dX1_layOut_36 : dk cX1_layOut 36 37 (.aload_n 0) 1 := by unfold dk; decide +kernel
theorem dX1_layOut_37 : dk cX1_layOut 37 38 (.iload_n 1) 1 := by unfold dk; decide +kernel
theorem dX1_layOut_38 : dk cX1_layOut 38 41 (.invokevirtual 100) 3 := by unfold dk; decide +kernel
theorem dX1_layOut_8 : dk cX1_layOut 8 9 (.aload_n 0) 1 := by unfold dk; decide +kernel
theorem dX1_layOut_9 : dk cX1_layOut 9 12 (.invokevirtual 93) 3 := by unfold dk; decide +kernel
theorem dX1_layOut_12 : bk cX1_layOut 12 15 41 (.goto 29) (29) := by unfold bk; decide +kernel
theorem dX1_layOut_41 : dk cX1_layOut 41 42 (.aload_n 0) 1 := by unfold dk; decide +kernel
theorem dX1_layOut_42 : dk cX1_layOut 42 43 (.iconst 1) 1 := by unfold dk; decide +kernel
theorem dX1_layOut_43 : dk cX1_layOut 43 46 (.putfield 77) 3 := by unfold dk; decide +kernel
theorem dX1_layOut_46 : dk cX1_layOut 46 47 (.aload_n 0) 1 := by unfold dk; decide +kernel
theorem dX1_layOut_47 : dk cX1_layOut 47 50 (.invokevirtual 104) 3 := by unfold dk; decide +kernel
theorem dX1_layOut_50 : dk cX1_layOut 50 51 (.aload_n 0) 1 := by unfold dk; decide +kernel
theorem dX1_layOut_51 : dk cX1_layOut 51 54 (.invokevirtual 107) 3 := by unfold dk; decide +kernel
theorem dX1_layOut_54 : dk cX1_layOut 54 55 (.return_) 1 := by unfold dk; decide +kernel
set_option maxHeartbeats 4000000 in
set_option maxRecDepth 100000 in
theorem kX1_layOut {l : Launch} {G : Gl} {E : En} {a0 : Nat} {a1 : Int32} {σ σ' : Sg} : fX1_layOut E a0 a1 σ = some σ' → CT l yX1_layOut cX1_layOut 2 none ({ frames := 3, cells := 0, slots := 0, locals := 69 } : Room) [.ref (G.1 + a0), .int a1] G E σ none σ' := by
  intro h
  refine CT_of (lv0 := [(0, .ref (G.1 + a0)), (1, .int a1)]) (by decide) (Nat.le_of_ble_eq_true rfl) rfl (fun κ hl hR hr C => ?_)
  have C : Cx κ G cX1_layOut RX1 2 := C
  revert h
  unfold fX1_layOut
  refine R_tk (fun ha0 => ?_)
  refine R_aload_n C 0 rfl dX1_layOut_0 ?_
  refine R_geti C fl1_55 rfl ha0 dX1_layOut_1 ?_
  refine R_iconst C (1) dX1_layOut_4 (by decide) ?_
  refine R_bdK (fun (w : Unit) (s : Sg) => V κ G (QQ κ G E none σ') E s (false, 0, 0) 41 [(0, .ref (G.1 + a0))] []) (fun w1 s2 => ?_) (fun w1 s2 Kw1 => ?_)
  · refine R_aload_n C 0 rfl dX1_layOut_41 ?_
    refine R_iconst C (1) dX1_layOut_42 (by decide) ?_
    refine S_puti C fl1_77 rfl ha0 rfl rfl dX1_layOut_43 (fun s10 => ?_)
    refine R_aload_n C 0 rfl dX1_layOut_46 ?_
    refine R_bv (fun s11 q12 => ?_)
    refine R_callVv [] [] C ml1_104 (kX1_openPass q12) (by rw [hR]; exact ⟨rfl, rfl, Nat.le_of_ble_eq_true rfl, Nat.le_of_ble_eq_true rfl, Nat.zero_le _, Nat.zero_le _⟩) ha0 rfl rfl (Nat.le_of_ble_eq_true rfl) dX1_layOut_47 ?_
    refine R_aload_n C 0 rfl dX1_layOut_50 ?_
    refine R_bv (fun s13 q14 => ?_)
    refine R_callVv [] [] C ml1_107 (kX1_turnLast q14) (by rw [hR]; exact ⟨rfl, rfl, Nat.le_of_ble_eq_true rfl, Nat.le_of_ble_eq_true rfl, Nat.zero_le _, Nat.zero_le _⟩) ha0 rfl rfl (Nat.le_of_ble_eq_true rfl) dX1_layOut_51 ?_
    exact R_vret C hr dX1_layOut_54
  · refine B_icmp_ne C dX1_layOut_5 ?_ ?_
    · refine R_aload_n C 0 rfl dX1_layOut_15 ?_
      refine R_dr (fun x3 rx3 cx3 => ?_)
      refine R_getr C fl1_35 rfl ha0 rx3 dX1_layOut_16 ?_
      refine R_aload_n C 0 rfl dX1_layOut_19 ?_
      refine R_geti C fl1_65 rfl ha0 dX1_layOut_20 ?_
      refine R_aload_n C 0 rfl dX1_layOut_23 ?_
      refine R_geti C fl1_55 rfl ha0 dX1_layOut_24 ?_
      refine R_aload_n C 0 rfl dX1_layOut_27 ?_
      refine R_geti C fl1_58 rfl ha0 dX1_layOut_28 ?_
      refine R_iconst C (1) dX1_layOut_31 (by decide) ?_
      refine R_isub C dX1_layOut_32 ?_
      refine R_bv (fun s4 q5 => ?_)
      refine R_callVv [.int (gi σ a0 7), .int (gi σ a0 0), .int ((gi σ a0 1) - (1 : Int32))] [] C ml1_96 (kX2_climbFor q5) (by rw [hR]; exact ⟨rfl, rfl, Nat.le_of_ble_eq_true rfl, Nat.le_of_ble_eq_true rfl, Nat.zero_le _, Nat.zero_le _⟩) cx3 rfl rfl (Nat.le_of_ble_eq_true rfl) dX1_layOut_33 ?_
      refine R_aload_n C 0 rfl dX1_layOut_36 ?_
      refine R_iload_n C 1 rfl dX1_layOut_37 ?_
      refine R_bv (fun s6 q7 => ?_)
      refine R_callVv [.int a1] [] C ml1_100 (kX1_dealByNumbers q7) (by rw [hR]; exact ⟨rfl, rfl, Nat.le_of_ble_eq_true rfl, Nat.le_of_ble_eq_true rfl, Nat.zero_le _, Nat.zero_le _⟩) ha0 rfl rfl (Nat.le_of_ble_eq_true rfl) dX1_layOut_38 ?_
      refine R_loc (lv2 := [(0, .ref (G.1 + a0))]) [0] rfl ?_
      exact R_end (fun (w : Unit) (s : Sg) => V κ G (QQ κ G E none σ') E s (false, 0, 0) 41 [(0, .ref (G.1 + a0))] []) Kw1
    · refine R_aload_n C 0 rfl dX1_layOut_8 ?_
      refine R_bv (fun s8 q9 => ?_)
      refine R_callVv [] [] C ml1_93 (kX1_dealByTurns q9) (by rw [hR]; exact ⟨rfl, rfl, Nat.le_of_ble_eq_true rfl, Nat.le_of_ble_eq_true rfl, Nat.zero_le _, Nat.zero_le _⟩) ha0 rfl rfl (Nat.le_of_ble_eq_true rfl) dX1_layOut_9 ?_
      refine R_goto C dX1_layOut_12 ?_
      refine R_loc (lv2 := [(0, .ref (G.1 + a0))]) [0] rfl ?_
      exact R_end (fun (w : Unit) (s : Sg) => V κ G (QQ κ G E none σ') E s (false, 0, 0) 41 [(0, .ref (G.1 + a0))] []) Kw1
