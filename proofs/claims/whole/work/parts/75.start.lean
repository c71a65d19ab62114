theorem clL_7 : Cond.classLink RL 7 RX6 ∈ lw_tbl := (in1 (List.mem_of_getElem? (i := 11) rfl))
theorem clL_10 : Cond.classLink RL 10 RX7 ∈ lw_tbl := (in4 (List.mem_of_getElem? (i := 52) rfl))
theorem isL6 : Cond.instantiable RX6 14 ∈ lw_tbl := (in1 (List.mem_of_getElem? (i := 12) rfl))
theorem izL6 : Cond.initialized RX6 ∈ lw_tbl := (in1 (List.mem_of_getElem? (i := 1) rfl))
theorem dvL6 : ∀ j, j < 14 → defaultValue (tyc 6 j) = if isr (tyc 6 j) = true then .null else .int 0 := by decide +kernel
theorem isL7 : Cond.instantiable RX7 30 ∈ lw_tbl := (in4 (List.mem_of_getElem? (i := 53) rfl))
theorem izL7 : Cond.initialized RX7 ∈ lw_tbl := (in1 (List.mem_of_getElem? (i := 9) rfl))
theorem dvL7 : ∀ j, j < 30 → defaultValue (tyc 7 j) = if isr (tyc 7 j) = true then .null else .int 0 := by decide +kernel
theorem miL_9 : MI RL 9 yX6_init cX6_init 2 0 := ⟨⟨(in1 (List.mem_of_getElem? (i := 1) rfl)), (in1 (List.mem_of_getElem? (i := 15) rfl)), by decide +kernel, by decide +kernel⟩, (in1 (List.mem_of_getElem? (i := 14) rfl)), rfl, Or.inl (in1 (List.mem_of_getElem? (i := 13) rfl))⟩
theorem miL_12 : MI RL 12 yX7_init cX7_init 1 0 := ⟨⟨(in1 (List.mem_of_getElem? (i := 9) rfl)), (in4 (List.mem_of_getElem? (i := 56) rfl)), by decide +kernel, by decide +kernel⟩, (in4 (List.mem_of_getElem? (i := 55) rfl)), rfl, Or.inl (in4 (List.mem_of_getElem? (i := 54) rfl))⟩
theorem dL_law_0 : dk cL_law 0 3 (.new 7) 3 := by unfold dk; decide +kernel
theorem dL_law_3 : dk cL_law 3 4 (.dup) 1 := by unfold dk; decide +kernel
theorem dL_law_4 : dk cL_law 4 7 (.invokespecial 9) 3 := by unfold dk; decide +kernel
theorem dL_law_7 : dk cL_law 7 8 (.astore_n 1) 1 := by unfold dk; decide +kernel
theorem dL_law_8 : dk cL_law 8 11 (.new 10) 3 := by unfold dk; decide +kernel
theorem dL_law_11 : dk cL_law 11 12 (.dup) 1 := by unfold dk; decide +kernel
theorem dL_law_12 : dk cL_law 12 15 (.invokespecial 12) 3 := by unfold dk; decide +kernel
theorem dL_law_15 : dk cL_law 15 16 (.astore_n 2) 1 := by unfold dk; decide +kernel
theorem mq_u {κ : KT} {G : Gl} {Q : State → Prop} {E : En} {σ : Sg} {u : Nat × Nat} {pc : Nat} {lv : List (Nat × Value)} {st : List Value} {P : Prop} (k : P → V κ G Q E σ (false, u) pc lv st) : P → V κ G Q E σ (true, u) pc lv st := fun q H locs ls _ hP hS hl => k q H locs ls (fun h => by cases h) hP hS hl
set_option maxHeartbeats 8000000 in
set_option maxRecDepth 100000 in
theorem kL_all {κ : KT} {G : Gl} {b L : Nat} {xs : Nat → Int32} {σ' : Sg} (C : Cx κ G cL_law RL 4) (D : Cn κ G) (hr : (kT κ).sig.returnType = ret) (hA : kA κ = #[Value.ref b]) (hR : kR κ = room_1) (hGs : (kS κ).heap.size ≤ G.1) (hX : lwX κ G b L xs) : lawAll L xs = some (1, σ') → V κ G (lw_Z (kB κ) (kA κ) (kS κ)) E0 S0 (true, 0, 0) 0 [(0, .ref b)] [] := by
  unfold lawAll
  refine N_new C ci6 clL_7 isL6 izL6 (by rw [hR]; exact ⟨Nat.le_of_ble_eq_true rfl, Nat.le_of_ble_eq_true rfl⟩) dvL6 dL_law_0 (fun e1 s1 => ?_)
  refine R_dup C dL_law_3 rfl ?_
  refine R_bc (fun e2 s2 q2 => ?_)
  refine N_call [] [.ref (G.1 + E0.1)] C D miL_9 (kX6_init q2) (by rw [hR]; exact ⟨rfl, rfl, Nat.le_of_ble_eq_true rfl, Nat.le_of_ble_eq_true rfl, Nat.le_of_ble_eq_true rfl, Nat.le_of_ble_eq_true rfl⟩) rfl rfl (Nat.le_of_ble_eq_true rfl) dL_law_4 ?_
  refine R_astore_n (lv2 := [(1, .ref (G.1 + E0.1)), (0, .ref b)]) C dL_law_7 rfl (by decide) rfl ?_
  refine N_new C ci7 clL_10 isL7 izL7 (by rw [hR]; exact ⟨Nat.le_of_ble_eq_true rfl, Nat.le_of_ble_eq_true rfl⟩) dvL7 dL_law_8 (fun e3 s3 => ?_)
  refine R_dup C dL_law_11 rfl ?_
  refine R_bc (fun e4 s4 q4 => ?_)
  refine N_call [] [.ref (G.1 + e2.1)] C D miL_12 (kX7_init q4) (by rw [hR]; exact ⟨rfl, rfl, Nat.le_of_ble_eq_true rfl, Nat.le_of_ble_eq_true rfl, Nat.le_of_ble_eq_true rfl, Nat.le_of_ble_eq_true rfl⟩) rfl rfl (Nat.le_of_ble_eq_true rfl) dL_law_12 ?_
  refine R_astore_n (lv2 := [(2, .ref (G.1 + e2.1)), (1, .ref (G.1 + E0.1)), (0, .ref b)]) C dL_law_15 rfl (by decide) rfl ?_
  refine R_loc (lv2 := [(0, .ref b), (1, .ref (G.1 + E0.1)), (2, .ref (G.1 + e2.1))]) [2, 1, 0] rfl ?_
  refine mq_u ?_
  exact kL_law C hr hA hR ⟨Nat.le_of_ble_eq_true rfl, Nat.le_of_ble_eq_true rfl⟩ hGs hX
theorem st_0 {args : Array Value} {s : State} {A : Nat → Prop} (hs : ∀ c ∈ flatC (Jvm.Cond.and given_1 narrow_1), c.before args s = true) (hl : (Cond.laysStatic "RunTapes" "AT_FIRST" "[I").before args s = true) (hini : (Cond.initialized "RunTapes").before args s = true) (hA : ∀ a : Nat, a < s.heap.size → ¬ A a) :
    ∃ t : Nat, va_Z "RunTapes" "AT_FIRST" "[I" (.ref t) A s s.heap ∧ va_T .int t 6 (fun j => .int (stv 0 j)) A s s.heap ∧ ∃ (cell : Cell) (cI : ClassId), s.heap[t]? = some cell ∧ s.vm.findClass "[I" = some cI ∧ cell.cls = cI ∧ cell.vm.isStatics = false ∧ cell.vm ≠ .unknown ∧ cell.slots.size = 6 ∧ ∀ j, j < 6 → cell.slots[j]? = some (.int (stv 0 j)) := by
  have hlen : (Term.length (.static "RunTapes" "AT_FIRST" "[I")).eval args s none [] s = some (.int (Int32.ofNat 6)) := Cond.eq_int (hs (.eq (.length (.static "RunTapes" "AT_FIRST" "[I")) (.int 6)) (by decide +kernel)) rfl
  have hel : ∀ j : Nat, j < 6 → (Term.elem (.static "RunTapes" "AT_FIRST" "[I") (.int (Int32.ofNat j))).eval args s none [] s = some (.int (stv 0 j)) := by
    intro j hj
    rcases (show j = 0 ∨ j = 1 ∨ j = 2 ∨ j = 3 ∨ j = 4 ∨ j = 5 by omega) with rfl | rfl | rfl | rfl | rfl | rfl
    · exact Cond.eq_int (hs (.eq (.elem (.static "RunTapes" "AT_FIRST" "[I") (.int 0)) (.int 4)) (by decide +kernel)) rfl
    · exact Cond.eq_int (hs (.eq (.elem (.static "RunTapes" "AT_FIRST" "[I") (.int 1)) (.int 4)) (by decide +kernel)) rfl
    · exact Cond.eq_int (hs (.eq (.elem (.static "RunTapes" "AT_FIRST" "[I") (.int 2)) (.int 0)) (by decide +kernel)) rfl
    · exact Cond.eq_int (hs (.eq (.elem (.static "RunTapes" "AT_FIRST" "[I") (.int 3)) (.int 0)) (by decide +kernel)) rfl
    · exact Cond.eq_int (hs (.eq (.elem (.static "RunTapes" "AT_FIRST" "[I") (.int 4)) (.int 0)) (by decide +kernel)) rfl
    · exact Cond.eq_int (hs (.eq (.elem (.static "RunTapes" "AT_FIRST" "[I") (.int 5)) (.int 0)) (by decide +kernel)) rfl
  obtain ⟨t, ht, hT⟩ := va_Tof (A := A) (f := fun j => .int (stv 0 j)) (by decide) (hs (.arrayOf (.static "RunTapes" "AT_FIRST" "[I") .int) (by decide +kernel)) hlen hel hA
  refine ⟨t, va_Zof hl hini ht hA, hT, ?_⟩
  obtain ⟨a, cI, cell, kk, f1, f2, f3, f4, f5, f6, f7⟩ := Cond.exactly_spec (hs (.exactly (.static "RunTapes" "AT_FIRST" "[I") "[I") (by decide +kernel))
  cases ht.symm.trans f1
  obtain ⟨cell2, g1, g2, g3, g4, g5, g6, g7⟩ := hT
  cases f3.symm.trans g1
  refine ⟨cell, cI, f3, f2, f6, f5, g3, ?_, g6⟩
  obtain ⟨t3, cell3, h1, h2, h3⟩ := Term.length_spec hlen
  cases ht.symm.trans h1
  obtain ⟨c1, c2, -, -⟩ := State.arrayAt?_spec h2
  cases f3.symm.trans c1
  have hsm : cell.slots.size < 2 ^ 31 := by
    by_cases hq : cell.slots.size < 2 ^ 31
    · exact hq
    · exfalso
      rw [Term.eval, ht] at hlen
      simp [h2, hq] at hlen
  have e : Int32.ofNat cell.slots.size = Int32.ofNat 6 := g5
  have e1 := congrArg Int32.toNatClampNeg e
  rw [Int32.toNatClampNeg_ofNat_of_lt hsm] at e1
  exact e1
theorem sto_1 {args : Array Value} {s : State} {A : Nat → Prop} (hs : ∀ c ∈ flatC (Jvm.Cond.and given_1 narrow_1), c.before args s = true) (hl : (Cond.laysStatic "RunTapes" "LOWEST" "[I").before args s = true) (hini : (Cond.initialized "RunTapes").before args s = true) (hA : ∀ a : Nat, a < s.heap.size → ¬ A a) :
    ∃ t : Nat, va_Z "RunTapes" "LOWEST" "[I" (.ref t) A s s.heap ∧ va_T .int t 6 (fun j => .int (stv 1 j)) A s s.heap ∧ ∃ (cell : Cell) (cI : ClassId), s.heap[t]? = some cell ∧ s.vm.findClass "[I" = some cI ∧ cell.cls = cI ∧ cell.vm.isStatics = false ∧ cell.vm ≠ .unknown ∧ cell.slots.size = 6 ∧ ∀ j, j < 6 → cell.slots[j]? = some (.int (stv 1 j)) := by
  have hlen : (Term.length (.static "RunTapes" "LOWEST" "[I")).eval args s none [] s = some (.int (Int32.ofNat 6)) := Cond.eq_int (hs (.eq (.length (.static "RunTapes" "LOWEST" "[I")) (.int 6)) (by decide +kernel)) rfl
  have hel : ∀ j : Nat, j < 6 → (Term.elem (.static "RunTapes" "LOWEST" "[I") (.int (Int32.ofNat j))).eval args s none [] s = some (.int (stv 1 j)) := by
    intro j hj
    rcases (show j = 0 ∨ j = 1 ∨ j = 2 ∨ j = 3 ∨ j = 4 ∨ j = 5 by omega) with rfl | rfl | rfl | rfl | rfl | rfl
    · exact Cond.eq_int (hs (.eq (.elem (.static "RunTapes" "LOWEST" "[I") (.int 0)) (.int 2)) (by decide +kernel)) rfl
    · exact Cond.eq_int (hs (.eq (.elem (.static "RunTapes" "LOWEST" "[I") (.int 1)) (.int 3)) (by decide +kernel)) rfl
    · exact Cond.eq_int (hs (.eq (.elem (.static "RunTapes" "LOWEST" "[I") (.int 2)) (.int 0)) (by decide +kernel)) rfl
    · exact Cond.eq_int (hs (.eq (.elem (.static "RunTapes" "LOWEST" "[I") (.int 3)) (.int 0)) (by decide +kernel)) rfl
    · exact Cond.eq_int (hs (.eq (.elem (.static "RunTapes" "LOWEST" "[I") (.int 4)) (.int 0)) (by decide +kernel)) rfl
    · exact Cond.eq_int (hs (.eq (.elem (.static "RunTapes" "LOWEST" "[I") (.int 5)) (.int 0)) (by decide +kernel)) rfl
  obtain ⟨t, ht, hT⟩ := va_Tof (A := A) (f := fun j => .int (stv 1 j)) (by decide) (hs (.arrayOf (.static "RunTapes" "LOWEST" "[I") .int) (by decide +kernel)) hlen hel hA
  refine ⟨t, va_Zof hl hini ht hA, hT, ?_⟩
  obtain ⟨a, cI, cell, kk, f1, f2, f3, f4, f5, f6, f7⟩ := Cond.exactly_spec (hs (.exactly (.static "RunTapes" "LOWEST" "[I") "[I") (by decide +kernel))
  cases ht.symm.trans f1
  obtain ⟨cell2, g1, g2, g3, g4, g5, g6, g7⟩ := hT
  cases f3.symm.trans g1
  refine ⟨cell, cI, f3, f2, f6, f5, g3, ?_, g6⟩
  obtain ⟨t3, cell3, h1, h2, h3⟩ := Term.length_spec hlen
  cases ht.symm.trans h1
  obtain ⟨c1, c2, -, -⟩ := State.arrayAt?_spec h2
  cases f3.symm.trans c1
  have hsm : cell.slots.size < 2 ^ 31 := by
    by_cases hq : cell.slots.size < 2 ^ 31
    · exact hq
    · exfalso
      rw [Term.eval, ht] at hlen
      simp [h2, hq] at hlen
  have e : Int32.ofNat cell.slots.size = Int32.ofNat 6 := g5
  have e1 := congrArg Int32.toNatClampNeg e
  rw [Int32.toNatClampNeg_ofNat_of_lt hsm] at e1
  exact e1
theorem st_2 {args : Array Value} {s : State} {A : Nat → Prop} (hs : ∀ c ∈ flatC (Jvm.Cond.and given_1 narrow_1), c.before args s = true) (hl : (Cond.laysStatic "RunTapes" "HIGHEST" "[I").before args s = true) (hini : (Cond.initialized "RunTapes").before args s = true) (hA : ∀ a : Nat, a < s.heap.size → ¬ A a) :
    ∃ t : Nat, va_Z "RunTapes" "HIGHEST" "[I" (.ref t) A s s.heap ∧ va_T .int t 6 (fun j => .int (stv 2 j)) A s s.heap ∧ ∃ (cell : Cell) (cI : ClassId), s.heap[t]? = some cell ∧ s.vm.findClass "[I" = some cI ∧ cell.cls = cI ∧ cell.vm.isStatics = false ∧ cell.vm ≠ .unknown ∧ cell.slots.size = 6 ∧ ∀ j, j < 6 → cell.slots[j]? = some (.int (stv 2 j)) := by
  have hlen : (Term.length (.static "RunTapes" "HIGHEST" "[I")).eval args s none [] s = some (.int (Int32.ofNat 6)) := Cond.eq_int (hs (.eq (.length (.static "RunTapes" "HIGHEST" "[I")) (.int 6)) (by decide +kernel)) rfl
  have hel : ∀ j : Nat, j < 6 → (Term.elem (.static "RunTapes" "HIGHEST" "[I") (.int (Int32.ofNat j))).eval args s none [] s = some (.int (stv 2 j)) := by
    intro j hj
    rcases (show j = 0 ∨ j = 1 ∨ j = 2 ∨ j = 3 ∨ j = 4 ∨ j = 5 by omega) with rfl | rfl | rfl | rfl | rfl | rfl
    · exact Cond.eq_int (hs (.eq (.elem (.static "RunTapes" "HIGHEST" "[I") (.int 0)) (.int 16)) (by decide +kernel)) rfl
    · exact Cond.eq_int (hs (.eq (.elem (.static "RunTapes" "HIGHEST" "[I") (.int 1)) (.int 6)) (by decide +kernel)) rfl
    · exact Cond.eq_int (hs (.eq (.elem (.static "RunTapes" "HIGHEST" "[I") (.int 2)) (.int 2)) (by decide +kernel)) rfl
    · exact Cond.eq_int (hs (.eq (.elem (.static "RunTapes" "HIGHEST" "[I") (.int 3)) (.int 1)) (by decide +kernel)) rfl
    · exact Cond.eq_int (hs (.eq (.elem (.static "RunTapes" "HIGHEST" "[I") (.int 4)) (.int 1)) (by decide +kernel)) rfl
    · exact Cond.eq_int (hs (.eq (.elem (.static "RunTapes" "HIGHEST" "[I") (.int 5)) (.int 1)) (by decide +kernel)) rfl
  obtain ⟨t, ht, hT⟩ := va_Tof (A := A) (f := fun j => .int (stv 2 j)) (by decide) (hs (.arrayOf (.static "RunTapes" "HIGHEST" "[I") .int) (by decide +kernel)) hlen hel hA
  refine ⟨t, va_Zof hl hini ht hA, hT, ?_⟩
  obtain ⟨a, cI, cell, kk, f1, f2, f3, f4, f5, f6, f7⟩ := Cond.exactly_spec (hs (.exactly (.static "RunTapes" "HIGHEST" "[I") "[I") (by decide +kernel))
  cases ht.symm.trans f1
  obtain ⟨cell2, g1, g2, g3, g4, g5, g6, g7⟩ := hT
  cases f3.symm.trans g1
  refine ⟨cell, cI, f3, f2, f6, f5, g3, ?_, g6⟩
  obtain ⟨t3, cell3, h1, h2, h3⟩ := Term.length_spec hlen
  cases ht.symm.trans h1
  obtain ⟨c1, c2, -, -⟩ := State.arrayAt?_spec h2
  cases f3.symm.trans c1
  have hsm : cell.slots.size < 2 ^ 31 := by
    by_cases hq : cell.slots.size < 2 ^ 31
    · exact hq
    · exfalso
      rw [Term.eval, ht] at hlen
      simp [h2, hq] at hlen
  have e : Int32.ofNat cell.slots.size = Int32.ofNat 6 := g5
  have e1 := congrArg Int32.toNatClampNeg e
  rw [Int32.toNatClampNeg_ofNat_of_lt hsm] at e1
  exact e1
