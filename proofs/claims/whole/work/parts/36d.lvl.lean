/-- places enough for 150 runs -/
theorem lv_03 : 150 ≤ smp 0 2 11 ∧ cntF (fun i => decide (smp 0 2 i < 2 ^ 31)) 12 = 12 := by decide +kernel
theorem lv_04 : 150 ≤ smp 0 3 8 ∧ cntF (fun i => decide (smp 0 3 i < 2 ^ 31)) 9 = 9 := by decide +kernel
theorem lv_05 : 150 ≤ smp 0 4 7 ∧ cntF (fun i => decide (smp 0 4 i < 2 ^ 31)) 8 = 8 := by decide +kernel
theorem lv_06 : 150 ≤ smp 0 5 7 ∧ cntF (fun i => decide (smp 0 5 i < 2 ^ 31)) 8 = 8 := by decide +kernel
theorem lv_23 : 150 ≤ smp 2 2 11 ∧ cntF (fun i => decide (smp 2 2 i < 2 ^ 31)) 12 = 12 := by decide +kernel
theorem lv_24 : 150 ≤ smp 2 3 6 ∧ cntF (fun i => decide (smp 2 3 i < 2 ^ 31)) 7 = 7 := by decide +kernel
theorem lv_25 : 150 ≤ smp 2 4 5 ∧ cntF (fun i => decide (smp 2 4 i < 2 ^ 31)) 6 = 6 := by decide +kernel
theorem lv_26 : 150 ≤ smp 2 5 5 ∧ cntF (fun i => decide (smp 2 5 i < 2 ^ 31)) 6 = 6 := by decide +kernel
