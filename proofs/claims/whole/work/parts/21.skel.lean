/-! skeletons: perfect numbers are merged to one run -/
def pfn (w k : Nat) : Nat → List Nat
  | 0 => tab (fun i => if i = 0 then 1 else 0) k
  | l + 1 => if w = 0 then tab (fun i => (pfn w k l).getD 0 0 + (if i + 1 < k then (pfn w k l).getD (i + 1) 0 else 0)) k else tab (fun i => sumF (fun j => (pfn w k l).getD j 0) (k - i)) k
def opn (T to : Nat) (cs : List Nat) : List Bool := tab (fun t => !(cs.getD t 0 == 0) && !(t == to)) T
def sk0 (w T l : Nat) : Sk := (tab (fun t => (pfn w (T - 1) l).getD t 0) T, T - 1, opn T (T - 1) (tab (fun t => (pfn w (T - 1) l).getD t 0) T), true)
def gdl (w T l : Nat) : Bool := good w T (T / 2) 699 (sk0 w T l) && (cntF (fun t => decide ((pfn w (T - 1) l).getD t 0 ≤ 253)) (T - 1) == T - 1)
theorem gd_03 : cntF (gdl 0 3) 12 = 12 := by decide +kernel
theorem gd_04 : cntF (gdl 0 4) 9 = 9 := by decide +kernel
theorem gd_05 : cntF (gdl 0 5) 8 = 8 := by decide +kernel
theorem gd_06 : cntF (gdl 0 6) 8 = 8 := by decide +kernel
theorem gd_23 : cntF (gdl 2 3) 12 = 12 := by decide +kernel
theorem gd_24 : cntF (gdl 2 4) 7 = 7 := by decide +kernel
theorem gd_25 : cntF (gdl 2 5) 6 = 6 := by decide +kernel
theorem gd_26 : cntF (gdl 2 6) 6 = 6 := by decide +kernel
