set_option maxRecDepth 100000 in
theorem gd_15' : cntF (fun n => goodF 1 5 2 699 (skb 5 (n + 1))) 150 = 150 := by decide +kernel
theorem gd_15 : cntF (fun n => good 1 5 2 699 (skb 5 (n + 1))) 150 = 150 := by simp only [← goodF_eq]; exact gd_15'
