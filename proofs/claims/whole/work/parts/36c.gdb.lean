set_option maxRecDepth 100000 in
theorem gd_16' : cntF (fun n => goodF 1 6 3 699 (skb 6 (n + 1))) 150 = 150 := by decide +kernel
theorem gd_16 : cntF (fun n => good 1 6 3 699 (skb 6 (n + 1))) 150 = 150 := by simp only [← goodF_eq]; exact gd_16'
