set_option maxRecDepth 100000 in
theorem la_c1 : la_csX [] 1 (-2147483648) 2147483647 = true := by decide +kernel
