set_option maxRecDepth 100000 in
theorem la_c0 : la_csX [rc_m03_k] 0 (-2147483648) 2147483647 = true := by decide +kernel
