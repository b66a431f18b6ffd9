set_option maxRecDepth 100000 in
theorem la_c37d : la_cs2 [rc_k39_k, rn_n85_k] 37 2 2147483647 = true := by decide +kernel
