set_option maxRecDepth 100000 in
theorem la_c37a : la_cs2 [rc_k39_k, rn_n85_k] 37 (-2147483648) (-1) = true := by decide +kernel
