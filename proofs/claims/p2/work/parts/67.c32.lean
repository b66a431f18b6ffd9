set_option maxRecDepth 100000 in
theorem la_c32a : la_csX [] 32 (-2147483648) (-1) = true := by decide +kernel
set_option maxRecDepth 100000 in
theorem la_c32b : la_csX [rc_h1_k, rc_b4_k, rc_b2_k, rc_sb_k, rc_m95_k] 32 0 1 = true := by decide +kernel
set_option maxRecDepth 100000 in
theorem la_c32c : la_csX [] 32 2 2147483647 = true := by decide +kernel
