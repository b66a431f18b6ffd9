set_option maxRecDepth 100000 in
theorem la_c36a : la_cs2 [rc_k41_k, rn_n84_k] 36 (-2147483648) (-1) = true := by decide +kernel
set_option maxRecDepth 100000 in
theorem la_c36b : la_cs2 [rc_k41_k, rn_n84_k] 36 0 0 = true := by decide +kernel
set_option maxRecDepth 100000 in
theorem la_c36c : la_cs2 [rc_k41_k, rn_n84_k] 36 1 1 = true := by decide +kernel
set_option maxRecDepth 100000 in
theorem la_c36d : la_cs2 [rc_k41_k, rn_n84_k] 36 2 2147483647 = true := by decide +kernel
