set_option maxRecDepth 100000 in
theorem la_c37a : la_cs2 [rc_k39_k, rn_n85_k] 37 (-2147483648) (-1) = true := by decide +kernel
set_option maxRecDepth 100000 in
theorem la_c37b : la_cs2 [rc_k39_k, rn_n85_k] 37 0 0 = true := by decide +kernel
set_option maxRecDepth 100000 in
theorem la_c37c : la_cs2 [rc_k39_k, rn_n85_k] 37 1 1 = true := by decide +kernel
set_option maxRecDepth 100000 in
theorem la_c37d : la_cs2 [rc_k39_k, rn_n85_k] 37 2 2147483647 = true := by decide +kernel
