theorem la_c36a : la_cs2 [rc_k41_k, rc_k38_k, rn_n84_k, rc_k39_k, rn_n85_k] 36 (-2147483648) (-1) = true := by decide +kernel
theorem la_c36b : la_cs2 [rc_k41_k, rc_k38_k, rn_n84_k, rc_k39_k, rn_n85_k] 36 0 0 = true := by decide +kernel
theorem la_c36c : la_cs2 [rc_k41_k, rc_k38_k, rn_n84_k, rc_k39_k, rn_n85_k] 36 1 1 = true := by decide +kernel
theorem la_c36d : la_cs2 [rc_k41_k, rc_k38_k, rn_n84_k, rc_k39_k, rn_n85_k] 36 2 2147483647 = true := by decide +kernel
