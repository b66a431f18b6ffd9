theorem la_c36 : la_cs [rc_k41_k, rc_k38_k, rn_n84_k, rc_k39_k, rn_n85_k] 36 36 = true := by decide +kernel
