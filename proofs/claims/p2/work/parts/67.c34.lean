theorem la_c34 : la_cs [rc_k36_k, rn_n80_k] 34 34 = true := by decide +kernel
