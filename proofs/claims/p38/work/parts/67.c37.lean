theorem la_c37 : la_cs [rc_k39_k, rn_n85_k] 37 37 = true := by decide +kernel
