theorem la_c13 : la_cs [rc_k13_k, rc_m48_k] 13 13 = true := by decide +kernel
