theorem la_c19 : la_cs [rc_k19_k, rc_m58_k] 19 19 = true := by decide +kernel
