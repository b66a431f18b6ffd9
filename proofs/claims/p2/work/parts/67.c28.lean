theorem la_c28 : la_cs [rc_k30_k, rc_m74_k] 28 28 = true := by decide +kernel
