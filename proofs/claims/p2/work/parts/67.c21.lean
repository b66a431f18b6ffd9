theorem la_c21 : la_cs [rc_k22_k, rc_m63_k] 21 21 = true := by decide +kernel
