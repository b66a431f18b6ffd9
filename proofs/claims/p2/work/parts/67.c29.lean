theorem la_c29 : la_cs [rc_k31_k, rc_m72_k] 29 29 = true := by decide +kernel
