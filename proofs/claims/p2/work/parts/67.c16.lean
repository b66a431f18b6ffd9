theorem la_c16 : la_cs [rc_k16_k, rc_fit_k] 16 16 = true := by decide +kernel
