theorem la_c8 : la_cs [rc_k08_k, rc_m44_k] 8 8 = true := by decide +kernel
