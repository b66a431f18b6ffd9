theorem la_c0 : la_cs [rc_k01_k, rc_m04_k] 0 0 = true := by decide +kernel
