theorem la_c24 : la_cs [rc_k26_k, rc_m68_k] 24 24 = true := by decide +kernel
