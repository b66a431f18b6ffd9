theorem la_c9 : la_cs [rc_k09_k, rc_m45_k] 9 9 = true := by decide +kernel
