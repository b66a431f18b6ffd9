theorem la_c1 : la_cs [rc_k02_k, rc_m86_k] 1 1 = true := by decide +kernel
