theorem la_c2 : la_cs [rc_k03_k, rc_m88_k] 2 2 = true := by decide +kernel
