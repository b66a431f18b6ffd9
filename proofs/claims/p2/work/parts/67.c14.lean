theorem la_c14 : la_cs [rc_k14_k, rc_m53_k] 14 14 = true := by decide +kernel
