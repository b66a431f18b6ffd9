theorem la_c15 : la_cs [rc_k15_k, rc_m54_k] 15 15 = true := by decide +kernel
