theorem la_c4 : la_cs [rc_k05_k, rc_m36_k] 4 4 = true := by decide +kernel
