theorem la_c25 : la_cs [rc_k27_k, rc_m69_k] 25 25 = true := by decide +kernel
