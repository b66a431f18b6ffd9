theorem la_c26 : la_cs [rc_k28_k, rc_m70_k] 26 26 = true := by decide +kernel
