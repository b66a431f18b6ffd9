theorem la_c10 : la_cs [rc_k10_k, rc_m46_k] 10 10 = true := by decide +kernel
