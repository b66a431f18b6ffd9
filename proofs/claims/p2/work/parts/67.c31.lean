theorem la_c31 : la_cs [rc_k33_k, rc_m81_k] 31 31 = true := by decide +kernel
