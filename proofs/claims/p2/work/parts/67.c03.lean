theorem la_c3 : la_cs [rc_k04_k, rc_m85_k] 3 3 = true := by decide +kernel
