theorem la_c17 : la_cs [rc_k17_k, rc_m55_k] 17 17 = true := by decide +kernel
