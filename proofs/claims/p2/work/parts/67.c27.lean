theorem la_c27 : la_cs [rc_k29_k, rc_m71_k] 27 27 = true := by decide +kernel
