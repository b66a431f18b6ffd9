theorem la_c38 : la_cs [rc_k40_k, rc_m84_k] 38 38 = true := by decide +kernel
