theorem la_c11 : la_cs [rc_k11_k, rc_m47_k] 11 11 = true := by decide +kernel
