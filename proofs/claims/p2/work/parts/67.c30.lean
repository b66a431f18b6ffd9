theorem la_c30 : la_cs [rc_k32_k, rc_m80_k] 30 30 = true := by decide +kernel
