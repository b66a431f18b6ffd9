theorem la_c23 : la_cs [rc_k24_k, rc_m64_k] 23 23 = true := by decide +kernel
