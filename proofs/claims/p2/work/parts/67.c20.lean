theorem la_c20 : la_cs [rc_k20_k, rc_m59_k] 20 20 = true := by decide +kernel
