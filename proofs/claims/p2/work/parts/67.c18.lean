theorem la_c18 : la_cs [rc_k18_k, rc_m56_k] 18 18 = true := by decide +kernel
