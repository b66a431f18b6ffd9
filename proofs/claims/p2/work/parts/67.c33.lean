theorem la_c33 : la_cs [rc_k35_k, rc_m96_k] 33 33 = true := by decide +kernel
