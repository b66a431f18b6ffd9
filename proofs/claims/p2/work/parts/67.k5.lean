theorem la_c5 : la_k5 [rc_wc_k] [rc_m37_k] = true := by decide +kernel
