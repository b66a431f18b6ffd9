theorem la_c7 : la_cs [rc_k06_k, rc_m39_k] 7 7 = true := by decide +kernel
