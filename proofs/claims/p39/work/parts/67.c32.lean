theorem la_c32 : la_cs [rc_k34_k, rc_m95_k] 32 32 = true := by decide +kernel
