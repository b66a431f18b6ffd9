theorem la_c12 : la_cs [rc_k12_k, rc_m52_k] 12 12 = true := by decide +kernel
