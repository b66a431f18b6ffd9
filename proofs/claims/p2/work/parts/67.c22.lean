theorem la_c22 : la_cs [rc_k23_k, rc_way_k] 22 22 = true := by decide +kernel
