theorem la_c35 : la_cs [rc_k37_k, rn_n83_k] 35 35 = true := by decide +kernel
