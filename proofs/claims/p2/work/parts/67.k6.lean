theorem la_c6 : la_k6 [rc_s2_k, rc_s3_k] [rc_m38_k] = true := by decide +kernel
