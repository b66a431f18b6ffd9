theorem la_c39 : la_cs [] 39 63 = true := by decide +kernel
