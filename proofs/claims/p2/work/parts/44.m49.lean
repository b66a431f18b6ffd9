theorem ca_l3_0 : (List.range 64).all (ca_g3 0) = true := by decide +kernel
