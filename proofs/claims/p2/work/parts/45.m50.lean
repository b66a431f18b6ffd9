theorem ca_l3_1 : (List.range 64).all (ca_g3 1) = true := by decide +kernel
