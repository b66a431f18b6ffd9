theorem ca_l3_2 : (List.range 64).all (ca_g3 2) = true := by decide +kernel
