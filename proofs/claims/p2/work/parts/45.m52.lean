theorem ca_l3_3 : (List.range 64).all (ca_g3 3) = true := by decide +kernel
