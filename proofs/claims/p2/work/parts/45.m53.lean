theorem ca_l3_4 : (List.range 64).all (ca_g3 4) = true := by decide +kernel
