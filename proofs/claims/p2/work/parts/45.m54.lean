theorem ca_l3_5 : (List.range 64).all (ca_g3 5) = true := by decide +kernel
