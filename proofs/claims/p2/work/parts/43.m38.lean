theorem ca_l1_1 : (List.range 63).all (ca_g1 1) = true := by decide +kernel
