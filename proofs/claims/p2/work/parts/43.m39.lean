theorem ca_l1_2 : (List.range 63).all (ca_g1 2) = true := by decide +kernel
