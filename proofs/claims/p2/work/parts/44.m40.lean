theorem ca_l1_3 : (List.range 63).all (ca_g1 3) = true := by decide +kernel
