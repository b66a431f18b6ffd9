theorem ca_l1_4 : (List.range 63).all (ca_g1 4) = true := by decide +kernel
