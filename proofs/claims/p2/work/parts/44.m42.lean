theorem ca_l1_5 : (List.range 63).all (ca_g1 5) = true := by decide +kernel
