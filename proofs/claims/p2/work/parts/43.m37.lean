theorem ca_l1_0 : (List.range 63).all (ca_g1 0) = true := by decide +kernel
