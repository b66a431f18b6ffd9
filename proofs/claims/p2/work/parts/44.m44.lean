theorem ca_l2_1 : (List.range 63).all (ca_g2 1) = true := by decide +kernel
