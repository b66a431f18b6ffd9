theorem ca_l2_0 : (List.range 63).all (ca_g2 0) = true := by decide +kernel
