theorem ca_l2_2 : (List.range 63).all (ca_g2 2) = true := by decide +kernel
