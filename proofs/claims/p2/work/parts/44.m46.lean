theorem ca_l2_3 : (List.range 63).all (ca_g2 3) = true := by decide +kernel
