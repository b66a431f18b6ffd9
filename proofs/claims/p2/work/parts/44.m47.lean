theorem ca_l2_4 : (List.range 63).all (ca_g2 4) = true := by decide +kernel
