theorem ca_l2_5 : (List.range 63).all (ca_g2 5) = true := by decide +kernel
