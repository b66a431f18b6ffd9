theorem wy_l0 : wy_lg [44] (rx_ent rc_way_k ([], 0)).1 wy_t0 = true := by decide +kernel
theorem wy_l1 : (List.range 6).all wy_g1 = true := by decide +kernel
theorem wy_l2 : wy_lg [93] (rx_nar wy_V [(187, 0, 5)]) wy_t2 = true := by decide +kernel
theorem wy_l3 : wy_lg [89] (wy_V96 0) wy_tn = true := by decide +kernel
theorem wy_h93 : rx_hchk 170 rx_m170 wy_V93.1 wy_hV 178 187 = true := by decide +kernel
theorem wy_lV : wy_V.1.1.length = 189 := by decide +kernel
theorem wy_lV93 : wy_V93.1.1.length = 189 := by decide +kernel
theorem wy_l47 : ly_O.1.1.length = 185 := ly_lO
