theorem ly_l0 : (List.range 6).all (fun t => rx_leg [] 4 (rx_flag [] rx_m192) 5 179 179 [43] 400 (rx_nar (rx_ent ly_K ([], 0)).1 [(176, (t : Int), (t : Int))]) (ly_t0 t)) = true := by decide +kernel
theorem ly_l1 : rx_leg [] 4 (rx_flag [] rx_m192) 5 179 179 [43, 57] 400 ly_S ly_t1 = true := by decide +kernel
theorem ly_l2 : rx_leg [] 4 (rx_flag [] rx_m192) 5 179 179 [43] 400 (ly_S60 0) ly_t2 = true := by decide +kernel
theorem ly_h57 : rx_hchk 170 rx_m170 ly_S57.1 ly_hF 178 186 = true := by decide +kernel
theorem ly_lS : ly_S.1.1.length = 187 := by decide +kernel
theorem ly_lO : ly_O.1.1.length = 185 := by decide +kernel
theorem ly_l57 : ly_S57.1.1.length = 187 := by decide +kernel
