theorem rc_m40_v8_c0 : (List.range 61).all (fun j => rx_leg2 [] 6 (rx_flag [] rx_m248) 3 175 [11] 20000 (rc_m40_v8_S (0 + j)) [(rc_m40_v8_S (0 + j + 1), [], some [], [])]) = true := by decide +kernel
