theorem rc_q8_c8 : rx_chk2 rc_q8_t 20000 rc_q8_k (rx_flag [14, 77, 90] rx_m65) ([], 5670) rc_q8_r rc_q8_o rc_q8_p8 = true := by decide +kernel
