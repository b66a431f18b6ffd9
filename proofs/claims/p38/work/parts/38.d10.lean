theorem rc_q8_c9 : rx_chk2 rc_q8_t 20000 rc_q8_k (rx_flag [14, 77, 90] rx_m65) ([], 5670) rc_q8_r rc_q8_o rc_q8_p9 = true := by decide +kernel
