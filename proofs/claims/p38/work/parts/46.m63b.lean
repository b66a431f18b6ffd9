theorem rc_m95_c0b : rq_chk2 rc_m95_t 20000 rc_m95_k (rx_flag [88] rx_m147) ([], 73142) rc_m95_r rc_m95_o ((rc_m95_p0.drop 6).take 6) = true := by decide +kernel
