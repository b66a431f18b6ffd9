theorem rc_m95_c0e : rq_chk2 rc_m95_t 20000 rc_m95_k (rx_flag [88] rx_m147) ([], 73142) rc_m95_r rc_m95_o (((((rc_m95_p0.drop 6).drop 6).drop 6).drop 6).take 7) = true := by decide +kernel
