theorem rc_m95_c10_0 : rq_chk3 rc_m95_t 20000 rc_m95_k (rx_flag [88] rx_m147) rc_m95_r rc_m95_o [81] rc_m95_p10 = true := by decide +kernel
theorem rc_m95_c10 : rq_chk2 rc_m95_t 20000 rc_m95_k (rx_flag [88] rx_m147) ([], 73142) rc_m95_r rc_m95_o rc_m95_p10 = true := rq_chk3_ok rc_m95_c10_0
