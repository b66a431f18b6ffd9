theorem rc_m95_c6_0 : rq_chk3 rc_m95_t 20000 rc_m95_k (rx_flag [88] rx_m147) rc_m95_r rc_m95_o [69] (rc_m95_p6.take 1) = true := by decide +kernel
theorem rc_m95_c6_1 : rq_chk3 rc_m95_t 20000 rc_m95_k (rx_flag [88] rx_m147) rc_m95_r rc_m95_o [70] ((rc_m95_p6.drop 1).take 1) = true := by decide +kernel
theorem rc_m95_c6_2 : rq_chk3 rc_m95_t 20000 rc_m95_k (rx_flag [88] rx_m147) rc_m95_r rc_m95_o [71] ((rc_m95_p6.drop 1).drop 1) = true := by decide +kernel
theorem rc_m95_c6 : rq_chk2 rc_m95_t 20000 rc_m95_k (rx_flag [88] rx_m147) ([], 73142) rc_m95_r rc_m95_o rc_m95_p6 = true := rq_chk2_app 1 (rq_chk3_ok rc_m95_c6_0) (rq_chk2_app 1 (rq_chk3_ok rc_m95_c6_1) (rq_chk3_ok rc_m95_c6_2))
