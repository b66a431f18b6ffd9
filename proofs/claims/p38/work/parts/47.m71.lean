theorem rc_m95_c8_0 : rq_chk3 rc_m95_t 20000 rc_m95_k (rx_flag [88] rx_m147) rc_m95_r rc_m95_o [75] (rc_m95_p8.take 1) = true := by decide +kernel
theorem rc_m95_c8_1 : rq_chk3 rc_m95_t 20000 rc_m95_k (rx_flag [88] rx_m147) rc_m95_r rc_m95_o [76] ((rc_m95_p8.drop 1).take 1) = true := by decide +kernel
theorem rc_m95_c8_2 : rq_chk3 rc_m95_t 20000 rc_m95_k (rx_flag [88] rx_m147) rc_m95_r rc_m95_o [77] ((rc_m95_p8.drop 1).drop 1) = true := by decide +kernel
theorem rc_m95_c8 : rq_chk2 rc_m95_t 20000 rc_m95_k (rx_flag [88] rx_m147) ([], 73142) rc_m95_r rc_m95_o rc_m95_p8 = true := rq_chk2_app 1 (rq_chk3_ok rc_m95_c8_0) (rq_chk2_app 1 (rq_chk3_ok rc_m95_c8_1) (rq_chk3_ok rc_m95_c8_2))
