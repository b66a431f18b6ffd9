theorem rc_m95_c7_0 : rq_chk3 rc_m95_t 20000 rc_m95_k (rx_flag [88] rx_m147) rc_m95_r rc_m95_o [72] (rc_m95_p7.take 1) = true := by decide +kernel
theorem rc_m95_c7_1 : rq_chk3 rc_m95_t 20000 rc_m95_k (rx_flag [88] rx_m147) rc_m95_r rc_m95_o [73] ((rc_m95_p7.drop 1).take 1) = true := by decide +kernel
theorem rc_m95_c7_2 : rq_chk3 rc_m95_t 20000 rc_m95_k (rx_flag [88] rx_m147) rc_m95_r rc_m95_o [74] ((rc_m95_p7.drop 1).drop 1) = true := by decide +kernel
theorem rc_m95_c7 : rq_chk2 rc_m95_t 20000 rc_m95_k (rx_flag [88] rx_m147) ([], 73142) rc_m95_r rc_m95_o rc_m95_p7 = true := rq_chk2_app 1 (rq_chk3_ok rc_m95_c7_0) (rq_chk2_app 1 (rq_chk3_ok rc_m95_c7_1) (rq_chk3_ok rc_m95_c7_2))
