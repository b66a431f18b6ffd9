theorem rc_m95_c9_0 : rq_chk3 rc_m95_t 20000 rc_m95_k (rx_flag [88] rx_m147) rc_m95_r rc_m95_o [78] (rc_m95_p9.take 1) = true := by decide +kernel
theorem rc_m95_c9_1 : rq_chk3 rc_m95_t 20000 rc_m95_k (rx_flag [88] rx_m147) rc_m95_r rc_m95_o [79] ((rc_m95_p9.drop 1).take 1) = true := by decide +kernel
theorem rc_m95_c9_2 : rq_chk3 rc_m95_t 20000 rc_m95_k (rx_flag [88] rx_m147) rc_m95_r rc_m95_o [80] ((rc_m95_p9.drop 1).drop 1) = true := by decide +kernel
theorem rc_m95_c9 : rq_chk2 rc_m95_t 20000 rc_m95_k (rx_flag [88] rx_m147) ([], 73142) rc_m95_r rc_m95_o rc_m95_p9 = true := rq_chk2_app 1 (rq_chk3_ok rc_m95_c9_0) (rq_chk2_app 1 (rq_chk3_ok rc_m95_c9_1) (rq_chk3_ok rc_m95_c9_2))
