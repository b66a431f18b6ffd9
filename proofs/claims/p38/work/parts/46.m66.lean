theorem rc_m95_c3_0 : rq_chk3 rc_m95_t 20000 rc_m95_k (rx_flag [88] rx_m147) rc_m95_r rc_m95_o [56] (rc_m95_p3.take 1) = true := by decide +kernel
theorem rc_m95_c3_1 : rq_chk3 rc_m95_t 20000 rc_m95_k (rx_flag [88] rx_m147) rc_m95_r rc_m95_o [57] ((rc_m95_p3.drop 1).take 1) = true := by decide +kernel
theorem rc_m95_c3_2 : rq_chk3 rc_m95_t 20000 rc_m95_k (rx_flag [88] rx_m147) rc_m95_r rc_m95_o [58] (((rc_m95_p3.drop 1).drop 1).take 1) = true := by decide +kernel
theorem rc_m95_c3_3 : rq_chk3 rc_m95_t 20000 rc_m95_k (rx_flag [88] rx_m147) rc_m95_r rc_m95_o [59] ((((rc_m95_p3.drop 1).drop 1).drop 1).take 1) = true := by decide +kernel
theorem rc_m95_c3_4 : rq_chk3 rc_m95_t 20000 rc_m95_k (rx_flag [88] rx_m147) rc_m95_r rc_m95_o [60] ((((rc_m95_p3.drop 1).drop 1).drop 1).drop 1) = true := by decide +kernel
theorem rc_m95_c3 : rq_chk2 rc_m95_t 20000 rc_m95_k (rx_flag [88] rx_m147) ([], 73142) rc_m95_r rc_m95_o rc_m95_p3 = true := rq_chk2_app 1 (rq_chk3_ok rc_m95_c3_0) (rq_chk2_app 1 (rq_chk3_ok rc_m95_c3_1) (rq_chk2_app 1 (rq_chk3_ok rc_m95_c3_2) (rq_chk2_app 1 (rq_chk3_ok rc_m95_c3_3) (rq_chk3_ok rc_m95_c3_4))))
