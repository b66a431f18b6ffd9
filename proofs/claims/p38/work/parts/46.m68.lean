theorem rc_m95_c5_0 : rq_chk3 rc_m95_t 20000 rc_m95_k (rx_flag [88] rx_m147) rc_m95_r rc_m95_o [65] (rc_m95_p5.take 1) = true := by decide +kernel
theorem rc_m95_c5_1 : rq_chk3 rc_m95_t 20000 rc_m95_k (rx_flag [88] rx_m147) rc_m95_r rc_m95_o [66] ((rc_m95_p5.drop 1).take 1) = true := by decide +kernel
theorem rc_m95_c5_2 : rq_chk3 rc_m95_t 20000 rc_m95_k (rx_flag [88] rx_m147) rc_m95_r rc_m95_o [67] (((rc_m95_p5.drop 1).drop 1).take 1) = true := by decide +kernel
theorem rc_m95_c5_3 : rq_chk3 rc_m95_t 20000 rc_m95_k (rx_flag [88] rx_m147) rc_m95_r rc_m95_o [68] (((rc_m95_p5.drop 1).drop 1).drop 1) = true := by decide +kernel
theorem rc_m95_c5 : rq_chk2 rc_m95_t 20000 rc_m95_k (rx_flag [88] rx_m147) ([], 73142) rc_m95_r rc_m95_o rc_m95_p5 = true := rq_chk2_app 1 (rq_chk3_ok rc_m95_c5_0) (rq_chk2_app 1 (rq_chk3_ok rc_m95_c5_1) (rq_chk2_app 1 (rq_chk3_ok rc_m95_c5_2) (rq_chk3_ok rc_m95_c5_3)))
