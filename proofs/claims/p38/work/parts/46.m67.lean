theorem rc_m95_c4_0 : rq_chk3 rc_m95_t 20000 rc_m95_k (rx_flag [88] rx_m147) rc_m95_r rc_m95_o [61] (rc_m95_p4.take 1) = true := by decide +kernel
theorem rc_m95_c4_1 : rq_chk3 rc_m95_t 20000 rc_m95_k (rx_flag [88] rx_m147) rc_m95_r rc_m95_o [62] ((rc_m95_p4.drop 1).take 1) = true := by decide +kernel
theorem rc_m95_c4_2 : rq_chk3 rc_m95_t 20000 rc_m95_k (rx_flag [88] rx_m147) rc_m95_r rc_m95_o [63] (((rc_m95_p4.drop 1).drop 1).take 1) = true := by decide +kernel
theorem rc_m95_c4_3 : rq_chk3 rc_m95_t 20000 rc_m95_k (rx_flag [88] rx_m147) rc_m95_r rc_m95_o [64] (((rc_m95_p4.drop 1).drop 1).drop 1) = true := by decide +kernel
theorem rc_m95_c4 : rq_chk2 rc_m95_t 20000 rc_m95_k (rx_flag [88] rx_m147) ([], 73142) rc_m95_r rc_m95_o rc_m95_p4 = true := rq_chk2_app 1 (rq_chk3_ok rc_m95_c4_0) (rq_chk2_app 1 (rq_chk3_ok rc_m95_c4_1) (rq_chk2_app 1 (rq_chk3_ok rc_m95_c4_2) (rq_chk3_ok rc_m95_c4_3)))
