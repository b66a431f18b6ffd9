theorem rc_m95_c2_0 : rq_chk3 rc_m95_t 20000 rc_m95_k (rx_flag [88] rx_m147) rc_m95_r rc_m95_o [50] (rc_m95_p2.take 1) = true := by decide +kernel
theorem rc_m95_c2_1 : rq_chk3 rc_m95_t 20000 rc_m95_k (rx_flag [88] rx_m147) rc_m95_r rc_m95_o [51] ((rc_m95_p2.drop 1).take 1) = true := by decide +kernel
theorem rc_m95_c2_2 : rq_chk3 rc_m95_t 20000 rc_m95_k (rx_flag [88] rx_m147) rc_m95_r rc_m95_o [52] (((rc_m95_p2.drop 1).drop 1).take 1) = true := by decide +kernel
theorem rc_m95_c2_3 : rq_chk3 rc_m95_t 20000 rc_m95_k (rx_flag [88] rx_m147) rc_m95_r rc_m95_o [53] ((((rc_m95_p2.drop 1).drop 1).drop 1).take 1) = true := by decide +kernel
theorem rc_m95_c2_4 : rq_chk3 rc_m95_t 20000 rc_m95_k (rx_flag [88] rx_m147) rc_m95_r rc_m95_o [54] (((((rc_m95_p2.drop 1).drop 1).drop 1).drop 1).take 1) = true := by decide +kernel
theorem rc_m95_c2_5 : rq_chk3 rc_m95_t 20000 rc_m95_k (rx_flag [88] rx_m147) rc_m95_r rc_m95_o [55] (((((rc_m95_p2.drop 1).drop 1).drop 1).drop 1).drop 1) = true := by decide +kernel
theorem rc_m95_c2 : rq_chk2 rc_m95_t 20000 rc_m95_k (rx_flag [88] rx_m147) ([], 73142) rc_m95_r rc_m95_o rc_m95_p2 = true := rq_chk2_app 1 (rq_chk3_ok rc_m95_c2_0) (rq_chk2_app 1 (rq_chk3_ok rc_m95_c2_1) (rq_chk2_app 1 (rq_chk3_ok rc_m95_c2_2) (rq_chk2_app 1 (rq_chk3_ok rc_m95_c2_3) (rq_chk2_app 1 (rq_chk3_ok rc_m95_c2_4) (rq_chk3_ok rc_m95_c2_5)))))
