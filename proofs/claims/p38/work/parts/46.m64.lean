theorem rc_m95_c1 : rq_chk2 rc_m95_t 20000 rc_m95_k (rx_flag [88] rx_m147) ([], 73142) rc_m95_r rc_m95_o rc_m95_p1 = true := rq_chk3_ok (ix := [43, 44, 45, 46, 47, 48, 49]) (by decide +kernel)
