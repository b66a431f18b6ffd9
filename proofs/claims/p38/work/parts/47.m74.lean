theorem rc_m95_ok : rx_OK rc_m95_k := sorry
