
noncomputable def rc_m48_v6_k : rx_KE := ((263, 6), ([(0, 0), (1, 14), (1, 17)], rc_p11, [(1, 1), (1, 15), (1, 16), (1, 18), (1, 19), (1, 20), (1, 21), (1, 22), (1, 23), (1, 27), (1, 28), (1, 29), (1, 32), (1, 33), (1, 38), (1, 41), (1, 42), (1, 45)]), ((rc_b51, []), rc_m48_h, [.inr (.inr (.inl (some 0)))]), rc_m48_o.map Prod.fst)
noncomputable def rc_m48_v6_r : List rx_Cu := []
theorem rc_m48_v6 : rx_OK rc_m48_v6_k := rs_ok_of (KT := []) (fuel := 20000) (M0 := rx_m263) (fl := [50]) (m0 := ([], 0)) (rest := rc_m48_v6_r) (outs := rc_m48_o) (rx_oknil) rfl rfl (by decide +kernel)
