
noncomputable def rn_n84_v3_k : rx_KE := ((172, 6), ([(0, 0), (1, 14), (1, 16), (1, 19), (1, 21), (1, 22)], rc_p96, [(1, 1), (1, 15), (1, 17), (1, 18), (1, 20), (1, 23), (1, 27), (1, 28), (1, 29), (1, 32), (1, 33), (1, 38), (1, 41), (1, 42), (1, 45)]), ((rc_b228, rc_f78), rn_n84_h, [.inr (.inr (.inl (some 0))), .inl (468, 0)]), rn_n84_o.map Prod.fst)
noncomputable def rn_n84_v3_r : List rx_Cu := []
theorem rn_n84_v3 : rx_OK rn_n84_v3_k := rs_ok_of (KT := []) (fuel := 20000) (M0 := rx_m172) (fl := [33, 64]) (m0 := ([], 0)) (rest := rn_n84_v3_r) (outs := rn_n84_o) (rx_oknil) rfl rfl (by decide +kernel)
