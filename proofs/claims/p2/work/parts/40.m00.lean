/-! LostKeysModel.bits(I)I -/
noncomputable def rc_m01_h : List rx_C := []
noncomputable def rc_m01_o : List (rx_T × (List (Nat × Nat) × List (Nat × Nat))) := [((([(0, 255), (0, 8)], []), rc_m01_h, (0, 0), 0, [], [.inl (2, 0)]), ([], [(0, 1000)]))]
noncomputable def rc_m01_k : rx_KE := ((146, 6), ([], [(0, 0)], []), (([(0, 255)], []), rc_m01_h, [.inl (1, 0)]), rc_m01_o.map Prod.fst)
noncomputable def rc_m01_r : List rx_Cu := []
theorem rc_m01_ok : rx_OK rc_m01_k := rs_ok_of (KT := []) (fuel := 20000) (M0 := rx_m146) (fl := [2]) (m0 := ([], 0)) (rest := rc_m01_r) (outs := rc_m01_o) (rx_oknil) rfl rfl (by decide +kernel)
