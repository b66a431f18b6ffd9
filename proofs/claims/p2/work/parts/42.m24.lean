noncomputable def rc_c41 : rx_C := .inl (10, [.inl (0, 0), .inr (.inr (.inr 100)), .inl (147, 0), .inl (148, 0), .inl (149, 0), .inl (150, 0), .inl (151, 0), .inl (152, 0), .inl (153, 0), .inl (154, 0), .inl (155, 0), .inl (156, 0), .inr (.inl (157, 0)), .inl (158, 0), .inr (.inr (.inl (some 1))), .inr (.inr (.inr 101)), .inr (.inr (.inr 102)), .inr (.inr (.inl (some 2))), .inr (.inr (.inr 103)), .inr (.inr (.inr 104)), .inr (.inr (.inr 105)), .inr (.inr (.inr 106)), .inr (.inr (.inr 107)), .inr (.inr (.inr 108)), .inl (176, 0), .inl (160, 0), .inl (161, 0), .inr (.inr (.inr 109)), .inr (.inr (.inr 110)), .inr (.inr (.inr 111)), .inl (162, 0), .inl (163, 0), .inr (.inr (.inr 112)), .inr (.inr (.inr 113)), .inl (164, 0), .inl (165, 0), .inl (166, 0), .inl (167, 0), .inr (.inr (.inr 114)), .inl (168, 0), .inl (169, 0), .inr (.inr (.inr 115)), .inr (.inr (.inr 116)), .inl (170, 0), .inl (171, 0), .inr (.inr (.inr 117)), .inl (172, 0), .inl (173, 0), .inl (174, 0), .inl (175, 0)])
/-! LostKeysModel.undo()I -/
noncomputable def rc_m48_h : List rx_C := [
  rc_c35,
  rc_c31,
  rc_c36]
noncomputable def rc_m48_o : List (rx_T × (List (Nat × Nat) × List (Nat × Nat))) := [((((rx_apR rc_b44 [(0, 7)] (fun x => x)), []), [
  rc_c41,
  rc_c32,
  rc_c36], (0, 0), 0, [], [.inl (159, (-1))]), ([], [(1, 24)]))]
noncomputable def rc_m48_k : rx_KE := ((263, 6), ([(0, 0), (1, 14), (1, 17)], rc_p11, [(1, 1), (1, 15), (1, 16), (1, 18), (1, 19), (1, 20), (1, 21), (1, 22), (1, 23), (1, 27), (1, 28), (1, 29), (1, 32), (1, 33), (1, 38), (1, 41), (1, 42), (1, 45)]), ((rc_b44, []), rc_m48_h, [.inr (.inr (.inl (some 0)))]), rc_m48_o.map Prod.fst)
