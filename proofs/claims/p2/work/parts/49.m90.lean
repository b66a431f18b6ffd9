noncomputable def rn_n8224_k : rx_KE := rn_n82_K 162 0 24
theorem rn_n8224_v : rx_OK (rn_n82_K 162 24 24) := rs_ok_of (KT := [rn_n8223_k, rc_m31_k, rc_m30b_k, rc_m30_k]) (fuel := 20000) (M0 := rx_m171) (fl := []) (m0 := ([], 0)) (rest := []) (outs := rn_n82_o) (rx_okcons rn_n8223_ok (rx_okcons rc_m31_ok (rx_okcons rc_m30b_ok (rx_okcons rc_m30_ok (rx_oknil))))) rfl rfl (by decide +kernel)
theorem rn_n8224_ok : rx_OK rn_n8224_k := rx_ok_cut (s := 175) (rs := [(0, 23), (24, 24)]) (lo := 0) (hi := 24) (M0 := rx_m171) rfl rfl (fun z h1 h2 => by simp only [List.mem_cons, List.not_mem_nil, or_false, exists_eq_or_imp, exists_eq_left]; omega) (rx_cutcons (K := rn_n8224_k) (rx_up (K := rn_n82_K 156 0 23) (d := 162) (by decide) rn_n8223_ok) (rx_cutcons rn_n8224_v (rx_cutnil)))

noncomputable def rn_n8225_k : rx_KE := rn_n82_K 168 0 25
theorem rn_n8225_v : rx_OK (rn_n82_K 168 25 25) := rs_ok_of (KT := [rn_n8224_k, rc_m31_k, rc_m30b_k, rc_m30_k]) (fuel := 20000) (M0 := rx_m171) (fl := []) (m0 := ([], 0)) (rest := []) (outs := rn_n82_o) (rx_okcons rn_n8224_ok (rx_okcons rc_m31_ok (rx_okcons rc_m30b_ok (rx_okcons rc_m30_ok (rx_oknil))))) rfl rfl (by decide +kernel)
theorem rn_n8225_ok : rx_OK rn_n8225_k := rx_ok_cut (s := 175) (rs := [(0, 24), (25, 25)]) (lo := 0) (hi := 25) (M0 := rx_m171) rfl rfl (fun z h1 h2 => by simp only [List.mem_cons, List.not_mem_nil, or_false, exists_eq_or_imp, exists_eq_left]; omega) (rx_cutcons (K := rn_n8225_k) (rx_up (K := rn_n82_K 162 0 24) (d := 168) (by decide) rn_n8224_ok) (rx_cutcons rn_n8225_v (rx_cutnil)))

noncomputable def rn_n8226_k : rx_KE := rn_n82_K 174 0 26
theorem rn_n8226_v : rx_OK (rn_n82_K 174 26 26) := rs_ok_of (KT := [rn_n8225_k, rc_m31_k, rc_m30b_k, rc_m30_k]) (fuel := 20000) (M0 := rx_m171) (fl := []) (m0 := ([], 0)) (rest := []) (outs := rn_n82_o) (rx_okcons rn_n8225_ok (rx_okcons rc_m31_ok (rx_okcons rc_m30b_ok (rx_okcons rc_m30_ok (rx_oknil))))) rfl rfl (by decide +kernel)
theorem rn_n8226_ok : rx_OK rn_n8226_k := rx_ok_cut (s := 175) (rs := [(0, 25), (26, 26)]) (lo := 0) (hi := 26) (M0 := rx_m171) rfl rfl (fun z h1 h2 => by simp only [List.mem_cons, List.not_mem_nil, or_false, exists_eq_or_imp, exists_eq_left]; omega) (rx_cutcons (K := rn_n8226_k) (rx_up (K := rn_n82_K 168 0 25) (d := 174) (by decide) rn_n8225_ok) (rx_cutcons rn_n8226_v (rx_cutnil)))

noncomputable def rn_n8227_k : rx_KE := rn_n82_K 180 0 27
theorem rn_n8227_v : rx_OK (rn_n82_K 180 27 27) := rs_ok_of (KT := [rn_n8226_k, rc_m31_k, rc_m30b_k, rc_m30_k]) (fuel := 20000) (M0 := rx_m171) (fl := []) (m0 := ([], 0)) (rest := []) (outs := rn_n82_o) (rx_okcons rn_n8226_ok (rx_okcons rc_m31_ok (rx_okcons rc_m30b_ok (rx_okcons rc_m30_ok (rx_oknil))))) rfl rfl (by decide +kernel)
theorem rn_n8227_ok : rx_OK rn_n8227_k := rx_ok_cut (s := 175) (rs := [(0, 26), (27, 27)]) (lo := 0) (hi := 27) (M0 := rx_m171) rfl rfl (fun z h1 h2 => by simp only [List.mem_cons, List.not_mem_nil, or_false, exists_eq_or_imp, exists_eq_left]; omega) (rx_cutcons (K := rn_n8227_k) (rx_up (K := rn_n82_K 174 0 26) (d := 180) (by decide) rn_n8226_ok) (rx_cutcons rn_n8227_v (rx_cutnil)))

noncomputable def rn_n8228_k : rx_KE := rn_n82_K 186 0 28
theorem rn_n8228_v : rx_OK (rn_n82_K 186 28 28) := rs_ok_of (KT := [rn_n8227_k, rc_m31_k, rc_m30b_k, rc_m30_k]) (fuel := 20000) (M0 := rx_m171) (fl := []) (m0 := ([], 0)) (rest := []) (outs := rn_n82_o) (rx_okcons rn_n8227_ok (rx_okcons rc_m31_ok (rx_okcons rc_m30b_ok (rx_okcons rc_m30_ok (rx_oknil))))) rfl rfl (by decide +kernel)
theorem rn_n8228_ok : rx_OK rn_n8228_k := rx_ok_cut (s := 175) (rs := [(0, 27), (28, 28)]) (lo := 0) (hi := 28) (M0 := rx_m171) rfl rfl (fun z h1 h2 => by simp only [List.mem_cons, List.not_mem_nil, or_false, exists_eq_or_imp, exists_eq_left]; omega) (rx_cutcons (K := rn_n8228_k) (rx_up (K := rn_n82_K 180 0 27) (d := 186) (by decide) rn_n8227_ok) (rx_cutcons rn_n8228_v (rx_cutnil)))

noncomputable def rn_n8229_k : rx_KE := rn_n82_K 192 0 29
theorem rn_n8229_v : rx_OK (rn_n82_K 192 29 29) := rs_ok_of (KT := [rn_n8228_k, rc_m31_k, rc_m30b_k, rc_m30_k]) (fuel := 20000) (M0 := rx_m171) (fl := []) (m0 := ([], 0)) (rest := []) (outs := rn_n82_o) (rx_okcons rn_n8228_ok (rx_okcons rc_m31_ok (rx_okcons rc_m30b_ok (rx_okcons rc_m30_ok (rx_oknil))))) rfl rfl (by decide +kernel)
theorem rn_n8229_ok : rx_OK rn_n8229_k := rx_ok_cut (s := 175) (rs := [(0, 28), (29, 29)]) (lo := 0) (hi := 29) (M0 := rx_m171) rfl rfl (fun z h1 h2 => by simp only [List.mem_cons, List.not_mem_nil, or_false, exists_eq_or_imp, exists_eq_left]; omega) (rx_cutcons (K := rn_n8229_k) (rx_up (K := rn_n82_K 186 0 28) (d := 192) (by decide) rn_n8228_ok) (rx_cutcons rn_n8229_v (rx_cutnil)))

noncomputable def rn_n8230_k : rx_KE := rn_n82_K 198 0 30
theorem rn_n8230_v : rx_OK (rn_n82_K 198 30 30) := rs_ok_of (KT := [rn_n8229_k, rc_m31_k, rc_m30b_k, rc_m30_k]) (fuel := 20000) (M0 := rx_m171) (fl := []) (m0 := ([], 0)) (rest := []) (outs := rn_n82_o) (rx_okcons rn_n8229_ok (rx_okcons rc_m31_ok (rx_okcons rc_m30b_ok (rx_okcons rc_m30_ok (rx_oknil))))) rfl rfl (by decide +kernel)
theorem rn_n8230_ok : rx_OK rn_n8230_k := rx_ok_cut (s := 175) (rs := [(0, 29), (30, 30)]) (lo := 0) (hi := 30) (M0 := rx_m171) rfl rfl (fun z h1 h2 => by simp only [List.mem_cons, List.not_mem_nil, or_false, exists_eq_or_imp, exists_eq_left]; omega) (rx_cutcons (K := rn_n8230_k) (rx_up (K := rn_n82_K 192 0 29) (d := 198) (by decide) rn_n8229_ok) (rx_cutcons rn_n8230_v (rx_cutnil)))

noncomputable def rn_n8231_k : rx_KE := rn_n82_K 204 0 31
theorem rn_n8231_v : rx_OK (rn_n82_K 204 31 31) := rs_ok_of (KT := [rn_n8230_k, rc_m31_k, rc_m30b_k, rc_m30_k]) (fuel := 20000) (M0 := rx_m171) (fl := []) (m0 := ([], 0)) (rest := []) (outs := rn_n82_o) (rx_okcons rn_n8230_ok (rx_okcons rc_m31_ok (rx_okcons rc_m30b_ok (rx_okcons rc_m30_ok (rx_oknil))))) rfl rfl (by decide +kernel)
theorem rn_n8231_ok : rx_OK rn_n8231_k := rx_ok_cut (s := 175) (rs := [(0, 30), (31, 31)]) (lo := 0) (hi := 31) (M0 := rx_m171) rfl rfl (fun z h1 h2 => by simp only [List.mem_cons, List.not_mem_nil, or_false, exists_eq_or_imp, exists_eq_left]; omega) (rx_cutcons (K := rn_n8231_k) (rx_up (K := rn_n82_K 198 0 30) (d := 204) (by decide) rn_n8230_ok) (rx_cutcons rn_n8231_v (rx_cutnil)))

noncomputable def rn_n8232_k : rx_KE := rn_n82_K 210 0 32
theorem rn_n8232_v : rx_OK (rn_n82_K 210 32 32) := rs_ok_of (KT := [rn_n8231_k, rc_m31_k, rc_m30b_k, rc_m30_k]) (fuel := 20000) (M0 := rx_m171) (fl := []) (m0 := ([], 0)) (rest := []) (outs := rn_n82_o) (rx_okcons rn_n8231_ok (rx_okcons rc_m31_ok (rx_okcons rc_m30b_ok (rx_okcons rc_m30_ok (rx_oknil))))) rfl rfl (by decide +kernel)
theorem rn_n8232_ok : rx_OK rn_n8232_k := rx_ok_cut (s := 175) (rs := [(0, 31), (32, 32)]) (lo := 0) (hi := 32) (M0 := rx_m171) rfl rfl (fun z h1 h2 => by simp only [List.mem_cons, List.not_mem_nil, or_false, exists_eq_or_imp, exists_eq_left]; omega) (rx_cutcons (K := rn_n8232_k) (rx_up (K := rn_n82_K 204 0 31) (d := 210) (by decide) rn_n8231_ok) (rx_cutcons rn_n8232_v (rx_cutnil)))

noncomputable def rn_n8233_k : rx_KE := rn_n82_K 216 0 33
theorem rn_n8233_v : rx_OK (rn_n82_K 216 33 33) := rs_ok_of (KT := [rn_n8232_k, rc_m31_k, rc_m30b_k, rc_m30_k]) (fuel := 20000) (M0 := rx_m171) (fl := []) (m0 := ([], 0)) (rest := []) (outs := rn_n82_o) (rx_okcons rn_n8232_ok (rx_okcons rc_m31_ok (rx_okcons rc_m30b_ok (rx_okcons rc_m30_ok (rx_oknil))))) rfl rfl (by decide +kernel)
theorem rn_n8233_ok : rx_OK rn_n8233_k := rx_ok_cut (s := 175) (rs := [(0, 32), (33, 33)]) (lo := 0) (hi := 33) (M0 := rx_m171) rfl rfl (fun z h1 h2 => by simp only [List.mem_cons, List.not_mem_nil, or_false, exists_eq_or_imp, exists_eq_left]; omega) (rx_cutcons (K := rn_n8233_k) (rx_up (K := rn_n82_K 210 0 32) (d := 216) (by decide) rn_n8232_ok) (rx_cutcons rn_n8233_v (rx_cutnil)))

noncomputable def rn_n8234_k : rx_KE := rn_n82_K 222 0 34
theorem rn_n8234_v : rx_OK (rn_n82_K 222 34 34) := rs_ok_of (KT := [rn_n8233_k, rc_m31_k, rc_m30b_k, rc_m30_k]) (fuel := 20000) (M0 := rx_m171) (fl := []) (m0 := ([], 0)) (rest := []) (outs := rn_n82_o) (rx_okcons rn_n8233_ok (rx_okcons rc_m31_ok (rx_okcons rc_m30b_ok (rx_okcons rc_m30_ok (rx_oknil))))) rfl rfl (by decide +kernel)
theorem rn_n8234_ok : rx_OK rn_n8234_k := rx_ok_cut (s := 175) (rs := [(0, 33), (34, 34)]) (lo := 0) (hi := 34) (M0 := rx_m171) rfl rfl (fun z h1 h2 => by simp only [List.mem_cons, List.not_mem_nil, or_false, exists_eq_or_imp, exists_eq_left]; omega) (rx_cutcons (K := rn_n8234_k) (rx_up (K := rn_n82_K 216 0 33) (d := 222) (by decide) rn_n8233_ok) (rx_cutcons rn_n8234_v (rx_cutnil)))

noncomputable def rn_n8235_k : rx_KE := rn_n82_K 228 0 35
theorem rn_n8235_v : rx_OK (rn_n82_K 228 35 35) := rs_ok_of (KT := [rn_n8234_k, rc_m31_k, rc_m30b_k, rc_m30_k]) (fuel := 20000) (M0 := rx_m171) (fl := []) (m0 := ([], 0)) (rest := []) (outs := rn_n82_o) (rx_okcons rn_n8234_ok (rx_okcons rc_m31_ok (rx_okcons rc_m30b_ok (rx_okcons rc_m30_ok (rx_oknil))))) rfl rfl (by decide +kernel)
theorem rn_n8235_ok : rx_OK rn_n8235_k := rx_ok_cut (s := 175) (rs := [(0, 34), (35, 35)]) (lo := 0) (hi := 35) (M0 := rx_m171) rfl rfl (fun z h1 h2 => by simp only [List.mem_cons, List.not_mem_nil, or_false, exists_eq_or_imp, exists_eq_left]; omega) (rx_cutcons (K := rn_n8235_k) (rx_up (K := rn_n82_K 222 0 34) (d := 228) (by decide) rn_n8234_ok) (rx_cutcons rn_n8235_v (rx_cutnil)))
