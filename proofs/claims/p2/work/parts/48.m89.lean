noncomputable def rn_n8212_k : rx_KE := rn_n82_K 90 0 12
theorem rn_n8212_v : rx_OK (rn_n82_K 90 12 12) := rs_ok_of (KT := [rn_n8211_k, rc_m31_k, rc_m30b_k, rc_m30_k]) (fuel := 20000) (M0 := rx_m171) (fl := []) (m0 := ([], 0)) (rest := []) (outs := rn_n82_o) (rx_okcons rn_n8211_ok (rx_okcons rc_m31_ok (rx_okcons rc_m30b_ok (rx_okcons rc_m30_ok (rx_oknil))))) rfl rfl (by decide +kernel)
theorem rn_n8212_ok : rx_OK rn_n8212_k := rx_ok_cut (s := 175) (rs := [(0, 11), (12, 12)]) (lo := 0) (hi := 12) (M0 := rx_m171) rfl rfl (fun z h1 h2 => by simp only [List.mem_cons, List.not_mem_nil, or_false, exists_eq_or_imp, exists_eq_left]; omega) (rx_cutcons (K := rn_n8212_k) (rx_up (K := rn_n82_K 84 0 11) (d := 90) (by decide) rn_n8211_ok) (rx_cutcons rn_n8212_v (rx_cutnil)))

noncomputable def rn_n8213_k : rx_KE := rn_n82_K 96 0 13
theorem rn_n8213_v : rx_OK (rn_n82_K 96 13 13) := rs_ok_of (KT := [rn_n8212_k, rc_m31_k, rc_m30b_k, rc_m30_k]) (fuel := 20000) (M0 := rx_m171) (fl := []) (m0 := ([], 0)) (rest := []) (outs := rn_n82_o) (rx_okcons rn_n8212_ok (rx_okcons rc_m31_ok (rx_okcons rc_m30b_ok (rx_okcons rc_m30_ok (rx_oknil))))) rfl rfl (by decide +kernel)
theorem rn_n8213_ok : rx_OK rn_n8213_k := rx_ok_cut (s := 175) (rs := [(0, 12), (13, 13)]) (lo := 0) (hi := 13) (M0 := rx_m171) rfl rfl (fun z h1 h2 => by simp only [List.mem_cons, List.not_mem_nil, or_false, exists_eq_or_imp, exists_eq_left]; omega) (rx_cutcons (K := rn_n8213_k) (rx_up (K := rn_n82_K 90 0 12) (d := 96) (by decide) rn_n8212_ok) (rx_cutcons rn_n8213_v (rx_cutnil)))

noncomputable def rn_n8214_k : rx_KE := rn_n82_K 102 0 14
theorem rn_n8214_v : rx_OK (rn_n82_K 102 14 14) := rs_ok_of (KT := [rn_n8213_k, rc_m31_k, rc_m30b_k, rc_m30_k]) (fuel := 20000) (M0 := rx_m171) (fl := []) (m0 := ([], 0)) (rest := []) (outs := rn_n82_o) (rx_okcons rn_n8213_ok (rx_okcons rc_m31_ok (rx_okcons rc_m30b_ok (rx_okcons rc_m30_ok (rx_oknil))))) rfl rfl (by decide +kernel)
theorem rn_n8214_ok : rx_OK rn_n8214_k := rx_ok_cut (s := 175) (rs := [(0, 13), (14, 14)]) (lo := 0) (hi := 14) (M0 := rx_m171) rfl rfl (fun z h1 h2 => by simp only [List.mem_cons, List.not_mem_nil, or_false, exists_eq_or_imp, exists_eq_left]; omega) (rx_cutcons (K := rn_n8214_k) (rx_up (K := rn_n82_K 96 0 13) (d := 102) (by decide) rn_n8213_ok) (rx_cutcons rn_n8214_v (rx_cutnil)))

noncomputable def rn_n8215_k : rx_KE := rn_n82_K 108 0 15
theorem rn_n8215_v : rx_OK (rn_n82_K 108 15 15) := rs_ok_of (KT := [rn_n8214_k, rc_m31_k, rc_m30b_k, rc_m30_k]) (fuel := 20000) (M0 := rx_m171) (fl := []) (m0 := ([], 0)) (rest := []) (outs := rn_n82_o) (rx_okcons rn_n8214_ok (rx_okcons rc_m31_ok (rx_okcons rc_m30b_ok (rx_okcons rc_m30_ok (rx_oknil))))) rfl rfl (by decide +kernel)
theorem rn_n8215_ok : rx_OK rn_n8215_k := rx_ok_cut (s := 175) (rs := [(0, 14), (15, 15)]) (lo := 0) (hi := 15) (M0 := rx_m171) rfl rfl (fun z h1 h2 => by simp only [List.mem_cons, List.not_mem_nil, or_false, exists_eq_or_imp, exists_eq_left]; omega) (rx_cutcons (K := rn_n8215_k) (rx_up (K := rn_n82_K 102 0 14) (d := 108) (by decide) rn_n8214_ok) (rx_cutcons rn_n8215_v (rx_cutnil)))

noncomputable def rn_n8216_k : rx_KE := rn_n82_K 114 0 16
theorem rn_n8216_v : rx_OK (rn_n82_K 114 16 16) := rs_ok_of (KT := [rn_n8215_k, rc_m31_k, rc_m30b_k, rc_m30_k]) (fuel := 20000) (M0 := rx_m171) (fl := []) (m0 := ([], 0)) (rest := []) (outs := rn_n82_o) (rx_okcons rn_n8215_ok (rx_okcons rc_m31_ok (rx_okcons rc_m30b_ok (rx_okcons rc_m30_ok (rx_oknil))))) rfl rfl (by decide +kernel)
theorem rn_n8216_ok : rx_OK rn_n8216_k := rx_ok_cut (s := 175) (rs := [(0, 15), (16, 16)]) (lo := 0) (hi := 16) (M0 := rx_m171) rfl rfl (fun z h1 h2 => by simp only [List.mem_cons, List.not_mem_nil, or_false, exists_eq_or_imp, exists_eq_left]; omega) (rx_cutcons (K := rn_n8216_k) (rx_up (K := rn_n82_K 108 0 15) (d := 114) (by decide) rn_n8215_ok) (rx_cutcons rn_n8216_v (rx_cutnil)))

noncomputable def rn_n8217_k : rx_KE := rn_n82_K 120 0 17
theorem rn_n8217_v : rx_OK (rn_n82_K 120 17 17) := rs_ok_of (KT := [rn_n8216_k, rc_m31_k, rc_m30b_k, rc_m30_k]) (fuel := 20000) (M0 := rx_m171) (fl := []) (m0 := ([], 0)) (rest := []) (outs := rn_n82_o) (rx_okcons rn_n8216_ok (rx_okcons rc_m31_ok (rx_okcons rc_m30b_ok (rx_okcons rc_m30_ok (rx_oknil))))) rfl rfl (by decide +kernel)
theorem rn_n8217_ok : rx_OK rn_n8217_k := rx_ok_cut (s := 175) (rs := [(0, 16), (17, 17)]) (lo := 0) (hi := 17) (M0 := rx_m171) rfl rfl (fun z h1 h2 => by simp only [List.mem_cons, List.not_mem_nil, or_false, exists_eq_or_imp, exists_eq_left]; omega) (rx_cutcons (K := rn_n8217_k) (rx_up (K := rn_n82_K 114 0 16) (d := 120) (by decide) rn_n8216_ok) (rx_cutcons rn_n8217_v (rx_cutnil)))

noncomputable def rn_n8218_k : rx_KE := rn_n82_K 126 0 18
theorem rn_n8218_v : rx_OK (rn_n82_K 126 18 18) := rs_ok_of (KT := [rn_n8217_k, rc_m31_k, rc_m30b_k, rc_m30_k]) (fuel := 20000) (M0 := rx_m171) (fl := []) (m0 := ([], 0)) (rest := []) (outs := rn_n82_o) (rx_okcons rn_n8217_ok (rx_okcons rc_m31_ok (rx_okcons rc_m30b_ok (rx_okcons rc_m30_ok (rx_oknil))))) rfl rfl (by decide +kernel)
theorem rn_n8218_ok : rx_OK rn_n8218_k := rx_ok_cut (s := 175) (rs := [(0, 17), (18, 18)]) (lo := 0) (hi := 18) (M0 := rx_m171) rfl rfl (fun z h1 h2 => by simp only [List.mem_cons, List.not_mem_nil, or_false, exists_eq_or_imp, exists_eq_left]; omega) (rx_cutcons (K := rn_n8218_k) (rx_up (K := rn_n82_K 120 0 17) (d := 126) (by decide) rn_n8217_ok) (rx_cutcons rn_n8218_v (rx_cutnil)))

noncomputable def rn_n8219_k : rx_KE := rn_n82_K 132 0 19
theorem rn_n8219_v : rx_OK (rn_n82_K 132 19 19) := rs_ok_of (KT := [rn_n8218_k, rc_m31_k, rc_m30b_k, rc_m30_k]) (fuel := 20000) (M0 := rx_m171) (fl := []) (m0 := ([], 0)) (rest := []) (outs := rn_n82_o) (rx_okcons rn_n8218_ok (rx_okcons rc_m31_ok (rx_okcons rc_m30b_ok (rx_okcons rc_m30_ok (rx_oknil))))) rfl rfl (by decide +kernel)
theorem rn_n8219_ok : rx_OK rn_n8219_k := rx_ok_cut (s := 175) (rs := [(0, 18), (19, 19)]) (lo := 0) (hi := 19) (M0 := rx_m171) rfl rfl (fun z h1 h2 => by simp only [List.mem_cons, List.not_mem_nil, or_false, exists_eq_or_imp, exists_eq_left]; omega) (rx_cutcons (K := rn_n8219_k) (rx_up (K := rn_n82_K 126 0 18) (d := 132) (by decide) rn_n8218_ok) (rx_cutcons rn_n8219_v (rx_cutnil)))

noncomputable def rn_n8220_k : rx_KE := rn_n82_K 138 0 20
theorem rn_n8220_v : rx_OK (rn_n82_K 138 20 20) := rs_ok_of (KT := [rn_n8219_k, rc_m31_k, rc_m30b_k, rc_m30_k]) (fuel := 20000) (M0 := rx_m171) (fl := []) (m0 := ([], 0)) (rest := []) (outs := rn_n82_o) (rx_okcons rn_n8219_ok (rx_okcons rc_m31_ok (rx_okcons rc_m30b_ok (rx_okcons rc_m30_ok (rx_oknil))))) rfl rfl (by decide +kernel)
theorem rn_n8220_ok : rx_OK rn_n8220_k := rx_ok_cut (s := 175) (rs := [(0, 19), (20, 20)]) (lo := 0) (hi := 20) (M0 := rx_m171) rfl rfl (fun z h1 h2 => by simp only [List.mem_cons, List.not_mem_nil, or_false, exists_eq_or_imp, exists_eq_left]; omega) (rx_cutcons (K := rn_n8220_k) (rx_up (K := rn_n82_K 132 0 19) (d := 138) (by decide) rn_n8219_ok) (rx_cutcons rn_n8220_v (rx_cutnil)))

noncomputable def rn_n8221_k : rx_KE := rn_n82_K 144 0 21
theorem rn_n8221_v : rx_OK (rn_n82_K 144 21 21) := rs_ok_of (KT := [rn_n8220_k, rc_m31_k, rc_m30b_k, rc_m30_k]) (fuel := 20000) (M0 := rx_m171) (fl := []) (m0 := ([], 0)) (rest := []) (outs := rn_n82_o) (rx_okcons rn_n8220_ok (rx_okcons rc_m31_ok (rx_okcons rc_m30b_ok (rx_okcons rc_m30_ok (rx_oknil))))) rfl rfl (by decide +kernel)
theorem rn_n8221_ok : rx_OK rn_n8221_k := rx_ok_cut (s := 175) (rs := [(0, 20), (21, 21)]) (lo := 0) (hi := 21) (M0 := rx_m171) rfl rfl (fun z h1 h2 => by simp only [List.mem_cons, List.not_mem_nil, or_false, exists_eq_or_imp, exists_eq_left]; omega) (rx_cutcons (K := rn_n8221_k) (rx_up (K := rn_n82_K 138 0 20) (d := 144) (by decide) rn_n8220_ok) (rx_cutcons rn_n8221_v (rx_cutnil)))

noncomputable def rn_n8222_k : rx_KE := rn_n82_K 150 0 22
theorem rn_n8222_v : rx_OK (rn_n82_K 150 22 22) := rs_ok_of (KT := [rn_n8221_k, rc_m31_k, rc_m30b_k, rc_m30_k]) (fuel := 20000) (M0 := rx_m171) (fl := []) (m0 := ([], 0)) (rest := []) (outs := rn_n82_o) (rx_okcons rn_n8221_ok (rx_okcons rc_m31_ok (rx_okcons rc_m30b_ok (rx_okcons rc_m30_ok (rx_oknil))))) rfl rfl (by decide +kernel)
theorem rn_n8222_ok : rx_OK rn_n8222_k := rx_ok_cut (s := 175) (rs := [(0, 21), (22, 22)]) (lo := 0) (hi := 22) (M0 := rx_m171) rfl rfl (fun z h1 h2 => by simp only [List.mem_cons, List.not_mem_nil, or_false, exists_eq_or_imp, exists_eq_left]; omega) (rx_cutcons (K := rn_n8222_k) (rx_up (K := rn_n82_K 144 0 21) (d := 150) (by decide) rn_n8221_ok) (rx_cutcons rn_n8222_v (rx_cutnil)))

noncomputable def rn_n8223_k : rx_KE := rn_n82_K 156 0 23
theorem rn_n8223_v : rx_OK (rn_n82_K 156 23 23) := rs_ok_of (KT := [rn_n8222_k, rc_m31_k, rc_m30b_k, rc_m30_k]) (fuel := 20000) (M0 := rx_m171) (fl := []) (m0 := ([], 0)) (rest := []) (outs := rn_n82_o) (rx_okcons rn_n8222_ok (rx_okcons rc_m31_ok (rx_okcons rc_m30b_ok (rx_okcons rc_m30_ok (rx_oknil))))) rfl rfl (by decide +kernel)
theorem rn_n8223_ok : rx_OK rn_n8223_k := rx_ok_cut (s := 175) (rs := [(0, 22), (23, 23)]) (lo := 0) (hi := 23) (M0 := rx_m171) rfl rfl (fun z h1 h2 => by simp only [List.mem_cons, List.not_mem_nil, or_false, exists_eq_or_imp, exists_eq_left]; omega) (rx_cutcons (K := rn_n8223_k) (rx_up (K := rn_n82_K 150 0 22) (d := 156) (by decide) rn_n8222_ok) (rx_cutcons rn_n8223_v (rx_cutnil)))
