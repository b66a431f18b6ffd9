noncomputable def rc_c332 : rx_C := .inl (10, [.inl (226, 0), .inr (.inr (.inl (some 3))), .inl (227, 0), .inl (228, 0), .inl (229, 0), .inl (230, 0), .inl (231, 0), .inl (232, 0), .inl (233, 0), .inl (234, 0), .inl (235, 0), .inl (236, 0), .inr (.inl (237, 0)), .inl (238, 0), .inr (.inr (.inl (some 1))), .inr (.inr (.inr 100)), .inr (.inr (.inr 101)), .inr (.inr (.inr 102)), .inr (.inr (.inr 103)), .inr (.inr (.inl (some 4))), .inr (.inr (.inr 104)), .inr (.inr (.inr 105)), .inr (.inr (.inr 106)), .inr (.inr (.inr 107)), .inl (239, 0), .inl (240, 0), .inl (241, 0), .inr (.inr (.inr 108)), .inr (.inr (.inr 109)), .inr (.inr (.inr 110)), .inl (242, 0), .inl (243, 0), .inr (.inr (.inr 111)), .inr (.inr (.inr 112)), .inl (244, 0), .inl (245, 0), .inl (246, 0), .inl (247, 0), .inr (.inr (.inr 113)), .inl (248, 0), .inl (249, 0), .inr (.inr (.inl (some 2))), .inr (.inr (.inr 114)), .inl (0, 38), .inl (250, 0), .inr (.inr (.inr 115)), .inl (251, 0), .inl (252, 0), .inl (253, 0), .inl (254, 0)])
noncomputable def rc_c333 : rx_C := .inl (10, [.inl (226, 0), .inr (.inr (.inl (some 3))), .inl (227, 0), .inl (228, 0), .inl (229, 0), .inl (255, 0), .inl (256, 0), .inl (257, 0), .inl (258, 0), .inl (259, 0), .inl (260, 0), .inl (256, 0), .inr (.inl (261, 0)), .inl (262, 0), .inr (.inr (.inl (some 1))), .inr (.inr (.inr 100)), .inr (.inr (.inr 101)), .inr (.inr (.inr 102)), .inr (.inr (.inr 103)), .inr (.inr (.inl (some 4))), .inr (.inr (.inr 104)), .inr (.inr (.inr 105)), .inr (.inr (.inr 106)), .inr (.inr (.inr 107)), .inl (239, 0), .inl (240, 0), .inl (241, 0), .inr (.inr (.inr 108)), .inr (.inr (.inr 109)), .inr (.inr (.inr 110)), .inl (242, 0), .inl (243, 0), .inr (.inr (.inr 111)), .inr (.inr (.inr 112)), .inl (244, 0), .inl (245, 0), .inl (246, 0), .inl (247, 0), .inr (.inr (.inr 113)), .inl (248, 0), .inl (249, 0), .inr (.inr (.inl (some 2))), .inr (.inr (.inr 114)), .inl (0, 38), .inl (250, 0), .inr (.inr (.inr 115)), .inl (251, 0), .inl (252, 0), .inl (253, 0), .inl (254, 0)])
noncomputable def rc_c334 : rx_C := .inl (10, [.inl (226, 0), .inr (.inr (.inl (some 3))), .inl (227, 0), .inl (228, 0), .inl (229, 0), .inl (255, 0), .inl (256, 0), .inl (257, 0), .inl (258, 0), .inl (259, 0), .inl (235, 0), .inl (236, 0), .inr (.inl (260, 0)), .inl (261, 0), .inr (.inr (.inl (some 1))), .inr (.inr (.inr 100)), .inr (.inr (.inr 101)), .inr (.inr (.inr 102)), .inr (.inr (.inr 103)), .inr (.inr (.inl (some 4))), .inr (.inr (.inr 104)), .inr (.inr (.inr 105)), .inr (.inr (.inr 106)), .inr (.inr (.inr 107)), .inl (239, 0), .inl (240, 0), .inl (241, 0), .inr (.inr (.inr 108)), .inr (.inr (.inr 109)), .inr (.inr (.inr 110)), .inl (242, 0), .inl (243, 0), .inr (.inr (.inr 111)), .inr (.inr (.inr 112)), .inl (244, 0), .inl (245, 0), .inl (246, 0), .inl (247, 0), .inr (.inr (.inr 113)), .inl (248, 0), .inl (249, 0), .inr (.inr (.inl (some 2))), .inr (.inr (.inr 114)), .inl (0, 38), .inl (250, 0), .inr (.inr (.inr 115)), .inl (251, 0), .inl (252, 0), .inl (253, 0), .inl (254, 0)])
noncomputable def rc_c335 : rx_C := .inr (1000, 160, [.inl (146, 0), .inr (.inl (5, (-1))), .inl (147, 0), .inr (.inl (5, 0)), .inl (148, 0), .inr (.inl (5, (-1))), .inl (149, 0), .inr (.inl (5, 0)), .inl (150, 0), .inr (.inl (5, (-1))), .inl (151, 0), .inr (.inl (5, 0)), .inl (152, 0), .inr (.inl (5, (-1))), .inl (153, 0), .inr (.inl (5, 0)), .inl (154, 0), .inr (.inl (5, (-1))), .inl (155, 0), .inr (.inl (5, 0)), .inl (156, 0), .inr (.inl (5, (-1))), .inl (157, 0), .inr (.inl (5, 0)), .inl (158, 0), .inr (.inl (5, (-1))), .inl (159, 0), .inr (.inl (5, 0)), .inl (160, 0), .inr (.inl (5, (-1))), .inl (161, 0), .inr (.inl (5, 0)), .inl (162, 0), .inr (.inl (5, (-1))), .inl (163, 0), .inr (.inl (5, 0)), .inl (164, 0), .inr (.inl (5, (-1))), .inl (165, 0), .inr (.inl (5, 0)), .inl (166, 0), .inr (.inl (5, (-1))), .inl (167, 0), .inr (.inl (5, 0)), .inl (168, 0), .inr (.inl (5, (-1))), .inl (169, 0), .inr (.inl (5, 0)), .inl (170, 0), .inr (.inl (5, (-1))), .inl (171, 0), .inr (.inl (5, 0)), .inl (172, 0), .inr (.inl (5, (-1))), .inl (173, 0), .inr (.inl (5, 0)), .inl (174, 0), .inr (.inl (5, (-1))), .inl (175, 0), .inr (.inl (5, 0)), .inl (176, 0), .inr (.inl (5, (-1))), .inl (177, 0), .inr (.inl (5, 0)), .inl (178, 0), .inr (.inl (5, (-1))), .inl (179, 0), .inr (.inl (5, 0)), .inl (180, 0), .inr (.inl (5, (-1))), .inl (181, 0), .inr (.inl (5, 0)), .inl (182, 0), .inr (.inl (5, (-1))), .inl (183, 0), .inr (.inl (5, 0)), .inl (184, 0), .inr (.inl (5, (-1))), .inl (185, 0), .inr (.inl (5, 0)), .inl (186, 0), .inr (.inl (5, (-1))), .inl (187, 0), .inr (.inl (5, 0)), .inl (188, 0), .inr (.inl (5, (-1))), .inl (189, 0), .inr (.inl (5, 0)), .inl (190, 0), .inr (.inl (5, (-1))), .inl (191, 0), .inr (.inl (5, 0)), .inl (192, 0), .inr (.inl (5, (-1))), .inl (193, 0), .inr (.inl (5, 0)), .inl (194, 0), .inr (.inl (5, (-1))), .inl (195, 0), .inr (.inl (5, 0)), .inl (196, 0), .inr (.inl (5, (-1))), .inl (197, 0), .inr (.inl (5, 0)), .inl (198, 0), .inr (.inl (5, (-1))), .inl (199, 0), .inr (.inl (5, 0)), .inl (200, 0), .inr (.inl (5, (-1))), .inl (201, 0), .inr (.inl (5, 0)), .inl (202, 0), .inr (.inl (5, (-1))), .inl (203, 0), .inr (.inl (5, 0)), .inl (204, 0), .inr (.inl (5, (-1))), .inl (205, 0), .inr (.inl (5, 0)), .inl (206, 0), .inr (.inl (5, (-1))), .inl (207, 0), .inr (.inl (5, 0)), .inl (208, 0), .inr (.inl (5, (-1))), .inl (209, 0), .inr (.inl (5, 0)), .inl (210, 0), .inr (.inl (5, (-1))), .inl (211, 0), .inr (.inl (5, 0)), .inl (212, 0), .inr (.inl (5, (-1))), .inl (213, 0), .inr (.inl (5, 0)), .inl (214, 0), .inr (.inl (5, (-1))), .inl (215, 0), .inr (.inl (5, 0)), .inl (216, 0), .inr (.inl (5, (-1))), .inl (217, 0), .inr (.inl (5, 0)), .inl (218, 0), .inr (.inl (5, (-1))), .inl (219, 0), .inr (.inl (5, 0)), .inl (220, 0), .inr (.inl (5, (-1))), .inl (221, 0), .inr (.inl (5, 0)), .inl (262, 0), .inr (.inl (5, (-1))), .inl (263, 0), .inr (.inl (5, 0)), .inl (224, 0), .inr (.inl (5, (-1))), .inl (225, 0), .inr (.inl (5, 0))], .inr (.inl (0, 0)))
/-! LostKeysModel.readBookLine()Z -/
noncomputable def rc_m9238_h : List rx_C := [
  rc_c332,
  rc_c31,
  rc_c97,
  .inr (1000, 940, [], .inr (.inl (255, 0))),
  .inr (1003, 25, [], .inr (.inl (18446744073709551615, (-9223372036854775808))))]
noncomputable def rc_m9238_o : List (rx_T × (List (Nat × Nat) × List (Nat × Nat))) := [((((rx_apR rc_b158 [(0, 941), (0, 941), (0, 4), ((-2147483648), 2147483647), (0, 255), (0, 4), ((-9223372036854775808), 9223372036854775807), ((-2147483648), 2147483647), (0, 4), (0, 60)] (fun x => x)), []), [
  rc_c333,
  rc_c32,
  rc_c177,
  .inr (1000, 940, [], .inr (.inl (255, 0))),
  .inr (1003, 25, [], .inr (.inl (18446744073709551615, (-9223372036854775808))))], (0, 0), 0, [], [.inl (0, 0)]), ([], [(1, 5), (1, 6), (1, 7), (1, 8), (1, 9), (1, 10), (1, 12), (1, 13), (3, 152), (3, 154)])),
  (((rc_b159, [([(261, 3)], [((-1), 262)], 7)]), [
  rc_c334,
  rc_c32,
  rc_c335,
  .inr (1000, 940, [], .inr (.inl (255, 0))),
  .inr (1003, 25, [], .inr (.inl (18446744073709551615, (-9223372036854775808))))], (0, 0), 0, [], [.inl (0, 1)]), ([], [(1, 5), (1, 6), (1, 7), (1, 8), (1, 9), (1, 12), (1, 13), (3, 152), (3, 154)]))]
noncomputable def rc_m9238_k : rx_KE := ((221, 24), ([(0, 0), (1, 14), (1, 41), (1, 1), (1, 19)], rc_p19, [(1, 15), (1, 16), (1, 17), (1, 18), (1, 20), (1, 21), (1, 22), (1, 23), (1, 27), (1, 28), (1, 29), (1, 32), (1, 33), (1, 38), (1, 42), (1, 45)]), ((rc_b158, []), rc_m9238_h, [.inr (.inr (.inl (some 0)))]), rc_m9238_o.map Prod.fst)
noncomputable def rc_m9238_r : List rx_Cu := []
theorem rc_m9238_ok : rx_OK rc_m9238_k := rs_ok_of (KT := [rc_m9139_k, rc_m9138_k, rc_m9137_k, rc_m9136_k, rc_m9135_k, rc_m9134_k, rc_m9133_k, rc_m9132_k, rc_m9131_k, rc_m9130_k, rc_m9129_k, rc_m9128_k, rc_m9127_k, rc_m9126_k, rc_m9125_k, rc_m9124_k, rc_m9123_k, rc_m9122_k, rc_m9121_k, rc_m9120_k, rc_m9119_k, rc_m9118_k, rc_m9117_k, rc_m9116_k, rc_m9115_k, rc_m9114_k, rc_m9113_k, rc_m9112_k, rc_m9111_k, rc_m9110_k, rc_m9109_k, rc_m9108_k, rc_m9107_k, rc_m9106_k, rc_m9105_k, rc_m9104_k, rc_m9103_k, rc_m9102_k, rc_m9101_k, rc_m9100_k, rc_m133_k, rc_m132_k, rc_m131_k, rc_m130_k, rc_m10_k, rc_m096_k, rc_m095_k, rc_m094_k, rc_m093_k, rc_m092_k, rc_m091_k, rc_m090_k, rc_m08_k, rc_m07_k, rc_m06_k, rc_m05_k]) (fuel := 20000) (M0 := rx_m221) (fl := []) (m0 := ([], 0)) (rest := rc_m9238_r) (outs := rc_m9238_o) (rx_okcons rc_m9139_ok (rx_okcons rc_m9138_ok (rx_okcons rc_m9137_ok (rx_okcons rc_m9136_ok (rx_okcons rc_m9135_ok (rx_okcons rc_m9134_ok (rx_okcons rc_m9133_ok (rx_okcons rc_m9132_ok (rx_okcons rc_m9131_ok (rx_okcons rc_m9130_ok (rx_okcons rc_m9129_ok (rx_okcons rc_m9128_ok (rx_okcons rc_m9127_ok (rx_okcons rc_m9126_ok (rx_okcons rc_m9125_ok (rx_okcons rc_m9124_ok (rx_okcons rc_m9123_ok (rx_okcons rc_m9122_ok (rx_okcons rc_m9121_ok (rx_okcons rc_m9120_ok (rx_okcons rc_m9119_ok (rx_okcons rc_m9118_ok (rx_okcons rc_m9117_ok (rx_okcons rc_m9116_ok (rx_okcons rc_m9115_ok (rx_okcons rc_m9114_ok (rx_okcons rc_m9113_ok (rx_okcons rc_m9112_ok (rx_okcons rc_m9111_ok (rx_okcons rc_m9110_ok (rx_okcons rc_m9109_ok (rx_okcons rc_m9108_ok (rx_okcons rc_m9107_ok (rx_okcons rc_m9106_ok (rx_okcons rc_m9105_ok (rx_okcons rc_m9104_ok (rx_okcons rc_m9103_ok (rx_okcons rc_m9102_ok (rx_okcons rc_m9101_ok (rx_okcons rc_m9100_ok (rx_okcons rc_m133_ok (rx_okcons rc_m132_ok (rx_okcons rc_m131_ok (rx_okcons rc_m130_ok (rx_okcons rc_m10_ok (rx_okcons rc_m096_ok (rx_okcons rc_m095_ok (rx_okcons rc_m094_ok (rx_okcons rc_m093_ok (rx_okcons rc_m092_ok (rx_okcons rc_m091_ok (rx_okcons rc_m090_ok (rx_okcons rc_m08_ok (rx_okcons rc_m07_ok (rx_okcons rc_m06_ok (rx_okcons rc_m05_ok (rx_oknil))))))))))))))))))))))))))))))))))))))))))))))))))))))))) rfl rfl (by decide +kernel)

noncomputable def rc_c336 : rx_C := .inl (10, [.inl (226, 0), .inr (.inr (.inl (some 3))), .inl (227, 0), .inl (228, 0), .inl (229, 0), .inl (230, 0), .inl (231, 0), .inl (232, 0), .inl (233, 0), .inl (234, 0), .inl (235, 0), .inl (236, 0), .inr (.inl (237, 0)), .inl (238, 0), .inr (.inr (.inl (some 1))), .inr (.inr (.inr 100)), .inr (.inr (.inr 101)), .inr (.inr (.inr 102)), .inr (.inr (.inr 103)), .inr (.inr (.inl (some 4))), .inr (.inr (.inr 104)), .inr (.inr (.inr 105)), .inr (.inr (.inr 106)), .inr (.inr (.inr 107)), .inl (239, 0), .inl (240, 0), .inl (241, 0), .inr (.inr (.inr 108)), .inr (.inr (.inr 109)), .inr (.inr (.inr 110)), .inl (242, 0), .inl (243, 0), .inr (.inr (.inr 111)), .inr (.inr (.inr 112)), .inl (244, 0), .inl (245, 0), .inl (246, 0), .inl (247, 0), .inr (.inr (.inr 113)), .inl (248, 0), .inl (249, 0), .inr (.inr (.inl (some 2))), .inr (.inr (.inr 114)), .inl (0, 39), .inl (250, 0), .inr (.inr (.inr 115)), .inl (251, 0), .inl (252, 0), .inl (253, 0), .inl (254, 0)])
noncomputable def rc_c337 : rx_C := .inl (10, [.inl (226, 0), .inr (.inr (.inl (some 3))), .inl (227, 0), .inl (228, 0), .inl (229, 0), .inl (255, 0), .inl (256, 0), .inl (257, 0), .inl (258, 0), .inl (259, 0), .inl (260, 0), .inl (256, 0), .inr (.inl (261, 0)), .inl (262, 0), .inr (.inr (.inl (some 1))), .inr (.inr (.inr 100)), .inr (.inr (.inr 101)), .inr (.inr (.inr 102)), .inr (.inr (.inr 103)), .inr (.inr (.inl (some 4))), .inr (.inr (.inr 104)), .inr (.inr (.inr 105)), .inr (.inr (.inr 106)), .inr (.inr (.inr 107)), .inl (239, 0), .inl (240, 0), .inl (241, 0), .inr (.inr (.inr 108)), .inr (.inr (.inr 109)), .inr (.inr (.inr 110)), .inl (242, 0), .inl (243, 0), .inr (.inr (.inr 111)), .inr (.inr (.inr 112)), .inl (244, 0), .inl (245, 0), .inl (246, 0), .inl (247, 0), .inr (.inr (.inr 113)), .inl (248, 0), .inl (249, 0), .inr (.inr (.inl (some 2))), .inr (.inr (.inr 114)), .inl (0, 39), .inl (250, 0), .inr (.inr (.inr 115)), .inl (251, 0), .inl (252, 0), .inl (253, 0), .inl (254, 0)])
noncomputable def rc_c338 : rx_C := .inl (10, [.inl (226, 0), .inr (.inr (.inl (some 3))), .inl (227, 0), .inl (228, 0), .inl (229, 0), .inl (255, 0), .inl (256, 0), .inl (257, 0), .inl (258, 0), .inl (259, 0), .inl (235, 0), .inl (236, 0), .inr (.inl (260, 0)), .inl (261, 0), .inr (.inr (.inl (some 1))), .inr (.inr (.inr 100)), .inr (.inr (.inr 101)), .inr (.inr (.inr 102)), .inr (.inr (.inr 103)), .inr (.inr (.inl (some 4))), .inr (.inr (.inr 104)), .inr (.inr (.inr 105)), .inr (.inr (.inr 106)), .inr (.inr (.inr 107)), .inl (239, 0), .inl (240, 0), .inl (241, 0), .inr (.inr (.inr 108)), .inr (.inr (.inr 109)), .inr (.inr (.inr 110)), .inl (242, 0), .inl (243, 0), .inr (.inr (.inr 111)), .inr (.inr (.inr 112)), .inl (244, 0), .inl (245, 0), .inl (246, 0), .inl (247, 0), .inr (.inr (.inr 113)), .inl (248, 0), .inl (249, 0), .inr (.inr (.inl (some 2))), .inr (.inr (.inr 114)), .inl (0, 39), .inl (250, 0), .inr (.inr (.inr 115)), .inl (251, 0), .inl (252, 0), .inl (253, 0), .inl (254, 0)])
noncomputable def rc_c339 : rx_C := .inr (1000, 160, [.inl (146, 0), .inr (.inl (5, (-1))), .inl (147, 0), .inr (.inl (5, 0)), .inl (148, 0), .inr (.inl (5, (-1))), .inl (149, 0), .inr (.inl (5, 0)), .inl (150, 0), .inr (.inl (5, (-1))), .inl (151, 0), .inr (.inl (5, 0)), .inl (152, 0), .inr (.inl (5, (-1))), .inl (153, 0), .inr (.inl (5, 0)), .inl (154, 0), .inr (.inl (5, (-1))), .inl (155, 0), .inr (.inl (5, 0)), .inl (156, 0), .inr (.inl (5, (-1))), .inl (157, 0), .inr (.inl (5, 0)), .inl (158, 0), .inr (.inl (5, (-1))), .inl (159, 0), .inr (.inl (5, 0)), .inl (160, 0), .inr (.inl (5, (-1))), .inl (161, 0), .inr (.inl (5, 0)), .inl (162, 0), .inr (.inl (5, (-1))), .inl (163, 0), .inr (.inl (5, 0)), .inl (164, 0), .inr (.inl (5, (-1))), .inl (165, 0), .inr (.inl (5, 0)), .inl (166, 0), .inr (.inl (5, (-1))), .inl (167, 0), .inr (.inl (5, 0)), .inl (168, 0), .inr (.inl (5, (-1))), .inl (169, 0), .inr (.inl (5, 0)), .inl (170, 0), .inr (.inl (5, (-1))), .inl (171, 0), .inr (.inl (5, 0)), .inl (172, 0), .inr (.inl (5, (-1))), .inl (173, 0), .inr (.inl (5, 0)), .inl (174, 0), .inr (.inl (5, (-1))), .inl (175, 0), .inr (.inl (5, 0)), .inl (176, 0), .inr (.inl (5, (-1))), .inl (177, 0), .inr (.inl (5, 0)), .inl (178, 0), .inr (.inl (5, (-1))), .inl (179, 0), .inr (.inl (5, 0)), .inl (180, 0), .inr (.inl (5, (-1))), .inl (181, 0), .inr (.inl (5, 0)), .inl (182, 0), .inr (.inl (5, (-1))), .inl (183, 0), .inr (.inl (5, 0)), .inl (184, 0), .inr (.inl (5, (-1))), .inl (185, 0), .inr (.inl (5, 0)), .inl (186, 0), .inr (.inl (5, (-1))), .inl (187, 0), .inr (.inl (5, 0)), .inl (188, 0), .inr (.inl (5, (-1))), .inl (189, 0), .inr (.inl (5, 0)), .inl (190, 0), .inr (.inl (5, (-1))), .inl (191, 0), .inr (.inl (5, 0)), .inl (192, 0), .inr (.inl (5, (-1))), .inl (193, 0), .inr (.inl (5, 0)), .inl (194, 0), .inr (.inl (5, (-1))), .inl (195, 0), .inr (.inl (5, 0)), .inl (196, 0), .inr (.inl (5, (-1))), .inl (197, 0), .inr (.inl (5, 0)), .inl (198, 0), .inr (.inl (5, (-1))), .inl (199, 0), .inr (.inl (5, 0)), .inl (200, 0), .inr (.inl (5, (-1))), .inl (201, 0), .inr (.inl (5, 0)), .inl (202, 0), .inr (.inl (5, (-1))), .inl (203, 0), .inr (.inl (5, 0)), .inl (204, 0), .inr (.inl (5, (-1))), .inl (205, 0), .inr (.inl (5, 0)), .inl (206, 0), .inr (.inl (5, (-1))), .inl (207, 0), .inr (.inl (5, 0)), .inl (208, 0), .inr (.inl (5, (-1))), .inl (209, 0), .inr (.inl (5, 0)), .inl (210, 0), .inr (.inl (5, (-1))), .inl (211, 0), .inr (.inl (5, 0)), .inl (212, 0), .inr (.inl (5, (-1))), .inl (213, 0), .inr (.inl (5, 0)), .inl (214, 0), .inr (.inl (5, (-1))), .inl (215, 0), .inr (.inl (5, 0)), .inl (216, 0), .inr (.inl (5, (-1))), .inl (217, 0), .inr (.inl (5, 0)), .inl (218, 0), .inr (.inl (5, (-1))), .inl (219, 0), .inr (.inl (5, 0)), .inl (220, 0), .inr (.inl (5, (-1))), .inl (221, 0), .inr (.inl (5, 0)), .inl (222, 0), .inr (.inl (5, (-1))), .inl (223, 0), .inr (.inl (5, 0)), .inl (262, 0), .inr (.inl (5, (-1))), .inl (263, 0), .inr (.inl (5, 0))], .inr (.inl (0, 0)))
/-! LostKeysModel.readBookLine()Z -/
noncomputable def rc_m9239_h : List rx_C := [
  rc_c336,
  rc_c31,
  rc_c97,
  .inr (1000, 940, [], .inr (.inl (255, 0))),
  .inr (1003, 25, [], .inr (.inl (18446744073709551615, (-9223372036854775808))))]
noncomputable def rc_m9239_o : List (rx_T × (List (Nat × Nat) × List (Nat × Nat))) := [((((rx_apR rc_b158 [(0, 941), (0, 941), (0, 4), ((-2147483648), 2147483647), (0, 255), (0, 4), ((-9223372036854775808), 9223372036854775807), ((-2147483648), 2147483647), (0, 4), (0, 60)] (fun x => x)), []), [
  rc_c337,
  rc_c32,
  rc_c179,
  .inr (1000, 940, [], .inr (.inl (255, 0))),
  .inr (1003, 25, [], .inr (.inl (18446744073709551615, (-9223372036854775808))))], (0, 0), 0, [], [.inl (0, 0)]), ([], [(1, 5), (1, 6), (1, 7), (1, 8), (1, 9), (1, 10), (1, 12), (1, 13), (3, 156), (3, 158)])),
  (((rc_b159, [([(261, 3)], [((-1), 262)], 7)]), [
  rc_c338,
  rc_c32,
  rc_c339,
  .inr (1000, 940, [], .inr (.inl (255, 0))),
  .inr (1003, 25, [], .inr (.inl (18446744073709551615, (-9223372036854775808))))], (0, 0), 0, [], [.inl (0, 1)]), ([], [(1, 5), (1, 6), (1, 7), (1, 8), (1, 9), (1, 12), (1, 13), (3, 156), (3, 158)]))]
noncomputable def rc_m9239_k : rx_KE := ((221, 24), ([(0, 0), (1, 14), (1, 41), (1, 1), (1, 19)], rc_p19, [(1, 15), (1, 16), (1, 17), (1, 18), (1, 20), (1, 21), (1, 22), (1, 23), (1, 27), (1, 28), (1, 29), (1, 32), (1, 33), (1, 38), (1, 42), (1, 45)]), ((rc_b158, []), rc_m9239_h, [.inr (.inr (.inl (some 0)))]), rc_m9239_o.map Prod.fst)
noncomputable def rc_m9239_r : List rx_Cu := []
theorem rc_m9239_ok : rx_OK rc_m9239_k := rs_ok_of (KT := [rc_m9139_k, rc_m9138_k, rc_m9137_k, rc_m9136_k, rc_m9135_k, rc_m9134_k, rc_m9133_k, rc_m9132_k, rc_m9131_k, rc_m9130_k, rc_m9129_k, rc_m9128_k, rc_m9127_k, rc_m9126_k, rc_m9125_k, rc_m9124_k, rc_m9123_k, rc_m9122_k, rc_m9121_k, rc_m9120_k, rc_m9119_k, rc_m9118_k, rc_m9117_k, rc_m9116_k, rc_m9115_k, rc_m9114_k, rc_m9113_k, rc_m9112_k, rc_m9111_k, rc_m9110_k, rc_m9109_k, rc_m9108_k, rc_m9107_k, rc_m9106_k, rc_m9105_k, rc_m9104_k, rc_m9103_k, rc_m9102_k, rc_m9101_k, rc_m9100_k, rc_m133_k, rc_m132_k, rc_m131_k, rc_m130_k, rc_m10_k, rc_m096_k, rc_m095_k, rc_m094_k, rc_m093_k, rc_m092_k, rc_m091_k, rc_m090_k, rc_m08_k, rc_m07_k, rc_m06_k, rc_m05_k]) (fuel := 20000) (M0 := rx_m221) (fl := []) (m0 := ([], 0)) (rest := rc_m9239_r) (outs := rc_m9239_o) (rx_okcons rc_m9139_ok (rx_okcons rc_m9138_ok (rx_okcons rc_m9137_ok (rx_okcons rc_m9136_ok (rx_okcons rc_m9135_ok (rx_okcons rc_m9134_ok (rx_okcons rc_m9133_ok (rx_okcons rc_m9132_ok (rx_okcons rc_m9131_ok (rx_okcons rc_m9130_ok (rx_okcons rc_m9129_ok (rx_okcons rc_m9128_ok (rx_okcons rc_m9127_ok (rx_okcons rc_m9126_ok (rx_okcons rc_m9125_ok (rx_okcons rc_m9124_ok (rx_okcons rc_m9123_ok (rx_okcons rc_m9122_ok (rx_okcons rc_m9121_ok (rx_okcons rc_m9120_ok (rx_okcons rc_m9119_ok (rx_okcons rc_m9118_ok (rx_okcons rc_m9117_ok (rx_okcons rc_m9116_ok (rx_okcons rc_m9115_ok (rx_okcons rc_m9114_ok (rx_okcons rc_m9113_ok (rx_okcons rc_m9112_ok (rx_okcons rc_m9111_ok (rx_okcons rc_m9110_ok (rx_okcons rc_m9109_ok (rx_okcons rc_m9108_ok (rx_okcons rc_m9107_ok (rx_okcons rc_m9106_ok (rx_okcons rc_m9105_ok (rx_okcons rc_m9104_ok (rx_okcons rc_m9103_ok (rx_okcons rc_m9102_ok (rx_okcons rc_m9101_ok (rx_okcons rc_m9100_ok (rx_okcons rc_m133_ok (rx_okcons rc_m132_ok (rx_okcons rc_m131_ok (rx_okcons rc_m130_ok (rx_okcons rc_m10_ok (rx_okcons rc_m096_ok (rx_okcons rc_m095_ok (rx_okcons rc_m094_ok (rx_okcons rc_m093_ok (rx_okcons rc_m092_ok (rx_okcons rc_m091_ok (rx_okcons rc_m090_ok (rx_okcons rc_m08_ok (rx_okcons rc_m07_ok (rx_okcons rc_m06_ok (rx_okcons rc_m05_ok (rx_oknil))))))))))))))))))))))))))))))))))))))))))))))))))))))))) rfl rfl (by decide +kernel)

noncomputable def rc_c340 : rx_C := .inl (10, [.inl (226, 0), .inr (.inr (.inl (some 3))), .inl (227, 0), .inl (228, 0), .inl (229, 0), .inl (230, 0), .inl (231, 0), .inl (232, 0), .inl (233, 0), .inl (234, 0), .inl (235, 0), .inl (236, 0), .inr (.inl (237, 0)), .inl (238, 0), .inr (.inr (.inl (some 1))), .inr (.inr (.inr 100)), .inr (.inr (.inr 101)), .inr (.inr (.inr 102)), .inr (.inr (.inr 103)), .inr (.inr (.inl (some 4))), .inr (.inr (.inr 104)), .inr (.inr (.inr 105)), .inr (.inr (.inr 106)), .inr (.inr (.inr 107)), .inl (239, 0), .inl (240, 0), .inl (241, 0), .inr (.inr (.inr 108)), .inr (.inr (.inr 109)), .inr (.inr (.inr 110)), .inl (242, 0), .inl (243, 0), .inr (.inr (.inr 111)), .inr (.inr (.inr 112)), .inl (244, 0), .inl (245, 0), .inl (246, 0), .inl (247, 0), .inr (.inr (.inr 113)), .inl (248, 0), .inl (249, 0), .inr (.inr (.inl (some 2))), .inr (.inr (.inr 114)), .inl (0, 40), .inl (250, 0), .inr (.inr (.inr 115)), .inl (251, 0), .inl (252, 0), .inl (253, 0), .inl (254, 0)])
noncomputable def rc_c341 : rx_C := .inl (10, [.inl (226, 0), .inr (.inr (.inl (some 3))), .inl (227, 0), .inl (228, 0), .inl (229, 0), .inl (230, 0), .inl (231, 0), .inl (232, 0), .inl (233, 0), .inl (234, 0), .inl (255, 0), .inl (231, 0), .inr (.inl (237, 0)), .inl (238, 0), .inr (.inr (.inl (some 1))), .inr (.inr (.inr 100)), .inr (.inr (.inr 101)), .inr (.inr (.inr 102)), .inr (.inr (.inr 103)), .inr (.inr (.inl (some 4))), .inr (.inr (.inr 104)), .inr (.inr (.inr 105)), .inr (.inr (.inr 106)), .inr (.inr (.inr 107)), .inl (239, 0), .inl (240, 0), .inl (241, 0), .inr (.inr (.inr 108)), .inr (.inr (.inr 109)), .inr (.inr (.inr 110)), .inl (242, 0), .inl (243, 0), .inr (.inr (.inr 111)), .inr (.inr (.inr 112)), .inl (244, 0), .inl (245, 0), .inl (246, 0), .inl (247, 0), .inr (.inr (.inr 113)), .inl (248, 0), .inl (249, 0), .inr (.inr (.inl (some 2))), .inr (.inr (.inr 114)), .inl (0, 40), .inl (250, 0), .inr (.inr (.inr 115)), .inl (251, 0), .inl (252, 0), .inl (253, 0), .inl (254, 0)])
/-! LostKeysModel.readBookLine()Z -/
noncomputable def rc_m9240_h : List rx_C := [
  rc_c340,
  rc_c31,
  rc_c97,
  .inr (1000, 940, [], .inr (.inl (255, 0))),
  .inr (1003, 25, [], .inr (.inl (18446744073709551615, (-9223372036854775808))))]
noncomputable def rc_m9240_o : List (rx_T × (List (Nat × Nat) × List (Nat × Nat))) := [((((rx_apR rc_b158 [(0, 4)] (fun x => x)), []), [
  rc_c341,
  rc_c32,
  rc_c97,
  .inr (1000, 940, [], .inr (.inl (255, 0))),
  .inr (1003, 25, [], .inr (.inl (18446744073709551615, (-9223372036854775808))))], (0, 0), 0, [], [.inl (0, 0)]), ([], [(1, 10)]))]
noncomputable def rc_m9240_k : rx_KE := ((221, 24), ([(0, 0), (1, 14), (1, 41), (1, 1), (1, 19)], rc_p19, [(1, 15), (1, 16), (1, 17), (1, 18), (1, 20), (1, 21), (1, 22), (1, 23), (1, 27), (1, 28), (1, 29), (1, 32), (1, 33), (1, 38), (1, 42), (1, 45)]), ((rc_b158, []), rc_m9240_h, [.inr (.inr (.inl (some 0)))]), rc_m9240_o.map Prod.fst)
noncomputable def rc_m9240_r : List rx_Cu := []
theorem rc_m9240_ok : rx_OK rc_m9240_k := rs_ok_of (KT := [rc_m9139_k, rc_m9138_k, rc_m9137_k, rc_m9136_k, rc_m9135_k, rc_m9134_k, rc_m9133_k, rc_m9132_k, rc_m9131_k, rc_m9130_k, rc_m9129_k, rc_m9128_k, rc_m9127_k, rc_m9126_k, rc_m9125_k, rc_m9124_k, rc_m9123_k, rc_m9122_k, rc_m9121_k, rc_m9120_k, rc_m9119_k, rc_m9118_k, rc_m9117_k, rc_m9116_k, rc_m9115_k, rc_m9114_k, rc_m9113_k, rc_m9112_k, rc_m9111_k, rc_m9110_k, rc_m9109_k, rc_m9108_k, rc_m9107_k, rc_m9106_k, rc_m9105_k, rc_m9104_k, rc_m9103_k, rc_m9102_k, rc_m9101_k, rc_m9100_k, rc_m133_k, rc_m132_k, rc_m131_k, rc_m130_k, rc_m10_k, rc_m096_k, rc_m095_k, rc_m094_k, rc_m093_k, rc_m092_k, rc_m091_k, rc_m090_k, rc_m08_k, rc_m07_k, rc_m06_k, rc_m05_k]) (fuel := 20000) (M0 := rx_m221) (fl := []) (m0 := ([], 0)) (rest := rc_m9240_r) (outs := rc_m9240_o) (rx_okcons rc_m9139_ok (rx_okcons rc_m9138_ok (rx_okcons rc_m9137_ok (rx_okcons rc_m9136_ok (rx_okcons rc_m9135_ok (rx_okcons rc_m9134_ok (rx_okcons rc_m9133_ok (rx_okcons rc_m9132_ok (rx_okcons rc_m9131_ok (rx_okcons rc_m9130_ok (rx_okcons rc_m9129_ok (rx_okcons rc_m9128_ok (rx_okcons rc_m9127_ok (rx_okcons rc_m9126_ok (rx_okcons rc_m9125_ok (rx_okcons rc_m9124_ok (rx_okcons rc_m9123_ok (rx_okcons rc_m9122_ok (rx_okcons rc_m9121_ok (rx_okcons rc_m9120_ok (rx_okcons rc_m9119_ok (rx_okcons rc_m9118_ok (rx_okcons rc_m9117_ok (rx_okcons rc_m9116_ok (rx_okcons rc_m9115_ok (rx_okcons rc_m9114_ok (rx_okcons rc_m9113_ok (rx_okcons rc_m9112_ok (rx_okcons rc_m9111_ok (rx_okcons rc_m9110_ok (rx_okcons rc_m9109_ok (rx_okcons rc_m9108_ok (rx_okcons rc_m9107_ok (rx_okcons rc_m9106_ok (rx_okcons rc_m9105_ok (rx_okcons rc_m9104_ok (rx_okcons rc_m9103_ok (rx_okcons rc_m9102_ok (rx_okcons rc_m9101_ok (rx_okcons rc_m9100_ok (rx_okcons rc_m133_ok (rx_okcons rc_m132_ok (rx_okcons rc_m131_ok (rx_okcons rc_m130_ok (rx_okcons rc_m10_ok (rx_okcons rc_m096_ok (rx_okcons rc_m095_ok (rx_okcons rc_m094_ok (rx_okcons rc_m093_ok (rx_okcons rc_m092_ok (rx_okcons rc_m091_ok (rx_okcons rc_m090_ok (rx_okcons rc_m08_ok (rx_okcons rc_m07_ok (rx_okcons rc_m06_ok (rx_okcons rc_m05_ok (rx_oknil))))))))))))))))))))))))))))))))))))))))))))))))))))))))) rfl rfl (by decide +kernel)

noncomputable def rc_b160 : List (Int × Int) := [(0, 6), (0, 6), (0, 5), (0, 8), (2, 6), (2, 6), (1, 9), (0, 5), (0, 5), (0, 5), (0, 5), (0, 5), (0, 5), (0, 5), (0, 5), (0, 5), (0, 5), (0, 5), (0, 5), (0, 63), (0, 63), (0, 63), (0, 63), (0, 63), (0, 63), (0, 73), (0, 39), (0, 999), (0, 73), (0, 39), (0, 999), (0, 73), (0, 39), (0, 999), (0, 73), (0, 39), (0, 999), (0, 73), (0, 39), (0, 999), (0, 73), (0, 39), (0, 999), (0, 73), (0, 39), (0, 999), (0, 73), (0, 39), (0, 999), (0, 73), (0, 39), (0, 999), (0, 73), (0, 39), (0, 999), (0, 73), (0, 39), (0, 999), (0, 73), (0, 39), (0, 999), (0, 73), (0, 39), (0, 999), (0, 73), (0, 39), (0, 999), (0, 73), (0, 39), (0, 999), (0, 73), (0, 39), (0, 999), (0, 73), (0, 39), (0, 999), (0, 73), (0, 39), (0, 999), (0, 73), (0, 39), (0, 999), (0, 73), (0, 39), (0, 999), (0, 73), (0, 39), (0, 999), (0, 73), (0, 39), (0, 999), (0, 73), (0, 39), (0, 999), (0, 73), (0, 39), (0, 999), (0, 73), (0, 39), (0, 999), (0, 73), (0, 39), (0, 999), (0, 73), (0, 39), (0, 999), (0, 73), (0, 39), (0, 999), (0, 73), (0, 39), (0, 999), (0, 73), (0, 39), (0, 999), (0, 73), (0, 39), (0, 999), (0, 73), (0, 39), (0, 999), (0, 73), (0, 39), (0, 999), (0, 73), (0, 39), (0, 999), (0, 73), (0, 39), (0, 999), (0, 73), (0, 39), (0, 999), (0, 73), (0, 39), (0, 999), (0, 73), (0, 39), (0, 999), (0, 73), (0, 39), (0, 999), (0, 73), (0, 39), (0, 999), (0, 4), (0, 60), (0, 4), (0, 60), (0, 4), (0, 60), (0, 4), (0, 60), (0, 4), (0, 60), (0, 4), (0, 60), (0, 4), (0, 60), (0, 4), (0, 60), (0, 4), (0, 60), (0, 4), (0, 60), (0, 4), (0, 60), (0, 4), (0, 60), (0, 4), (0, 60), (0, 4), (0, 60), (0, 4), (0, 60), (0, 4), (0, 60), (0, 4), (0, 60), (0, 4), (0, 60), (0, 4), (0, 60), (0, 4), (0, 60), (0, 4), (0, 60), (0, 4), (0, 60), (0, 4), (0, 60), (0, 4), (0, 60), (0, 4), (0, 60), (0, 4), (0, 60), (0, 4), (0, 60), (0, 4), (0, 60), (0, 4), (0, 60), (0, 4), (0, 60), (0, 4), (0, 60), (0, 4), (0, 60), (0, 4), (0, 60), (0, 4), (0, 60), (0, 4), (0, 60), (0, 4), (0, 60), (0, 4), (0, 60), (0, 4), (0, 60), (0, 4), (0, 60), (0, 4), (0, 60), ((-2147483648), 2147483647), ((-2147483648), 2147483647), ((-2147483648), 2147483647), ((-2147483648), 2147483647), ((-2147483648), 2147483647), ((-2147483648), 2147483647), ((-2147483648), 2147483647), ((-2147483648), 2147483647), ((-2147483648), 2147483647), ((-2147483648), 2147483647), ((-2147483648), 2147483647), ((-9223372036854775808), 9223372036854775807), ((-2147483648), 2147483647), ((-2147483648), 2147483647), ((-2147483648), 2147483647), ((-2147483648), 2147483647), ((-2147483648), 2147483647), (0, 1), ((-2147483648), 2147483647), ((-2147483648), 2147483647), ((-2147483648), 2147483647), ((-2147483648), 2147483647), ((-2147483648), 2147483647), ((-2147483648), 2147483647), ((-2147483648), 2147483647), (0, 1), ((-2147483648), 2147483647), ((-2147483648), 2147483647), ((-2147483648), 2147483647), ((-2147483648), 2147483647)]
noncomputable def rc_c342 : rx_C := .inl (10, [.inl (226, 0), .inr (.inr (.inr 100)), .inl (227, 0), .inl (228, 0), .inl (229, 0), .inl (230, 0), .inl (231, 0), .inl (232, 0), .inl (233, 0), .inl (234, 0), .inl (235, 0), .inl (236, 0), .inr (.inl (237, 0)), .inl (238, 0), .inr (.inr (.inl (some 1))), .inr (.inr (.inr 101)), .inr (.inr (.inr 102)), .inr (.inr (.inr 103)), .inr (.inr (.inr 104)), .inr (.inr (.inr 105)), .inr (.inr (.inr 106)), .inr (.inr (.inr 107)), .inr (.inr (.inr 108)), .inr (.inr (.inr 109)), .inl (239, 0), .inl (240, 0), .inl (241, 0), .inr (.inr (.inr 110)), .inr (.inr (.inr 111)), .inr (.inr (.inr 112)), .inl (242, 0), .inl (243, 0), .inr (.inr (.inr 113)), .inr (.inr (.inr 114)), .inl (244, 0), .inl (245, 0), .inl (246, 0), .inl (247, 0), .inr (.inr (.inr 115)), .inl (248, 0), .inl (249, 0), .inr (.inr (.inl (some 2))), .inr (.inr (.inr 116)), .inl (250, 0), .inl (251, 0), .inr (.inr (.inr 117)), .inl (252, 0), .inl (253, 0), .inl (254, 0), .inl (255, 0)])
/-! LostKeysModel.goBy(I)I -/
noncomputable def rc_m9300_h : List rx_C := [
  rc_c342,
  rc_c31,
  rc_c97]
noncomputable def rc_m9300_o : List (rx_T × (List (Nat × Nat) × List (Nat × Nat))) := [((((rx_apR rc_b160 [(0, 41)] (fun x => x)), [([(145, 3)], [((-1), 146)], 7)]), [
  rc_c342,
  rc_c32,
  rc_c97], (0, 0), 0, [], [.inl (256, 0)]), ([], [(0, 1000)]))]
noncomputable def rc_m9300_k : rx_KE := ((168, 36), ([(0, 0), (1, 14), (1, 41)], rc_p18, [(1, 1), (1, 15), (1, 16), (1, 17), (1, 18), (1, 19), (1, 20), (1, 21), (1, 22), (1, 23), (1, 27), (1, 28), (1, 29), (1, 32), (1, 33), (1, 38), (1, 42), (1, 45)]), ((rc_b160, [([(145, 3)], [((-1), 146)], 7)]), rc_m9300_h, [.inr (.inr (.inl (some 0))), .inl (0, 0)]), rc_m9300_o.map Prod.fst)
noncomputable def rc_m9300_r : List rx_Cu := []
theorem rc_m9300_ok : rx_OK rc_m9300_k := rs_ok_of (KT := [rc_m424_k, rc_m414_k, rc_m51_k, rc_m423_k, rc_m413_k, rc_m422_k, rc_m412_k, rc_m421_k, rc_m411_k, rc_m420_k, rc_m410_k]) (fuel := 20000) (M0 := rx_m168) (fl := []) (m0 := ([], 0)) (rest := rc_m9300_r) (outs := rc_m9300_o) (rx_okcons rc_m424_ok (rx_okcons rc_m414_ok (rx_okcons rc_m51_ok (rx_okcons rc_m423_ok (rx_okcons rc_m413_ok (rx_okcons rc_m422_ok (rx_okcons rc_m412_ok (rx_okcons rc_m421_ok (rx_okcons rc_m411_ok (rx_okcons rc_m420_ok (rx_okcons rc_m410_ok (rx_oknil)))))))))))) rfl rfl (by decide +kernel)

/-! LostKeysModel.goBy(I)I -/
noncomputable def rc_m9301_h : List rx_C := [
  rc_c342,
  rc_c31,
  rc_c97]
noncomputable def rc_m9301_o : List (rx_T × (List (Nat × Nat) × List (Nat × Nat))) := [((((rx_apR rc_b160 [(0, 41)] (fun x => x)), [([(147, 3)], [((-1), 148)], 7)]), [
  rc_c342,
  rc_c32,
  rc_c97], (0, 0), 0, [], [.inl (256, 0)]), ([], [(0, 1000)]))]
noncomputable def rc_m9301_k : rx_KE := ((168, 36), ([(0, 0), (1, 14), (1, 41)], rc_p18, [(1, 1), (1, 15), (1, 16), (1, 17), (1, 18), (1, 19), (1, 20), (1, 21), (1, 22), (1, 23), (1, 27), (1, 28), (1, 29), (1, 32), (1, 33), (1, 38), (1, 42), (1, 45)]), ((rc_b160, [([(147, 3)], [((-1), 148)], 7)]), rc_m9301_h, [.inr (.inr (.inl (some 0))), .inl (0, 4)]), rc_m9301_o.map Prod.fst)
noncomputable def rc_m9301_r : List rx_Cu := []
theorem rc_m9301_ok : rx_OK rc_m9301_k := rs_ok_of (KT := [rc_m424_k, rc_m414_k, rc_m51_k, rc_m423_k, rc_m413_k, rc_m422_k, rc_m412_k, rc_m421_k, rc_m411_k, rc_m420_k, rc_m410_k]) (fuel := 20000) (M0 := rx_m168) (fl := []) (m0 := ([], 0)) (rest := rc_m9301_r) (outs := rc_m9301_o) (rx_okcons rc_m424_ok (rx_okcons rc_m414_ok (rx_okcons rc_m51_ok (rx_okcons rc_m423_ok (rx_okcons rc_m413_ok (rx_okcons rc_m422_ok (rx_okcons rc_m412_ok (rx_okcons rc_m421_ok (rx_okcons rc_m411_ok (rx_okcons rc_m420_ok (rx_okcons rc_m410_ok (rx_oknil)))))))))))) rfl rfl (by decide +kernel)

/-! LostKeysModel.goBy(I)I -/
noncomputable def rc_m9302_h : List rx_C := [
  rc_c342,
  rc_c31,
  rc_c97]
noncomputable def rc_m9302_o : List (rx_T × (List (Nat × Nat) × List (Nat × Nat))) := [((((rx_apR rc_b160 [(0, 41)] (fun x => x)), [([(149, 3)], [((-1), 150)], 7)]), [
  rc_c342,
  rc_c32,
  rc_c97], (0, 0), 0, [], [.inl (256, 0)]), ([], [(0, 1000)]))]
noncomputable def rc_m9302_k : rx_KE := ((168, 36), ([(0, 0), (1, 14), (1, 41)], rc_p18, [(1, 1), (1, 15), (1, 16), (1, 17), (1, 18), (1, 19), (1, 20), (1, 21), (1, 22), (1, 23), (1, 27), (1, 28), (1, 29), (1, 32), (1, 33), (1, 38), (1, 42), (1, 45)]), ((rc_b160, [([(149, 3)], [((-1), 150)], 7)]), rc_m9302_h, [.inr (.inr (.inl (some 0))), .inl (0, 8)]), rc_m9302_o.map Prod.fst)
noncomputable def rc_m9302_r : List rx_Cu := []
theorem rc_m9302_ok : rx_OK rc_m9302_k := rs_ok_of (KT := [rc_m424_k, rc_m414_k, rc_m51_k, rc_m423_k, rc_m413_k, rc_m422_k, rc_m412_k, rc_m421_k, rc_m411_k, rc_m420_k, rc_m410_k]) (fuel := 20000) (M0 := rx_m168) (fl := []) (m0 := ([], 0)) (rest := rc_m9302_r) (outs := rc_m9302_o) (rx_okcons rc_m424_ok (rx_okcons rc_m414_ok (rx_okcons rc_m51_ok (rx_okcons rc_m423_ok (rx_okcons rc_m413_ok (rx_okcons rc_m422_ok (rx_okcons rc_m412_ok (rx_okcons rc_m421_ok (rx_okcons rc_m411_ok (rx_okcons rc_m420_ok (rx_okcons rc_m410_ok (rx_oknil)))))))))))) rfl rfl (by decide +kernel)

/-! LostKeysModel.goBy(I)I -/
noncomputable def rc_m9303_h : List rx_C := [
  rc_c342,
  rc_c31,
  rc_c97]
noncomputable def rc_m9303_o : List (rx_T × (List (Nat × Nat) × List (Nat × Nat))) := [((((rx_apR rc_b160 [(0, 41)] (fun x => x)), [([(151, 3)], [((-1), 152)], 7)]), [
  rc_c342,
  rc_c32,
  rc_c97], (0, 0), 0, [], [.inl (256, 0)]), ([], [(0, 1000)]))]
noncomputable def rc_m9303_k : rx_KE := ((168, 36), ([(0, 0), (1, 14), (1, 41)], rc_p18, [(1, 1), (1, 15), (1, 16), (1, 17), (1, 18), (1, 19), (1, 20), (1, 21), (1, 22), (1, 23), (1, 27), (1, 28), (1, 29), (1, 32), (1, 33), (1, 38), (1, 42), (1, 45)]), ((rc_b160, [([(151, 3)], [((-1), 152)], 7)]), rc_m9303_h, [.inr (.inr (.inl (some 0))), .inl (0, 12)]), rc_m9303_o.map Prod.fst)
noncomputable def rc_m9303_r : List rx_Cu := []
theorem rc_m9303_ok : rx_OK rc_m9303_k := rs_ok_of (KT := [rc_m424_k, rc_m414_k, rc_m51_k, rc_m423_k, rc_m413_k, rc_m422_k, rc_m412_k, rc_m421_k, rc_m411_k, rc_m420_k, rc_m410_k]) (fuel := 20000) (M0 := rx_m168) (fl := []) (m0 := ([], 0)) (rest := rc_m9303_r) (outs := rc_m9303_o) (rx_okcons rc_m424_ok (rx_okcons rc_m414_ok (rx_okcons rc_m51_ok (rx_okcons rc_m423_ok (rx_okcons rc_m413_ok (rx_okcons rc_m422_ok (rx_okcons rc_m412_ok (rx_okcons rc_m421_ok (rx_okcons rc_m411_ok (rx_okcons rc_m420_ok (rx_okcons rc_m410_ok (rx_oknil)))))))))))) rfl rfl (by decide +kernel)

/-! LostKeysModel.goBy(I)I -/
noncomputable def rc_m9304_h : List rx_C := [
  rc_c342,
  rc_c31,
  rc_c97]
noncomputable def rc_m9304_o : List (rx_T × (List (Nat × Nat) × List (Nat × Nat))) := [((((rx_apR rc_b160 [(0, 41)] (fun x => x)), [([(153, 3)], [((-1), 154)], 7)]), [
  rc_c342,
  rc_c32,
  rc_c97], (0, 0), 0, [], [.inl (256, 0)]), ([], [(0, 1000)]))]
noncomputable def rc_m9304_k : rx_KE := ((168, 36), ([(0, 0), (1, 14), (1, 41)], rc_p18, [(1, 1), (1, 15), (1, 16), (1, 17), (1, 18), (1, 19), (1, 20), (1, 21), (1, 22), (1, 23), (1, 27), (1, 28), (1, 29), (1, 32), (1, 33), (1, 38), (1, 42), (1, 45)]), ((rc_b160, [([(153, 3)], [((-1), 154)], 7)]), rc_m9304_h, [.inr (.inr (.inl (some 0))), .inl (0, 16)]), rc_m9304_o.map Prod.fst)
noncomputable def rc_m9304_r : List rx_Cu := []
theorem rc_m9304_ok : rx_OK rc_m9304_k := rs_ok_of (KT := [rc_m424_k, rc_m414_k, rc_m51_k, rc_m423_k, rc_m413_k, rc_m422_k, rc_m412_k, rc_m421_k, rc_m411_k, rc_m420_k, rc_m410_k]) (fuel := 20000) (M0 := rx_m168) (fl := []) (m0 := ([], 0)) (rest := rc_m9304_r) (outs := rc_m9304_o) (rx_okcons rc_m424_ok (rx_okcons rc_m414_ok (rx_okcons rc_m51_ok (rx_okcons rc_m423_ok (rx_okcons rc_m413_ok (rx_okcons rc_m422_ok (rx_okcons rc_m412_ok (rx_okcons rc_m421_ok (rx_okcons rc_m411_ok (rx_okcons rc_m420_ok (rx_okcons rc_m410_ok (rx_oknil)))))))))))) rfl rfl (by decide +kernel)

/-! LostKeysModel.goBy(I)I -/
noncomputable def rc_m9305_h : List rx_C := [
  rc_c342,
  rc_c31,
  rc_c97]
noncomputable def rc_m9305_o : List (rx_T × (List (Nat × Nat) × List (Nat × Nat))) := [((((rx_apR rc_b160 [(0, 41)] (fun x => x)), [([(155, 3)], [((-1), 156)], 7)]), [
  rc_c342,
  rc_c32,
  rc_c97], (0, 0), 0, [], [.inl (256, 0)]), ([], [(0, 1000)]))]
noncomputable def rc_m9305_k : rx_KE := ((168, 36), ([(0, 0), (1, 14), (1, 41)], rc_p18, [(1, 1), (1, 15), (1, 16), (1, 17), (1, 18), (1, 19), (1, 20), (1, 21), (1, 22), (1, 23), (1, 27), (1, 28), (1, 29), (1, 32), (1, 33), (1, 38), (1, 42), (1, 45)]), ((rc_b160, [([(155, 3)], [((-1), 156)], 7)]), rc_m9305_h, [.inr (.inr (.inl (some 0))), .inl (0, 20)]), rc_m9305_o.map Prod.fst)
noncomputable def rc_m9305_r : List rx_Cu := []
theorem rc_m9305_ok : rx_OK rc_m9305_k := rs_ok_of (KT := [rc_m424_k, rc_m414_k, rc_m51_k, rc_m423_k, rc_m413_k, rc_m422_k, rc_m412_k, rc_m421_k, rc_m411_k, rc_m420_k, rc_m410_k]) (fuel := 20000) (M0 := rx_m168) (fl := []) (m0 := ([], 0)) (rest := rc_m9305_r) (outs := rc_m9305_o) (rx_okcons rc_m424_ok (rx_okcons rc_m414_ok (rx_okcons rc_m51_ok (rx_okcons rc_m423_ok (rx_okcons rc_m413_ok (rx_okcons rc_m422_ok (rx_okcons rc_m412_ok (rx_okcons rc_m421_ok (rx_okcons rc_m411_ok (rx_okcons rc_m420_ok (rx_okcons rc_m410_ok (rx_oknil)))))))))))) rfl rfl (by decide +kernel)

/-! LostKeysModel.goBy(I)I -/
noncomputable def rc_m9306_h : List rx_C := [
  rc_c342,
  rc_c31,
  rc_c97]
noncomputable def rc_m9306_o : List (rx_T × (List (Nat × Nat) × List (Nat × Nat))) := [((((rx_apR rc_b160 [(0, 41)] (fun x => x)), [([(157, 3)], [((-1), 158)], 7)]), [
  rc_c342,
  rc_c32,
  rc_c97], (0, 0), 0, [], [.inl (256, 0)]), ([], [(0, 1000)]))]
noncomputable def rc_m9306_k : rx_KE := ((168, 36), ([(0, 0), (1, 14), (1, 41)], rc_p18, [(1, 1), (1, 15), (1, 16), (1, 17), (1, 18), (1, 19), (1, 20), (1, 21), (1, 22), (1, 23), (1, 27), (1, 28), (1, 29), (1, 32), (1, 33), (1, 38), (1, 42), (1, 45)]), ((rc_b160, [([(157, 3)], [((-1), 158)], 7)]), rc_m9306_h, [.inr (.inr (.inl (some 0))), .inl (0, 24)]), rc_m9306_o.map Prod.fst)
noncomputable def rc_m9306_r : List rx_Cu := []
theorem rc_m9306_ok : rx_OK rc_m9306_k := rs_ok_of (KT := [rc_m424_k, rc_m414_k, rc_m51_k, rc_m423_k, rc_m413_k, rc_m422_k, rc_m412_k, rc_m421_k, rc_m411_k, rc_m420_k, rc_m410_k]) (fuel := 20000) (M0 := rx_m168) (fl := []) (m0 := ([], 0)) (rest := rc_m9306_r) (outs := rc_m9306_o) (rx_okcons rc_m424_ok (rx_okcons rc_m414_ok (rx_okcons rc_m51_ok (rx_okcons rc_m423_ok (rx_okcons rc_m413_ok (rx_okcons rc_m422_ok (rx_okcons rc_m412_ok (rx_okcons rc_m421_ok (rx_okcons rc_m411_ok (rx_okcons rc_m420_ok (rx_okcons rc_m410_ok (rx_oknil)))))))))))) rfl rfl (by decide +kernel)

/-! LostKeysModel.goBy(I)I -/
noncomputable def rc_m9307_h : List rx_C := [
  rc_c342,
  rc_c31,
  rc_c97]
noncomputable def rc_m9307_o : List (rx_T × (List (Nat × Nat) × List (Nat × Nat))) := [((((rx_apR rc_b160 [(0, 41)] (fun x => x)), [([(159, 3)], [((-1), 160)], 7)]), [
  rc_c342,
  rc_c32,
  rc_c97], (0, 0), 0, [], [.inl (256, 0)]), ([], [(0, 1000)]))]
noncomputable def rc_m9307_k : rx_KE := ((168, 36), ([(0, 0), (1, 14), (1, 41)], rc_p18, [(1, 1), (1, 15), (1, 16), (1, 17), (1, 18), (1, 19), (1, 20), (1, 21), (1, 22), (1, 23), (1, 27), (1, 28), (1, 29), (1, 32), (1, 33), (1, 38), (1, 42), (1, 45)]), ((rc_b160, [([(159, 3)], [((-1), 160)], 7)]), rc_m9307_h, [.inr (.inr (.inl (some 0))), .inl (0, 28)]), rc_m9307_o.map Prod.fst)
noncomputable def rc_m9307_r : List rx_Cu := []
theorem rc_m9307_ok : rx_OK rc_m9307_k := rs_ok_of (KT := [rc_m424_k, rc_m414_k, rc_m51_k, rc_m423_k, rc_m413_k, rc_m422_k, rc_m412_k, rc_m421_k, rc_m411_k, rc_m420_k, rc_m410_k]) (fuel := 20000) (M0 := rx_m168) (fl := []) (m0 := ([], 0)) (rest := rc_m9307_r) (outs := rc_m9307_o) (rx_okcons rc_m424_ok (rx_okcons rc_m414_ok (rx_okcons rc_m51_ok (rx_okcons rc_m423_ok (rx_okcons rc_m413_ok (rx_okcons rc_m422_ok (rx_okcons rc_m412_ok (rx_okcons rc_m421_ok (rx_okcons rc_m411_ok (rx_okcons rc_m420_ok (rx_okcons rc_m410_ok (rx_oknil)))))))))))) rfl rfl (by decide +kernel)

/-! LostKeysModel.goBy(I)I -/
noncomputable def rc_m9308_h : List rx_C := [
  rc_c342,
  rc_c31,
  rc_c97]
noncomputable def rc_m9308_o : List (rx_T × (List (Nat × Nat) × List (Nat × Nat))) := [((((rx_apR rc_b160 [(0, 41)] (fun x => x)), [([(161, 3)], [((-1), 162)], 7)]), [
  rc_c342,
  rc_c32,
  rc_c97], (0, 0), 0, [], [.inl (256, 0)]), ([], [(0, 1000)]))]
noncomputable def rc_m9308_k : rx_KE := ((168, 36), ([(0, 0), (1, 14), (1, 41)], rc_p18, [(1, 1), (1, 15), (1, 16), (1, 17), (1, 18), (1, 19), (1, 20), (1, 21), (1, 22), (1, 23), (1, 27), (1, 28), (1, 29), (1, 32), (1, 33), (1, 38), (1, 42), (1, 45)]), ((rc_b160, [([(161, 3)], [((-1), 162)], 7)]), rc_m9308_h, [.inr (.inr (.inl (some 0))), .inl (0, 32)]), rc_m9308_o.map Prod.fst)
noncomputable def rc_m9308_r : List rx_Cu := []
theorem rc_m9308_ok : rx_OK rc_m9308_k := rs_ok_of (KT := [rc_m424_k, rc_m414_k, rc_m51_k, rc_m423_k, rc_m413_k, rc_m422_k, rc_m412_k, rc_m421_k, rc_m411_k, rc_m420_k, rc_m410_k]) (fuel := 20000) (M0 := rx_m168) (fl := []) (m0 := ([], 0)) (rest := rc_m9308_r) (outs := rc_m9308_o) (rx_okcons rc_m424_ok (rx_okcons rc_m414_ok (rx_okcons rc_m51_ok (rx_okcons rc_m423_ok (rx_okcons rc_m413_ok (rx_okcons rc_m422_ok (rx_okcons rc_m412_ok (rx_okcons rc_m421_ok (rx_okcons rc_m411_ok (rx_okcons rc_m420_ok (rx_okcons rc_m410_ok (rx_oknil)))))))))))) rfl rfl (by decide +kernel)

/-! LostKeysModel.goBy(I)I -/
noncomputable def rc_m9309_h : List rx_C := [
  rc_c342,
  rc_c31,
  rc_c97]
noncomputable def rc_m9309_o : List (rx_T × (List (Nat × Nat) × List (Nat × Nat))) := [((((rx_apR rc_b160 [(0, 41)] (fun x => x)), [([(163, 3)], [((-1), 164)], 7)]), [
  rc_c342,
  rc_c32,
  rc_c97], (0, 0), 0, [], [.inl (256, 0)]), ([], [(0, 1000)]))]
noncomputable def rc_m9309_k : rx_KE := ((168, 36), ([(0, 0), (1, 14), (1, 41)], rc_p18, [(1, 1), (1, 15), (1, 16), (1, 17), (1, 18), (1, 19), (1, 20), (1, 21), (1, 22), (1, 23), (1, 27), (1, 28), (1, 29), (1, 32), (1, 33), (1, 38), (1, 42), (1, 45)]), ((rc_b160, [([(163, 3)], [((-1), 164)], 7)]), rc_m9309_h, [.inr (.inr (.inl (some 0))), .inl (0, 36)]), rc_m9309_o.map Prod.fst)
noncomputable def rc_m9309_r : List rx_Cu := []
theorem rc_m9309_ok : rx_OK rc_m9309_k := rs_ok_of (KT := [rc_m424_k, rc_m414_k, rc_m51_k, rc_m423_k, rc_m413_k, rc_m422_k, rc_m412_k, rc_m421_k, rc_m411_k, rc_m420_k, rc_m410_k]) (fuel := 20000) (M0 := rx_m168) (fl := []) (m0 := ([], 0)) (rest := rc_m9309_r) (outs := rc_m9309_o) (rx_okcons rc_m424_ok (rx_okcons rc_m414_ok (rx_okcons rc_m51_ok (rx_okcons rc_m423_ok (rx_okcons rc_m413_ok (rx_okcons rc_m422_ok (rx_okcons rc_m412_ok (rx_okcons rc_m421_ok (rx_okcons rc_m411_ok (rx_okcons rc_m420_ok (rx_okcons rc_m410_ok (rx_oknil)))))))))))) rfl rfl (by decide +kernel)

/-! LostKeysModel.goBy(I)I -/
noncomputable def rc_m9310_h : List rx_C := [
  rc_c342,
  rc_c31,
  rc_c97]
noncomputable def rc_m9310_o : List (rx_T × (List (Nat × Nat) × List (Nat × Nat))) := [((((rx_apR rc_b160 [(0, 41)] (fun x => x)), [([(165, 3)], [((-1), 166)], 7)]), [
  rc_c342,
  rc_c32,
  rc_c97], (0, 0), 0, [], [.inl (256, 0)]), ([], [(0, 1000)]))]
noncomputable def rc_m9310_k : rx_KE := ((168, 36), ([(0, 0), (1, 14), (1, 41)], rc_p18, [(1, 1), (1, 15), (1, 16), (1, 17), (1, 18), (1, 19), (1, 20), (1, 21), (1, 22), (1, 23), (1, 27), (1, 28), (1, 29), (1, 32), (1, 33), (1, 38), (1, 42), (1, 45)]), ((rc_b160, [([(165, 3)], [((-1), 166)], 7)]), rc_m9310_h, [.inr (.inr (.inl (some 0))), .inl (0, 40)]), rc_m9310_o.map Prod.fst)
noncomputable def rc_m9310_r : List rx_Cu := []
theorem rc_m9310_ok : rx_OK rc_m9310_k := rs_ok_of (KT := [rc_m424_k, rc_m414_k, rc_m51_k, rc_m423_k, rc_m413_k, rc_m422_k, rc_m412_k, rc_m421_k, rc_m411_k, rc_m420_k, rc_m410_k]) (fuel := 20000) (M0 := rx_m168) (fl := []) (m0 := ([], 0)) (rest := rc_m9310_r) (outs := rc_m9310_o) (rx_okcons rc_m424_ok (rx_okcons rc_m414_ok (rx_okcons rc_m51_ok (rx_okcons rc_m423_ok (rx_okcons rc_m413_ok (rx_okcons rc_m422_ok (rx_okcons rc_m412_ok (rx_okcons rc_m421_ok (rx_okcons rc_m411_ok (rx_okcons rc_m420_ok (rx_okcons rc_m410_ok (rx_oknil)))))))))))) rfl rfl (by decide +kernel)

/-! LostKeysModel.goBy(I)I -/
noncomputable def rc_m9311_h : List rx_C := [
  rc_c342,
  rc_c31,
  rc_c97]
noncomputable def rc_m9311_o : List (rx_T × (List (Nat × Nat) × List (Nat × Nat))) := [((((rx_apR rc_b160 [(0, 41)] (fun x => x)), [([(167, 3)], [((-1), 168)], 7)]), [
  rc_c342,
  rc_c32,
  rc_c97], (0, 0), 0, [], [.inl (256, 0)]), ([], [(0, 1000)]))]
noncomputable def rc_m9311_k : rx_KE := ((168, 36), ([(0, 0), (1, 14), (1, 41)], rc_p18, [(1, 1), (1, 15), (1, 16), (1, 17), (1, 18), (1, 19), (1, 20), (1, 21), (1, 22), (1, 23), (1, 27), (1, 28), (1, 29), (1, 32), (1, 33), (1, 38), (1, 42), (1, 45)]), ((rc_b160, [([(167, 3)], [((-1), 168)], 7)]), rc_m9311_h, [.inr (.inr (.inl (some 0))), .inl (0, 44)]), rc_m9311_o.map Prod.fst)
noncomputable def rc_m9311_r : List rx_Cu := []
theorem rc_m9311_ok : rx_OK rc_m9311_k := rs_ok_of (KT := [rc_m424_k, rc_m414_k, rc_m51_k, rc_m423_k, rc_m413_k, rc_m422_k, rc_m412_k, rc_m421_k, rc_m411_k, rc_m420_k, rc_m410_k]) (fuel := 20000) (M0 := rx_m168) (fl := []) (m0 := ([], 0)) (rest := rc_m9311_r) (outs := rc_m9311_o) (rx_okcons rc_m424_ok (rx_okcons rc_m414_ok (rx_okcons rc_m51_ok (rx_okcons rc_m423_ok (rx_okcons rc_m413_ok (rx_okcons rc_m422_ok (rx_okcons rc_m412_ok (rx_okcons rc_m421_ok (rx_okcons rc_m411_ok (rx_okcons rc_m420_ok (rx_okcons rc_m410_ok (rx_oknil)))))))))))) rfl rfl (by decide +kernel)

/-! LostKeysModel.goBy(I)I -/
noncomputable def rc_m9312_h : List rx_C := [
  rc_c342,
  rc_c31,
  rc_c97]
noncomputable def rc_m9312_o : List (rx_T × (List (Nat × Nat) × List (Nat × Nat))) := [((((rx_apR rc_b160 [(0, 41)] (fun x => x)), [([(169, 3)], [((-1), 170)], 7)]), [
  rc_c342,
  rc_c32,
  rc_c97], (0, 0), 0, [], [.inl (256, 0)]), ([], [(0, 1000)]))]
noncomputable def rc_m9312_k : rx_KE := ((168, 36), ([(0, 0), (1, 14), (1, 41)], rc_p18, [(1, 1), (1, 15), (1, 16), (1, 17), (1, 18), (1, 19), (1, 20), (1, 21), (1, 22), (1, 23), (1, 27), (1, 28), (1, 29), (1, 32), (1, 33), (1, 38), (1, 42), (1, 45)]), ((rc_b160, [([(169, 3)], [((-1), 170)], 7)]), rc_m9312_h, [.inr (.inr (.inl (some 0))), .inl (0, 48)]), rc_m9312_o.map Prod.fst)
noncomputable def rc_m9312_r : List rx_Cu := []
theorem rc_m9312_ok : rx_OK rc_m9312_k := rs_ok_of (KT := [rc_m424_k, rc_m414_k, rc_m51_k, rc_m423_k, rc_m413_k, rc_m422_k, rc_m412_k, rc_m421_k, rc_m411_k, rc_m420_k, rc_m410_k]) (fuel := 20000) (M0 := rx_m168) (fl := []) (m0 := ([], 0)) (rest := rc_m9312_r) (outs := rc_m9312_o) (rx_okcons rc_m424_ok (rx_okcons rc_m414_ok (rx_okcons rc_m51_ok (rx_okcons rc_m423_ok (rx_okcons rc_m413_ok (rx_okcons rc_m422_ok (rx_okcons rc_m412_ok (rx_okcons rc_m421_ok (rx_okcons rc_m411_ok (rx_okcons rc_m420_ok (rx_okcons rc_m410_ok (rx_oknil)))))))))))) rfl rfl (by decide +kernel)

/-! LostKeysModel.goBy(I)I -/
noncomputable def rc_m9313_h : List rx_C := [
  rc_c342,
  rc_c31,
  rc_c97]
noncomputable def rc_m9313_o : List (rx_T × (List (Nat × Nat) × List (Nat × Nat))) := [((((rx_apR rc_b160 [(0, 41)] (fun x => x)), [([(171, 3)], [((-1), 172)], 7)]), [
  rc_c342,
  rc_c32,
  rc_c97], (0, 0), 0, [], [.inl (256, 0)]), ([], [(0, 1000)]))]
noncomputable def rc_m9313_k : rx_KE := ((168, 36), ([(0, 0), (1, 14), (1, 41)], rc_p18, [(1, 1), (1, 15), (1, 16), (1, 17), (1, 18), (1, 19), (1, 20), (1, 21), (1, 22), (1, 23), (1, 27), (1, 28), (1, 29), (1, 32), (1, 33), (1, 38), (1, 42), (1, 45)]), ((rc_b160, [([(171, 3)], [((-1), 172)], 7)]), rc_m9313_h, [.inr (.inr (.inl (some 0))), .inl (0, 52)]), rc_m9313_o.map Prod.fst)
noncomputable def rc_m9313_r : List rx_Cu := []
theorem rc_m9313_ok : rx_OK rc_m9313_k := rs_ok_of (KT := [rc_m424_k, rc_m414_k, rc_m51_k, rc_m423_k, rc_m413_k, rc_m422_k, rc_m412_k, rc_m421_k, rc_m411_k, rc_m420_k, rc_m410_k]) (fuel := 20000) (M0 := rx_m168) (fl := []) (m0 := ([], 0)) (rest := rc_m9313_r) (outs := rc_m9313_o) (rx_okcons rc_m424_ok (rx_okcons rc_m414_ok (rx_okcons rc_m51_ok (rx_okcons rc_m423_ok (rx_okcons rc_m413_ok (rx_okcons rc_m422_ok (rx_okcons rc_m412_ok (rx_okcons rc_m421_ok (rx_okcons rc_m411_ok (rx_okcons rc_m420_ok (rx_okcons rc_m410_ok (rx_oknil)))))))))))) rfl rfl (by decide +kernel)

/-! LostKeysModel.goBy(I)I -/
noncomputable def rc_m9314_h : List rx_C := [
  rc_c342,
  rc_c31,
  rc_c97]
noncomputable def rc_m9314_o : List (rx_T × (List (Nat × Nat) × List (Nat × Nat))) := [((((rx_apR rc_b160 [(0, 41)] (fun x => x)), [([(173, 3)], [((-1), 174)], 7)]), [
  rc_c342,
  rc_c32,
  rc_c97], (0, 0), 0, [], [.inl (256, 0)]), ([], [(0, 1000)]))]
noncomputable def rc_m9314_k : rx_KE := ((168, 36), ([(0, 0), (1, 14), (1, 41)], rc_p18, [(1, 1), (1, 15), (1, 16), (1, 17), (1, 18), (1, 19), (1, 20), (1, 21), (1, 22), (1, 23), (1, 27), (1, 28), (1, 29), (1, 32), (1, 33), (1, 38), (1, 42), (1, 45)]), ((rc_b160, [([(173, 3)], [((-1), 174)], 7)]), rc_m9314_h, [.inr (.inr (.inl (some 0))), .inl (0, 56)]), rc_m9314_o.map Prod.fst)
noncomputable def rc_m9314_r : List rx_Cu := []
theorem rc_m9314_ok : rx_OK rc_m9314_k := rs_ok_of (KT := [rc_m424_k, rc_m414_k, rc_m51_k, rc_m423_k, rc_m413_k, rc_m422_k, rc_m412_k, rc_m421_k, rc_m411_k, rc_m420_k, rc_m410_k]) (fuel := 20000) (M0 := rx_m168) (fl := []) (m0 := ([], 0)) (rest := rc_m9314_r) (outs := rc_m9314_o) (rx_okcons rc_m424_ok (rx_okcons rc_m414_ok (rx_okcons rc_m51_ok (rx_okcons rc_m423_ok (rx_okcons rc_m413_ok (rx_okcons rc_m422_ok (rx_okcons rc_m412_ok (rx_okcons rc_m421_ok (rx_okcons rc_m411_ok (rx_okcons rc_m420_ok (rx_okcons rc_m410_ok (rx_oknil)))))))))))) rfl rfl (by decide +kernel)

/-! LostKeysModel.goBy(I)I -/
noncomputable def rc_m9315_h : List rx_C := [
  rc_c342,
  rc_c31,
  rc_c97]
noncomputable def rc_m9315_o : List (rx_T × (List (Nat × Nat) × List (Nat × Nat))) := [((((rx_apR rc_b160 [(0, 41)] (fun x => x)), [([(175, 3)], [((-1), 176)], 7)]), [
  rc_c342,
  rc_c32,
  rc_c97], (0, 0), 0, [], [.inl (256, 0)]), ([], [(0, 1000)]))]
noncomputable def rc_m9315_k : rx_KE := ((168, 36), ([(0, 0), (1, 14), (1, 41)], rc_p18, [(1, 1), (1, 15), (1, 16), (1, 17), (1, 18), (1, 19), (1, 20), (1, 21), (1, 22), (1, 23), (1, 27), (1, 28), (1, 29), (1, 32), (1, 33), (1, 38), (1, 42), (1, 45)]), ((rc_b160, [([(175, 3)], [((-1), 176)], 7)]), rc_m9315_h, [.inr (.inr (.inl (some 0))), .inl (0, 60)]), rc_m9315_o.map Prod.fst)
noncomputable def rc_m9315_r : List rx_Cu := []
theorem rc_m9315_ok : rx_OK rc_m9315_k := rs_ok_of (KT := [rc_m424_k, rc_m414_k, rc_m51_k, rc_m423_k, rc_m413_k, rc_m422_k, rc_m412_k, rc_m421_k, rc_m411_k, rc_m420_k, rc_m410_k]) (fuel := 20000) (M0 := rx_m168) (fl := []) (m0 := ([], 0)) (rest := rc_m9315_r) (outs := rc_m9315_o) (rx_okcons rc_m424_ok (rx_okcons rc_m414_ok (rx_okcons rc_m51_ok (rx_okcons rc_m423_ok (rx_okcons rc_m413_ok (rx_okcons rc_m422_ok (rx_okcons rc_m412_ok (rx_okcons rc_m421_ok (rx_okcons rc_m411_ok (rx_okcons rc_m420_ok (rx_okcons rc_m410_ok (rx_oknil)))))))))))) rfl rfl (by decide +kernel)

/-! LostKeysModel.goBy(I)I -/
noncomputable def rc_m9316_h : List rx_C := [
  rc_c342,
  rc_c31,
  rc_c97]
noncomputable def rc_m9316_o : List (rx_T × (List (Nat × Nat) × List (Nat × Nat))) := [((((rx_apR rc_b160 [(0, 41)] (fun x => x)), [([(177, 3)], [((-1), 178)], 7)]), [
  rc_c342,
  rc_c32,
  rc_c97], (0, 0), 0, [], [.inl (256, 0)]), ([], [(0, 1000)]))]
noncomputable def rc_m9316_k : rx_KE := ((168, 36), ([(0, 0), (1, 14), (1, 41)], rc_p18, [(1, 1), (1, 15), (1, 16), (1, 17), (1, 18), (1, 19), (1, 20), (1, 21), (1, 22), (1, 23), (1, 27), (1, 28), (1, 29), (1, 32), (1, 33), (1, 38), (1, 42), (1, 45)]), ((rc_b160, [([(177, 3)], [((-1), 178)], 7)]), rc_m9316_h, [.inr (.inr (.inl (some 0))), .inl (0, 64)]), rc_m9316_o.map Prod.fst)
noncomputable def rc_m9316_r : List rx_Cu := []
theorem rc_m9316_ok : rx_OK rc_m9316_k := rs_ok_of (KT := [rc_m424_k, rc_m414_k, rc_m51_k, rc_m423_k, rc_m413_k, rc_m422_k, rc_m412_k, rc_m421_k, rc_m411_k, rc_m420_k, rc_m410_k]) (fuel := 20000) (M0 := rx_m168) (fl := []) (m0 := ([], 0)) (rest := rc_m9316_r) (outs := rc_m9316_o) (rx_okcons rc_m424_ok (rx_okcons rc_m414_ok (rx_okcons rc_m51_ok (rx_okcons rc_m423_ok (rx_okcons rc_m413_ok (rx_okcons rc_m422_ok (rx_okcons rc_m412_ok (rx_okcons rc_m421_ok (rx_okcons rc_m411_ok (rx_okcons rc_m420_ok (rx_okcons rc_m410_ok (rx_oknil)))))))))))) rfl rfl (by decide +kernel)

/-! LostKeysModel.goBy(I)I -/
noncomputable def rc_m9317_h : List rx_C := [
  rc_c342,
  rc_c31,
  rc_c97]
noncomputable def rc_m9317_o : List (rx_T × (List (Nat × Nat) × List (Nat × Nat))) := [((((rx_apR rc_b160 [(0, 41)] (fun x => x)), [([(179, 3)], [((-1), 180)], 7)]), [
  rc_c342,
  rc_c32,
  rc_c97], (0, 0), 0, [], [.inl (256, 0)]), ([], [(0, 1000)]))]
noncomputable def rc_m9317_k : rx_KE := ((168, 36), ([(0, 0), (1, 14), (1, 41)], rc_p18, [(1, 1), (1, 15), (1, 16), (1, 17), (1, 18), (1, 19), (1, 20), (1, 21), (1, 22), (1, 23), (1, 27), (1, 28), (1, 29), (1, 32), (1, 33), (1, 38), (1, 42), (1, 45)]), ((rc_b160, [([(179, 3)], [((-1), 180)], 7)]), rc_m9317_h, [.inr (.inr (.inl (some 0))), .inl (0, 68)]), rc_m9317_o.map Prod.fst)
noncomputable def rc_m9317_r : List rx_Cu := []
theorem rc_m9317_ok : rx_OK rc_m9317_k := rs_ok_of (KT := [rc_m424_k, rc_m414_k, rc_m51_k, rc_m423_k, rc_m413_k, rc_m422_k, rc_m412_k, rc_m421_k, rc_m411_k, rc_m420_k, rc_m410_k]) (fuel := 20000) (M0 := rx_m168) (fl := []) (m0 := ([], 0)) (rest := rc_m9317_r) (outs := rc_m9317_o) (rx_okcons rc_m424_ok (rx_okcons rc_m414_ok (rx_okcons rc_m51_ok (rx_okcons rc_m423_ok (rx_okcons rc_m413_ok (rx_okcons rc_m422_ok (rx_okcons rc_m412_ok (rx_okcons rc_m421_ok (rx_okcons rc_m411_ok (rx_okcons rc_m420_ok (rx_okcons rc_m410_ok (rx_oknil)))))))))))) rfl rfl (by decide +kernel)

/-! LostKeysModel.goBy(I)I -/
noncomputable def rc_m9318_h : List rx_C := [
  rc_c342,
  rc_c31,
  rc_c97]
noncomputable def rc_m9318_o : List (rx_T × (List (Nat × Nat) × List (Nat × Nat))) := [((((rx_apR rc_b160 [(0, 41)] (fun x => x)), [([(181, 3)], [((-1), 182)], 7)]), [
  rc_c342,
  rc_c32,
  rc_c97], (0, 0), 0, [], [.inl (256, 0)]), ([], [(0, 1000)]))]
noncomputable def rc_m9318_k : rx_KE := ((168, 36), ([(0, 0), (1, 14), (1, 41)], rc_p18, [(1, 1), (1, 15), (1, 16), (1, 17), (1, 18), (1, 19), (1, 20), (1, 21), (1, 22), (1, 23), (1, 27), (1, 28), (1, 29), (1, 32), (1, 33), (1, 38), (1, 42), (1, 45)]), ((rc_b160, [([(181, 3)], [((-1), 182)], 7)]), rc_m9318_h, [.inr (.inr (.inl (some 0))), .inl (0, 72)]), rc_m9318_o.map Prod.fst)
noncomputable def rc_m9318_r : List rx_Cu := []
theorem rc_m9318_ok : rx_OK rc_m9318_k := rs_ok_of (KT := [rc_m424_k, rc_m414_k, rc_m51_k, rc_m423_k, rc_m413_k, rc_m422_k, rc_m412_k, rc_m421_k, rc_m411_k, rc_m420_k, rc_m410_k]) (fuel := 20000) (M0 := rx_m168) (fl := []) (m0 := ([], 0)) (rest := rc_m9318_r) (outs := rc_m9318_o) (rx_okcons rc_m424_ok (rx_okcons rc_m414_ok (rx_okcons rc_m51_ok (rx_okcons rc_m423_ok (rx_okcons rc_m413_ok (rx_okcons rc_m422_ok (rx_okcons rc_m412_ok (rx_okcons rc_m421_ok (rx_okcons rc_m411_ok (rx_okcons rc_m420_ok (rx_okcons rc_m410_ok (rx_oknil)))))))))))) rfl rfl (by decide +kernel)

/-! LostKeysModel.goBy(I)I -/
noncomputable def rc_m9319_h : List rx_C := [
  rc_c342,
  rc_c31,
  rc_c97]
noncomputable def rc_m9319_o : List (rx_T × (List (Nat × Nat) × List (Nat × Nat))) := [((((rx_apR rc_b160 [(0, 41)] (fun x => x)), [([(183, 3)], [((-1), 184)], 7)]), [
  rc_c342,
  rc_c32,
  rc_c97], (0, 0), 0, [], [.inl (256, 0)]), ([], [(0, 1000)]))]
noncomputable def rc_m9319_k : rx_KE := ((168, 36), ([(0, 0), (1, 14), (1, 41)], rc_p18, [(1, 1), (1, 15), (1, 16), (1, 17), (1, 18), (1, 19), (1, 20), (1, 21), (1, 22), (1, 23), (1, 27), (1, 28), (1, 29), (1, 32), (1, 33), (1, 38), (1, 42), (1, 45)]), ((rc_b160, [([(183, 3)], [((-1), 184)], 7)]), rc_m9319_h, [.inr (.inr (.inl (some 0))), .inl (0, 76)]), rc_m9319_o.map Prod.fst)
noncomputable def rc_m9319_r : List rx_Cu := []
theorem rc_m9319_ok : rx_OK rc_m9319_k := rs_ok_of (KT := [rc_m424_k, rc_m414_k, rc_m51_k, rc_m423_k, rc_m413_k, rc_m422_k, rc_m412_k, rc_m421_k, rc_m411_k, rc_m420_k, rc_m410_k]) (fuel := 20000) (M0 := rx_m168) (fl := []) (m0 := ([], 0)) (rest := rc_m9319_r) (outs := rc_m9319_o) (rx_okcons rc_m424_ok (rx_okcons rc_m414_ok (rx_okcons rc_m51_ok (rx_okcons rc_m423_ok (rx_okcons rc_m413_ok (rx_okcons rc_m422_ok (rx_okcons rc_m412_ok (rx_okcons rc_m421_ok (rx_okcons rc_m411_ok (rx_okcons rc_m420_ok (rx_okcons rc_m410_ok (rx_oknil)))))))))))) rfl rfl (by decide +kernel)

/-! LostKeysModel.goBy(I)I -/
noncomputable def rc_m9320_h : List rx_C := [
  rc_c342,
  rc_c31,
  rc_c97]
noncomputable def rc_m9320_o : List (rx_T × (List (Nat × Nat) × List (Nat × Nat))) := [((((rx_apR rc_b160 [(0, 41)] (fun x => x)), [([(185, 3)], [((-1), 186)], 7)]), [
  rc_c342,
  rc_c32,
  rc_c97], (0, 0), 0, [], [.inl (256, 0)]), ([], [(0, 1000)]))]
noncomputable def rc_m9320_k : rx_KE := ((168, 36), ([(0, 0), (1, 14), (1, 41)], rc_p18, [(1, 1), (1, 15), (1, 16), (1, 17), (1, 18), (1, 19), (1, 20), (1, 21), (1, 22), (1, 23), (1, 27), (1, 28), (1, 29), (1, 32), (1, 33), (1, 38), (1, 42), (1, 45)]), ((rc_b160, [([(185, 3)], [((-1), 186)], 7)]), rc_m9320_h, [.inr (.inr (.inl (some 0))), .inl (0, 80)]), rc_m9320_o.map Prod.fst)
noncomputable def rc_m9320_r : List rx_Cu := []
theorem rc_m9320_ok : rx_OK rc_m9320_k := rs_ok_of (KT := [rc_m424_k, rc_m414_k, rc_m51_k, rc_m423_k, rc_m413_k, rc_m422_k, rc_m412_k, rc_m421_k, rc_m411_k, rc_m420_k, rc_m410_k]) (fuel := 20000) (M0 := rx_m168) (fl := []) (m0 := ([], 0)) (rest := rc_m9320_r) (outs := rc_m9320_o) (rx_okcons rc_m424_ok (rx_okcons rc_m414_ok (rx_okcons rc_m51_ok (rx_okcons rc_m423_ok (rx_okcons rc_m413_ok (rx_okcons rc_m422_ok (rx_okcons rc_m412_ok (rx_okcons rc_m421_ok (rx_okcons rc_m411_ok (rx_okcons rc_m420_ok (rx_okcons rc_m410_ok (rx_oknil)))))))))))) rfl rfl (by decide +kernel)

/-! LostKeysModel.goBy(I)I -/
noncomputable def rc_m9321_h : List rx_C := [
  rc_c342,
  rc_c31,
  rc_c97]
noncomputable def rc_m9321_o : List (rx_T × (List (Nat × Nat) × List (Nat × Nat))) := [((((rx_apR rc_b160 [(0, 41)] (fun x => x)), [([(187, 3)], [((-1), 188)], 7)]), [
  rc_c342,
  rc_c32,
  rc_c97], (0, 0), 0, [], [.inl (256, 0)]), ([], [(0, 1000)]))]
noncomputable def rc_m9321_k : rx_KE := ((168, 36), ([(0, 0), (1, 14), (1, 41)], rc_p18, [(1, 1), (1, 15), (1, 16), (1, 17), (1, 18), (1, 19), (1, 20), (1, 21), (1, 22), (1, 23), (1, 27), (1, 28), (1, 29), (1, 32), (1, 33), (1, 38), (1, 42), (1, 45)]), ((rc_b160, [([(187, 3)], [((-1), 188)], 7)]), rc_m9321_h, [.inr (.inr (.inl (some 0))), .inl (0, 84)]), rc_m9321_o.map Prod.fst)
noncomputable def rc_m9321_r : List rx_Cu := []
theorem rc_m9321_ok : rx_OK rc_m9321_k := rs_ok_of (KT := [rc_m424_k, rc_m414_k, rc_m51_k, rc_m423_k, rc_m413_k, rc_m422_k, rc_m412_k, rc_m421_k, rc_m411_k, rc_m420_k, rc_m410_k]) (fuel := 20000) (M0 := rx_m168) (fl := []) (m0 := ([], 0)) (rest := rc_m9321_r) (outs := rc_m9321_o) (rx_okcons rc_m424_ok (rx_okcons rc_m414_ok (rx_okcons rc_m51_ok (rx_okcons rc_m423_ok (rx_okcons rc_m413_ok (rx_okcons rc_m422_ok (rx_okcons rc_m412_ok (rx_okcons rc_m421_ok (rx_okcons rc_m411_ok (rx_okcons rc_m420_ok (rx_okcons rc_m410_ok (rx_oknil)))))))))))) rfl rfl (by decide +kernel)

/-! LostKeysModel.goBy(I)I -/
noncomputable def rc_m9322_h : List rx_C := [
  rc_c342,
  rc_c31,
  rc_c97]
noncomputable def rc_m9322_o : List (rx_T × (List (Nat × Nat) × List (Nat × Nat))) := [((((rx_apR rc_b160 [(0, 41)] (fun x => x)), [([(189, 3)], [((-1), 190)], 7)]), [
  rc_c342,
  rc_c32,
  rc_c97], (0, 0), 0, [], [.inl (256, 0)]), ([], [(0, 1000)]))]
noncomputable def rc_m9322_k : rx_KE := ((168, 36), ([(0, 0), (1, 14), (1, 41)], rc_p18, [(1, 1), (1, 15), (1, 16), (1, 17), (1, 18), (1, 19), (1, 20), (1, 21), (1, 22), (1, 23), (1, 27), (1, 28), (1, 29), (1, 32), (1, 33), (1, 38), (1, 42), (1, 45)]), ((rc_b160, [([(189, 3)], [((-1), 190)], 7)]), rc_m9322_h, [.inr (.inr (.inl (some 0))), .inl (0, 88)]), rc_m9322_o.map Prod.fst)
noncomputable def rc_m9322_r : List rx_Cu := []
theorem rc_m9322_ok : rx_OK rc_m9322_k := rs_ok_of (KT := [rc_m424_k, rc_m414_k, rc_m51_k, rc_m423_k, rc_m413_k, rc_m422_k, rc_m412_k, rc_m421_k, rc_m411_k, rc_m420_k, rc_m410_k]) (fuel := 20000) (M0 := rx_m168) (fl := []) (m0 := ([], 0)) (rest := rc_m9322_r) (outs := rc_m9322_o) (rx_okcons rc_m424_ok (rx_okcons rc_m414_ok (rx_okcons rc_m51_ok (rx_okcons rc_m423_ok (rx_okcons rc_m413_ok (rx_okcons rc_m422_ok (rx_okcons rc_m412_ok (rx_okcons rc_m421_ok (rx_okcons rc_m411_ok (rx_okcons rc_m420_ok (rx_okcons rc_m410_ok (rx_oknil)))))))))))) rfl rfl (by decide +kernel)

/-! LostKeysModel.goBy(I)I -/
noncomputable def rc_m9323_h : List rx_C := [
  rc_c342,
  rc_c31,
  rc_c97]
noncomputable def rc_m9323_o : List (rx_T × (List (Nat × Nat) × List (Nat × Nat))) := [((((rx_apR rc_b160 [(0, 41)] (fun x => x)), [([(191, 3)], [((-1), 192)], 7)]), [
  rc_c342,
  rc_c32,
  rc_c97], (0, 0), 0, [], [.inl (256, 0)]), ([], [(0, 1000)]))]
noncomputable def rc_m9323_k : rx_KE := ((168, 36), ([(0, 0), (1, 14), (1, 41)], rc_p18, [(1, 1), (1, 15), (1, 16), (1, 17), (1, 18), (1, 19), (1, 20), (1, 21), (1, 22), (1, 23), (1, 27), (1, 28), (1, 29), (1, 32), (1, 33), (1, 38), (1, 42), (1, 45)]), ((rc_b160, [([(191, 3)], [((-1), 192)], 7)]), rc_m9323_h, [.inr (.inr (.inl (some 0))), .inl (0, 92)]), rc_m9323_o.map Prod.fst)
noncomputable def rc_m9323_r : List rx_Cu := []
theorem rc_m9323_ok : rx_OK rc_m9323_k := rs_ok_of (KT := [rc_m424_k, rc_m414_k, rc_m51_k, rc_m423_k, rc_m413_k, rc_m422_k, rc_m412_k, rc_m421_k, rc_m411_k, rc_m420_k, rc_m410_k]) (fuel := 20000) (M0 := rx_m168) (fl := []) (m0 := ([], 0)) (rest := rc_m9323_r) (outs := rc_m9323_o) (rx_okcons rc_m424_ok (rx_okcons rc_m414_ok (rx_okcons rc_m51_ok (rx_okcons rc_m423_ok (rx_okcons rc_m413_ok (rx_okcons rc_m422_ok (rx_okcons rc_m412_ok (rx_okcons rc_m421_ok (rx_okcons rc_m411_ok (rx_okcons rc_m420_ok (rx_okcons rc_m410_ok (rx_oknil)))))))))))) rfl rfl (by decide +kernel)

/-! LostKeysModel.goBy(I)I -/
noncomputable def rc_m9324_h : List rx_C := [
  rc_c342,
  rc_c31,
  rc_c97]
noncomputable def rc_m9324_o : List (rx_T × (List (Nat × Nat) × List (Nat × Nat))) := [((((rx_apR rc_b160 [(0, 41)] (fun x => x)), [([(193, 3)], [((-1), 194)], 7)]), [
  rc_c342,
  rc_c32,
  rc_c97], (0, 0), 0, [], [.inl (256, 0)]), ([], [(0, 1000)]))]
noncomputable def rc_m9324_k : rx_KE := ((168, 36), ([(0, 0), (1, 14), (1, 41)], rc_p18, [(1, 1), (1, 15), (1, 16), (1, 17), (1, 18), (1, 19), (1, 20), (1, 21), (1, 22), (1, 23), (1, 27), (1, 28), (1, 29), (1, 32), (1, 33), (1, 38), (1, 42), (1, 45)]), ((rc_b160, [([(193, 3)], [((-1), 194)], 7)]), rc_m9324_h, [.inr (.inr (.inl (some 0))), .inl (0, 96)]), rc_m9324_o.map Prod.fst)
noncomputable def rc_m9324_r : List rx_Cu := []
theorem rc_m9324_ok : rx_OK rc_m9324_k := rs_ok_of (KT := [rc_m424_k, rc_m414_k, rc_m51_k, rc_m423_k, rc_m413_k, rc_m422_k, rc_m412_k, rc_m421_k, rc_m411_k, rc_m420_k, rc_m410_k]) (fuel := 20000) (M0 := rx_m168) (fl := []) (m0 := ([], 0)) (rest := rc_m9324_r) (outs := rc_m9324_o) (rx_okcons rc_m424_ok (rx_okcons rc_m414_ok (rx_okcons rc_m51_ok (rx_okcons rc_m423_ok (rx_okcons rc_m413_ok (rx_okcons rc_m422_ok (rx_okcons rc_m412_ok (rx_okcons rc_m421_ok (rx_okcons rc_m411_ok (rx_okcons rc_m420_ok (rx_okcons rc_m410_ok (rx_oknil)))))))))))) rfl rfl (by decide +kernel)

/-! LostKeysModel.goBy(I)I -/
noncomputable def rc_m9325_h : List rx_C := [
  rc_c342,
  rc_c31,
  rc_c97]
noncomputable def rc_m9325_o : List (rx_T × (List (Nat × Nat) × List (Nat × Nat))) := [((((rx_apR rc_b160 [(0, 41)] (fun x => x)), [([(195, 3)], [((-1), 196)], 7)]), [
  rc_c342,
  rc_c32,
  rc_c97], (0, 0), 0, [], [.inl (256, 0)]), ([], [(0, 1000)]))]
noncomputable def rc_m9325_k : rx_KE := ((168, 36), ([(0, 0), (1, 14), (1, 41)], rc_p18, [(1, 1), (1, 15), (1, 16), (1, 17), (1, 18), (1, 19), (1, 20), (1, 21), (1, 22), (1, 23), (1, 27), (1, 28), (1, 29), (1, 32), (1, 33), (1, 38), (1, 42), (1, 45)]), ((rc_b160, [([(195, 3)], [((-1), 196)], 7)]), rc_m9325_h, [.inr (.inr (.inl (some 0))), .inl (0, 100)]), rc_m9325_o.map Prod.fst)
noncomputable def rc_m9325_r : List rx_Cu := []
theorem rc_m9325_ok : rx_OK rc_m9325_k := rs_ok_of (KT := [rc_m424_k, rc_m414_k, rc_m51_k, rc_m423_k, rc_m413_k, rc_m422_k, rc_m412_k, rc_m421_k, rc_m411_k, rc_m420_k, rc_m410_k]) (fuel := 20000) (M0 := rx_m168) (fl := []) (m0 := ([], 0)) (rest := rc_m9325_r) (outs := rc_m9325_o) (rx_okcons rc_m424_ok (rx_okcons rc_m414_ok (rx_okcons rc_m51_ok (rx_okcons rc_m423_ok (rx_okcons rc_m413_ok (rx_okcons rc_m422_ok (rx_okcons rc_m412_ok (rx_okcons rc_m421_ok (rx_okcons rc_m411_ok (rx_okcons rc_m420_ok (rx_okcons rc_m410_ok (rx_oknil)))))))))))) rfl rfl (by decide +kernel)

/-! LostKeysModel.goBy(I)I -/
noncomputable def rc_m9326_h : List rx_C := [
  rc_c342,
  rc_c31,
  rc_c97]
noncomputable def rc_m9326_o : List (rx_T × (List (Nat × Nat) × List (Nat × Nat))) := [((((rx_apR rc_b160 [(0, 41)] (fun x => x)), [([(197, 3)], [((-1), 198)], 7)]), [
  rc_c342,
  rc_c32,
  rc_c97], (0, 0), 0, [], [.inl (256, 0)]), ([], [(0, 1000)]))]
noncomputable def rc_m9326_k : rx_KE := ((168, 36), ([(0, 0), (1, 14), (1, 41)], rc_p18, [(1, 1), (1, 15), (1, 16), (1, 17), (1, 18), (1, 19), (1, 20), (1, 21), (1, 22), (1, 23), (1, 27), (1, 28), (1, 29), (1, 32), (1, 33), (1, 38), (1, 42), (1, 45)]), ((rc_b160, [([(197, 3)], [((-1), 198)], 7)]), rc_m9326_h, [.inr (.inr (.inl (some 0))), .inl (0, 104)]), rc_m9326_o.map Prod.fst)
noncomputable def rc_m9326_r : List rx_Cu := []
theorem rc_m9326_ok : rx_OK rc_m9326_k := rs_ok_of (KT := [rc_m424_k, rc_m414_k, rc_m51_k, rc_m423_k, rc_m413_k, rc_m422_k, rc_m412_k, rc_m421_k, rc_m411_k, rc_m420_k, rc_m410_k]) (fuel := 20000) (M0 := rx_m168) (fl := []) (m0 := ([], 0)) (rest := rc_m9326_r) (outs := rc_m9326_o) (rx_okcons rc_m424_ok (rx_okcons rc_m414_ok (rx_okcons rc_m51_ok (rx_okcons rc_m423_ok (rx_okcons rc_m413_ok (rx_okcons rc_m422_ok (rx_okcons rc_m412_ok (rx_okcons rc_m421_ok (rx_okcons rc_m411_ok (rx_okcons rc_m420_ok (rx_okcons rc_m410_ok (rx_oknil)))))))))))) rfl rfl (by decide +kernel)

/-! LostKeysModel.goBy(I)I -/
noncomputable def rc_m9327_h : List rx_C := [
  rc_c342,
  rc_c31,
  rc_c97]
noncomputable def rc_m9327_o : List (rx_T × (List (Nat × Nat) × List (Nat × Nat))) := [((((rx_apR rc_b160 [(0, 41)] (fun x => x)), [([(199, 3)], [((-1), 200)], 7)]), [
  rc_c342,
  rc_c32,
  rc_c97], (0, 0), 0, [], [.inl (256, 0)]), ([], [(0, 1000)]))]
noncomputable def rc_m9327_k : rx_KE := ((168, 36), ([(0, 0), (1, 14), (1, 41)], rc_p18, [(1, 1), (1, 15), (1, 16), (1, 17), (1, 18), (1, 19), (1, 20), (1, 21), (1, 22), (1, 23), (1, 27), (1, 28), (1, 29), (1, 32), (1, 33), (1, 38), (1, 42), (1, 45)]), ((rc_b160, [([(199, 3)], [((-1), 200)], 7)]), rc_m9327_h, [.inr (.inr (.inl (some 0))), .inl (0, 108)]), rc_m9327_o.map Prod.fst)
noncomputable def rc_m9327_r : List rx_Cu := []
theorem rc_m9327_ok : rx_OK rc_m9327_k := rs_ok_of (KT := [rc_m424_k, rc_m414_k, rc_m51_k, rc_m423_k, rc_m413_k, rc_m422_k, rc_m412_k, rc_m421_k, rc_m411_k, rc_m420_k, rc_m410_k]) (fuel := 20000) (M0 := rx_m168) (fl := []) (m0 := ([], 0)) (rest := rc_m9327_r) (outs := rc_m9327_o) (rx_okcons rc_m424_ok (rx_okcons rc_m414_ok (rx_okcons rc_m51_ok (rx_okcons rc_m423_ok (rx_okcons rc_m413_ok (rx_okcons rc_m422_ok (rx_okcons rc_m412_ok (rx_okcons rc_m421_ok (rx_okcons rc_m411_ok (rx_okcons rc_m420_ok (rx_okcons rc_m410_ok (rx_oknil)))))))))))) rfl rfl (by decide +kernel)

/-! LostKeysModel.goBy(I)I -/
noncomputable def rc_m9328_h : List rx_C := [
  rc_c342,
  rc_c31,
  rc_c97]
noncomputable def rc_m9328_o : List (rx_T × (List (Nat × Nat) × List (Nat × Nat))) := [((((rx_apR rc_b160 [(0, 41)] (fun x => x)), [([(201, 3)], [((-1), 202)], 7)]), [
  rc_c342,
  rc_c32,
  rc_c97], (0, 0), 0, [], [.inl (256, 0)]), ([], [(0, 1000)]))]
noncomputable def rc_m9328_k : rx_KE := ((168, 36), ([(0, 0), (1, 14), (1, 41)], rc_p18, [(1, 1), (1, 15), (1, 16), (1, 17), (1, 18), (1, 19), (1, 20), (1, 21), (1, 22), (1, 23), (1, 27), (1, 28), (1, 29), (1, 32), (1, 33), (1, 38), (1, 42), (1, 45)]), ((rc_b160, [([(201, 3)], [((-1), 202)], 7)]), rc_m9328_h, [.inr (.inr (.inl (some 0))), .inl (0, 112)]), rc_m9328_o.map Prod.fst)
noncomputable def rc_m9328_r : List rx_Cu := []
theorem rc_m9328_ok : rx_OK rc_m9328_k := rs_ok_of (KT := [rc_m424_k, rc_m414_k, rc_m51_k, rc_m423_k, rc_m413_k, rc_m422_k, rc_m412_k, rc_m421_k, rc_m411_k, rc_m420_k, rc_m410_k]) (fuel := 20000) (M0 := rx_m168) (fl := []) (m0 := ([], 0)) (rest := rc_m9328_r) (outs := rc_m9328_o) (rx_okcons rc_m424_ok (rx_okcons rc_m414_ok (rx_okcons rc_m51_ok (rx_okcons rc_m423_ok (rx_okcons rc_m413_ok (rx_okcons rc_m422_ok (rx_okcons rc_m412_ok (rx_okcons rc_m421_ok (rx_okcons rc_m411_ok (rx_okcons rc_m420_ok (rx_okcons rc_m410_ok (rx_oknil)))))))))))) rfl rfl (by decide +kernel)

/-! LostKeysModel.goBy(I)I -/
noncomputable def rc_m9329_h : List rx_C := [
  rc_c342,
  rc_c31,
  rc_c97]
noncomputable def rc_m9329_o : List (rx_T × (List (Nat × Nat) × List (Nat × Nat))) := [((((rx_apR rc_b160 [(0, 41)] (fun x => x)), [([(203, 3)], [((-1), 204)], 7)]), [
  rc_c342,
  rc_c32,
  rc_c97], (0, 0), 0, [], [.inl (256, 0)]), ([], [(0, 1000)]))]
noncomputable def rc_m9329_k : rx_KE := ((168, 36), ([(0, 0), (1, 14), (1, 41)], rc_p18, [(1, 1), (1, 15), (1, 16), (1, 17), (1, 18), (1, 19), (1, 20), (1, 21), (1, 22), (1, 23), (1, 27), (1, 28), (1, 29), (1, 32), (1, 33), (1, 38), (1, 42), (1, 45)]), ((rc_b160, [([(203, 3)], [((-1), 204)], 7)]), rc_m9329_h, [.inr (.inr (.inl (some 0))), .inl (0, 116)]), rc_m9329_o.map Prod.fst)
noncomputable def rc_m9329_r : List rx_Cu := []
theorem rc_m9329_ok : rx_OK rc_m9329_k := rs_ok_of (KT := [rc_m424_k, rc_m414_k, rc_m51_k, rc_m423_k, rc_m413_k, rc_m422_k, rc_m412_k, rc_m421_k, rc_m411_k, rc_m420_k, rc_m410_k]) (fuel := 20000) (M0 := rx_m168) (fl := []) (m0 := ([], 0)) (rest := rc_m9329_r) (outs := rc_m9329_o) (rx_okcons rc_m424_ok (rx_okcons rc_m414_ok (rx_okcons rc_m51_ok (rx_okcons rc_m423_ok (rx_okcons rc_m413_ok (rx_okcons rc_m422_ok (rx_okcons rc_m412_ok (rx_okcons rc_m421_ok (rx_okcons rc_m411_ok (rx_okcons rc_m420_ok (rx_okcons rc_m410_ok (rx_oknil)))))))))))) rfl rfl (by decide +kernel)

/-! LostKeysModel.goBy(I)I -/
noncomputable def rc_m9330_h : List rx_C := [
  rc_c342,
  rc_c31,
  rc_c97]
noncomputable def rc_m9330_o : List (rx_T × (List (Nat × Nat) × List (Nat × Nat))) := [((((rx_apR rc_b160 [(0, 41)] (fun x => x)), [([(205, 3)], [((-1), 206)], 7)]), [
  rc_c342,
  rc_c32,
  rc_c97], (0, 0), 0, [], [.inl (256, 0)]), ([], [(0, 1000)]))]
noncomputable def rc_m9330_k : rx_KE := ((168, 36), ([(0, 0), (1, 14), (1, 41)], rc_p18, [(1, 1), (1, 15), (1, 16), (1, 17), (1, 18), (1, 19), (1, 20), (1, 21), (1, 22), (1, 23), (1, 27), (1, 28), (1, 29), (1, 32), (1, 33), (1, 38), (1, 42), (1, 45)]), ((rc_b160, [([(205, 3)], [((-1), 206)], 7)]), rc_m9330_h, [.inr (.inr (.inl (some 0))), .inl (0, 120)]), rc_m9330_o.map Prod.fst)
noncomputable def rc_m9330_r : List rx_Cu := []
theorem rc_m9330_ok : rx_OK rc_m9330_k := rs_ok_of (KT := [rc_m424_k, rc_m414_k, rc_m51_k, rc_m423_k, rc_m413_k, rc_m422_k, rc_m412_k, rc_m421_k, rc_m411_k, rc_m420_k, rc_m410_k]) (fuel := 20000) (M0 := rx_m168) (fl := []) (m0 := ([], 0)) (rest := rc_m9330_r) (outs := rc_m9330_o) (rx_okcons rc_m424_ok (rx_okcons rc_m414_ok (rx_okcons rc_m51_ok (rx_okcons rc_m423_ok (rx_okcons rc_m413_ok (rx_okcons rc_m422_ok (rx_okcons rc_m412_ok (rx_okcons rc_m421_ok (rx_okcons rc_m411_ok (rx_okcons rc_m420_ok (rx_okcons rc_m410_ok (rx_oknil)))))))))))) rfl rfl (by decide +kernel)

/-! LostKeysModel.goBy(I)I -/
noncomputable def rc_m9331_h : List rx_C := [
  rc_c342,
  rc_c31,
  rc_c97]
noncomputable def rc_m9331_o : List (rx_T × (List (Nat × Nat) × List (Nat × Nat))) := [((((rx_apR rc_b160 [(0, 41)] (fun x => x)), [([(207, 3)], [((-1), 208)], 7)]), [
  rc_c342,
  rc_c32,
  rc_c97], (0, 0), 0, [], [.inl (256, 0)]), ([], [(0, 1000)]))]
noncomputable def rc_m9331_k : rx_KE := ((168, 36), ([(0, 0), (1, 14), (1, 41)], rc_p18, [(1, 1), (1, 15), (1, 16), (1, 17), (1, 18), (1, 19), (1, 20), (1, 21), (1, 22), (1, 23), (1, 27), (1, 28), (1, 29), (1, 32), (1, 33), (1, 38), (1, 42), (1, 45)]), ((rc_b160, [([(207, 3)], [((-1), 208)], 7)]), rc_m9331_h, [.inr (.inr (.inl (some 0))), .inl (0, 124)]), rc_m9331_o.map Prod.fst)
noncomputable def rc_m9331_r : List rx_Cu := []
theorem rc_m9331_ok : rx_OK rc_m9331_k := rs_ok_of (KT := [rc_m424_k, rc_m414_k, rc_m51_k, rc_m423_k, rc_m413_k, rc_m422_k, rc_m412_k, rc_m421_k, rc_m411_k, rc_m420_k, rc_m410_k]) (fuel := 20000) (M0 := rx_m168) (fl := []) (m0 := ([], 0)) (rest := rc_m9331_r) (outs := rc_m9331_o) (rx_okcons rc_m424_ok (rx_okcons rc_m414_ok (rx_okcons rc_m51_ok (rx_okcons rc_m423_ok (rx_okcons rc_m413_ok (rx_okcons rc_m422_ok (rx_okcons rc_m412_ok (rx_okcons rc_m421_ok (rx_okcons rc_m411_ok (rx_okcons rc_m420_ok (rx_okcons rc_m410_ok (rx_oknil)))))))))))) rfl rfl (by decide +kernel)

/-! LostKeysModel.goBy(I)I -/
noncomputable def rc_m9332_h : List rx_C := [
  rc_c342,
  rc_c31,
  rc_c97]
noncomputable def rc_m9332_o : List (rx_T × (List (Nat × Nat) × List (Nat × Nat))) := [((((rx_apR rc_b160 [(0, 41)] (fun x => x)), [([(209, 3)], [((-1), 210)], 7)]), [
  rc_c342,
  rc_c32,
  rc_c97], (0, 0), 0, [], [.inl (256, 0)]), ([], [(0, 1000)]))]
noncomputable def rc_m9332_k : rx_KE := ((168, 36), ([(0, 0), (1, 14), (1, 41)], rc_p18, [(1, 1), (1, 15), (1, 16), (1, 17), (1, 18), (1, 19), (1, 20), (1, 21), (1, 22), (1, 23), (1, 27), (1, 28), (1, 29), (1, 32), (1, 33), (1, 38), (1, 42), (1, 45)]), ((rc_b160, [([(209, 3)], [((-1), 210)], 7)]), rc_m9332_h, [.inr (.inr (.inl (some 0))), .inl (0, 128)]), rc_m9332_o.map Prod.fst)
noncomputable def rc_m9332_r : List rx_Cu := []
theorem rc_m9332_ok : rx_OK rc_m9332_k := rs_ok_of (KT := [rc_m424_k, rc_m414_k, rc_m51_k, rc_m423_k, rc_m413_k, rc_m422_k, rc_m412_k, rc_m421_k, rc_m411_k, rc_m420_k, rc_m410_k]) (fuel := 20000) (M0 := rx_m168) (fl := []) (m0 := ([], 0)) (rest := rc_m9332_r) (outs := rc_m9332_o) (rx_okcons rc_m424_ok (rx_okcons rc_m414_ok (rx_okcons rc_m51_ok (rx_okcons rc_m423_ok (rx_okcons rc_m413_ok (rx_okcons rc_m422_ok (rx_okcons rc_m412_ok (rx_okcons rc_m421_ok (rx_okcons rc_m411_ok (rx_okcons rc_m420_ok (rx_okcons rc_m410_ok (rx_oknil)))))))))))) rfl rfl (by decide +kernel)

/-! LostKeysModel.goBy(I)I -/
noncomputable def rc_m9333_h : List rx_C := [
  rc_c342,
  rc_c31,
  rc_c97]
noncomputable def rc_m9333_o : List (rx_T × (List (Nat × Nat) × List (Nat × Nat))) := [((((rx_apR rc_b160 [(0, 41)] (fun x => x)), [([(211, 3)], [((-1), 212)], 7)]), [
  rc_c342,
  rc_c32,
  rc_c97], (0, 0), 0, [], [.inl (256, 0)]), ([], [(0, 1000)]))]
noncomputable def rc_m9333_k : rx_KE := ((168, 36), ([(0, 0), (1, 14), (1, 41)], rc_p18, [(1, 1), (1, 15), (1, 16), (1, 17), (1, 18), (1, 19), (1, 20), (1, 21), (1, 22), (1, 23), (1, 27), (1, 28), (1, 29), (1, 32), (1, 33), (1, 38), (1, 42), (1, 45)]), ((rc_b160, [([(211, 3)], [((-1), 212)], 7)]), rc_m9333_h, [.inr (.inr (.inl (some 0))), .inl (0, 132)]), rc_m9333_o.map Prod.fst)
noncomputable def rc_m9333_r : List rx_Cu := []
theorem rc_m9333_ok : rx_OK rc_m9333_k := rs_ok_of (KT := [rc_m424_k, rc_m414_k, rc_m51_k, rc_m423_k, rc_m413_k, rc_m422_k, rc_m412_k, rc_m421_k, rc_m411_k, rc_m420_k, rc_m410_k]) (fuel := 20000) (M0 := rx_m168) (fl := []) (m0 := ([], 0)) (rest := rc_m9333_r) (outs := rc_m9333_o) (rx_okcons rc_m424_ok (rx_okcons rc_m414_ok (rx_okcons rc_m51_ok (rx_okcons rc_m423_ok (rx_okcons rc_m413_ok (rx_okcons rc_m422_ok (rx_okcons rc_m412_ok (rx_okcons rc_m421_ok (rx_okcons rc_m411_ok (rx_okcons rc_m420_ok (rx_okcons rc_m410_ok (rx_oknil)))))))))))) rfl rfl (by decide +kernel)

/-! LostKeysModel.goBy(I)I -/
noncomputable def rc_m9334_h : List rx_C := [
  rc_c342,
  rc_c31,
  rc_c97]
noncomputable def rc_m9334_o : List (rx_T × (List (Nat × Nat) × List (Nat × Nat))) := [((((rx_apR rc_b160 [(0, 41)] (fun x => x)), [([(213, 3)], [((-1), 214)], 7)]), [
  rc_c342,
  rc_c32,
  rc_c97], (0, 0), 0, [], [.inl (256, 0)]), ([], [(0, 1000)]))]
noncomputable def rc_m9334_k : rx_KE := ((168, 36), ([(0, 0), (1, 14), (1, 41)], rc_p18, [(1, 1), (1, 15), (1, 16), (1, 17), (1, 18), (1, 19), (1, 20), (1, 21), (1, 22), (1, 23), (1, 27), (1, 28), (1, 29), (1, 32), (1, 33), (1, 38), (1, 42), (1, 45)]), ((rc_b160, [([(213, 3)], [((-1), 214)], 7)]), rc_m9334_h, [.inr (.inr (.inl (some 0))), .inl (0, 136)]), rc_m9334_o.map Prod.fst)
noncomputable def rc_m9334_r : List rx_Cu := []
theorem rc_m9334_ok : rx_OK rc_m9334_k := rs_ok_of (KT := [rc_m424_k, rc_m414_k, rc_m51_k, rc_m423_k, rc_m413_k, rc_m422_k, rc_m412_k, rc_m421_k, rc_m411_k, rc_m420_k, rc_m410_k]) (fuel := 20000) (M0 := rx_m168) (fl := []) (m0 := ([], 0)) (rest := rc_m9334_r) (outs := rc_m9334_o) (rx_okcons rc_m424_ok (rx_okcons rc_m414_ok (rx_okcons rc_m51_ok (rx_okcons rc_m423_ok (rx_okcons rc_m413_ok (rx_okcons rc_m422_ok (rx_okcons rc_m412_ok (rx_okcons rc_m421_ok (rx_okcons rc_m411_ok (rx_okcons rc_m420_ok (rx_okcons rc_m410_ok (rx_oknil)))))))))))) rfl rfl (by decide +kernel)

/-! LostKeysModel.goBy(I)I -/
noncomputable def rc_m9335_h : List rx_C := [
  rc_c342,
  rc_c31,
  rc_c97]
noncomputable def rc_m9335_o : List (rx_T × (List (Nat × Nat) × List (Nat × Nat))) := [((((rx_apR rc_b160 [(0, 41)] (fun x => x)), [([(215, 3)], [((-1), 216)], 7)]), [
  rc_c342,
  rc_c32,
  rc_c97], (0, 0), 0, [], [.inl (256, 0)]), ([], [(0, 1000)]))]
noncomputable def rc_m9335_k : rx_KE := ((168, 36), ([(0, 0), (1, 14), (1, 41)], rc_p18, [(1, 1), (1, 15), (1, 16), (1, 17), (1, 18), (1, 19), (1, 20), (1, 21), (1, 22), (1, 23), (1, 27), (1, 28), (1, 29), (1, 32), (1, 33), (1, 38), (1, 42), (1, 45)]), ((rc_b160, [([(215, 3)], [((-1), 216)], 7)]), rc_m9335_h, [.inr (.inr (.inl (some 0))), .inl (0, 140)]), rc_m9335_o.map Prod.fst)
noncomputable def rc_m9335_r : List rx_Cu := []
theorem rc_m9335_ok : rx_OK rc_m9335_k := rs_ok_of (KT := [rc_m424_k, rc_m414_k, rc_m51_k, rc_m423_k, rc_m413_k, rc_m422_k, rc_m412_k, rc_m421_k, rc_m411_k, rc_m420_k, rc_m410_k]) (fuel := 20000) (M0 := rx_m168) (fl := []) (m0 := ([], 0)) (rest := rc_m9335_r) (outs := rc_m9335_o) (rx_okcons rc_m424_ok (rx_okcons rc_m414_ok (rx_okcons rc_m51_ok (rx_okcons rc_m423_ok (rx_okcons rc_m413_ok (rx_okcons rc_m422_ok (rx_okcons rc_m412_ok (rx_okcons rc_m421_ok (rx_okcons rc_m411_ok (rx_okcons rc_m420_ok (rx_okcons rc_m410_ok (rx_oknil)))))))))))) rfl rfl (by decide +kernel)

/-! LostKeysModel.goBy(I)I -/
noncomputable def rc_m9336_h : List rx_C := [
  rc_c342,
  rc_c31,
  rc_c97]
noncomputable def rc_m9336_o : List (rx_T × (List (Nat × Nat) × List (Nat × Nat))) := [((((rx_apR rc_b160 [(0, 41)] (fun x => x)), [([(217, 3)], [((-1), 218)], 7)]), [
  rc_c342,
  rc_c32,
  rc_c97], (0, 0), 0, [], [.inl (256, 0)]), ([], [(0, 1000)]))]
noncomputable def rc_m9336_k : rx_KE := ((168, 36), ([(0, 0), (1, 14), (1, 41)], rc_p18, [(1, 1), (1, 15), (1, 16), (1, 17), (1, 18), (1, 19), (1, 20), (1, 21), (1, 22), (1, 23), (1, 27), (1, 28), (1, 29), (1, 32), (1, 33), (1, 38), (1, 42), (1, 45)]), ((rc_b160, [([(217, 3)], [((-1), 218)], 7)]), rc_m9336_h, [.inr (.inr (.inl (some 0))), .inl (0, 144)]), rc_m9336_o.map Prod.fst)
noncomputable def rc_m9336_r : List rx_Cu := []
theorem rc_m9336_ok : rx_OK rc_m9336_k := rs_ok_of (KT := [rc_m424_k, rc_m414_k, rc_m51_k, rc_m423_k, rc_m413_k, rc_m422_k, rc_m412_k, rc_m421_k, rc_m411_k, rc_m420_k, rc_m410_k]) (fuel := 20000) (M0 := rx_m168) (fl := []) (m0 := ([], 0)) (rest := rc_m9336_r) (outs := rc_m9336_o) (rx_okcons rc_m424_ok (rx_okcons rc_m414_ok (rx_okcons rc_m51_ok (rx_okcons rc_m423_ok (rx_okcons rc_m413_ok (rx_okcons rc_m422_ok (rx_okcons rc_m412_ok (rx_okcons rc_m421_ok (rx_okcons rc_m411_ok (rx_okcons rc_m420_ok (rx_okcons rc_m410_ok (rx_oknil)))))))))))) rfl rfl (by decide +kernel)

/-! LostKeysModel.goBy(I)I -/
noncomputable def rc_m9337_h : List rx_C := [
  rc_c342,
  rc_c31,
  rc_c97]
noncomputable def rc_m9337_o : List (rx_T × (List (Nat × Nat) × List (Nat × Nat))) := [((((rx_apR rc_b160 [(0, 41)] (fun x => x)), [([(219, 3)], [((-1), 220)], 7)]), [
  rc_c342,
  rc_c32,
  rc_c97], (0, 0), 0, [], [.inl (256, 0)]), ([], [(0, 1000)]))]
noncomputable def rc_m9337_k : rx_KE := ((168, 36), ([(0, 0), (1, 14), (1, 41)], rc_p18, [(1, 1), (1, 15), (1, 16), (1, 17), (1, 18), (1, 19), (1, 20), (1, 21), (1, 22), (1, 23), (1, 27), (1, 28), (1, 29), (1, 32), (1, 33), (1, 38), (1, 42), (1, 45)]), ((rc_b160, [([(219, 3)], [((-1), 220)], 7)]), rc_m9337_h, [.inr (.inr (.inl (some 0))), .inl (0, 148)]), rc_m9337_o.map Prod.fst)
noncomputable def rc_m9337_r : List rx_Cu := []
theorem rc_m9337_ok : rx_OK rc_m9337_k := rs_ok_of (KT := [rc_m424_k, rc_m414_k, rc_m51_k, rc_m423_k, rc_m413_k, rc_m422_k, rc_m412_k, rc_m421_k, rc_m411_k, rc_m420_k, rc_m410_k]) (fuel := 20000) (M0 := rx_m168) (fl := []) (m0 := ([], 0)) (rest := rc_m9337_r) (outs := rc_m9337_o) (rx_okcons rc_m424_ok (rx_okcons rc_m414_ok (rx_okcons rc_m51_ok (rx_okcons rc_m423_ok (rx_okcons rc_m413_ok (rx_okcons rc_m422_ok (rx_okcons rc_m412_ok (rx_okcons rc_m421_ok (rx_okcons rc_m411_ok (rx_okcons rc_m420_ok (rx_okcons rc_m410_ok (rx_oknil)))))))))))) rfl rfl (by decide +kernel)

/-! LostKeysModel.goBy(I)I -/
noncomputable def rc_m9338_h : List rx_C := [
  rc_c342,
  rc_c31,
  rc_c97]
noncomputable def rc_m9338_o : List (rx_T × (List (Nat × Nat) × List (Nat × Nat))) := [((((rx_apR rc_b160 [(0, 41)] (fun x => x)), [([(221, 3)], [((-1), 222)], 7)]), [
  rc_c342,
  rc_c32,
  rc_c97], (0, 0), 0, [], [.inl (256, 0)]), ([], [(0, 1000)]))]
noncomputable def rc_m9338_k : rx_KE := ((168, 36), ([(0, 0), (1, 14), (1, 41)], rc_p18, [(1, 1), (1, 15), (1, 16), (1, 17), (1, 18), (1, 19), (1, 20), (1, 21), (1, 22), (1, 23), (1, 27), (1, 28), (1, 29), (1, 32), (1, 33), (1, 38), (1, 42), (1, 45)]), ((rc_b160, [([(221, 3)], [((-1), 222)], 7)]), rc_m9338_h, [.inr (.inr (.inl (some 0))), .inl (0, 152)]), rc_m9338_o.map Prod.fst)
noncomputable def rc_m9338_r : List rx_Cu := []
theorem rc_m9338_ok : rx_OK rc_m9338_k := rs_ok_of (KT := [rc_m424_k, rc_m414_k, rc_m51_k, rc_m423_k, rc_m413_k, rc_m422_k, rc_m412_k, rc_m421_k, rc_m411_k, rc_m420_k, rc_m410_k]) (fuel := 20000) (M0 := rx_m168) (fl := []) (m0 := ([], 0)) (rest := rc_m9338_r) (outs := rc_m9338_o) (rx_okcons rc_m424_ok (rx_okcons rc_m414_ok (rx_okcons rc_m51_ok (rx_okcons rc_m423_ok (rx_okcons rc_m413_ok (rx_okcons rc_m422_ok (rx_okcons rc_m412_ok (rx_okcons rc_m421_ok (rx_okcons rc_m411_ok (rx_okcons rc_m420_ok (rx_okcons rc_m410_ok (rx_oknil)))))))))))) rfl rfl (by decide +kernel)

/-! LostKeysModel.goBy(I)I -/
noncomputable def rc_m9339_h : List rx_C := [
  rc_c342,
  rc_c31,
  rc_c97]
noncomputable def rc_m9339_o : List (rx_T × (List (Nat × Nat) × List (Nat × Nat))) := [((((rx_apR rc_b160 [(0, 41)] (fun x => x)), [([(223, 3)], [((-1), 224)], 7)]), [
  rc_c342,
  rc_c32,
  rc_c97], (0, 0), 0, [], [.inl (256, 0)]), ([], [(0, 1000)]))]
noncomputable def rc_m9339_k : rx_KE := ((168, 36), ([(0, 0), (1, 14), (1, 41)], rc_p18, [(1, 1), (1, 15), (1, 16), (1, 17), (1, 18), (1, 19), (1, 20), (1, 21), (1, 22), (1, 23), (1, 27), (1, 28), (1, 29), (1, 32), (1, 33), (1, 38), (1, 42), (1, 45)]), ((rc_b160, [([(223, 3)], [((-1), 224)], 7)]), rc_m9339_h, [.inr (.inr (.inl (some 0))), .inl (0, 156)]), rc_m9339_o.map Prod.fst)
noncomputable def rc_m9339_r : List rx_Cu := []
theorem rc_m9339_ok : rx_OK rc_m9339_k := rs_ok_of (KT := [rc_m424_k, rc_m414_k, rc_m51_k, rc_m423_k, rc_m413_k, rc_m422_k, rc_m412_k, rc_m421_k, rc_m411_k, rc_m420_k, rc_m410_k]) (fuel := 20000) (M0 := rx_m168) (fl := []) (m0 := ([], 0)) (rest := rc_m9339_r) (outs := rc_m9339_o) (rx_okcons rc_m424_ok (rx_okcons rc_m414_ok (rx_okcons rc_m51_ok (rx_okcons rc_m423_ok (rx_okcons rc_m413_ok (rx_okcons rc_m422_ok (rx_okcons rc_m412_ok (rx_okcons rc_m421_ok (rx_okcons rc_m411_ok (rx_okcons rc_m420_ok (rx_okcons rc_m410_ok (rx_oknil)))))))))))) rfl rfl (by decide +kernel)
