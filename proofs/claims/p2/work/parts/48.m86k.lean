
noncomputable def rc_c541 : rx_C := .inl (10, [.inl (266, 0), .inr (.inr (.inl (some 3))), .inl (267, 0), .inl (268, 0), .inl (269, 0), .inl (270, 0), .inl (271, 0), .inl (272, 0), .inl (273, 0), .inl (274, 0), .inl (275, 0), .inl (276, 0), .inr (.inl (277, 0)), .inl (278, 0), .inr (.inr (.inl (some 1))), .inr (.inr (.inr 100)), .inr (.inr (.inr 101)), .inr (.inr (.inr 102)), .inr (.inr (.inr 103)), .inr (.inr (.inl (some 4))), .inr (.inr (.inr 104)), .inr (.inr (.inr 105)), .inr (.inr (.inr 106)), .inr (.inr (.inr 107)), .inl (279, 0), .inl (280, 0), .inl (281, 0), .inr (.inr (.inr 108)), .inr (.inr (.inr 109)), .inr (.inr (.inr 110)), .inl (282, 0), .inl (283, 0), .inr (.inr (.inr 111)), .inr (.inr (.inr 112)), .inl (284, 0), .inl (285, 0), .inl (286, 0), .inl (287, 0), .inr (.inr (.inr 113)), .inl (288, 0), .inl (289, 0), .inr (.inr (.inr 114)), .inr (.inr (.inr 115)), .inl (290, 0), .inl (291, 0), .inr (.inr (.inl (some 2))), .inl (292, 0), .inl (293, 0), .inl (0, 3), .inl (294, 0)])
noncomputable def rc_c542 : rx_C := .inl (10, [.inl (266, 0), .inr (.inr (.inl (some 3))), .inl (267, 0), .inl (268, 0), .inl (269, 0), .inl (295, 0), .inl (296, 0), .inl (297, 0), .inl (298, 0), .inl (299, 0), .inl (300, 0), .inl (296, 0), .inr (.inl (301, 0)), .inl (302, 0), .inr (.inr (.inl (some 1))), .inr (.inr (.inr 100)), .inr (.inr (.inr 101)), .inr (.inr (.inr 102)), .inr (.inr (.inr 103)), .inr (.inr (.inl (some 4))), .inr (.inr (.inr 104)), .inr (.inr (.inr 105)), .inr (.inr (.inr 106)), .inr (.inr (.inr 107)), .inl (279, 0), .inl (280, 0), .inl (281, 0), .inr (.inr (.inr 108)), .inr (.inr (.inr 109)), .inr (.inr (.inr 110)), .inl (282, 0), .inl (283, 0), .inr (.inr (.inr 111)), .inr (.inr (.inr 112)), .inl (284, 0), .inl (285, 0), .inl (286, 0), .inl (287, 0), .inr (.inr (.inr 113)), .inl (288, 0), .inl (289, 0), .inr (.inr (.inr 114)), .inr (.inr (.inr 115)), .inl (290, 0), .inl (291, 0), .inr (.inr (.inl (some 2))), .inl (303, 0), .inl (304, 0), .inl (0, 3), .inl (305, 0)])
noncomputable def rc_c543 : rx_C := .inl (10, [.inl (266, 0), .inr (.inr (.inl (some 3))), .inl (267, 0), .inl (268, 0), .inl (269, 0), .inl (295, 0), .inl (296, 0), .inl (297, 0), .inl (298, 0), .inl (299, 0), .inl (275, 0), .inl (276, 0), .inr (.inl (300, 0)), .inl (301, 0), .inr (.inr (.inl (some 1))), .inr (.inr (.inr 100)), .inr (.inr (.inr 101)), .inr (.inr (.inr 102)), .inr (.inr (.inr 103)), .inr (.inr (.inl (some 4))), .inr (.inr (.inr 104)), .inr (.inr (.inr 105)), .inr (.inr (.inr 106)), .inr (.inr (.inr 107)), .inl (279, 0), .inl (280, 0), .inl (281, 0), .inr (.inr (.inr 108)), .inr (.inr (.inr 109)), .inr (.inr (.inr 110)), .inl (282, 0), .inl (283, 0), .inr (.inr (.inr 111)), .inr (.inr (.inr 112)), .inl (284, 0), .inl (285, 0), .inl (286, 0), .inl (287, 0), .inr (.inr (.inr 113)), .inl (288, 0), .inl (289, 0), .inr (.inr (.inr 114)), .inr (.inr (.inr 115)), .inl (290, 0), .inl (291, 0), .inr (.inr (.inl (some 2))), .inl (302, 0), .inl (303, 0), .inl (0, 3), .inl (302, (-1))])
/-! LostKeysModel.readSaid()Z -/
noncomputable def rn_n13_h : List rx_C := [
  rc_c541,
  rc_c31,
  rc_c516,
  .inr (1000, 940, [], .inr (.inl (255, 0))),
  .inr (1003, 25, [], .inr (.inl (18446744073709551615, (-9223372036854775808))))]
noncomputable def rn_n13_o : List (rx_T × (List (Nat × Nat) × List (Nat × Nat))) := [(((rc_b219, rc_f73), [
  rc_c542,
  rc_c32,
  rc_c524,
  .inr (1000, 940, [], .inr (.inl (255, 0))),
  .inr (1003, 25, [], .inr (.inl (18446744073709551615, (-9223372036854775808))))], (0, 0), 0, [], [.inl (0, 0)]), ([], rc_p91)),
  (((rc_b222, rc_f74), [
  rc_c543,
  rc_c32,
  rc_c526,
  .inr (1000, 940, [], .inr (.inl (255, 0))),
  .inr (1003, 25, [], .inr (.inl (18446744073709551615, (-9223372036854775808))))], (0, 0), 0, [], [.inl (0, 1)]), ([], rc_p92))]
noncomputable def rn_n13_k : rx_KE := ((241, 138), ([(0, 0), (1, 14), (1, 45), (1, 1), (1, 19)], rc_p89, [(1, 15), (1, 16), (1, 17), (1, 18), (1, 20), (1, 21), (1, 22), (1, 23), (1, 27), (1, 28), (1, 29), (1, 32), (1, 33), (1, 38), (1, 41), (1, 42)]), ((rc_b217, rc_f70), rn_n13_h, [.inr (.inr (.inl (some 0)))]), rn_n13_o.map Prod.fst)
noncomputable def rn_n13_r : List rx_Cu := [((((rx_apR rc_b217 [(0, 1), (14, 24)] (fun x => x)), rc_f70), [
  rc_c541,
  rc_c32,
  rc_c518,
  .inr (1000, 940, [], .inr (.inl (255, 0))),
  .inr (1003, 25, [], .inr (.inl (18446744073709551615, (-9223372036854775808))))], (0, 0), 10, [(0, .inr (.inr (.inl (some 0)))), (1, .inl (295, 0)), (2, .inl (296, 0))], []), ([], [(0, 1), (0, 2)]), ([((-2), 295)], 48))]
theorem rn_n13_ok : rx_OK rn_n13_k := rs_ok_of (KT := [rn_n34_k, rn_n14_k, rn_n35_k, rn_n15_k, rn_n36_k, rn_n16_k, rn_n37_k, rn_n17_k, rn_n38_k, rn_n18_k, rn_n01_k, rc_m902_k, rc_m901_k, rc_m900_k, rc_m096_k, rc_m095_k, rc_m094_k, rc_m093_k, rc_m092_k, rc_m091_k, rc_m090_k, rc_m08_k, rc_m07_k, rc_m05_k]) (fuel := 20000) (M0 := rx_m241) (fl := []) (m0 := ([], 22)) (rest := rn_n13_r) (outs := rn_n13_o) (rx_okcons rn_n34_ok (rx_okcons rn_n14_ok (rx_okcons rn_n35_ok (rx_okcons rn_n15_ok (rx_okcons rn_n36_ok (rx_okcons rn_n16_ok (rx_okcons rn_n37_ok (rx_okcons rn_n17_ok (rx_okcons rn_n38_ok (rx_okcons rn_n18_ok (rx_okcons rn_n01_ok (rx_okcons rc_m902_ok (rx_okcons rc_m901_ok (rx_okcons rc_m900_ok (rx_okcons rc_m096_ok (rx_okcons rc_m095_ok (rx_okcons rc_m094_ok (rx_okcons rc_m093_ok (rx_okcons rc_m092_ok (rx_okcons rc_m091_ok (rx_okcons rc_m090_ok (rx_okcons rc_m08_ok (rx_okcons rc_m07_ok (rx_okcons rc_m05_ok (rx_oknil))))))))))))))))))))))))) rfl rfl (by decide +kernel)
