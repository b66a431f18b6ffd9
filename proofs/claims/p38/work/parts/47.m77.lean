noncomputable def rc_c545 : rx_C := .inl (10, [.inl (266, 0), .inr (.inr (.inl (some 3))), .inl (267, 0), .inl (268, 0), .inl (269, 0), .inl (270, 0), .inl (271, 0), .inl (272, 0), .inl (273, 0), .inl (274, 0), .inl (275, 0), .inl (276, 0), .inr (.inl (277, 0)), .inl (278, 0), .inr (.inr (.inl (some 1))), .inr (.inr (.inr 100)), .inr (.inr (.inr 101)), .inr (.inr (.inr 102)), .inr (.inr (.inr 103)), .inr (.inr (.inl (some 4))), .inr (.inr (.inr 104)), .inr (.inr (.inr 105)), .inr (.inr (.inr 106)), .inr (.inr (.inr 107)), .inl (279, 0), .inl (280, 0), .inl (281, 0), .inr (.inr (.inr 108)), .inr (.inr (.inr 109)), .inr (.inr (.inr 110)), .inl (282, 0), .inl (283, 0), .inr (.inr (.inr 111)), .inr (.inr (.inr 112)), .inl (284, 0), .inl (285, 0), .inl (286, 0), .inl (287, 0), .inr (.inr (.inr 113)), .inl (288, 0), .inl (289, 0), .inr (.inr (.inr 114)), .inr (.inr (.inr 115)), .inl (290, 0), .inl (291, 0), .inr (.inr (.inl (some 2))), .inl (292, 0), .inl (293, 0), .inl (0, 2), .inl (294, 0)])
noncomputable def rc_c546 : rx_C := .inl (10, [.inl (266, 0), .inr (.inr (.inl (some 3))), .inl (267, 0), .inl (268, 0), .inl (269, 0), .inl (295, 0), .inl (296, 0), .inl (297, 0), .inl (298, 0), .inl (299, 0), .inl (300, 0), .inl (296, 0), .inr (.inl (301, 0)), .inl (302, 0), .inr (.inr (.inl (some 1))), .inr (.inr (.inr 100)), .inr (.inr (.inr 101)), .inr (.inr (.inr 102)), .inr (.inr (.inr 103)), .inr (.inr (.inl (some 4))), .inr (.inr (.inr 104)), .inr (.inr (.inr 105)), .inr (.inr (.inr 106)), .inr (.inr (.inr 107)), .inl (279, 0), .inl (280, 0), .inl (281, 0), .inr (.inr (.inr 108)), .inr (.inr (.inr 109)), .inr (.inr (.inr 110)), .inl (282, 0), .inl (283, 0), .inr (.inr (.inr 111)), .inr (.inr (.inr 112)), .inl (284, 0), .inl (285, 0), .inl (286, 0), .inl (287, 0), .inr (.inr (.inr 113)), .inl (288, 0), .inl (289, 0), .inr (.inr (.inr 114)), .inr (.inr (.inr 115)), .inl (290, 0), .inl (291, 0), .inr (.inr (.inl (some 2))), .inl (303, 0), .inl (304, 0), .inl (0, 2), .inl (305, 0)])
noncomputable def rc_c547 : rx_C := .inl (10, [.inl (266, 0), .inr (.inr (.inl (some 3))), .inl (267, 0), .inl (268, 0), .inl (269, 0), .inl (295, 0), .inl (296, 0), .inl (297, 0), .inl (298, 0), .inl (299, 0), .inl (275, 0), .inl (276, 0), .inr (.inl (300, 0)), .inl (301, 0), .inr (.inr (.inl (some 1))), .inr (.inr (.inr 100)), .inr (.inr (.inr 101)), .inr (.inr (.inr 102)), .inr (.inr (.inr 103)), .inr (.inr (.inl (some 4))), .inr (.inr (.inr 104)), .inr (.inr (.inr 105)), .inr (.inr (.inr 106)), .inr (.inr (.inr 107)), .inl (279, 0), .inl (280, 0), .inl (281, 0), .inr (.inr (.inr 108)), .inr (.inr (.inr 109)), .inr (.inr (.inr 110)), .inl (282, 0), .inl (283, 0), .inr (.inr (.inr 111)), .inr (.inr (.inr 112)), .inl (284, 0), .inl (285, 0), .inl (286, 0), .inl (287, 0), .inr (.inr (.inr 113)), .inl (288, 0), .inl (289, 0), .inr (.inr (.inr 114)), .inr (.inr (.inr 115)), .inl (290, 0), .inl (291, 0), .inr (.inr (.inl (some 2))), .inl (302, 0), .inl (303, 0), .inl (0, 2), .inl (302, (-1))])
/-! LostKeysModel.readSaid()Z -/
noncomputable def rn_n12_h : List rx_C := [
  rc_c545,
  rc_c31,
  rc_c516,
  .inr (1000, 940, [], .inr (.inl (255, 0))),
  .inr (1003, 25, [], .inr (.inl (18446744073709551615, (-9223372036854775808))))]
noncomputable def rn_n12_o : List (rx_T × (List (Nat × Nat) × List (Nat × Nat))) := [(((rc_b211, rc_f73), [
  rc_c546,
  rc_c32,
  rc_c524,
  .inr (1000, 940, [], .inr (.inl (255, 0))),
  .inr (1003, 25, [], .inr (.inl (18446744073709551615, (-9223372036854775808))))], (0, 0), 0, [], [.inl (0, 0)]), ([], rc_p91)),
  (((rc_b214, rc_f74), [
  rc_c547,
  rc_c32,
  rc_c526,
  .inr (1000, 940, [], .inr (.inl (255, 0))),
  .inr (1003, 25, [], .inr (.inl (18446744073709551615, (-9223372036854775808))))], (0, 0), 0, [], [.inl (0, 1)]), ([], rc_p92))]
noncomputable def rn_n12_k : rx_KE := ((241, 162), ([(0, 0), (1, 14), (1, 45), (1, 1), (1, 19)], rc_p89, [(1, 15), (1, 16), (1, 17), (1, 18), (1, 20), (1, 21), (1, 22), (1, 23), (1, 27), (1, 28), (1, 29), (1, 32), (1, 33), (1, 38), (1, 41), (1, 42)]), ((rc_b209, rc_f70), rn_n12_h, [.inr (.inr (.inl (some 0)))]), rn_n12_o.map Prod.fst)
noncomputable def rn_n12_r : List rx_Cu := []
theorem rn_n12_ok : rx_OK rn_n12_k := rq_ok_of (KT := [rn_n33_k, rn_n13_k, rn_n34_k, rn_n14_k, rn_n35_k, rn_n15_k, rn_n36_k, rn_n16_k, rn_n37_k, rn_n17_k, rn_n38_k, rn_n18_k, rn_n01_k, rc_m902_k, rc_m901_k, rc_m900_k, rc_m096_k, rc_m095_k, rc_m094_k, rc_m093_k, rc_m092_k, rc_m091_k, rc_m090_k, rc_m08_k, rc_m07_k, rc_m05_k]) (fuel := 20000) (M0 := rx_m241) (fl := []) (m0 := ([], 0)) (rest := rn_n12_r) (outs := rn_n12_o) (rx_okcons rn_n33_ok (rx_okcons rn_n13_ok (rx_okcons rn_n34_ok (rx_okcons rn_n14_ok (rx_okcons rn_n35_ok (rx_okcons rn_n15_ok (rx_okcons rn_n36_ok (rx_okcons rn_n16_ok (rx_okcons rn_n37_ok (rx_okcons rn_n17_ok (rx_okcons rn_n38_ok (rx_okcons rn_n18_ok (rx_okcons rn_n01_ok (rx_okcons rc_m902_ok (rx_okcons rc_m901_ok (rx_okcons rc_m900_ok (rx_okcons rc_m096_ok (rx_okcons rc_m095_ok (rx_okcons rc_m094_ok (rx_okcons rc_m093_ok (rx_okcons rc_m092_ok (rx_okcons rc_m091_ok (rx_okcons rc_m090_ok (rx_okcons rc_m08_ok (rx_okcons rc_m07_ok (rx_okcons rc_m05_ok (rx_oknil))))))))))))))))))))))))))) rfl rfl (by decide +kernel)

noncomputable def rc_c548 : rx_C := .inl (10, [.inl (266, 0), .inr (.inr (.inl (some 3))), .inl (267, 0), .inl (268, 0), .inl (269, 0), .inl (296, 0), .inl (297, 0), .inl (298, 0), .inl (299, 0), .inl (300, 0), .inl (275, 0), .inl (276, 0), .inr (.inl (301, 0)), .inl (302, 0), .inr (.inr (.inl (some 1))), .inr (.inr (.inr 100)), .inr (.inr (.inr 101)), .inr (.inr (.inr 102)), .inr (.inr (.inr 103)), .inr (.inr (.inl (some 4))), .inr (.inr (.inr 104)), .inr (.inr (.inr 105)), .inr (.inr (.inr 106)), .inr (.inr (.inr 107)), .inl (279, 0), .inl (280, 0), .inl (281, 0), .inr (.inr (.inr 108)), .inr (.inr (.inr 109)), .inr (.inr (.inr 110)), .inl (282, 0), .inl (283, 0), .inr (.inr (.inr 111)), .inr (.inr (.inr 112)), .inl (284, 0), .inl (285, 0), .inl (286, 0), .inl (287, 0), .inr (.inr (.inr 113)), .inl (288, 0), .inl (289, 0), .inr (.inr (.inr 114)), .inr (.inr (.inr 115)), .inl (290, 0), .inl (291, 0), .inr (.inr (.inl (some 2))), .inl (295, 1), .inl (303, 0), .inl (0, 2), .inl (304, 0)])
/-! LostKeysModel.readAnd()Z -/
noncomputable def rn_n62_h : List rx_C := [
  rc_c545,
  rc_c31,
  rc_c516,
  .inr (1000, 940, [], .inr (.inl (255, 0))),
  .inr (1003, 25, [], .inr (.inl (18446744073709551615, (-9223372036854775808))))]
noncomputable def rn_n62_o : List (rx_T × (List (Nat × Nat) × List (Nat × Nat))) := [(((rc_b211, rc_f73), [
  rc_c546,
  rc_c32,
  rc_c524,
  .inr (1000, 940, [], .inr (.inl (255, 0))),
  .inr (1003, 25, [], .inr (.inl (18446744073709551615, (-9223372036854775808))))], (0, 0), 0, [], [.inl (0, 0)]), ([], rc_p91)),
  (((rc_b214, rc_f74), [
  rc_c547,
  rc_c32,
  rc_c526,
  .inr (1000, 940, [], .inr (.inl (255, 0))),
  .inr (1003, 25, [], .inr (.inl (18446744073709551615, (-9223372036854775808))))], (0, 0), 0, [], [.inl (0, 1)]), ([], rc_p92))]
noncomputable def rn_n62_k : rx_KE := ((220, 168), ([(0, 0), (1, 14), (1, 45), (1, 1), (1, 19)], rc_p89, [(1, 15), (1, 16), (1, 17), (1, 18), (1, 20), (1, 21), (1, 22), (1, 23), (1, 27), (1, 28), (1, 29), (1, 32), (1, 33), (1, 38), (1, 41), (1, 42)]), ((rc_b209, rc_f70), rn_n62_h, [.inr (.inr (.inl (some 0)))]), rn_n62_o.map Prod.fst)
noncomputable def rn_n62_r : List rx_Cu := [(((rc_b215, rc_f75), [
  rc_c548,
  rc_c32,
  rc_c528,
  .inr (1000, 940, [], .inr (.inl (255, 0))),
  .inr (1003, 25, [], .inr (.inl (18446744073709551615, (-9223372036854775808))))], (0, 0), 14, [(0, .inr (.inr (.inl (some 0)))), (1, .inl (295, 0))], []), ([], rc_p93), ([((-2), 294)], 78))]
theorem rn_n62_ok : rx_OK rn_n62_k := rq_ok_of (KT := [rn_n12_k, rn_n13_k, rn_n14_k, rn_n15_k, rn_n16_k, rn_n17_k, rn_n18_k, rn_n01_k, rc_m07_k, rc_m05_k]) (fuel := 20000) (M0 := rx_m220) (fl := []) (m0 := ([], 80)) (rest := rn_n62_r) (outs := rn_n62_o) (rx_okcons rn_n12_ok (rx_okcons rn_n13_ok (rx_okcons rn_n14_ok (rx_okcons rn_n15_ok (rx_okcons rn_n16_ok (rx_okcons rn_n17_ok (rx_okcons rn_n18_ok (rx_okcons rn_n01_ok (rx_okcons rc_m07_ok (rx_okcons rc_m05_ok (rx_oknil))))))))))) rfl rfl (by decide +kernel)

/-! LostKeysModel.readOr()Z -/
noncomputable def rn_n72_h : List rx_C := [
  rc_c545,
  rc_c31,
  rc_c516,
  .inr (1000, 940, [], .inr (.inl (255, 0))),
  .inr (1003, 25, [], .inr (.inl (18446744073709551615, (-9223372036854775808))))]
noncomputable def rn_n72_o : List (rx_T × (List (Nat × Nat) × List (Nat × Nat))) := [(((rc_b211, rc_f73), [
  rc_c546,
  rc_c32,
  rc_c524,
  .inr (1000, 940, [], .inr (.inl (255, 0))),
  .inr (1003, 25, [], .inr (.inl (18446744073709551615, (-9223372036854775808))))], (0, 0), 0, [], [.inl (0, 0)]), ([], rc_p91)),
  (((rc_b214, rc_f74), [
  rc_c547,
  rc_c32,
  rc_c526,
  .inr (1000, 940, [], .inr (.inl (255, 0))),
  .inr (1003, 25, [], .inr (.inl (18446744073709551615, (-9223372036854775808))))], (0, 0), 0, [], [.inl (0, 1)]), ([], rc_p92))]
noncomputable def rn_n72_k : rx_KE := ((239, 174), ([(0, 0), (1, 14), (1, 45), (1, 1), (1, 19)], rc_p89, [(1, 15), (1, 16), (1, 17), (1, 18), (1, 20), (1, 21), (1, 22), (1, 23), (1, 27), (1, 28), (1, 29), (1, 32), (1, 33), (1, 38), (1, 41), (1, 42)]), ((rc_b209, rc_f70), rn_n72_h, [.inr (.inr (.inl (some 0)))]), rn_n72_o.map Prod.fst)
noncomputable def rn_n72_r : List rx_Cu := [(((rc_b215, rc_f75), [
  rc_c548,
  rc_c32,
  rc_c528,
  .inr (1000, 940, [], .inr (.inl (255, 0))),
  .inr (1003, 25, [], .inr (.inl (18446744073709551615, (-9223372036854775808))))], (0, 0), 14, [(0, .inr (.inr (.inl (some 0)))), (1, .inl (295, 0))], []), ([], rc_p93), ([((-2), 294)], 78))]
theorem rn_n72_ok : rx_OK rn_n72_k := rq_ok_of (KT := [rn_n62_k, rn_n63_k, rn_n64_k, rn_n65_k, rn_n66_k, rn_n67_k, rn_n68_k, rn_n01_k, rc_m07_k, rc_m05_k]) (fuel := 20000) (M0 := rx_m239) (fl := []) (m0 := ([], 80)) (rest := rn_n72_r) (outs := rn_n72_o) (rx_okcons rn_n62_ok (rx_okcons rn_n63_ok (rx_okcons rn_n64_ok (rx_okcons rn_n65_ok (rx_okcons rn_n66_ok (rx_okcons rn_n67_ok (rx_okcons rn_n68_ok (rx_okcons rn_n01_ok (rx_okcons rc_m07_ok (rx_okcons rc_m05_ok (rx_oknil))))))))))) rfl rfl (by decide +kernel)

/-! LostKeysModel.readBracket()Z -/
noncomputable def rn_n32_h : List rx_C := [
  rc_c545,
  rc_c31,
  rc_c516,
  .inr (1000, 940, [], .inr (.inl (255, 0))),
  .inr (1003, 25, [], .inr (.inl (18446744073709551615, (-9223372036854775808))))]
noncomputable def rn_n32_o : List (rx_T × (List (Nat × Nat) × List (Nat × Nat))) := [(((rc_b211, rc_f73), [
  rc_c546,
  rc_c32,
  rc_c524,
  .inr (1000, 940, [], .inr (.inl (255, 0))),
  .inr (1003, 25, [], .inr (.inl (18446744073709551615, (-9223372036854775808))))], (0, 0), 0, [], [.inl (0, 0)]), ([], rc_p91)),
  (((rc_b214, rc_f74), [
  rc_c547,
  rc_c32,
  rc_c526,
  .inr (1000, 940, [], .inr (.inl (255, 0))),
  .inr (1003, 25, [], .inr (.inl (18446744073709551615, (-9223372036854775808))))], (0, 0), 0, [], [.inl (0, 1)]), ([], rc_p92))]
noncomputable def rn_n32_k : rx_KE := ((222, 180), ([(0, 0), (1, 14), (1, 45), (1, 1), (1, 19)], rc_p89, [(1, 15), (1, 16), (1, 17), (1, 18), (1, 20), (1, 21), (1, 22), (1, 23), (1, 27), (1, 28), (1, 29), (1, 32), (1, 33), (1, 38), (1, 41), (1, 42)]), ((rc_b209, rc_f70), rn_n32_h, [.inr (.inr (.inl (some 0)))]), rn_n32_o.map Prod.fst)
noncomputable def rn_n32_r : List rx_Cu := []
theorem rn_n32_ok : rx_OK rn_n32_k := rq_ok_of (KT := [rn_n72_k, rn_n73_k, rn_n74_k, rn_n75_k, rn_n76_k, rn_n77_k, rn_n78_k, rc_m08_k, rc_m05_k]) (fuel := 20000) (M0 := rx_m222) (fl := []) (m0 := ([], 0)) (rest := rn_n32_r) (outs := rn_n32_o) (rx_okcons rn_n72_ok (rx_okcons rn_n73_ok (rx_okcons rn_n74_ok (rx_okcons rn_n75_ok (rx_okcons rn_n76_ok (rx_okcons rn_n77_ok (rx_okcons rn_n78_ok (rx_okcons rc_m08_ok (rx_okcons rc_m05_ok (rx_oknil)))))))))) rfl rfl (by decide +kernel)

noncomputable def rc_c549 : rx_C := .inl (10, [.inl (266, 0), .inr (.inr (.inl (some 3))), .inl (267, 0), .inl (268, 0), .inl (269, 0), .inl (270, 0), .inl (271, 0), .inl (272, 0), .inl (273, 0), .inl (274, 0), .inl (275, 0), .inl (276, 0), .inr (.inl (277, 0)), .inl (278, 0), .inr (.inr (.inl (some 1))), .inr (.inr (.inr 100)), .inr (.inr (.inr 101)), .inr (.inr (.inr 102)), .inr (.inr (.inr 103)), .inr (.inr (.inl (some 4))), .inr (.inr (.inr 104)), .inr (.inr (.inr 105)), .inr (.inr (.inr 106)), .inr (.inr (.inr 107)), .inl (279, 0), .inl (280, 0), .inl (281, 0), .inr (.inr (.inr 108)), .inr (.inr (.inr 109)), .inr (.inr (.inr 110)), .inl (282, 0), .inl (283, 0), .inr (.inr (.inr 111)), .inr (.inr (.inr 112)), .inl (284, 0), .inl (285, 0), .inl (286, 0), .inl (287, 0), .inr (.inr (.inr 113)), .inl (288, 0), .inl (289, 0), .inr (.inr (.inr 114)), .inr (.inr (.inr 115)), .inl (290, 0), .inl (291, 0), .inr (.inr (.inl (some 2))), .inl (292, 0), .inl (293, 0), .inl (0, 1), .inl (294, 0)])
noncomputable def rc_c550 : rx_C := .inl (10, [.inl (266, 0), .inr (.inr (.inl (some 3))), .inl (267, 0), .inl (268, 0), .inl (269, 0), .inl (295, 0), .inl (296, 0), .inl (297, 0), .inl (298, 0), .inl (299, 0), .inl (300, 0), .inl (296, 0), .inr (.inl (301, 0)), .inl (302, 0), .inr (.inr (.inl (some 1))), .inr (.inr (.inr 100)), .inr (.inr (.inr 101)), .inr (.inr (.inr 102)), .inr (.inr (.inr 103)), .inr (.inr (.inl (some 4))), .inr (.inr (.inr 104)), .inr (.inr (.inr 105)), .inr (.inr (.inr 106)), .inr (.inr (.inr 107)), .inl (279, 0), .inl (280, 0), .inl (281, 0), .inr (.inr (.inr 108)), .inr (.inr (.inr 109)), .inr (.inr (.inr 110)), .inl (282, 0), .inl (283, 0), .inr (.inr (.inr 111)), .inr (.inr (.inr 112)), .inl (284, 0), .inl (285, 0), .inl (286, 0), .inl (287, 0), .inr (.inr (.inr 113)), .inl (288, 0), .inl (289, 0), .inr (.inr (.inr 114)), .inr (.inr (.inr 115)), .inl (290, 0), .inl (291, 0), .inr (.inr (.inl (some 2))), .inl (303, 0), .inl (304, 0), .inl (0, 1), .inl (305, 0)])
noncomputable def rc_c551 : rx_C := .inl (10, [.inl (266, 0), .inr (.inr (.inl (some 3))), .inl (267, 0), .inl (268, 0), .inl (269, 0), .inl (295, 0), .inl (296, 0), .inl (297, 0), .inl (298, 0), .inl (299, 0), .inl (275, 0), .inl (276, 0), .inr (.inl (300, 0)), .inl (301, 0), .inr (.inr (.inl (some 1))), .inr (.inr (.inr 100)), .inr (.inr (.inr 101)), .inr (.inr (.inr 102)), .inr (.inr (.inr 103)), .inr (.inr (.inl (some 4))), .inr (.inr (.inr 104)), .inr (.inr (.inr 105)), .inr (.inr (.inr 106)), .inr (.inr (.inr 107)), .inl (279, 0), .inl (280, 0), .inl (281, 0), .inr (.inr (.inr 108)), .inr (.inr (.inr 109)), .inr (.inr (.inr 110)), .inl (282, 0), .inl (283, 0), .inr (.inr (.inr 111)), .inr (.inr (.inr 112)), .inl (284, 0), .inl (285, 0), .inl (286, 0), .inl (287, 0), .inr (.inr (.inr 113)), .inl (288, 0), .inl (289, 0), .inr (.inr (.inr 114)), .inr (.inr (.inr 115)), .inl (290, 0), .inl (291, 0), .inr (.inr (.inl (some 2))), .inl (302, 0), .inl (303, 0), .inl (0, 1), .inl (302, (-1))])
/-! LostKeysModel.readSaid()Z -/
noncomputable def rn_n11_h : List rx_C := [
  rc_c549,
  rc_c31,
  rc_c516,
  .inr (1000, 940, [], .inr (.inl (255, 0))),
  .inr (1003, 25, [], .inr (.inl (18446744073709551615, (-9223372036854775808))))]
noncomputable def rn_n11_o : List (rx_T × (List (Nat × Nat) × List (Nat × Nat))) := [(((rc_b211, rc_f73), [
  rc_c550,
  rc_c32,
  rc_c524,
  .inr (1000, 940, [], .inr (.inl (255, 0))),
  .inr (1003, 25, [], .inr (.inl (18446744073709551615, (-9223372036854775808))))], (0, 0), 0, [], [.inl (0, 0)]), ([], rc_p91)),
  (((rc_b214, rc_f74), [
  rc_c551,
  rc_c32,
  rc_c526,
  .inr (1000, 940, [], .inr (.inl (255, 0))),
  .inr (1003, 25, [], .inr (.inl (18446744073709551615, (-9223372036854775808))))], (0, 0), 0, [], [.inl (0, 1)]), ([], rc_p92))]
noncomputable def rn_n11_k : rx_KE := ((241, 186), ([(0, 0), (1, 14), (1, 45), (1, 1), (1, 19)], rc_p89, [(1, 15), (1, 16), (1, 17), (1, 18), (1, 20), (1, 21), (1, 22), (1, 23), (1, 27), (1, 28), (1, 29), (1, 32), (1, 33), (1, 38), (1, 41), (1, 42)]), ((rc_b209, rc_f70), rn_n11_h, [.inr (.inr (.inl (some 0)))]), rn_n11_o.map Prod.fst)
noncomputable def rn_n11_r : List rx_Cu := []
theorem rn_n11_ok : rx_OK rn_n11_k := rq_ok_of (KT := [rn_n32_k, rn_n12_k, rn_n33_k, rn_n13_k, rn_n34_k, rn_n14_k, rn_n35_k, rn_n15_k, rn_n36_k, rn_n16_k, rn_n37_k, rn_n17_k, rn_n38_k, rn_n18_k, rn_n01_k, rc_m902_k, rc_m901_k, rc_m900_k, rc_m096_k, rc_m095_k, rc_m094_k, rc_m093_k, rc_m092_k, rc_m091_k, rc_m090_k, rc_m08_k, rc_m07_k, rc_m05_k]) (fuel := 20000) (M0 := rx_m241) (fl := []) (m0 := ([], 0)) (rest := rn_n11_r) (outs := rn_n11_o) (rx_okcons rn_n32_ok (rx_okcons rn_n12_ok (rx_okcons rn_n33_ok (rx_okcons rn_n13_ok (rx_okcons rn_n34_ok (rx_okcons rn_n14_ok (rx_okcons rn_n35_ok (rx_okcons rn_n15_ok (rx_okcons rn_n36_ok (rx_okcons rn_n16_ok (rx_okcons rn_n37_ok (rx_okcons rn_n17_ok (rx_okcons rn_n38_ok (rx_okcons rn_n18_ok (rx_okcons rn_n01_ok (rx_okcons rc_m902_ok (rx_okcons rc_m901_ok (rx_okcons rc_m900_ok (rx_okcons rc_m096_ok (rx_okcons rc_m095_ok (rx_okcons rc_m094_ok (rx_okcons rc_m093_ok (rx_okcons rc_m092_ok (rx_okcons rc_m091_ok (rx_okcons rc_m090_ok (rx_okcons rc_m08_ok (rx_okcons rc_m07_ok (rx_okcons rc_m05_ok (rx_oknil))))))))))))))))))))))))))))) rfl rfl (by decide +kernel)

noncomputable def rc_c552 : rx_C := .inl (10, [.inl (266, 0), .inr (.inr (.inl (some 3))), .inl (267, 0), .inl (268, 0), .inl (269, 0), .inl (296, 0), .inl (297, 0), .inl (298, 0), .inl (299, 0), .inl (300, 0), .inl (275, 0), .inl (276, 0), .inr (.inl (301, 0)), .inl (302, 0), .inr (.inr (.inl (some 1))), .inr (.inr (.inr 100)), .inr (.inr (.inr 101)), .inr (.inr (.inr 102)), .inr (.inr (.inr 103)), .inr (.inr (.inl (some 4))), .inr (.inr (.inr 104)), .inr (.inr (.inr 105)), .inr (.inr (.inr 106)), .inr (.inr (.inr 107)), .inl (279, 0), .inl (280, 0), .inl (281, 0), .inr (.inr (.inr 108)), .inr (.inr (.inr 109)), .inr (.inr (.inr 110)), .inl (282, 0), .inl (283, 0), .inr (.inr (.inr 111)), .inr (.inr (.inr 112)), .inl (284, 0), .inl (285, 0), .inl (286, 0), .inl (287, 0), .inr (.inr (.inr 113)), .inl (288, 0), .inl (289, 0), .inr (.inr (.inr 114)), .inr (.inr (.inr 115)), .inl (290, 0), .inl (291, 0), .inr (.inr (.inl (some 2))), .inl (295, 1), .inl (303, 0), .inl (0, 1), .inl (304, 0)])
/-! LostKeysModel.readAnd()Z -/
noncomputable def rn_n61_h : List rx_C := [
  rc_c549,
  rc_c31,
  rc_c516,
  .inr (1000, 940, [], .inr (.inl (255, 0))),
  .inr (1003, 25, [], .inr (.inl (18446744073709551615, (-9223372036854775808))))]
noncomputable def rn_n61_o : List (rx_T × (List (Nat × Nat) × List (Nat × Nat))) := [(((rc_b211, rc_f73), [
  rc_c550,
  rc_c32,
  rc_c524,
  .inr (1000, 940, [], .inr (.inl (255, 0))),
  .inr (1003, 25, [], .inr (.inl (18446744073709551615, (-9223372036854775808))))], (0, 0), 0, [], [.inl (0, 0)]), ([], rc_p91)),
  (((rc_b214, rc_f74), [
  rc_c551,
  rc_c32,
  rc_c526,
  .inr (1000, 940, [], .inr (.inl (255, 0))),
  .inr (1003, 25, [], .inr (.inl (18446744073709551615, (-9223372036854775808))))], (0, 0), 0, [], [.inl (0, 1)]), ([], rc_p92))]
noncomputable def rn_n61_k : rx_KE := ((220, 192), ([(0, 0), (1, 14), (1, 45), (1, 1), (1, 19)], rc_p89, [(1, 15), (1, 16), (1, 17), (1, 18), (1, 20), (1, 21), (1, 22), (1, 23), (1, 27), (1, 28), (1, 29), (1, 32), (1, 33), (1, 38), (1, 41), (1, 42)]), ((rc_b209, rc_f70), rn_n61_h, [.inr (.inr (.inl (some 0)))]), rn_n61_o.map Prod.fst)
noncomputable def rn_n61_r : List rx_Cu := [(((rc_b215, rc_f75), [
  rc_c552,
  rc_c32,
  rc_c528,
  .inr (1000, 940, [], .inr (.inl (255, 0))),
  .inr (1003, 25, [], .inr (.inl (18446744073709551615, (-9223372036854775808))))], (0, 0), 14, [(0, .inr (.inr (.inl (some 0)))), (1, .inl (295, 0))], []), ([], rc_p93), ([((-2), 294)], 78))]
theorem rn_n61_ok : rx_OK rn_n61_k := rq_ok_of (KT := [rn_n11_k, rn_n12_k, rn_n13_k, rn_n14_k, rn_n15_k, rn_n16_k, rn_n17_k, rn_n18_k, rn_n01_k, rc_m07_k, rc_m05_k]) (fuel := 20000) (M0 := rx_m220) (fl := []) (m0 := ([], 80)) (rest := rn_n61_r) (outs := rn_n61_o) (rx_okcons rn_n11_ok (rx_okcons rn_n12_ok (rx_okcons rn_n13_ok (rx_okcons rn_n14_ok (rx_okcons rn_n15_ok (rx_okcons rn_n16_ok (rx_okcons rn_n17_ok (rx_okcons rn_n18_ok (rx_okcons rn_n01_ok (rx_okcons rc_m07_ok (rx_okcons rc_m05_ok (rx_oknil)))))))))))) rfl rfl (by decide +kernel)

/-! LostKeysModel.readOr()Z -/
noncomputable def rn_n71_h : List rx_C := [
  rc_c549,
  rc_c31,
  rc_c516,
  .inr (1000, 940, [], .inr (.inl (255, 0))),
  .inr (1003, 25, [], .inr (.inl (18446744073709551615, (-9223372036854775808))))]
noncomputable def rn_n71_o : List (rx_T × (List (Nat × Nat) × List (Nat × Nat))) := [(((rc_b211, rc_f73), [
  rc_c550,
  rc_c32,
  rc_c524,
  .inr (1000, 940, [], .inr (.inl (255, 0))),
  .inr (1003, 25, [], .inr (.inl (18446744073709551615, (-9223372036854775808))))], (0, 0), 0, [], [.inl (0, 0)]), ([], rc_p91)),
  (((rc_b214, rc_f74), [
  rc_c551,
  rc_c32,
  rc_c526,
  .inr (1000, 940, [], .inr (.inl (255, 0))),
  .inr (1003, 25, [], .inr (.inl (18446744073709551615, (-9223372036854775808))))], (0, 0), 0, [], [.inl (0, 1)]), ([], rc_p92))]
noncomputable def rn_n71_k : rx_KE := ((239, 198), ([(0, 0), (1, 14), (1, 45), (1, 1), (1, 19)], rc_p89, [(1, 15), (1, 16), (1, 17), (1, 18), (1, 20), (1, 21), (1, 22), (1, 23), (1, 27), (1, 28), (1, 29), (1, 32), (1, 33), (1, 38), (1, 41), (1, 42)]), ((rc_b209, rc_f70), rn_n71_h, [.inr (.inr (.inl (some 0)))]), rn_n71_o.map Prod.fst)
noncomputable def rn_n71_r : List rx_Cu := [(((rc_b215, rc_f75), [
  rc_c552,
  rc_c32,
  rc_c528,
  .inr (1000, 940, [], .inr (.inl (255, 0))),
  .inr (1003, 25, [], .inr (.inl (18446744073709551615, (-9223372036854775808))))], (0, 0), 14, [(0, .inr (.inr (.inl (some 0)))), (1, .inl (295, 0))], []), ([], rc_p93), ([((-2), 294)], 78))]
theorem rn_n71_ok : rx_OK rn_n71_k := rq_ok_of (KT := [rn_n61_k, rn_n62_k, rn_n63_k, rn_n64_k, rn_n65_k, rn_n66_k, rn_n67_k, rn_n68_k, rn_n01_k, rc_m07_k, rc_m05_k]) (fuel := 20000) (M0 := rx_m239) (fl := []) (m0 := ([], 80)) (rest := rn_n71_r) (outs := rn_n71_o) (rx_okcons rn_n61_ok (rx_okcons rn_n62_ok (rx_okcons rn_n63_ok (rx_okcons rn_n64_ok (rx_okcons rn_n65_ok (rx_okcons rn_n66_ok (rx_okcons rn_n67_ok (rx_okcons rn_n68_ok (rx_okcons rn_n01_ok (rx_okcons rc_m07_ok (rx_okcons rc_m05_ok (rx_oknil)))))))))))) rfl rfl (by decide +kernel)

/-! LostKeysModel.readBracket()Z -/
noncomputable def rn_n31_h : List rx_C := [
  rc_c549,
  rc_c31,
  rc_c516,
  .inr (1000, 940, [], .inr (.inl (255, 0))),
  .inr (1003, 25, [], .inr (.inl (18446744073709551615, (-9223372036854775808))))]
noncomputable def rn_n31_o : List (rx_T × (List (Nat × Nat) × List (Nat × Nat))) := [(((rc_b211, rc_f73), [
  rc_c550,
  rc_c32,
  rc_c524,
  .inr (1000, 940, [], .inr (.inl (255, 0))),
  .inr (1003, 25, [], .inr (.inl (18446744073709551615, (-9223372036854775808))))], (0, 0), 0, [], [.inl (0, 0)]), ([], rc_p91)),
  (((rc_b214, rc_f74), [
  rc_c551,
  rc_c32,
  rc_c526,
  .inr (1000, 940, [], .inr (.inl (255, 0))),
  .inr (1003, 25, [], .inr (.inl (18446744073709551615, (-9223372036854775808))))], (0, 0), 0, [], [.inl (0, 1)]), ([], rc_p92))]
noncomputable def rn_n31_k : rx_KE := ((222, 204), ([(0, 0), (1, 14), (1, 45), (1, 1), (1, 19)], rc_p89, [(1, 15), (1, 16), (1, 17), (1, 18), (1, 20), (1, 21), (1, 22), (1, 23), (1, 27), (1, 28), (1, 29), (1, 32), (1, 33), (1, 38), (1, 41), (1, 42)]), ((rc_b209, rc_f70), rn_n31_h, [.inr (.inr (.inl (some 0)))]), rn_n31_o.map Prod.fst)
noncomputable def rn_n31_r : List rx_Cu := []
theorem rn_n31_ok : rx_OK rn_n31_k := rq_ok_of (KT := [rn_n71_k, rn_n72_k, rn_n73_k, rn_n74_k, rn_n75_k, rn_n76_k, rn_n77_k, rn_n78_k, rc_m08_k, rc_m05_k]) (fuel := 20000) (M0 := rx_m222) (fl := []) (m0 := ([], 0)) (rest := rn_n31_r) (outs := rn_n31_o) (rx_okcons rn_n71_ok (rx_okcons rn_n72_ok (rx_okcons rn_n73_ok (rx_okcons rn_n74_ok (rx_okcons rn_n75_ok (rx_okcons rn_n76_ok (rx_okcons rn_n77_ok (rx_okcons rn_n78_ok (rx_okcons rc_m08_ok (rx_okcons rc_m05_ok (rx_oknil))))))))))) rfl rfl (by decide +kernel)

noncomputable def rc_c553 : rx_C := .inl (10, [.inl (266, 0), .inr (.inr (.inl (some 3))), .inl (267, 0), .inl (268, 0), .inl (269, 0), .inl (270, 0), .inl (271, 0), .inl (272, 0), .inl (273, 0), .inl (274, 0), .inl (275, 0), .inl (276, 0), .inr (.inl (277, 0)), .inl (278, 0), .inr (.inr (.inl (some 1))), .inr (.inr (.inr 100)), .inr (.inr (.inr 101)), .inr (.inr (.inr 102)), .inr (.inr (.inr 103)), .inr (.inr (.inl (some 4))), .inr (.inr (.inr 104)), .inr (.inr (.inr 105)), .inr (.inr (.inr 106)), .inr (.inr (.inr 107)), .inl (279, 0), .inl (280, 0), .inl (281, 0), .inr (.inr (.inr 108)), .inr (.inr (.inr 109)), .inr (.inr (.inr 110)), .inl (282, 0), .inl (283, 0), .inr (.inr (.inr 111)), .inr (.inr (.inr 112)), .inl (284, 0), .inl (285, 0), .inl (286, 0), .inl (287, 0), .inr (.inr (.inr 113)), .inl (288, 0), .inl (289, 0), .inr (.inr (.inr 114)), .inr (.inr (.inr 115)), .inl (290, 0), .inl (291, 0), .inr (.inr (.inl (some 2))), .inl (292, 0), .inl (293, 0), .inl (0, 0), .inl (294, 0)])
noncomputable def rc_c554 : rx_C := .inl (10, [.inl (266, 0), .inr (.inr (.inl (some 3))), .inl (267, 0), .inl (268, 0), .inl (269, 0), .inl (295, 0), .inl (296, 0), .inl (297, 0), .inl (298, 0), .inl (299, 0), .inl (300, 0), .inl (296, 0), .inr (.inl (301, 0)), .inl (302, 0), .inr (.inr (.inl (some 1))), .inr (.inr (.inr 100)), .inr (.inr (.inr 101)), .inr (.inr (.inr 102)), .inr (.inr (.inr 103)), .inr (.inr (.inl (some 4))), .inr (.inr (.inr 104)), .inr (.inr (.inr 105)), .inr (.inr (.inr 106)), .inr (.inr (.inr 107)), .inl (279, 0), .inl (280, 0), .inl (281, 0), .inr (.inr (.inr 108)), .inr (.inr (.inr 109)), .inr (.inr (.inr 110)), .inl (282, 0), .inl (283, 0), .inr (.inr (.inr 111)), .inr (.inr (.inr 112)), .inl (284, 0), .inl (285, 0), .inl (286, 0), .inl (287, 0), .inr (.inr (.inr 113)), .inl (288, 0), .inl (289, 0), .inr (.inr (.inr 114)), .inr (.inr (.inr 115)), .inl (290, 0), .inl (291, 0), .inr (.inr (.inl (some 2))), .inl (303, 0), .inl (304, 0), .inl (0, 0), .inl (305, 0)])
noncomputable def rc_c555 : rx_C := .inl (10, [.inl (266, 0), .inr (.inr (.inl (some 3))), .inl (267, 0), .inl (268, 0), .inl (269, 0), .inl (295, 0), .inl (296, 0), .inl (297, 0), .inl (298, 0), .inl (299, 0), .inl (275, 0), .inl (276, 0), .inr (.inl (300, 0)), .inl (301, 0), .inr (.inr (.inl (some 1))), .inr (.inr (.inr 100)), .inr (.inr (.inr 101)), .inr (.inr (.inr 102)), .inr (.inr (.inr 103)), .inr (.inr (.inl (some 4))), .inr (.inr (.inr 104)), .inr (.inr (.inr 105)), .inr (.inr (.inr 106)), .inr (.inr (.inr 107)), .inl (279, 0), .inl (280, 0), .inl (281, 0), .inr (.inr (.inr 108)), .inr (.inr (.inr 109)), .inr (.inr (.inr 110)), .inl (282, 0), .inl (283, 0), .inr (.inr (.inr 111)), .inr (.inr (.inr 112)), .inl (284, 0), .inl (285, 0), .inl (286, 0), .inl (287, 0), .inr (.inr (.inr 113)), .inl (288, 0), .inl (289, 0), .inr (.inr (.inr 114)), .inr (.inr (.inr 115)), .inl (290, 0), .inl (291, 0), .inr (.inr (.inl (some 2))), .inl (302, 0), .inl (303, 0), .inl (0, 0), .inl (302, (-1))])
/-! LostKeysModel.readSaid()Z -/
noncomputable def rn_n10_h : List rx_C := [
  rc_c553,
  rc_c31,
  rc_c516,
  .inr (1000, 940, [], .inr (.inl (255, 0))),
  .inr (1003, 25, [], .inr (.inl (18446744073709551615, (-9223372036854775808))))]
noncomputable def rn_n10_o : List (rx_T × (List (Nat × Nat) × List (Nat × Nat))) := [(((rc_b211, rc_f73), [
  rc_c554,
  rc_c32,
  rc_c524,
  .inr (1000, 940, [], .inr (.inl (255, 0))),
  .inr (1003, 25, [], .inr (.inl (18446744073709551615, (-9223372036854775808))))], (0, 0), 0, [], [.inl (0, 0)]), ([], rc_p91)),
  (((rc_b214, rc_f74), [
  rc_c555,
  rc_c32,
  rc_c526,
  .inr (1000, 940, [], .inr (.inl (255, 0))),
  .inr (1003, 25, [], .inr (.inl (18446744073709551615, (-9223372036854775808))))], (0, 0), 0, [], [.inl (0, 1)]), ([], rc_p92))]
noncomputable def rn_n10_k : rx_KE := ((241, 210), ([(0, 0), (1, 14), (1, 45), (1, 1), (1, 19)], rc_p89, [(1, 15), (1, 16), (1, 17), (1, 18), (1, 20), (1, 21), (1, 22), (1, 23), (1, 27), (1, 28), (1, 29), (1, 32), (1, 33), (1, 38), (1, 41), (1, 42)]), ((rc_b209, rc_f70), rn_n10_h, [.inr (.inr (.inl (some 0)))]), rn_n10_o.map Prod.fst)
noncomputable def rn_n10_r : List rx_Cu := []
theorem rn_n10_ok : rx_OK rn_n10_k := rq_ok_of (KT := [rn_n31_k, rn_n11_k, rn_n32_k, rn_n12_k, rn_n33_k, rn_n13_k, rn_n34_k, rn_n14_k, rn_n35_k, rn_n15_k, rn_n36_k, rn_n16_k, rn_n37_k, rn_n17_k, rn_n38_k, rn_n18_k, rn_n01_k, rc_m902_k, rc_m901_k, rc_m900_k, rc_m096_k, rc_m095_k, rc_m094_k, rc_m093_k, rc_m092_k, rc_m091_k, rc_m090_k, rc_m08_k, rc_m07_k, rc_m05_k]) (fuel := 20000) (M0 := rx_m241) (fl := []) (m0 := ([], 0)) (rest := rn_n10_r) (outs := rn_n10_o) (rx_okcons rn_n31_ok (rx_okcons rn_n11_ok (rx_okcons rn_n32_ok (rx_okcons rn_n12_ok (rx_okcons rn_n33_ok (rx_okcons rn_n13_ok (rx_okcons rn_n34_ok (rx_okcons rn_n14_ok (rx_okcons rn_n35_ok (rx_okcons rn_n15_ok (rx_okcons rn_n36_ok (rx_okcons rn_n16_ok (rx_okcons rn_n37_ok (rx_okcons rn_n17_ok (rx_okcons rn_n38_ok (rx_okcons rn_n18_ok (rx_okcons rn_n01_ok (rx_okcons rc_m902_ok (rx_okcons rc_m901_ok (rx_okcons rc_m900_ok (rx_okcons rc_m096_ok (rx_okcons rc_m095_ok (rx_okcons rc_m094_ok (rx_okcons rc_m093_ok (rx_okcons rc_m092_ok (rx_okcons rc_m091_ok (rx_okcons rc_m090_ok (rx_okcons rc_m08_ok (rx_okcons rc_m07_ok (rx_okcons rc_m05_ok (rx_oknil))))))))))))))))))))))))))))))) rfl rfl (by decide +kernel)

noncomputable def rc_c556 : rx_C := .inl (10, [.inl (266, 0), .inr (.inr (.inl (some 3))), .inl (267, 0), .inl (268, 0), .inl (269, 0), .inl (296, 0), .inl (297, 0), .inl (298, 0), .inl (299, 0), .inl (300, 0), .inl (275, 0), .inl (276, 0), .inr (.inl (301, 0)), .inl (302, 0), .inr (.inr (.inl (some 1))), .inr (.inr (.inr 100)), .inr (.inr (.inr 101)), .inr (.inr (.inr 102)), .inr (.inr (.inr 103)), .inr (.inr (.inl (some 4))), .inr (.inr (.inr 104)), .inr (.inr (.inr 105)), .inr (.inr (.inr 106)), .inr (.inr (.inr 107)), .inl (279, 0), .inl (280, 0), .inl (281, 0), .inr (.inr (.inr 108)), .inr (.inr (.inr 109)), .inr (.inr (.inr 110)), .inl (282, 0), .inl (283, 0), .inr (.inr (.inr 111)), .inr (.inr (.inr 112)), .inl (284, 0), .inl (285, 0), .inl (286, 0), .inl (287, 0), .inr (.inr (.inr 113)), .inl (288, 0), .inl (289, 0), .inr (.inr (.inr 114)), .inr (.inr (.inr 115)), .inl (290, 0), .inl (291, 0), .inr (.inr (.inl (some 2))), .inl (295, 1), .inl (303, 0), .inl (0, 0), .inl (304, 0)])
/-! LostKeysModel.readAnd()Z -/
noncomputable def rn_n60_h : List rx_C := [
  rc_c553,
  rc_c31,
  rc_c516,
  .inr (1000, 940, [], .inr (.inl (255, 0))),
  .inr (1003, 25, [], .inr (.inl (18446744073709551615, (-9223372036854775808))))]
noncomputable def rn_n60_o : List (rx_T × (List (Nat × Nat) × List (Nat × Nat))) := [(((rc_b211, rc_f73), [
  rc_c554,
  rc_c32,
  rc_c524,
  .inr (1000, 940, [], .inr (.inl (255, 0))),
  .inr (1003, 25, [], .inr (.inl (18446744073709551615, (-9223372036854775808))))], (0, 0), 0, [], [.inl (0, 0)]), ([], rc_p91)),
  (((rc_b214, rc_f74), [
  rc_c555,
  rc_c32,
  rc_c526,
  .inr (1000, 940, [], .inr (.inl (255, 0))),
  .inr (1003, 25, [], .inr (.inl (18446744073709551615, (-9223372036854775808))))], (0, 0), 0, [], [.inl (0, 1)]), ([], rc_p92))]
noncomputable def rn_n60_k : rx_KE := ((220, 216), ([(0, 0), (1, 14), (1, 45), (1, 1), (1, 19)], rc_p89, [(1, 15), (1, 16), (1, 17), (1, 18), (1, 20), (1, 21), (1, 22), (1, 23), (1, 27), (1, 28), (1, 29), (1, 32), (1, 33), (1, 38), (1, 41), (1, 42)]), ((rc_b209, rc_f70), rn_n60_h, [.inr (.inr (.inl (some 0)))]), rn_n60_o.map Prod.fst)
noncomputable def rn_n60_r : List rx_Cu := [(((rc_b215, rc_f75), [
  rc_c556,
  rc_c32,
  rc_c528,
  .inr (1000, 940, [], .inr (.inl (255, 0))),
  .inr (1003, 25, [], .inr (.inl (18446744073709551615, (-9223372036854775808))))], (0, 0), 14, [(0, .inr (.inr (.inl (some 0)))), (1, .inl (295, 0))], []), ([], rc_p93), ([((-2), 294)], 78))]
theorem rn_n60_ok : rx_OK rn_n60_k := rq_ok_of (KT := [rn_n10_k, rn_n11_k, rn_n12_k, rn_n13_k, rn_n14_k, rn_n15_k, rn_n16_k, rn_n17_k, rn_n18_k, rn_n01_k, rc_m07_k, rc_m05_k]) (fuel := 20000) (M0 := rx_m220) (fl := []) (m0 := ([], 80)) (rest := rn_n60_r) (outs := rn_n60_o) (rx_okcons rn_n10_ok (rx_okcons rn_n11_ok (rx_okcons rn_n12_ok (rx_okcons rn_n13_ok (rx_okcons rn_n14_ok (rx_okcons rn_n15_ok (rx_okcons rn_n16_ok (rx_okcons rn_n17_ok (rx_okcons rn_n18_ok (rx_okcons rn_n01_ok (rx_okcons rc_m07_ok (rx_okcons rc_m05_ok (rx_oknil))))))))))))) rfl rfl (by decide +kernel)

/-! LostKeysModel.readOr()Z -/
noncomputable def rn_n70_h : List rx_C := [
  rc_c553,
  rc_c31,
  rc_c516,
  .inr (1000, 940, [], .inr (.inl (255, 0))),
  .inr (1003, 25, [], .inr (.inl (18446744073709551615, (-9223372036854775808))))]
noncomputable def rn_n70_o : List (rx_T × (List (Nat × Nat) × List (Nat × Nat))) := [(((rc_b211, rc_f73), [
  rc_c554,
  rc_c32,
  rc_c524,
  .inr (1000, 940, [], .inr (.inl (255, 0))),
  .inr (1003, 25, [], .inr (.inl (18446744073709551615, (-9223372036854775808))))], (0, 0), 0, [], [.inl (0, 0)]), ([], rc_p91)),
  (((rc_b214, rc_f74), [
  rc_c555,
  rc_c32,
  rc_c526,
  .inr (1000, 940, [], .inr (.inl (255, 0))),
  .inr (1003, 25, [], .inr (.inl (18446744073709551615, (-9223372036854775808))))], (0, 0), 0, [], [.inl (0, 1)]), ([], rc_p92))]
noncomputable def rn_n70_k : rx_KE := ((239, 222), ([(0, 0), (1, 14), (1, 45), (1, 1), (1, 19)], rc_p89, [(1, 15), (1, 16), (1, 17), (1, 18), (1, 20), (1, 21), (1, 22), (1, 23), (1, 27), (1, 28), (1, 29), (1, 32), (1, 33), (1, 38), (1, 41), (1, 42)]), ((rc_b209, rc_f70), rn_n70_h, [.inr (.inr (.inl (some 0)))]), rn_n70_o.map Prod.fst)
noncomputable def rn_n70_r : List rx_Cu := [(((rc_b215, rc_f75), [
  rc_c556,
  rc_c32,
  rc_c528,
  .inr (1000, 940, [], .inr (.inl (255, 0))),
  .inr (1003, 25, [], .inr (.inl (18446744073709551615, (-9223372036854775808))))], (0, 0), 14, [(0, .inr (.inr (.inl (some 0)))), (1, .inl (295, 0))], []), ([], rc_p93), ([((-2), 294)], 78))]
theorem rn_n70_ok : rx_OK rn_n70_k := rq_ok_of (KT := [rn_n60_k, rn_n61_k, rn_n62_k, rn_n63_k, rn_n64_k, rn_n65_k, rn_n66_k, rn_n67_k, rn_n68_k, rn_n01_k, rc_m07_k, rc_m05_k]) (fuel := 20000) (M0 := rx_m239) (fl := []) (m0 := ([], 80)) (rest := rn_n70_r) (outs := rn_n70_o) (rx_okcons rn_n60_ok (rx_okcons rn_n61_ok (rx_okcons rn_n62_ok (rx_okcons rn_n63_ok (rx_okcons rn_n64_ok (rx_okcons rn_n65_ok (rx_okcons rn_n66_ok (rx_okcons rn_n67_ok (rx_okcons rn_n68_ok (rx_okcons rn_n01_ok (rx_okcons rc_m07_ok (rx_okcons rc_m05_ok (rx_oknil))))))))))))) rfl rfl (by decide +kernel)
