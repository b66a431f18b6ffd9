noncomputable def rc_c545 : rx_C := .inl (10, [.inl (266, 0), .inr (.inr (.inl (some 3))), .inl (267, 0), .inl (268, 0), .inl (269, 0), .inl (270, 0), .inl (271, 0), .inl (272, 0), .inl (273, 0), .inl (274, 0), .inl (275, 0), .inl (276, 0), .inr (.inl (277, 0)), .inl (278, 0), .inr (.inr (.inl (some 1))), .inr (.inr (.inr 100)), .inr (.inr (.inr 101)), .inr (.inr (.inr 102)), .inr (.inr (.inr 103)), .inr (.inr (.inl (some 4))), .inr (.inr (.inr 104)), .inr (.inr (.inr 105)), .inr (.inr (.inr 106)), .inr (.inr (.inr 107)), .inl (279, 0), .inl (280, 0), .inl (281, 0), .inr (.inr (.inr 108)), .inr (.inr (.inr 109)), .inr (.inr (.inr 110)), .inl (282, 0), .inl (283, 0), .inr (.inr (.inr 111)), .inr (.inr (.inr 112)), .inl (284, 0), .inl (285, 0), .inl (286, 0), .inl (287, 0), .inr (.inr (.inr 113)), .inl (288, 0), .inl (289, 0), .inr (.inr (.inr 114)), .inr (.inr (.inr 115)), .inl (290, 0), .inl (291, 0), .inr (.inr (.inl (some 2))), .inl (292, 0), .inl (293, 0), .inl (0, 2), .inl (294, 0)])
noncomputable def rc_c546 : rx_C := .inl (10, [.inl (266, 0), .inr (.inr (.inl (some 3))), .inl (267, 0), .inl (268, 0), .inl (269, 0), .inl (295, 0), .inl (296, 0), .inl (297, 0), .inl (298, 0), .inl (299, 0), .inl (300, 0), .inl (296, 0), .inr (.inl (301, 0)), .inl (302, 0), .inr (.inr (.inl (some 1))), .inr (.inr (.inr 100)), .inr (.inr (.inr 101)), .inr (.inr (.inr 102)), .inr (.inr (.inr 103)), .inr (.inr (.inl (some 4))), .inr (.inr (.inr 104)), .inr (.inr (.inr 105)), .inr (.inr (.inr 106)), .inr (.inr (.inr 107)), .inl (279, 0), .inl (280, 0), .inl (281, 0), .inr (.inr (.inr 108)), .inr (.inr (.inr 109)), .inr (.inr (.inr 110)), .inl (282, 0), .inl (283, 0), .inr (.inr (.inr 111)), .inr (.inr (.inr 112)), .inl (284, 0), .inl (285, 0), .inl (286, 0), .inl (287, 0), .inr (.inr (.inr 113)), .inl (288, 0), .inl (289, 0), .inr (.inr (.inr 114)), .inr (.inr (.inr 115)), .inl (290, 0), .inl (291, 0), .inr (.inr (.inl (some 2))), .inl (303, 0), .inl (304, 0), .inl (0, 2), .inl (305, 0)])
noncomputable def rc_c547 : rx_C := .inl (10, [.inl (266, 0), .inr (.inr (.inl (some 3))), .inl (267, 0), .inl (268, 0), .inl (269, 0), .inl (295, 0), .inl (296, 0), .inl (297, 0), .inl (298, 0), .inl (299, 0), .inl (275, 0), .inl (276, 0), .inr (.inl (300, 0)), .inl (301, 0), .inr (.inr (.inl (some 1))), .inr (.inr (.inr 100)), .inr (.inr (.inr 101)), .inr (.inr (.inr 102)), .inr (.inr (.inr 103)), .inr (.inr (.inl (some 4))), .inr (.inr (.inr 104)), .inr (.inr (.inr 105)), .inr (.inr (.inr 106)), .inr (.inr (.inr 107)), .inl (279, 0), .inl (280, 0), .inl (281, 0), .inr (.inr (.inr 108)), .inr (.inr (.inr 109)), .inr (.inr (.inr 110)), .inl (282, 0), .inl (283, 0), .inr (.inr (.inr 111)), .inr (.inr (.inr 112)), .inl (284, 0), .inl (285, 0), .inl (286, 0), .inl (287, 0), .inr (.inr (.inr 113)), .inl (288, 0), .inl (289, 0), .inr (.inr (.inr 114)), .inr (.inr (.inr 115)), .inl (290, 0), .inl (291, 0), .inr (.inr (.inl (some 2))), .inl (302, 0), .inl (303, 0), .inl (0, 2), .inl (302, (-1))])
/-! LostKeysModel.readSaid()Z -/
noncomputable def rn_n12_h : List rx_C := [
  rc_c545,
  rc_c31,
  rc_c516,
  .inr (1000, 940, [], .inr (.inl (255, 0))),
  .inr (1003, 25, [], .inr (.inl (18446744073709551615, (-9223372036854775808))))]
noncomputable def rn_n12_o : List (rx_T × (List (Nat × Nat) × List (Nat × Nat))) := [(((rc_b211, rc_f73), [
  rc_c546,
  rc_c32,
  rc_c524,
  .inr (1000, 940, [], .inr (.inl (255, 0))),
  .inr (1003, 25, [], .inr (.inl (18446744073709551615, (-9223372036854775808))))], (0, 0), 0, [], [.inl (0, 0)]), ([], rc_p91)),
  (((rc_b214, rc_f74), [
  rc_c547,
  rc_c32,
  rc_c526,
  .inr (1000, 940, [], .inr (.inl (255, 0))),
  .inr (1003, 25, [], .inr (.inl (18446744073709551615, (-9223372036854775808))))], (0, 0), 0, [], [.inl (0, 1)]), ([], rc_p92))]
noncomputable def rn_n12_k : rx_KE := ((241, 162), ([(0, 0), (1, 14), (1, 45), (1, 1), (1, 19)], rc_p89, [(1, 15), (1, 16), (1, 17), (1, 18), (1, 20), (1, 21), (1, 22), (1, 23), (1, 27), (1, 28), (1, 29), (1, 32), (1, 33), (1, 38), (1, 41), (1, 42)]), ((rc_b209, rc_f70), rn_n12_h, [.inr (.inr (.inl (some 0)))]), rn_n12_o.map Prod.fst)
noncomputable def rn_n12_r : List rx_Cu := []
theorem rn_n12_ok : rx_OK rn_n12_k := sorry

noncomputable def rc_c548 : rx_C := .inl (10, [.inl (266, 0), .inr (.inr (.inl (some 3))), .inl (267, 0), .inl (268, 0), .inl (269, 0), .inl (296, 0), .inl (297, 0), .inl (298, 0), .inl (299, 0), .inl (300, 0), .inl (275, 0), .inl (276, 0), .inr (.inl (301, 0)), .inl (302, 0), .inr (.inr (.inl (some 1))), .inr (.inr (.inr 100)), .inr (.inr (.inr 101)), .inr (.inr (.inr 102)), .inr (.inr (.inr 103)), .inr (.inr (.inl (some 4))), .inr (.inr (.inr 104)), .inr (.inr (.inr 105)), .inr (.inr (.inr 106)), .inr (.inr (.inr 107)), .inl (279, 0), .inl (280, 0), .inl (281, 0), .inr (.inr (.inr 108)), .inr (.inr (.inr 109)), .inr (.inr (.inr 110)), .inl (282, 0), .inl (283, 0), .inr (.inr (.inr 111)), .inr (.inr (.inr 112)), .inl (284, 0), .inl (285, 0), .inl (286, 0), .inl (287, 0), .inr (.inr (.inr 113)), .inl (288, 0), .inl (289, 0), .inr (.inr (.inr 114)), .inr (.inr (.inr 115)), .inl (290, 0), .inl (291, 0), .inr (.inr (.inl (some 2))), .inl (295, 1), .inl (303, 0), .inl (0, 2), .inl (304, 0)])
/-! LostKeysModel.readAnd()Z -/
noncomputable def rn_n62_h : List rx_C := [
  rc_c545,
  rc_c31,
  rc_c516,
  .inr (1000, 940, [], .inr (.inl (255, 0))),
  .inr (1003, 25, [], .inr (.inl (18446744073709551615, (-9223372036854775808))))]
noncomputable def rn_n62_o : List (rx_T × (List (Nat × Nat) × List (Nat × Nat))) := [(((rc_b211, rc_f73), [
  rc_c546,
  rc_c32,
  rc_c524,
  .inr (1000, 940, [], .inr (.inl (255, 0))),
  .inr (1003, 25, [], .inr (.inl (18446744073709551615, (-9223372036854775808))))], (0, 0), 0, [], [.inl (0, 0)]), ([], rc_p91)),
  (((rc_b214, rc_f74), [
  rc_c547,
  rc_c32,
  rc_c526,
  .inr (1000, 940, [], .inr (.inl (255, 0))),
  .inr (1003, 25, [], .inr (.inl (18446744073709551615, (-9223372036854775808))))], (0, 0), 0, [], [.inl (0, 1)]), ([], rc_p92))]
noncomputable def rn_n62_k : rx_KE := ((220, 168), ([(0, 0), (1, 14), (1, 45), (1, 1), (1, 19)], rc_p89, [(1, 15), (1, 16), (1, 17), (1, 18), (1, 20), (1, 21), (1, 22), (1, 23), (1, 27), (1, 28), (1, 29), (1, 32), (1, 33), (1, 38), (1, 41), (1, 42)]), ((rc_b209, rc_f70), rn_n62_h, [.inr (.inr (.inl (some 0)))]), rn_n62_o.map Prod.fst)
noncomputable def rn_n62_r : List rx_Cu := [(((rc_b215, rc_f75), [
  rc_c548,
  rc_c32,
  rc_c528,
  .inr (1000, 940, [], .inr (.inl (255, 0))),
  .inr (1003, 25, [], .inr (.inl (18446744073709551615, (-9223372036854775808))))], (0, 0), 14, [(0, .inr (.inr (.inl (some 0)))), (1, .inl (295, 0))], []), ([], rc_p93), ([((-2), 294)], 78))]
theorem rn_n62_ok : rx_OK rn_n62_k := sorry

/-! LostKeysModel.readOr()Z -/
noncomputable def rn_n72_h : List rx_C := [
  rc_c545,
  rc_c31,
  rc_c516,
  .inr (1000, 940, [], .inr (.inl (255, 0))),
  .inr (1003, 25, [], .inr (.inl (18446744073709551615, (-9223372036854775808))))]
noncomputable def rn_n72_o : List (rx_T × (List (Nat × Nat) × List (Nat × Nat))) := [(((rc_b211, rc_f73), [
  rc_c546,
  rc_c32,
  rc_c524,
  .inr (1000, 940, [], .inr (.inl (255, 0))),
  .inr (1003, 25, [], .inr (.inl (18446744073709551615, (-9223372036854775808))))], (0, 0), 0, [], [.inl (0, 0)]), ([], rc_p91)),
  (((rc_b214, rc_f74), [
  rc_c547,
  rc_c32,
  rc_c526,
  .inr (1000, 940, [], .inr (.inl (255, 0))),
  .inr (1003, 25, [], .inr (.inl (18446744073709551615, (-9223372036854775808))))], (0, 0), 0, [], [.inl (0, 1)]), ([], rc_p92))]
noncomputable def rn_n72_k : rx_KE := ((239, 174), ([(0, 0), (1, 14), (1, 45), (1, 1), (1, 19)], rc_p89, [(1, 15), (1, 16), (1, 17), (1, 18), (1, 20), (1, 21), (1, 22), (1, 23), (1, 27), (1, 28), (1, 29), (1, 32), (1, 33), (1, 38), (1, 41), (1, 42)]), ((rc_b209, rc_f70), rn_n72_h, [.inr (.inr (.inl (some 0)))]), rn_n72_o.map Prod.fst)
noncomputable def rn_n72_r : List rx_Cu := [(((rc_b215, rc_f75), [
  rc_c548,
  rc_c32,
  rc_c528,
  .inr (1000, 940, [], .inr (.inl (255, 0))),
  .inr (1003, 25, [], .inr (.inl (18446744073709551615, (-9223372036854775808))))], (0, 0), 14, [(0, .inr (.inr (.inl (some 0)))), (1, .inl (295, 0))], []), ([], rc_p93), ([((-2), 294)], 78))]
theorem rn_n72_ok : rx_OK rn_n72_k := sorry

/-! LostKeysModel.readBracket()Z -/
noncomputable def rn_n32_h : List rx_C := [
  rc_c545,
  rc_c31,
  rc_c516,
  .inr (1000, 940, [], .inr (.inl (255, 0))),
  .inr (1003, 25, [], .inr (.inl (18446744073709551615, (-9223372036854775808))))]
noncomputable def rn_n32_o : List (rx_T × (List (Nat × Nat) × List (Nat × Nat))) := [(((rc_b211, rc_f73), [
  rc_c546,
  rc_c32,
  rc_c524,
  .inr (1000, 940, [], .inr (.inl (255, 0))),
  .inr (1003, 25, [], .inr (.inl (18446744073709551615, (-9223372036854775808))))], (0, 0), 0, [], [.inl (0, 0)]), ([], rc_p91)),
  (((rc_b214, rc_f74), [
  rc_c547,
  rc_c32,
  rc_c526,
  .inr (1000, 940, [], .inr (.inl (255, 0))),
  .inr (1003, 25, [], .inr (.inl (18446744073709551615, (-9223372036854775808))))], (0, 0), 0, [], [.inl (0, 1)]), ([], rc_p92))]
noncomputable def rn_n32_k : rx_KE := ((222, 180), ([(0, 0), (1, 14), (1, 45), (1, 1), (1, 19)], rc_p89, [(1, 15), (1, 16), (1, 17), (1, 18), (1, 20), (1, 21), (1, 22), (1, 23), (1, 27), (1, 28), (1, 29), (1, 32), (1, 33), (1, 38), (1, 41), (1, 42)]), ((rc_b209, rc_f70), rn_n32_h, [.inr (.inr (.inl (some 0)))]), rn_n32_o.map Prod.fst)
noncomputable def rn_n32_r : List rx_Cu := []
theorem rn_n32_ok : rx_OK rn_n32_k := sorry

noncomputable def rc_c549 : rx_C := .inl (10, [.inl (266, 0), .inr (.inr (.inl (some 3))), .inl (267, 0), .inl (268, 0), .inl (269, 0), .inl (270, 0), .inl (271, 0), .inl (272, 0), .inl (273, 0), .inl (274, 0), .inl (275, 0), .inl (276, 0), .inr (.inl (277, 0)), .inl (278, 0), .inr (.inr (.inl (some 1))), .inr (.inr (.inr 100)), .inr (.inr (.inr 101)), .inr (.inr (.inr 102)), .inr (.inr (.inr 103)), .inr (.inr (.inl (some 4))), .inr (.inr (.inr 104)), .inr (.inr (.inr 105)), .inr (.inr (.inr 106)), .inr (.inr (.inr 107)), .inl (279, 0), .inl (280, 0), .inl (281, 0), .inr (.inr (.inr 108)), .inr (.inr (.inr 109)), .inr (.inr (.inr 110)), .inl (282, 0), .inl (283, 0), .inr (.inr (.inr 111)), .inr (.inr (.inr 112)), .inl (284, 0), .inl (285, 0), .inl (286, 0), .inl (287, 0), .inr (.inr (.inr 113)), .inl (288, 0), .inl (289, 0), .inr (.inr (.inr 114)), .inr (.inr (.inr 115)), .inl (290, 0), .inl (291, 0), .inr (.inr (.inl (some 2))), .inl (292, 0), .inl (293, 0), .inl (0, 1), .inl (294, 0)])
noncomputable def rc_c550 : rx_C := .inl (10, [.inl (266, 0), .inr (.inr (.inl (some 3))), .inl (267, 0), .inl (268, 0), .inl (269, 0), .inl (295, 0), .inl (296, 0), .inl (297, 0), .inl (298, 0), .inl (299, 0), .inl (300, 0), .inl (296, 0), .inr (.inl (301, 0)), .inl (302, 0), .inr (.inr (.inl (some 1))), .inr (.inr (.inr 100)), .inr (.inr (.inr 101)), .inr (.inr (.inr 102)), .inr (.inr (.inr 103)), .inr (.inr (.inl (some 4))), .inr (.inr (.inr 104)), .inr (.inr (.inr 105)), .inr (.inr (.inr 106)), .inr (.inr (.inr 107)), .inl (279, 0), .inl (280, 0), .inl (281, 0), .inr (.inr (.inr 108)), .inr (.inr (.inr 109)), .inr (.inr (.inr 110)), .inl (282, 0), .inl (283, 0), .inr (.inr (.inr 111)), .inr (.inr (.inr 112)), .inl (284, 0), .inl (285, 0), .inl (286, 0), .inl (287, 0), .inr (.inr (.inr 113)), .inl (288, 0), .inl (289, 0), .inr (.inr (.inr 114)), .inr (.inr (.inr 115)), .inl (290, 0), .inl (291, 0), .inr (.inr (.inl (some 2))), .inl (303, 0), .inl (304, 0), .inl (0, 1), .inl (305, 0)])
noncomputable def rc_c551 : rx_C := .inl (10, [.inl (266, 0), .inr (.inr (.inl (some 3))), .inl (267, 0), .inl (268, 0), .inl (269, 0), .inl (295, 0), .inl (296, 0), .inl (297, 0), .inl (298, 0), .inl (299, 0), .inl (275, 0), .inl (276, 0), .inr (.inl (300, 0)), .inl (301, 0), .inr (.inr (.inl (some 1))), .inr (.inr (.inr 100)), .inr (.inr (.inr 101)), .inr (.inr (.inr 102)), .inr (.inr (.inr 103)), .inr (.inr (.inl (some 4))), .inr (.inr (.inr 104)), .inr (.inr (.inr 105)), .inr (.inr (.inr 106)), .inr (.inr (.inr 107)), .inl (279, 0), .inl (280, 0), .inl (281, 0), .inr (.inr (.inr 108)), .inr (.inr (.inr 109)), .inr (.inr (.inr 110)), .inl (282, 0), .inl (283, 0), .inr (.inr (.inr 111)), .inr (.inr (.inr 112)), .inl (284, 0), .inl (285, 0), .inl (286, 0), .inl (287, 0), .inr (.inr (.inr 113)), .inl (288, 0), .inl (289, 0), .inr (.inr (.inr 114)), .inr (.inr (.inr 115)), .inl (290, 0), .inl (291, 0), .inr (.inr (.inl (some 2))), .inl (302, 0), .inl (303, 0), .inl (0, 1), .inl (302, (-1))])
/-! LostKeysModel.readSaid()Z -/
noncomputable def rn_n11_h : List rx_C := [
  rc_c549,
  rc_c31,
  rc_c516,
  .inr (1000, 940, [], .inr (.inl (255, 0))),
  .inr (1003, 25, [], .inr (.inl (18446744073709551615, (-9223372036854775808))))]
noncomputable def rn_n11_o : List (rx_T × (List (Nat × Nat) × List (Nat × Nat))) := [(((rc_b211, rc_f73), [
  rc_c550,
  rc_c32,
  rc_c524,
  .inr (1000, 940, [], .inr (.inl (255, 0))),
  .inr (1003, 25, [], .inr (.inl (18446744073709551615, (-9223372036854775808))))], (0, 0), 0, [], [.inl (0, 0)]), ([], rc_p91)),
  (((rc_b214, rc_f74), [
  rc_c551,
  rc_c32,
  rc_c526,
  .inr (1000, 940, [], .inr (.inl (255, 0))),
  .inr (1003, 25, [], .inr (.inl (18446744073709551615, (-9223372036854775808))))], (0, 0), 0, [], [.inl (0, 1)]), ([], rc_p92))]
noncomputable def rn_n11_k : rx_KE := ((241, 186), ([(0, 0), (1, 14), (1, 45), (1, 1), (1, 19)], rc_p89, [(1, 15), (1, 16), (1, 17), (1, 18), (1, 20), (1, 21), (1, 22), (1, 23), (1, 27), (1, 28), (1, 29), (1, 32), (1, 33), (1, 38), (1, 41), (1, 42)]), ((rc_b209, rc_f70), rn_n11_h, [.inr (.inr (.inl (some 0)))]), rn_n11_o.map Prod.fst)
noncomputable def rn_n11_r : List rx_Cu := []
theorem rn_n11_ok : rx_OK rn_n11_k := sorry

noncomputable def rc_c552 : rx_C := .inl (10, [.inl (266, 0), .inr (.inr (.inl (some 3))), .inl (267, 0), .inl (268, 0), .inl (269, 0), .inl (296, 0), .inl (297, 0), .inl (298, 0), .inl (299, 0), .inl (300, 0), .inl (275, 0), .inl (276, 0), .inr (.inl (301, 0)), .inl (302, 0), .inr (.inr (.inl (some 1))), .inr (.inr (.inr 100)), .inr (.inr (.inr 101)), .inr (.inr (.inr 102)), .inr (.inr (.inr 103)), .inr (.inr (.inl (some 4))), .inr (.inr (.inr 104)), .inr (.inr (.inr 105)), .inr (.inr (.inr 106)), .inr (.inr (.inr 107)), .inl (279, 0), .inl (280, 0), .inl (281, 0), .inr (.inr (.inr 108)), .inr (.inr (.inr 109)), .inr (.inr (.inr 110)), .inl (282, 0), .inl (283, 0), .inr (.inr (.inr 111)), .inr (.inr (.inr 112)), .inl (284, 0), .inl (285, 0), .inl (286, 0), .inl (287, 0), .inr (.inr (.inr 113)), .inl (288, 0), .inl (289, 0), .inr (.inr (.inr 114)), .inr (.inr (.inr 115)), .inl (290, 0), .inl (291, 0), .inr (.inr (.inl (some 2))), .inl (295, 1), .inl (303, 0), .inl (0, 1), .inl (304, 0)])
/-! LostKeysModel.readAnd()Z -/
noncomputable def rn_n61_h : List rx_C := [
  rc_c549,
  rc_c31,
  rc_c516,
  .inr (1000, 940, [], .inr (.inl (255, 0))),
  .inr (1003, 25, [], .inr (.inl (18446744073709551615, (-9223372036854775808))))]
noncomputable def rn_n61_o : List (rx_T × (List (Nat × Nat) × List (Nat × Nat))) := [(((rc_b211, rc_f73), [
  rc_c550,
  rc_c32,
  rc_c524,
  .inr (1000, 940, [], .inr (.inl (255, 0))),
  .inr (1003, 25, [], .inr (.inl (18446744073709551615, (-9223372036854775808))))], (0, 0), 0, [], [.inl (0, 0)]), ([], rc_p91)),
  (((rc_b214, rc_f74), [
  rc_c551,
  rc_c32,
  rc_c526,
  .inr (1000, 940, [], .inr (.inl (255, 0))),
  .inr (1003, 25, [], .inr (.inl (18446744073709551615, (-9223372036854775808))))], (0, 0), 0, [], [.inl (0, 1)]), ([], rc_p92))]
noncomputable def rn_n61_k : rx_KE := ((220, 192), ([(0, 0), (1, 14), (1, 45), (1, 1), (1, 19)], rc_p89, [(1, 15), (1, 16), (1, 17), (1, 18), (1, 20), (1, 21), (1, 22), (1, 23), (1, 27), (1, 28), (1, 29), (1, 32), (1, 33), (1, 38), (1, 41), (1, 42)]), ((rc_b209, rc_f70), rn_n61_h, [.inr (.inr (.inl (some 0)))]), rn_n61_o.map Prod.fst)
noncomputable def rn_n61_r : List rx_Cu := [(((rc_b215, rc_f75), [
  rc_c552,
  rc_c32,
  rc_c528,
  .inr (1000, 940, [], .inr (.inl (255, 0))),
  .inr (1003, 25, [], .inr (.inl (18446744073709551615, (-9223372036854775808))))], (0, 0), 14, [(0, .inr (.inr (.inl (some 0)))), (1, .inl (295, 0))], []), ([], rc_p93), ([((-2), 294)], 78))]
theorem rn_n61_ok : rx_OK rn_n61_k := sorry

/-! LostKeysModel.readOr()Z -/
noncomputable def rn_n71_h : List rx_C := [
  rc_c549,
  rc_c31,
  rc_c516,
  .inr (1000, 940, [], .inr (.inl (255, 0))),
  .inr (1003, 25, [], .inr (.inl (18446744073709551615, (-9223372036854775808))))]
noncomputable def rn_n71_o : List (rx_T × (List (Nat × Nat) × List (Nat × Nat))) := [(((rc_b211, rc_f73), [
  rc_c550,
  rc_c32,
  rc_c524,
  .inr (1000, 940, [], .inr (.inl (255, 0))),
  .inr (1003, 25, [], .inr (.inl (18446744073709551615, (-9223372036854775808))))], (0, 0), 0, [], [.inl (0, 0)]), ([], rc_p91)),
  (((rc_b214, rc_f74), [
  rc_c551,
  rc_c32,
  rc_c526,
  .inr (1000, 940, [], .inr (.inl (255, 0))),
  .inr (1003, 25, [], .inr (.inl (18446744073709551615, (-9223372036854775808))))], (0, 0), 0, [], [.inl (0, 1)]), ([], rc_p92))]
noncomputable def rn_n71_k : rx_KE := ((239, 198), ([(0, 0), (1, 14), (1, 45), (1, 1), (1, 19)], rc_p89, [(1, 15), (1, 16), (1, 17), (1, 18), (1, 20), (1, 21), (1, 22), (1, 23), (1, 27), (1, 28), (1, 29), (1, 32), (1, 33), (1, 38), (1, 41), (1, 42)]), ((rc_b209, rc_f70), rn_n71_h, [.inr (.inr (.inl (some 0)))]), rn_n71_o.map Prod.fst)
noncomputable def rn_n71_r : List rx_Cu := [(((rc_b215, rc_f75), [
  rc_c552,
  rc_c32,
  rc_c528,
  .inr (1000, 940, [], .inr (.inl (255, 0))),
  .inr (1003, 25, [], .inr (.inl (18446744073709551615, (-9223372036854775808))))], (0, 0), 14, [(0, .inr (.inr (.inl (some 0)))), (1, .inl (295, 0))], []), ([], rc_p93), ([((-2), 294)], 78))]
theorem rn_n71_ok : rx_OK rn_n71_k := sorry

/-! LostKeysModel.readBracket()Z -/
noncomputable def rn_n31_h : List rx_C := [
  rc_c549,
  rc_c31,
  rc_c516,
  .inr (1000, 940, [], .inr (.inl (255, 0))),
  .inr (1003, 25, [], .inr (.inl (18446744073709551615, (-9223372036854775808))))]
noncomputable def rn_n31_o : List (rx_T × (List (Nat × Nat) × List (Nat × Nat))) := [(((rc_b211, rc_f73), [
  rc_c550,
  rc_c32,
  rc_c524,
  .inr (1000, 940, [], .inr (.inl (255, 0))),
  .inr (1003, 25, [], .inr (.inl (18446744073709551615, (-9223372036854775808))))], (0, 0), 0, [], [.inl (0, 0)]), ([], rc_p91)),
  (((rc_b214, rc_f74), [
  rc_c551,
  rc_c32,
  rc_c526,
  .inr (1000, 940, [], .inr (.inl (255, 0))),
  .inr (1003, 25, [], .inr (.inl (18446744073709551615, (-9223372036854775808))))], (0, 0), 0, [], [.inl (0, 1)]), ([], rc_p92))]
noncomputable def rn_n31_k : rx_KE := ((222, 204), ([(0, 0), (1, 14), (1, 45), (1, 1), (1, 19)], rc_p89, [(1, 15), (1, 16), (1, 17), (1, 18), (1, 20), (1, 21), (1, 22), (1, 23), (1, 27), (1, 28), (1, 29), (1, 32), (1, 33), (1, 38), (1, 41), (1, 42)]), ((rc_b209, rc_f70), rn_n31_h, [.inr (.inr (.inl (some 0)))]), rn_n31_o.map Prod.fst)
noncomputable def rn_n31_r : List rx_Cu := []
theorem rn_n31_ok : rx_OK rn_n31_k := sorry

noncomputable def rc_c553 : rx_C := .inl (10, [.inl (266, 0), .inr (.inr (.inl (some 3))), .inl (267, 0), .inl (268, 0), .inl (269, 0), .inl (270, 0), .inl (271, 0), .inl (272, 0), .inl (273, 0), .inl (274, 0), .inl (275, 0), .inl (276, 0), .inr (.inl (277, 0)), .inl (278, 0), .inr (.inr (.inl (some 1))), .inr (.inr (.inr 100)), .inr (.inr (.inr 101)), .inr (.inr (.inr 102)), .inr (.inr (.inr 103)), .inr (.inr (.inl (some 4))), .inr (.inr (.inr 104)), .inr (.inr (.inr 105)), .inr (.inr (.inr 106)), .inr (.inr (.inr 107)), .inl (279, 0), .inl (280, 0), .inl (281, 0), .inr (.inr (.inr 108)), .inr (.inr (.inr 109)), .inr (.inr (.inr 110)), .inl (282, 0), .inl (283, 0), .inr (.inr (.inr 111)), .inr (.inr (.inr 112)), .inl (284, 0), .inl (285, 0), .inl (286, 0), .inl (287, 0), .inr (.inr (.inr 113)), .inl (288, 0), .inl (289, 0), .inr (.inr (.inr 114)), .inr (.inr (.inr 115)), .inl (290, 0), .inl (291, 0), .inr (.inr (.inl (some 2))), .inl (292, 0), .inl (293, 0), .inl (0, 0), .inl (294, 0)])
noncomputable def rc_c554 : rx_C := .inl (10, [.inl (266, 0), .inr (.inr (.inl (some 3))), .inl (267, 0), .inl (268, 0), .inl (269, 0), .inl (295, 0), .inl (296, 0), .inl (297, 0), .inl (298, 0), .inl (299, 0), .inl (300, 0), .inl (296, 0), .inr (.inl (301, 0)), .inl (302, 0), .inr (.inr (.inl (some 1))), .inr (.inr (.inr 100)), .inr (.inr (.inr 101)), .inr (.inr (.inr 102)), .inr (.inr (.inr 103)), .inr (.inr (.inl (some 4))), .inr (.inr (.inr 104)), .inr (.inr (.inr 105)), .inr (.inr (.inr 106)), .inr (.inr (.inr 107)), .inl (279, 0), .inl (280, 0), .inl (281, 0), .inr (.inr (.inr 108)), .inr (.inr (.inr 109)), .inr (.inr (.inr 110)), .inl (282, 0), .inl (283, 0), .inr (.inr (.inr 111)), .inr (.inr (.inr 112)), .inl (284, 0), .inl (285, 0), .inl (286, 0), .inl (287, 0), .inr (.inr (.inr 113)), .inl (288, 0), .inl (289, 0), .inr (.inr (.inr 114)), .inr (.inr (.inr 115)), .inl (290, 0), .inl (291, 0), .inr (.inr (.inl (some 2))), .inl (303, 0), .inl (304, 0), .inl (0, 0), .inl (305, 0)])
noncomputable def rc_c555 : rx_C := .inl (10, [.inl (266, 0), .inr (.inr (.inl (some 3))), .inl (267, 0), .inl (268, 0), .inl (269, 0), .inl (295, 0), .inl (296, 0), .inl (297, 0), .inl (298, 0), .inl (299, 0), .inl (275, 0), .inl (276, 0), .inr (.inl (300, 0)), .inl (301, 0), .inr (.inr (.inl (some 1))), .inr (.inr (.inr 100)), .inr (.inr (.inr 101)), .inr (.inr (.inr 102)), .inr (.inr (.inr 103)), .inr (.inr (.inl (some 4))), .inr (.inr (.inr 104)), .inr (.inr (.inr 105)), .inr (.inr (.inr 106)), .inr (.inr (.inr 107)), .inl (279, 0), .inl (280, 0), .inl (281, 0), .inr (.inr (.inr 108)), .inr (.inr (.inr 109)), .inr (.inr (.inr 110)), .inl (282, 0), .inl (283, 0), .inr (.inr (.inr 111)), .inr (.inr (.inr 112)), .inl (284, 0), .inl (285, 0), .inl (286, 0), .inl (287, 0), .inr (.inr (.inr 113)), .inl (288, 0), .inl (289, 0), .inr (.inr (.inr 114)), .inr (.inr (.inr 115)), .inl (290, 0), .inl (291, 0), .inr (.inr (.inl (some 2))), .inl (302, 0), .inl (303, 0), .inl (0, 0), .inl (302, (-1))])
/-! LostKeysModel.readSaid()Z -/
noncomputable def rn_n10_h : List rx_C := [
  rc_c553,
  rc_c31,
  rc_c516,
  .inr (1000, 940, [], .inr (.inl (255, 0))),
  .inr (1003, 25, [], .inr (.inl (18446744073709551615, (-9223372036854775808))))]
noncomputable def rn_n10_o : List (rx_T × (List (Nat × Nat) × List (Nat × Nat))) := [(((rc_b211, rc_f73), [
  rc_c554,
  rc_c32,
  rc_c524,
  .inr (1000, 940, [], .inr (.inl (255, 0))),
  .inr (1003, 25, [], .inr (.inl (18446744073709551615, (-9223372036854775808))))], (0, 0), 0, [], [.inl (0, 0)]), ([], rc_p91)),
  (((rc_b214, rc_f74), [
  rc_c555,
  rc_c32,
  rc_c526,
  .inr (1000, 940, [], .inr (.inl (255, 0))),
  .inr (1003, 25, [], .inr (.inl (18446744073709551615, (-9223372036854775808))))], (0, 0), 0, [], [.inl (0, 1)]), ([], rc_p92))]
noncomputable def rn_n10_k : rx_KE := ((241, 210), ([(0, 0), (1, 14), (1, 45), (1, 1), (1, 19)], rc_p89, [(1, 15), (1, 16), (1, 17), (1, 18), (1, 20), (1, 21), (1, 22), (1, 23), (1, 27), (1, 28), (1, 29), (1, 32), (1, 33), (1, 38), (1, 41), (1, 42)]), ((rc_b209, rc_f70), rn_n10_h, [.inr (.inr (.inl (some 0)))]), rn_n10_o.map Prod.fst)
noncomputable def rn_n10_r : List rx_Cu := []
theorem rn_n10_ok : rx_OK rn_n10_k := sorry

noncomputable def rc_c556 : rx_C := .inl (10, [.inl (266, 0), .inr (.inr (.inl (some 3))), .inl (267, 0), .inl (268, 0), .inl (269, 0), .inl (296, 0), .inl (297, 0), .inl (298, 0), .inl (299, 0), .inl (300, 0), .inl (275, 0), .inl (276, 0), .inr (.inl (301, 0)), .inl (302, 0), .inr (.inr (.inl (some 1))), .inr (.inr (.inr 100)), .inr (.inr (.inr 101)), .inr (.inr (.inr 102)), .inr (.inr (.inr 103)), .inr (.inr (.inl (some 4))), .inr (.inr (.inr 104)), .inr (.inr (.inr 105)), .inr (.inr (.inr 106)), .inr (.inr (.inr 107)), .inl (279, 0), .inl (280, 0), .inl (281, 0), .inr (.inr (.inr 108)), .inr (.inr (.inr 109)), .inr (.inr (.inr 110)), .inl (282, 0), .inl (283, 0), .inr (.inr (.inr 111)), .inr (.inr (.inr 112)), .inl (284, 0), .inl (285, 0), .inl (286, 0), .inl (287, 0), .inr (.inr (.inr 113)), .inl (288, 0), .inl (289, 0), .inr (.inr (.inr 114)), .inr (.inr (.inr 115)), .inl (290, 0), .inl (291, 0), .inr (.inr (.inl (some 2))), .inl (295, 1), .inl (303, 0), .inl (0, 0), .inl (304, 0)])
/-! LostKeysModel.readAnd()Z -/
noncomputable def rn_n60_h : List rx_C := [
  rc_c553,
  rc_c31,
  rc_c516,
  .inr (1000, 940, [], .inr (.inl (255, 0))),
  .inr (1003, 25, [], .inr (.inl (18446744073709551615, (-9223372036854775808))))]
noncomputable def rn_n60_o : List (rx_T × (List (Nat × Nat) × List (Nat × Nat))) := [(((rc_b211, rc_f73), [
  rc_c554,
  rc_c32,
  rc_c524,
  .inr (1000, 940, [], .inr (.inl (255, 0))),
  .inr (1003, 25, [], .inr (.inl (18446744073709551615, (-9223372036854775808))))], (0, 0), 0, [], [.inl (0, 0)]), ([], rc_p91)),
  (((rc_b214, rc_f74), [
  rc_c555,
  rc_c32,
  rc_c526,
  .inr (1000, 940, [], .inr (.inl (255, 0))),
  .inr (1003, 25, [], .inr (.inl (18446744073709551615, (-9223372036854775808))))], (0, 0), 0, [], [.inl (0, 1)]), ([], rc_p92))]
noncomputable def rn_n60_k : rx_KE := ((220, 216), ([(0, 0), (1, 14), (1, 45), (1, 1), (1, 19)], rc_p89, [(1, 15), (1, 16), (1, 17), (1, 18), (1, 20), (1, 21), (1, 22), (1, 23), (1, 27), (1, 28), (1, 29), (1, 32), (1, 33), (1, 38), (1, 41), (1, 42)]), ((rc_b209, rc_f70), rn_n60_h, [.inr (.inr (.inl (some 0)))]), rn_n60_o.map Prod.fst)
noncomputable def rn_n60_r : List rx_Cu := [(((rc_b215, rc_f75), [
  rc_c556,
  rc_c32,
  rc_c528,
  .inr (1000, 940, [], .inr (.inl (255, 0))),
  .inr (1003, 25, [], .inr (.inl (18446744073709551615, (-9223372036854775808))))], (0, 0), 14, [(0, .inr (.inr (.inl (some 0)))), (1, .inl (295, 0))], []), ([], rc_p93), ([((-2), 294)], 78))]
theorem rn_n60_ok : rx_OK rn_n60_k := sorry

/-! LostKeysModel.readOr()Z -/
noncomputable def rn_n70_h : List rx_C := [
  rc_c553,
  rc_c31,
  rc_c516,
  .inr (1000, 940, [], .inr (.inl (255, 0))),
  .inr (1003, 25, [], .inr (.inl (18446744073709551615, (-9223372036854775808))))]
noncomputable def rn_n70_o : List (rx_T × (List (Nat × Nat) × List (Nat × Nat))) := [(((rc_b211, rc_f73), [
  rc_c554,
  rc_c32,
  rc_c524,
  .inr (1000, 940, [], .inr (.inl (255, 0))),
  .inr (1003, 25, [], .inr (.inl (18446744073709551615, (-9223372036854775808))))], (0, 0), 0, [], [.inl (0, 0)]), ([], rc_p91)),
  (((rc_b214, rc_f74), [
  rc_c555,
  rc_c32,
  rc_c526,
  .inr (1000, 940, [], .inr (.inl (255, 0))),
  .inr (1003, 25, [], .inr (.inl (18446744073709551615, (-9223372036854775808))))], (0, 0), 0, [], [.inl (0, 1)]), ([], rc_p92))]
noncomputable def rn_n70_k : rx_KE := ((239, 222), ([(0, 0), (1, 14), (1, 45), (1, 1), (1, 19)], rc_p89, [(1, 15), (1, 16), (1, 17), (1, 18), (1, 20), (1, 21), (1, 22), (1, 23), (1, 27), (1, 28), (1, 29), (1, 32), (1, 33), (1, 38), (1, 41), (1, 42)]), ((rc_b209, rc_f70), rn_n70_h, [.inr (.inr (.inl (some 0)))]), rn_n70_o.map Prod.fst)
noncomputable def rn_n70_r : List rx_Cu := [(((rc_b215, rc_f75), [
  rc_c556,
  rc_c32,
  rc_c528,
  .inr (1000, 940, [], .inr (.inl (255, 0))),
  .inr (1003, 25, [], .inr (.inl (18446744073709551615, (-9223372036854775808))))], (0, 0), 14, [(0, .inr (.inr (.inl (some 0)))), (1, .inl (295, 0))], []), ([], rc_p93), ([((-2), 294)], 78))]
theorem rn_n70_ok : rx_OK rn_n70_k := sorry
