noncomputable def rc_c533 : rx_C := .inl (10, [.inl (266, 0), .inr (.inr (.inl (some 3))), .inl (267, 0), .inl (268, 0), .inl (269, 0), .inl (270, 0), .inl (271, 0), .inl (272, 0), .inl (273, 0), .inl (274, 0), .inl (275, 0), .inl (276, 0), .inr (.inl (277, 0)), .inl (278, 0), .inr (.inr (.inl (some 1))), .inr (.inr (.inr 100)), .inr (.inr (.inr 101)), .inr (.inr (.inr 102)), .inr (.inr (.inr 103)), .inr (.inr (.inl (some 4))), .inr (.inr (.inr 104)), .inr (.inr (.inr 105)), .inr (.inr (.inr 106)), .inr (.inr (.inr 107)), .inl (279, 0), .inl (280, 0), .inl (281, 0), .inr (.inr (.inr 108)), .inr (.inr (.inr 109)), .inr (.inr (.inr 110)), .inl (282, 0), .inl (283, 0), .inr (.inr (.inr 111)), .inr (.inr (.inr 112)), .inl (284, 0), .inl (285, 0), .inl (286, 0), .inl (287, 0), .inr (.inr (.inr 113)), .inl (288, 0), .inl (289, 0), .inr (.inr (.inr 114)), .inr (.inr (.inr 115)), .inl (290, 0), .inl (291, 0), .inr (.inr (.inl (some 2))), .inl (292, 0), .inl (293, 0), .inl (0, 5), .inl (294, 0)])
noncomputable def rc_c534 : rx_C := .inl (10, [.inl (266, 0), .inr (.inr (.inl (some 3))), .inl (267, 0), .inl (268, 0), .inl (269, 0), .inl (295, 0), .inl (296, 0), .inl (297, 0), .inl (298, 0), .inl (299, 0), .inl (300, 0), .inl (296, 0), .inr (.inl (301, 0)), .inl (302, 0), .inr (.inr (.inl (some 1))), .inr (.inr (.inr 100)), .inr (.inr (.inr 101)), .inr (.inr (.inr 102)), .inr (.inr (.inr 103)), .inr (.inr (.inl (some 4))), .inr (.inr (.inr 104)), .inr (.inr (.inr 105)), .inr (.inr (.inr 106)), .inr (.inr (.inr 107)), .inl (279, 0), .inl (280, 0), .inl (281, 0), .inr (.inr (.inr 108)), .inr (.inr (.inr 109)), .inr (.inr (.inr 110)), .inl (282, 0), .inl (283, 0), .inr (.inr (.inr 111)), .inr (.inr (.inr 112)), .inl (284, 0), .inl (285, 0), .inl (286, 0), .inl (287, 0), .inr (.inr (.inr 113)), .inl (288, 0), .inl (289, 0), .inr (.inr (.inr 114)), .inr (.inr (.inr 115)), .inl (290, 0), .inl (291, 0), .inr (.inr (.inl (some 2))), .inl (303, 0), .inl (304, 0), .inl (0, 5), .inl (305, 0)])
noncomputable def rc_c535 : rx_C := .inl (10, [.inl (266, 0), .inr (.inr (.inl (some 3))), .inl (267, 0), .inl (268, 0), .inl (269, 0), .inl (295, 0), .inl (296, 0), .inl (297, 0), .inl (298, 0), .inl (299, 0), .inl (275, 0), .inl (276, 0), .inr (.inl (300, 0)), .inl (301, 0), .inr (.inr (.inl (some 1))), .inr (.inr (.inr 100)), .inr (.inr (.inr 101)), .inr (.inr (.inr 102)), .inr (.inr (.inr 103)), .inr (.inr (.inl (some 4))), .inr (.inr (.inr 104)), .inr (.inr (.inr 105)), .inr (.inr (.inr 106)), .inr (.inr (.inr 107)), .inl (279, 0), .inl (280, 0), .inl (281, 0), .inr (.inr (.inr 108)), .inr (.inr (.inr 109)), .inr (.inr (.inr 110)), .inl (282, 0), .inl (283, 0), .inr (.inr (.inr 111)), .inr (.inr (.inr 112)), .inl (284, 0), .inl (285, 0), .inl (286, 0), .inl (287, 0), .inr (.inr (.inr 113)), .inl (288, 0), .inl (289, 0), .inr (.inr (.inr 114)), .inr (.inr (.inr 115)), .inl (290, 0), .inl (291, 0), .inr (.inr (.inl (some 2))), .inl (302, 0), .inl (303, 0), .inl (0, 5), .inl (302, (-1))])
/-! LostKeysModel.readSaid()Z -/
noncomputable def rn_n15_h : List rx_C := [
  rc_c533,
  rc_c31,
  rc_c516,
  .inr (1000, 940, [], .inr (.inl (255, 0))),
  .inr (1003, 25, [], .inr (.inl (18446744073709551615, (-9223372036854775808))))]
noncomputable def rn_n15_o : List (rx_T × (List (Nat × Nat) × List (Nat × Nat))) := [(((rc_b211, rc_f73), [
  rc_c534,
  rc_c32,
  rc_c524,
  .inr (1000, 940, [], .inr (.inl (255, 0))),
  .inr (1003, 25, [], .inr (.inl (18446744073709551615, (-9223372036854775808))))], (0, 0), 0, [], [.inl (0, 0)]), ([], rc_p91)),
  (((rc_b214, rc_f74), [
  rc_c535,
  rc_c32,
  rc_c526,
  .inr (1000, 940, [], .inr (.inl (255, 0))),
  .inr (1003, 25, [], .inr (.inl (18446744073709551615, (-9223372036854775808))))], (0, 0), 0, [], [.inl (0, 1)]), ([], rc_p92))]
noncomputable def rn_n15_k : rx_KE := ((241, 90), ([(0, 0), (1, 14), (1, 45), (1, 1), (1, 19)], rc_p89, [(1, 15), (1, 16), (1, 17), (1, 18), (1, 20), (1, 21), (1, 22), (1, 23), (1, 27), (1, 28), (1, 29), (1, 32), (1, 33), (1, 38), (1, 41), (1, 42)]), ((rc_b209, rc_f70), rn_n15_h, [.inr (.inr (.inl (some 0)))]), rn_n15_o.map Prod.fst)
noncomputable def rn_n15_r : List rx_Cu := []
theorem rn_n15_ok : rx_OK rn_n15_k := sorry

noncomputable def rc_c536 : rx_C := .inl (10, [.inl (266, 0), .inr (.inr (.inl (some 3))), .inl (267, 0), .inl (268, 0), .inl (269, 0), .inl (296, 0), .inl (297, 0), .inl (298, 0), .inl (299, 0), .inl (300, 0), .inl (275, 0), .inl (276, 0), .inr (.inl (301, 0)), .inl (302, 0), .inr (.inr (.inl (some 1))), .inr (.inr (.inr 100)), .inr (.inr (.inr 101)), .inr (.inr (.inr 102)), .inr (.inr (.inr 103)), .inr (.inr (.inl (some 4))), .inr (.inr (.inr 104)), .inr (.inr (.inr 105)), .inr (.inr (.inr 106)), .inr (.inr (.inr 107)), .inl (279, 0), .inl (280, 0), .inl (281, 0), .inr (.inr (.inr 108)), .inr (.inr (.inr 109)), .inr (.inr (.inr 110)), .inl (282, 0), .inl (283, 0), .inr (.inr (.inr 111)), .inr (.inr (.inr 112)), .inl (284, 0), .inl (285, 0), .inl (286, 0), .inl (287, 0), .inr (.inr (.inr 113)), .inl (288, 0), .inl (289, 0), .inr (.inr (.inr 114)), .inr (.inr (.inr 115)), .inl (290, 0), .inl (291, 0), .inr (.inr (.inl (some 2))), .inl (295, 1), .inl (303, 0), .inl (0, 5), .inl (304, 0)])
/-! LostKeysModel.readAnd()Z -/
noncomputable def rn_n65_h : List rx_C := [
  rc_c533,
  rc_c31,
  rc_c516,
  .inr (1000, 940, [], .inr (.inl (255, 0))),
  .inr (1003, 25, [], .inr (.inl (18446744073709551615, (-9223372036854775808))))]
noncomputable def rn_n65_o : List (rx_T × (List (Nat × Nat) × List (Nat × Nat))) := [(((rc_b211, rc_f73), [
  rc_c534,
  rc_c32,
  rc_c524,
  .inr (1000, 940, [], .inr (.inl (255, 0))),
  .inr (1003, 25, [], .inr (.inl (18446744073709551615, (-9223372036854775808))))], (0, 0), 0, [], [.inl (0, 0)]), ([], rc_p91)),
  (((rc_b214, rc_f74), [
  rc_c535,
  rc_c32,
  rc_c526,
  .inr (1000, 940, [], .inr (.inl (255, 0))),
  .inr (1003, 25, [], .inr (.inl (18446744073709551615, (-9223372036854775808))))], (0, 0), 0, [], [.inl (0, 1)]), ([], rc_p92))]
noncomputable def rn_n65_k : rx_KE := ((220, 96), ([(0, 0), (1, 14), (1, 45), (1, 1), (1, 19)], rc_p89, [(1, 15), (1, 16), (1, 17), (1, 18), (1, 20), (1, 21), (1, 22), (1, 23), (1, 27), (1, 28), (1, 29), (1, 32), (1, 33), (1, 38), (1, 41), (1, 42)]), ((rc_b209, rc_f70), rn_n65_h, [.inr (.inr (.inl (some 0)))]), rn_n65_o.map Prod.fst)
noncomputable def rn_n65_r : List rx_Cu := [(((rc_b215, rc_f75), [
  rc_c536,
  rc_c32,
  rc_c528,
  .inr (1000, 940, [], .inr (.inl (255, 0))),
  .inr (1003, 25, [], .inr (.inl (18446744073709551615, (-9223372036854775808))))], (0, 0), 14, [(0, .inr (.inr (.inl (some 0)))), (1, .inl (295, 0))], []), ([], rc_p93), ([((-2), 294)], 78))]
theorem rn_n65_ok : rx_OK rn_n65_k := sorry

/-! LostKeysModel.readOr()Z -/
noncomputable def rn_n75_h : List rx_C := [
  rc_c533,
  rc_c31,
  rc_c516,
  .inr (1000, 940, [], .inr (.inl (255, 0))),
  .inr (1003, 25, [], .inr (.inl (18446744073709551615, (-9223372036854775808))))]
noncomputable def rn_n75_o : List (rx_T × (List (Nat × Nat) × List (Nat × Nat))) := [(((rc_b211, rc_f73), [
  rc_c534,
  rc_c32,
  rc_c524,
  .inr (1000, 940, [], .inr (.inl (255, 0))),
  .inr (1003, 25, [], .inr (.inl (18446744073709551615, (-9223372036854775808))))], (0, 0), 0, [], [.inl (0, 0)]), ([], rc_p91)),
  (((rc_b214, rc_f74), [
  rc_c535,
  rc_c32,
  rc_c526,
  .inr (1000, 940, [], .inr (.inl (255, 0))),
  .inr (1003, 25, [], .inr (.inl (18446744073709551615, (-9223372036854775808))))], (0, 0), 0, [], [.inl (0, 1)]), ([], rc_p92))]
noncomputable def rn_n75_k : rx_KE := ((239, 102), ([(0, 0), (1, 14), (1, 45), (1, 1), (1, 19)], rc_p89, [(1, 15), (1, 16), (1, 17), (1, 18), (1, 20), (1, 21), (1, 22), (1, 23), (1, 27), (1, 28), (1, 29), (1, 32), (1, 33), (1, 38), (1, 41), (1, 42)]), ((rc_b209, rc_f70), rn_n75_h, [.inr (.inr (.inl (some 0)))]), rn_n75_o.map Prod.fst)
noncomputable def rn_n75_r : List rx_Cu := [(((rc_b215, rc_f75), [
  rc_c536,
  rc_c32,
  rc_c528,
  .inr (1000, 940, [], .inr (.inl (255, 0))),
  .inr (1003, 25, [], .inr (.inl (18446744073709551615, (-9223372036854775808))))], (0, 0), 14, [(0, .inr (.inr (.inl (some 0)))), (1, .inl (295, 0))], []), ([], rc_p93), ([((-2), 294)], 78))]
theorem rn_n75_ok : rx_OK rn_n75_k := sorry

/-! LostKeysModel.readBracket()Z -/
noncomputable def rn_n35_h : List rx_C := [
  rc_c533,
  rc_c31,
  rc_c516,
  .inr (1000, 940, [], .inr (.inl (255, 0))),
  .inr (1003, 25, [], .inr (.inl (18446744073709551615, (-9223372036854775808))))]
noncomputable def rn_n35_o : List (rx_T × (List (Nat × Nat) × List (Nat × Nat))) := [(((rc_b211, rc_f73), [
  rc_c534,
  rc_c32,
  rc_c524,
  .inr (1000, 940, [], .inr (.inl (255, 0))),
  .inr (1003, 25, [], .inr (.inl (18446744073709551615, (-9223372036854775808))))], (0, 0), 0, [], [.inl (0, 0)]), ([], rc_p91)),
  (((rc_b214, rc_f74), [
  rc_c535,
  rc_c32,
  rc_c526,
  .inr (1000, 940, [], .inr (.inl (255, 0))),
  .inr (1003, 25, [], .inr (.inl (18446744073709551615, (-9223372036854775808))))], (0, 0), 0, [], [.inl (0, 1)]), ([], rc_p92))]
noncomputable def rn_n35_k : rx_KE := ((222, 108), ([(0, 0), (1, 14), (1, 45), (1, 1), (1, 19)], rc_p89, [(1, 15), (1, 16), (1, 17), (1, 18), (1, 20), (1, 21), (1, 22), (1, 23), (1, 27), (1, 28), (1, 29), (1, 32), (1, 33), (1, 38), (1, 41), (1, 42)]), ((rc_b209, rc_f70), rn_n35_h, [.inr (.inr (.inl (some 0)))]), rn_n35_o.map Prod.fst)
noncomputable def rn_n35_r : List rx_Cu := []
theorem rn_n35_ok : rx_OK rn_n35_k := sorry

noncomputable def rc_c537 : rx_C := .inl (10, [.inl (266, 0), .inr (.inr (.inl (some 3))), .inl (267, 0), .inl (268, 0), .inl (269, 0), .inl (270, 0), .inl (271, 0), .inl (272, 0), .inl (273, 0), .inl (274, 0), .inl (275, 0), .inl (276, 0), .inr (.inl (277, 0)), .inl (278, 0), .inr (.inr (.inl (some 1))), .inr (.inr (.inr 100)), .inr (.inr (.inr 101)), .inr (.inr (.inr 102)), .inr (.inr (.inr 103)), .inr (.inr (.inl (some 4))), .inr (.inr (.inr 104)), .inr (.inr (.inr 105)), .inr (.inr (.inr 106)), .inr (.inr (.inr 107)), .inl (279, 0), .inl (280, 0), .inl (281, 0), .inr (.inr (.inr 108)), .inr (.inr (.inr 109)), .inr (.inr (.inr 110)), .inl (282, 0), .inl (283, 0), .inr (.inr (.inr 111)), .inr (.inr (.inr 112)), .inl (284, 0), .inl (285, 0), .inl (286, 0), .inl (287, 0), .inr (.inr (.inr 113)), .inl (288, 0), .inl (289, 0), .inr (.inr (.inr 114)), .inr (.inr (.inr 115)), .inl (290, 0), .inl (291, 0), .inr (.inr (.inl (some 2))), .inl (292, 0), .inl (293, 0), .inl (0, 4), .inl (294, 0)])
noncomputable def rc_c538 : rx_C := .inl (10, [.inl (266, 0), .inr (.inr (.inl (some 3))), .inl (267, 0), .inl (268, 0), .inl (269, 0), .inl (295, 0), .inl (296, 0), .inl (297, 0), .inl (298, 0), .inl (299, 0), .inl (300, 0), .inl (296, 0), .inr (.inl (301, 0)), .inl (302, 0), .inr (.inr (.inl (some 1))), .inr (.inr (.inr 100)), .inr (.inr (.inr 101)), .inr (.inr (.inr 102)), .inr (.inr (.inr 103)), .inr (.inr (.inl (some 4))), .inr (.inr (.inr 104)), .inr (.inr (.inr 105)), .inr (.inr (.inr 106)), .inr (.inr (.inr 107)), .inl (279, 0), .inl (280, 0), .inl (281, 0), .inr (.inr (.inr 108)), .inr (.inr (.inr 109)), .inr (.inr (.inr 110)), .inl (282, 0), .inl (283, 0), .inr (.inr (.inr 111)), .inr (.inr (.inr 112)), .inl (284, 0), .inl (285, 0), .inl (286, 0), .inl (287, 0), .inr (.inr (.inr 113)), .inl (288, 0), .inl (289, 0), .inr (.inr (.inr 114)), .inr (.inr (.inr 115)), .inl (290, 0), .inl (291, 0), .inr (.inr (.inl (some 2))), .inl (303, 0), .inl (304, 0), .inl (0, 4), .inl (305, 0)])
noncomputable def rc_c539 : rx_C := .inl (10, [.inl (266, 0), .inr (.inr (.inl (some 3))), .inl (267, 0), .inl (268, 0), .inl (269, 0), .inl (295, 0), .inl (296, 0), .inl (297, 0), .inl (298, 0), .inl (299, 0), .inl (275, 0), .inl (276, 0), .inr (.inl (300, 0)), .inl (301, 0), .inr (.inr (.inl (some 1))), .inr (.inr (.inr 100)), .inr (.inr (.inr 101)), .inr (.inr (.inr 102)), .inr (.inr (.inr 103)), .inr (.inr (.inl (some 4))), .inr (.inr (.inr 104)), .inr (.inr (.inr 105)), .inr (.inr (.inr 106)), .inr (.inr (.inr 107)), .inl (279, 0), .inl (280, 0), .inl (281, 0), .inr (.inr (.inr 108)), .inr (.inr (.inr 109)), .inr (.inr (.inr 110)), .inl (282, 0), .inl (283, 0), .inr (.inr (.inr 111)), .inr (.inr (.inr 112)), .inl (284, 0), .inl (285, 0), .inl (286, 0), .inl (287, 0), .inr (.inr (.inr 113)), .inl (288, 0), .inl (289, 0), .inr (.inr (.inr 114)), .inr (.inr (.inr 115)), .inl (290, 0), .inl (291, 0), .inr (.inr (.inl (some 2))), .inl (302, 0), .inl (303, 0), .inl (0, 4), .inl (302, (-1))])
/-! LostKeysModel.readSaid()Z -/
noncomputable def rn_n14_h : List rx_C := [
  rc_c537,
  rc_c31,
  rc_c516,
  .inr (1000, 940, [], .inr (.inl (255, 0))),
  .inr (1003, 25, [], .inr (.inl (18446744073709551615, (-9223372036854775808))))]
noncomputable def rn_n14_o : List (rx_T × (List (Nat × Nat) × List (Nat × Nat))) := [(((rc_b211, rc_f73), [
  rc_c538,
  rc_c32,
  rc_c524,
  .inr (1000, 940, [], .inr (.inl (255, 0))),
  .inr (1003, 25, [], .inr (.inl (18446744073709551615, (-9223372036854775808))))], (0, 0), 0, [], [.inl (0, 0)]), ([], rc_p91)),
  (((rc_b214, rc_f74), [
  rc_c539,
  rc_c32,
  rc_c526,
  .inr (1000, 940, [], .inr (.inl (255, 0))),
  .inr (1003, 25, [], .inr (.inl (18446744073709551615, (-9223372036854775808))))], (0, 0), 0, [], [.inl (0, 1)]), ([], rc_p92))]
noncomputable def rn_n14_k : rx_KE := ((241, 114), ([(0, 0), (1, 14), (1, 45), (1, 1), (1, 19)], rc_p89, [(1, 15), (1, 16), (1, 17), (1, 18), (1, 20), (1, 21), (1, 22), (1, 23), (1, 27), (1, 28), (1, 29), (1, 32), (1, 33), (1, 38), (1, 41), (1, 42)]), ((rc_b209, rc_f70), rn_n14_h, [.inr (.inr (.inl (some 0)))]), rn_n14_o.map Prod.fst)
noncomputable def rn_n14_r : List rx_Cu := []
theorem rn_n14_ok : rx_OK rn_n14_k := sorry

noncomputable def rc_c540 : rx_C := .inl (10, [.inl (266, 0), .inr (.inr (.inl (some 3))), .inl (267, 0), .inl (268, 0), .inl (269, 0), .inl (296, 0), .inl (297, 0), .inl (298, 0), .inl (299, 0), .inl (300, 0), .inl (275, 0), .inl (276, 0), .inr (.inl (301, 0)), .inl (302, 0), .inr (.inr (.inl (some 1))), .inr (.inr (.inr 100)), .inr (.inr (.inr 101)), .inr (.inr (.inr 102)), .inr (.inr (.inr 103)), .inr (.inr (.inl (some 4))), .inr (.inr (.inr 104)), .inr (.inr (.inr 105)), .inr (.inr (.inr 106)), .inr (.inr (.inr 107)), .inl (279, 0), .inl (280, 0), .inl (281, 0), .inr (.inr (.inr 108)), .inr (.inr (.inr 109)), .inr (.inr (.inr 110)), .inl (282, 0), .inl (283, 0), .inr (.inr (.inr 111)), .inr (.inr (.inr 112)), .inl (284, 0), .inl (285, 0), .inl (286, 0), .inl (287, 0), .inr (.inr (.inr 113)), .inl (288, 0), .inl (289, 0), .inr (.inr (.inr 114)), .inr (.inr (.inr 115)), .inl (290, 0), .inl (291, 0), .inr (.inr (.inl (some 2))), .inl (295, 1), .inl (303, 0), .inl (0, 4), .inl (304, 0)])
/-! LostKeysModel.readAnd()Z -/
noncomputable def rn_n64_h : List rx_C := [
  rc_c537,
  rc_c31,
  rc_c516,
  .inr (1000, 940, [], .inr (.inl (255, 0))),
  .inr (1003, 25, [], .inr (.inl (18446744073709551615, (-9223372036854775808))))]
noncomputable def rn_n64_o : List (rx_T × (List (Nat × Nat) × List (Nat × Nat))) := [(((rc_b211, rc_f73), [
  rc_c538,
  rc_c32,
  rc_c524,
  .inr (1000, 940, [], .inr (.inl (255, 0))),
  .inr (1003, 25, [], .inr (.inl (18446744073709551615, (-9223372036854775808))))], (0, 0), 0, [], [.inl (0, 0)]), ([], rc_p91)),
  (((rc_b214, rc_f74), [
  rc_c539,
  rc_c32,
  rc_c526,
  .inr (1000, 940, [], .inr (.inl (255, 0))),
  .inr (1003, 25, [], .inr (.inl (18446744073709551615, (-9223372036854775808))))], (0, 0), 0, [], [.inl (0, 1)]), ([], rc_p92))]
noncomputable def rn_n64_k : rx_KE := ((220, 120), ([(0, 0), (1, 14), (1, 45), (1, 1), (1, 19)], rc_p89, [(1, 15), (1, 16), (1, 17), (1, 18), (1, 20), (1, 21), (1, 22), (1, 23), (1, 27), (1, 28), (1, 29), (1, 32), (1, 33), (1, 38), (1, 41), (1, 42)]), ((rc_b209, rc_f70), rn_n64_h, [.inr (.inr (.inl (some 0)))]), rn_n64_o.map Prod.fst)
noncomputable def rn_n64_r : List rx_Cu := [(((rc_b215, rc_f75), [
  rc_c540,
  rc_c32,
  rc_c528,
  .inr (1000, 940, [], .inr (.inl (255, 0))),
  .inr (1003, 25, [], .inr (.inl (18446744073709551615, (-9223372036854775808))))], (0, 0), 14, [(0, .inr (.inr (.inl (some 0)))), (1, .inl (295, 0))], []), ([], rc_p93), ([((-2), 294)], 78))]
theorem rn_n64_ok : rx_OK rn_n64_k := sorry

/-! LostKeysModel.readOr()Z -/
noncomputable def rn_n74_h : List rx_C := [
  rc_c537,
  rc_c31,
  rc_c516,
  .inr (1000, 940, [], .inr (.inl (255, 0))),
  .inr (1003, 25, [], .inr (.inl (18446744073709551615, (-9223372036854775808))))]
noncomputable def rn_n74_o : List (rx_T × (List (Nat × Nat) × List (Nat × Nat))) := [(((rc_b211, rc_f73), [
  rc_c538,
  rc_c32,
  rc_c524,
  .inr (1000, 940, [], .inr (.inl (255, 0))),
  .inr (1003, 25, [], .inr (.inl (18446744073709551615, (-9223372036854775808))))], (0, 0), 0, [], [.inl (0, 0)]), ([], rc_p91)),
  (((rc_b214, rc_f74), [
  rc_c539,
  rc_c32,
  rc_c526,
  .inr (1000, 940, [], .inr (.inl (255, 0))),
  .inr (1003, 25, [], .inr (.inl (18446744073709551615, (-9223372036854775808))))], (0, 0), 0, [], [.inl (0, 1)]), ([], rc_p92))]
noncomputable def rn_n74_k : rx_KE := ((239, 126), ([(0, 0), (1, 14), (1, 45), (1, 1), (1, 19)], rc_p89, [(1, 15), (1, 16), (1, 17), (1, 18), (1, 20), (1, 21), (1, 22), (1, 23), (1, 27), (1, 28), (1, 29), (1, 32), (1, 33), (1, 38), (1, 41), (1, 42)]), ((rc_b209, rc_f70), rn_n74_h, [.inr (.inr (.inl (some 0)))]), rn_n74_o.map Prod.fst)
noncomputable def rn_n74_r : List rx_Cu := [(((rc_b215, rc_f75), [
  rc_c540,
  rc_c32,
  rc_c528,
  .inr (1000, 940, [], .inr (.inl (255, 0))),
  .inr (1003, 25, [], .inr (.inl (18446744073709551615, (-9223372036854775808))))], (0, 0), 14, [(0, .inr (.inr (.inl (some 0)))), (1, .inl (295, 0))], []), ([], rc_p93), ([((-2), 294)], 78))]
theorem rn_n74_ok : rx_OK rn_n74_k := sorry

/-! LostKeysModel.readBracket()Z -/
noncomputable def rn_n34_h : List rx_C := [
  rc_c537,
  rc_c31,
  rc_c516,
  .inr (1000, 940, [], .inr (.inl (255, 0))),
  .inr (1003, 25, [], .inr (.inl (18446744073709551615, (-9223372036854775808))))]
noncomputable def rn_n34_o : List (rx_T × (List (Nat × Nat) × List (Nat × Nat))) := [(((rc_b211, rc_f73), [
  rc_c538,
  rc_c32,
  rc_c524,
  .inr (1000, 940, [], .inr (.inl (255, 0))),
  .inr (1003, 25, [], .inr (.inl (18446744073709551615, (-9223372036854775808))))], (0, 0), 0, [], [.inl (0, 0)]), ([], rc_p91)),
  (((rc_b214, rc_f74), [
  rc_c539,
  rc_c32,
  rc_c526,
  .inr (1000, 940, [], .inr (.inl (255, 0))),
  .inr (1003, 25, [], .inr (.inl (18446744073709551615, (-9223372036854775808))))], (0, 0), 0, [], [.inl (0, 1)]), ([], rc_p92))]
noncomputable def rn_n34_k : rx_KE := ((222, 132), ([(0, 0), (1, 14), (1, 45), (1, 1), (1, 19)], rc_p89, [(1, 15), (1, 16), (1, 17), (1, 18), (1, 20), (1, 21), (1, 22), (1, 23), (1, 27), (1, 28), (1, 29), (1, 32), (1, 33), (1, 38), (1, 41), (1, 42)]), ((rc_b209, rc_f70), rn_n34_h, [.inr (.inr (.inl (some 0)))]), rn_n34_o.map Prod.fst)
noncomputable def rn_n34_r : List rx_Cu := []
theorem rn_n34_ok : rx_OK rn_n34_k := sorry

noncomputable def rc_c541 : rx_C := .inl (10, [.inl (266, 0), .inr (.inr (.inl (some 3))), .inl (267, 0), .inl (268, 0), .inl (269, 0), .inl (270, 0), .inl (271, 0), .inl (272, 0), .inl (273, 0), .inl (274, 0), .inl (275, 0), .inl (276, 0), .inr (.inl (277, 0)), .inl (278, 0), .inr (.inr (.inl (some 1))), .inr (.inr (.inr 100)), .inr (.inr (.inr 101)), .inr (.inr (.inr 102)), .inr (.inr (.inr 103)), .inr (.inr (.inl (some 4))), .inr (.inr (.inr 104)), .inr (.inr (.inr 105)), .inr (.inr (.inr 106)), .inr (.inr (.inr 107)), .inl (279, 0), .inl (280, 0), .inl (281, 0), .inr (.inr (.inr 108)), .inr (.inr (.inr 109)), .inr (.inr (.inr 110)), .inl (282, 0), .inl (283, 0), .inr (.inr (.inr 111)), .inr (.inr (.inr 112)), .inl (284, 0), .inl (285, 0), .inl (286, 0), .inl (287, 0), .inr (.inr (.inr 113)), .inl (288, 0), .inl (289, 0), .inr (.inr (.inr 114)), .inr (.inr (.inr 115)), .inl (290, 0), .inl (291, 0), .inr (.inr (.inl (some 2))), .inl (292, 0), .inl (293, 0), .inl (0, 3), .inl (294, 0)])
noncomputable def rc_c542 : rx_C := .inl (10, [.inl (266, 0), .inr (.inr (.inl (some 3))), .inl (267, 0), .inl (268, 0), .inl (269, 0), .inl (295, 0), .inl (296, 0), .inl (297, 0), .inl (298, 0), .inl (299, 0), .inl (300, 0), .inl (296, 0), .inr (.inl (301, 0)), .inl (302, 0), .inr (.inr (.inl (some 1))), .inr (.inr (.inr 100)), .inr (.inr (.inr 101)), .inr (.inr (.inr 102)), .inr (.inr (.inr 103)), .inr (.inr (.inl (some 4))), .inr (.inr (.inr 104)), .inr (.inr (.inr 105)), .inr (.inr (.inr 106)), .inr (.inr (.inr 107)), .inl (279, 0), .inl (280, 0), .inl (281, 0), .inr (.inr (.inr 108)), .inr (.inr (.inr 109)), .inr (.inr (.inr 110)), .inl (282, 0), .inl (283, 0), .inr (.inr (.inr 111)), .inr (.inr (.inr 112)), .inl (284, 0), .inl (285, 0), .inl (286, 0), .inl (287, 0), .inr (.inr (.inr 113)), .inl (288, 0), .inl (289, 0), .inr (.inr (.inr 114)), .inr (.inr (.inr 115)), .inl (290, 0), .inl (291, 0), .inr (.inr (.inl (some 2))), .inl (303, 0), .inl (304, 0), .inl (0, 3), .inl (305, 0)])
noncomputable def rc_c543 : rx_C := .inl (10, [.inl (266, 0), .inr (.inr (.inl (some 3))), .inl (267, 0), .inl (268, 0), .inl (269, 0), .inl (295, 0), .inl (296, 0), .inl (297, 0), .inl (298, 0), .inl (299, 0), .inl (275, 0), .inl (276, 0), .inr (.inl (300, 0)), .inl (301, 0), .inr (.inr (.inl (some 1))), .inr (.inr (.inr 100)), .inr (.inr (.inr 101)), .inr (.inr (.inr 102)), .inr (.inr (.inr 103)), .inr (.inr (.inl (some 4))), .inr (.inr (.inr 104)), .inr (.inr (.inr 105)), .inr (.inr (.inr 106)), .inr (.inr (.inr 107)), .inl (279, 0), .inl (280, 0), .inl (281, 0), .inr (.inr (.inr 108)), .inr (.inr (.inr 109)), .inr (.inr (.inr 110)), .inl (282, 0), .inl (283, 0), .inr (.inr (.inr 111)), .inr (.inr (.inr 112)), .inl (284, 0), .inl (285, 0), .inl (286, 0), .inl (287, 0), .inr (.inr (.inr 113)), .inl (288, 0), .inl (289, 0), .inr (.inr (.inr 114)), .inr (.inr (.inr 115)), .inl (290, 0), .inl (291, 0), .inr (.inr (.inl (some 2))), .inl (302, 0), .inl (303, 0), .inl (0, 3), .inl (302, (-1))])
/-! LostKeysModel.readSaid()Z -/
noncomputable def rn_n13_h : List rx_C := [
  rc_c541,
  rc_c31,
  rc_c516,
  .inr (1000, 940, [], .inr (.inl (255, 0))),
  .inr (1003, 25, [], .inr (.inl (18446744073709551615, (-9223372036854775808))))]
noncomputable def rn_n13_o : List (rx_T × (List (Nat × Nat) × List (Nat × Nat))) := [(((rc_b211, rc_f73), [
  rc_c542,
  rc_c32,
  rc_c524,
  .inr (1000, 940, [], .inr (.inl (255, 0))),
  .inr (1003, 25, [], .inr (.inl (18446744073709551615, (-9223372036854775808))))], (0, 0), 0, [], [.inl (0, 0)]), ([], rc_p91)),
  (((rc_b214, rc_f74), [
  rc_c543,
  rc_c32,
  rc_c526,
  .inr (1000, 940, [], .inr (.inl (255, 0))),
  .inr (1003, 25, [], .inr (.inl (18446744073709551615, (-9223372036854775808))))], (0, 0), 0, [], [.inl (0, 1)]), ([], rc_p92))]
noncomputable def rn_n13_k : rx_KE := ((241, 138), ([(0, 0), (1, 14), (1, 45), (1, 1), (1, 19)], rc_p89, [(1, 15), (1, 16), (1, 17), (1, 18), (1, 20), (1, 21), (1, 22), (1, 23), (1, 27), (1, 28), (1, 29), (1, 32), (1, 33), (1, 38), (1, 41), (1, 42)]), ((rc_b209, rc_f70), rn_n13_h, [.inr (.inr (.inl (some 0)))]), rn_n13_o.map Prod.fst)
noncomputable def rn_n13_r : List rx_Cu := []
theorem rn_n13_ok : rx_OK rn_n13_k := sorry

noncomputable def rc_c544 : rx_C := .inl (10, [.inl (266, 0), .inr (.inr (.inl (some 3))), .inl (267, 0), .inl (268, 0), .inl (269, 0), .inl (296, 0), .inl (297, 0), .inl (298, 0), .inl (299, 0), .inl (300, 0), .inl (275, 0), .inl (276, 0), .inr (.inl (301, 0)), .inl (302, 0), .inr (.inr (.inl (some 1))), .inr (.inr (.inr 100)), .inr (.inr (.inr 101)), .inr (.inr (.inr 102)), .inr (.inr (.inr 103)), .inr (.inr (.inl (some 4))), .inr (.inr (.inr 104)), .inr (.inr (.inr 105)), .inr (.inr (.inr 106)), .inr (.inr (.inr 107)), .inl (279, 0), .inl (280, 0), .inl (281, 0), .inr (.inr (.inr 108)), .inr (.inr (.inr 109)), .inr (.inr (.inr 110)), .inl (282, 0), .inl (283, 0), .inr (.inr (.inr 111)), .inr (.inr (.inr 112)), .inl (284, 0), .inl (285, 0), .inl (286, 0), .inl (287, 0), .inr (.inr (.inr 113)), .inl (288, 0), .inl (289, 0), .inr (.inr (.inr 114)), .inr (.inr (.inr 115)), .inl (290, 0), .inl (291, 0), .inr (.inr (.inl (some 2))), .inl (295, 1), .inl (303, 0), .inl (0, 3), .inl (304, 0)])
/-! LostKeysModel.readAnd()Z -/
noncomputable def rn_n63_h : List rx_C := [
  rc_c541,
  rc_c31,
  rc_c516,
  .inr (1000, 940, [], .inr (.inl (255, 0))),
  .inr (1003, 25, [], .inr (.inl (18446744073709551615, (-9223372036854775808))))]
noncomputable def rn_n63_o : List (rx_T × (List (Nat × Nat) × List (Nat × Nat))) := [(((rc_b211, rc_f73), [
  rc_c542,
  rc_c32,
  rc_c524,
  .inr (1000, 940, [], .inr (.inl (255, 0))),
  .inr (1003, 25, [], .inr (.inl (18446744073709551615, (-9223372036854775808))))], (0, 0), 0, [], [.inl (0, 0)]), ([], rc_p91)),
  (((rc_b214, rc_f74), [
  rc_c543,
  rc_c32,
  rc_c526,
  .inr (1000, 940, [], .inr (.inl (255, 0))),
  .inr (1003, 25, [], .inr (.inl (18446744073709551615, (-9223372036854775808))))], (0, 0), 0, [], [.inl (0, 1)]), ([], rc_p92))]
noncomputable def rn_n63_k : rx_KE := ((220, 144), ([(0, 0), (1, 14), (1, 45), (1, 1), (1, 19)], rc_p89, [(1, 15), (1, 16), (1, 17), (1, 18), (1, 20), (1, 21), (1, 22), (1, 23), (1, 27), (1, 28), (1, 29), (1, 32), (1, 33), (1, 38), (1, 41), (1, 42)]), ((rc_b209, rc_f70), rn_n63_h, [.inr (.inr (.inl (some 0)))]), rn_n63_o.map Prod.fst)
noncomputable def rn_n63_r : List rx_Cu := [(((rc_b215, rc_f75), [
  rc_c544,
  rc_c32,
  rc_c528,
  .inr (1000, 940, [], .inr (.inl (255, 0))),
  .inr (1003, 25, [], .inr (.inl (18446744073709551615, (-9223372036854775808))))], (0, 0), 14, [(0, .inr (.inr (.inl (some 0)))), (1, .inl (295, 0))], []), ([], rc_p93), ([((-2), 294)], 78))]
theorem rn_n63_ok : rx_OK rn_n63_k := sorry

/-! LostKeysModel.readOr()Z -/
noncomputable def rn_n73_h : List rx_C := [
  rc_c541,
  rc_c31,
  rc_c516,
  .inr (1000, 940, [], .inr (.inl (255, 0))),
  .inr (1003, 25, [], .inr (.inl (18446744073709551615, (-9223372036854775808))))]
noncomputable def rn_n73_o : List (rx_T × (List (Nat × Nat) × List (Nat × Nat))) := [(((rc_b211, rc_f73), [
  rc_c542,
  rc_c32,
  rc_c524,
  .inr (1000, 940, [], .inr (.inl (255, 0))),
  .inr (1003, 25, [], .inr (.inl (18446744073709551615, (-9223372036854775808))))], (0, 0), 0, [], [.inl (0, 0)]), ([], rc_p91)),
  (((rc_b214, rc_f74), [
  rc_c543,
  rc_c32,
  rc_c526,
  .inr (1000, 940, [], .inr (.inl (255, 0))),
  .inr (1003, 25, [], .inr (.inl (18446744073709551615, (-9223372036854775808))))], (0, 0), 0, [], [.inl (0, 1)]), ([], rc_p92))]
noncomputable def rn_n73_k : rx_KE := ((239, 150), ([(0, 0), (1, 14), (1, 45), (1, 1), (1, 19)], rc_p89, [(1, 15), (1, 16), (1, 17), (1, 18), (1, 20), (1, 21), (1, 22), (1, 23), (1, 27), (1, 28), (1, 29), (1, 32), (1, 33), (1, 38), (1, 41), (1, 42)]), ((rc_b209, rc_f70), rn_n73_h, [.inr (.inr (.inl (some 0)))]), rn_n73_o.map Prod.fst)
noncomputable def rn_n73_r : List rx_Cu := [(((rc_b215, rc_f75), [
  rc_c544,
  rc_c32,
  rc_c528,
  .inr (1000, 940, [], .inr (.inl (255, 0))),
  .inr (1003, 25, [], .inr (.inl (18446744073709551615, (-9223372036854775808))))], (0, 0), 14, [(0, .inr (.inr (.inl (some 0)))), (1, .inl (295, 0))], []), ([], rc_p93), ([((-2), 294)], 78))]
theorem rn_n73_ok : rx_OK rn_n73_k := sorry

/-! LostKeysModel.readBracket()Z -/
noncomputable def rn_n33_h : List rx_C := [
  rc_c541,
  rc_c31,
  rc_c516,
  .inr (1000, 940, [], .inr (.inl (255, 0))),
  .inr (1003, 25, [], .inr (.inl (18446744073709551615, (-9223372036854775808))))]
noncomputable def rn_n33_o : List (rx_T × (List (Nat × Nat) × List (Nat × Nat))) := [(((rc_b211, rc_f73), [
  rc_c542,
  rc_c32,
  rc_c524,
  .inr (1000, 940, [], .inr (.inl (255, 0))),
  .inr (1003, 25, [], .inr (.inl (18446744073709551615, (-9223372036854775808))))], (0, 0), 0, [], [.inl (0, 0)]), ([], rc_p91)),
  (((rc_b214, rc_f74), [
  rc_c543,
  rc_c32,
  rc_c526,
  .inr (1000, 940, [], .inr (.inl (255, 0))),
  .inr (1003, 25, [], .inr (.inl (18446744073709551615, (-9223372036854775808))))], (0, 0), 0, [], [.inl (0, 1)]), ([], rc_p92))]
noncomputable def rn_n33_k : rx_KE := ((222, 156), ([(0, 0), (1, 14), (1, 45), (1, 1), (1, 19)], rc_p89, [(1, 15), (1, 16), (1, 17), (1, 18), (1, 20), (1, 21), (1, 22), (1, 23), (1, 27), (1, 28), (1, 29), (1, 32), (1, 33), (1, 38), (1, 41), (1, 42)]), ((rc_b209, rc_f70), rn_n33_h, [.inr (.inr (.inl (some 0)))]), rn_n33_o.map Prod.fst)
noncomputable def rn_n33_r : List rx_Cu := []
theorem rn_n33_ok : rx_OK rn_n33_k := sorry
