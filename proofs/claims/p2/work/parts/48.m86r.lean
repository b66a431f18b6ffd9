
noncomputable def rc_c556 : rx_C := .inl (10, [.inl (266, 0), .inr (.inr (.inl (some 3))), .inl (267, 0), .inl (268, 0), .inl (269, 0), .inl (296, 0), .inl (297, 0), .inl (298, 0), .inl (299, 0), .inl (300, 0), .inl (275, 0), .inl (276, 0), .inr (.inl (301, 0)), .inl (302, 0), .inr (.inr (.inl (some 1))), .inr (.inr (.inr 100)), .inr (.inr (.inr 101)), .inr (.inr (.inr 102)), .inr (.inr (.inr 103)), .inr (.inr (.inl (some 4))), .inr (.inr (.inr 104)), .inr (.inr (.inr 105)), .inr (.inr (.inr 106)), .inr (.inr (.inr 107)), .inl (279, 0), .inl (280, 0), .inl (281, 0), .inr (.inr (.inr 108)), .inr (.inr (.inr 109)), .inr (.inr (.inr 110)), .inl (282, 0), .inl (283, 0), .inr (.inr (.inr 111)), .inr (.inr (.inr 112)), .inl (284, 0), .inl (285, 0), .inl (286, 0), .inl (287, 0), .inr (.inr (.inr 113)), .inl (288, 0), .inl (289, 0), .inr (.inr (.inr 114)), .inr (.inr (.inr 115)), .inl (290, 0), .inl (291, 0), .inr (.inr (.inl (some 2))), .inl (295, 1), .inl (303, 0), .inl (0, 0), .inl (304, 0)])
/-! LostKeysModel.readAnd()Z -/
noncomputable def rn_n60_h : List rx_C := [
  rc_c553,
  rc_c31,
  rc_c516,
  .inr (1000, 940, [], .inr (.inl (255, 0))),
  .inr (1003, 25, [], .inr (.inl (18446744073709551615, (-9223372036854775808))))]
noncomputable def rn_n60_o : List (rx_T × (List (Nat × Nat) × List (Nat × Nat))) := [(((rc_b219, rc_f73), [
  rc_c554,
  rc_c32,
  rc_c524,
  .inr (1000, 940, [], .inr (.inl (255, 0))),
  .inr (1003, 25, [], .inr (.inl (18446744073709551615, (-9223372036854775808))))], (0, 0), 0, [], [.inl (0, 0)]), ([], rc_p91)),
  (((rc_b222, rc_f74), [
  rc_c555,
  rc_c32,
  rc_c526,
  .inr (1000, 940, [], .inr (.inl (255, 0))),
  .inr (1003, 25, [], .inr (.inl (18446744073709551615, (-9223372036854775808))))], (0, 0), 0, [], [.inl (0, 1)]), ([], rc_p92))]
noncomputable def rn_n60_k : rx_KE := ((220, 216), ([(0, 0), (1, 14), (1, 45), (1, 1), (1, 19)], rc_p89, [(1, 15), (1, 16), (1, 17), (1, 18), (1, 20), (1, 21), (1, 22), (1, 23), (1, 27), (1, 28), (1, 29), (1, 32), (1, 33), (1, 38), (1, 41), (1, 42)]), ((rc_b217, rc_f70), rn_n60_h, [.inr (.inr (.inl (some 0)))]), rn_n60_o.map Prod.fst)
noncomputable def rn_n60_r : List rx_Cu := [(((rc_b223, rc_f75), [
  rc_c556,
  rc_c32,
  rc_c528,
  .inr (1000, 940, [], .inr (.inl (255, 0))),
  .inr (1003, 25, [], .inr (.inl (18446744073709551615, (-9223372036854775808))))], (0, 0), 14, [(0, .inr (.inr (.inl (some 0)))), (1, .inl (295, 0))], []), ([], rc_p93), ([((-2), 294)], 78))]
theorem rn_n60_ok : rx_OK rn_n60_k := rs_ok_of (KT := [rn_n10_k, rn_n11_k, rn_n12_k, rn_n13_k, rn_n14_k, rn_n15_k, rn_n16_k, rn_n17_k, rn_n18_k, rn_n01_k, rc_m07_k, rc_m05_k]) (fuel := 20000) (M0 := rx_m220) (fl := []) (m0 := ([], 80)) (rest := rn_n60_r) (outs := rn_n60_o) (rx_okcons rn_n10_ok (rx_okcons rn_n11_ok (rx_okcons rn_n12_ok (rx_okcons rn_n13_ok (rx_okcons rn_n14_ok (rx_okcons rn_n15_ok (rx_okcons rn_n16_ok (rx_okcons rn_n17_ok (rx_okcons rn_n18_ok (rx_okcons rn_n01_ok (rx_okcons rc_m07_ok (rx_okcons rc_m05_ok (rx_oknil))))))))))))) rfl rfl (by decide +kernel)

/-! LostKeysModel.readOr()Z -/
noncomputable def rn_n70_h : List rx_C := [
  rc_c553,
  rc_c31,
  rc_c516,
  .inr (1000, 940, [], .inr (.inl (255, 0))),
  .inr (1003, 25, [], .inr (.inl (18446744073709551615, (-9223372036854775808))))]
noncomputable def rn_n70_o : List (rx_T × (List (Nat × Nat) × List (Nat × Nat))) := [(((rc_b219, rc_f73), [
  rc_c554,
  rc_c32,
  rc_c524,
  .inr (1000, 940, [], .inr (.inl (255, 0))),
  .inr (1003, 25, [], .inr (.inl (18446744073709551615, (-9223372036854775808))))], (0, 0), 0, [], [.inl (0, 0)]), ([], rc_p91)),
  (((rc_b222, rc_f74), [
  rc_c555,
  rc_c32,
  rc_c526,
  .inr (1000, 940, [], .inr (.inl (255, 0))),
  .inr (1003, 25, [], .inr (.inl (18446744073709551615, (-9223372036854775808))))], (0, 0), 0, [], [.inl (0, 1)]), ([], rc_p92))]
noncomputable def rn_n70_k : rx_KE := ((239, 222), ([(0, 0), (1, 14), (1, 45), (1, 1), (1, 19)], rc_p89, [(1, 15), (1, 16), (1, 17), (1, 18), (1, 20), (1, 21), (1, 22), (1, 23), (1, 27), (1, 28), (1, 29), (1, 32), (1, 33), (1, 38), (1, 41), (1, 42)]), ((rc_b217, rc_f70), rn_n70_h, [.inr (.inr (.inl (some 0)))]), rn_n70_o.map Prod.fst)
noncomputable def rn_n70_r : List rx_Cu := [(((rc_b223, rc_f75), [
  rc_c556,
  rc_c32,
  rc_c528,
  .inr (1000, 940, [], .inr (.inl (255, 0))),
  .inr (1003, 25, [], .inr (.inl (18446744073709551615, (-9223372036854775808))))], (0, 0), 14, [(0, .inr (.inr (.inl (some 0)))), (1, .inl (295, 0))], []), ([], rc_p93), ([((-2), 294)], 78))]
theorem rn_n70_ok : rx_OK rn_n70_k := rs_ok_of (KT := [rn_n60_k, rn_n61_k, rn_n62_k, rn_n63_k, rn_n64_k, rn_n65_k, rn_n66_k, rn_n67_k, rn_n68_k, rn_n01_k, rc_m07_k, rc_m05_k]) (fuel := 20000) (M0 := rx_m239) (fl := []) (m0 := ([], 80)) (rest := rn_n70_r) (outs := rn_n70_o) (rx_okcons rn_n60_ok (rx_okcons rn_n61_ok (rx_okcons rn_n62_ok (rx_okcons rn_n63_ok (rx_okcons rn_n64_ok (rx_okcons rn_n65_ok (rx_okcons rn_n66_ok (rx_okcons rn_n67_ok (rx_okcons rn_n68_ok (rx_okcons rn_n01_ok (rx_okcons rc_m07_ok (rx_okcons rc_m05_ok (rx_oknil))))))))))))) rfl rfl (by decide +kernel)
