
/-! LostKeysModel.readAnd()Z -/
noncomputable def rn_n68_h : List rx_C := [
  rc_c515,
  rc_c31,
  rc_c516,
  .inr (1000, 940, [], .inr (.inl (255, 0))),
  .inr (1003, 25, [], .inr (.inl (18446744073709551615, (-9223372036854775808))))]
noncomputable def rn_n68_o : List (rx_T × (List (Nat × Nat) × List (Nat × Nat))) := [((((rx_apR rc_b217 [(0, 4)] (fun x => x)), rc_f71), [
  rc_c517,
  rc_c32,
  rc_c518,
  .inr (1000, 940, [], .inr (.inl (255, 0))),
  .inr (1003, 25, [], .inr (.inl (18446744073709551615, (-9223372036854775808))))], (0, 0), 0, [], [.inl (0, 0)]), ([], [(1, 10)]))]
noncomputable def rn_n68_k : rx_KE := ((220, 24), ([(0, 0), (1, 14), (1, 45), (1, 1), (1, 19)], rc_p89, [(1, 15), (1, 16), (1, 17), (1, 18), (1, 20), (1, 21), (1, 22), (1, 23), (1, 27), (1, 28), (1, 29), (1, 32), (1, 33), (1, 38), (1, 41), (1, 42)]), ((rc_b217, rc_f70), rn_n68_h, [.inr (.inr (.inl (some 0)))]), rn_n68_o.map Prod.fst)
noncomputable def rn_n68_r : List rx_Cu := []
theorem rn_n68_ok : rx_OK rn_n68_k := rs_ok_of (KT := [rn_n18_k, rn_n01_k, rc_m07_k, rc_m05_k]) (fuel := 20000) (M0 := rx_m220) (fl := []) (m0 := ([], 0)) (rest := rn_n68_r) (outs := rn_n68_o) (rx_okcons rn_n18_ok (rx_okcons rn_n01_ok (rx_okcons rc_m07_ok (rx_okcons rc_m05_ok (rx_oknil))))) rfl rfl (by decide +kernel)

/-! LostKeysModel.readOr()Z -/
noncomputable def rn_n78_h : List rx_C := [
  rc_c515,
  rc_c31,
  rc_c516,
  .inr (1000, 940, [], .inr (.inl (255, 0))),
  .inr (1003, 25, [], .inr (.inl (18446744073709551615, (-9223372036854775808))))]
noncomputable def rn_n78_o : List (rx_T × (List (Nat × Nat) × List (Nat × Nat))) := [((((rx_apR rc_b217 [(0, 4)] (fun x => x)), rc_f71), [
  rc_c517,
  rc_c32,
  rc_c518,
  .inr (1000, 940, [], .inr (.inl (255, 0))),
  .inr (1003, 25, [], .inr (.inl (18446744073709551615, (-9223372036854775808))))], (0, 0), 0, [], [.inl (0, 0)]), ([], [(1, 10)]))]
noncomputable def rn_n78_k : rx_KE := ((239, 30), ([(0, 0), (1, 14), (1, 45), (1, 1), (1, 19)], rc_p89, [(1, 15), (1, 16), (1, 17), (1, 18), (1, 20), (1, 21), (1, 22), (1, 23), (1, 27), (1, 28), (1, 29), (1, 32), (1, 33), (1, 38), (1, 41), (1, 42)]), ((rc_b217, rc_f70), rn_n78_h, [.inr (.inr (.inl (some 0)))]), rn_n78_o.map Prod.fst)
noncomputable def rn_n78_r : List rx_Cu := []
theorem rn_n78_ok : rx_OK rn_n78_k := rs_ok_of (KT := [rn_n68_k, rn_n01_k, rc_m07_k, rc_m05_k]) (fuel := 20000) (M0 := rx_m239) (fl := []) (m0 := ([], 0)) (rest := rn_n78_r) (outs := rn_n78_o) (rx_okcons rn_n68_ok (rx_okcons rn_n01_ok (rx_okcons rc_m07_ok (rx_okcons rc_m05_ok (rx_oknil))))) rfl rfl (by decide +kernel)

/-! LostKeysModel.readBracket()Z -/
noncomputable def rn_n38_h : List rx_C := [
  rc_c515,
  rc_c31,
  rc_c516,
  .inr (1000, 940, [], .inr (.inl (255, 0))),
  .inr (1003, 25, [], .inr (.inl (18446744073709551615, (-9223372036854775808))))]
noncomputable def rn_n38_o : List (rx_T × (List (Nat × Nat) × List (Nat × Nat))) := [((((rx_apR rc_b217 [(0, 4)] (fun x => x)), rc_f71), [
  rc_c517,
  rc_c32,
  rc_c518,
  .inr (1000, 940, [], .inr (.inl (255, 0))),
  .inr (1003, 25, [], .inr (.inl (18446744073709551615, (-9223372036854775808))))], (0, 0), 0, [], [.inl (0, 0)]), ([], [(1, 10)]))]
noncomputable def rn_n38_k : rx_KE := ((222, 36), ([(0, 0), (1, 14), (1, 45), (1, 1), (1, 19)], rc_p89, [(1, 15), (1, 16), (1, 17), (1, 18), (1, 20), (1, 21), (1, 22), (1, 23), (1, 27), (1, 28), (1, 29), (1, 32), (1, 33), (1, 38), (1, 41), (1, 42)]), ((rc_b217, rc_f70), rn_n38_h, [.inr (.inr (.inl (some 0)))]), rn_n38_o.map Prod.fst)
noncomputable def rn_n38_r : List rx_Cu := []
theorem rn_n38_ok : rx_OK rn_n38_k := rs_ok_of (KT := [rn_n78_k, rc_m08_k, rc_m05_k]) (fuel := 20000) (M0 := rx_m222) (fl := []) (m0 := ([], 0)) (rest := rn_n38_r) (outs := rn_n38_o) (rx_okcons rn_n78_ok (rx_okcons rc_m08_ok (rx_okcons rc_m05_ok (rx_oknil)))) rfl rfl (by decide +kernel)
