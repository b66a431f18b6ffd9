/-! printed by a program: words of classes and methods -/
theorem rx_wc0 : Cond.instantiable RX0 6 ∈ rx_Gd ∧ Cond.initialized RX0 ∈ rx_Gd := ⟨rx_mem 475 (by decide +kernel) rfl, rx_mem 140 (by decide +kernel) rfl⟩
theorem rx_wc1 : Cond.instantiable RX1 3 ∈ rx_Gd ∧ Cond.initialized RX1 ∈ rx_Gd := ⟨rx_mem 501 (by decide +kernel) rfl, rx_mem 141 (by decide +kernel) rfl⟩
theorem rx_wc2 : Cond.instantiable RX2 4 ∈ rx_Gd ∧ Cond.initialized RX2 ∈ rx_Gd := ⟨rx_mem 569 (by decide +kernel) rfl, rx_mem 144 (by decide +kernel) rfl⟩
theorem rx_wc3 : Cond.instantiable RX3 7 ∈ rx_Gd ∧ Cond.initialized RX3 ∈ rx_Gd := ⟨rx_mem 523 (by decide +kernel) rfl, rx_mem 142 (by decide +kernel) rfl⟩
theorem rx_wc4 : Cond.instantiable RX4 6 ∈ rx_Gd ∧ Cond.initialized RX4 ∈ rx_Gd := ⟨rx_mem 449 (by decide +kernel) rfl, rx_mem 139 (by decide +kernel) rfl⟩
theorem rx_wc5 : Cond.instantiable RX5 13 ∈ rx_Gd ∧ Cond.initialized RX5 ∈ rx_Gd := ⟨rx_mem 378 (by decide +kernel) rfl, rx_mem 138 (by decide +kernel) rfl⟩
theorem rx_wc6 : Cond.instantiable RX6 2 ∈ rx_Gd ∧ Cond.initialized RX6 ∈ rx_Gd := ⟨rx_mem 555 (by decide +kernel) rfl, rx_mem 143 (by decide +kernel) rfl⟩
theorem rx_wc7 : Cond.instantiable RX7 14 ∈ rx_Gd ∧ Cond.initialized RX7 ∈ rx_Gd := ⟨rx_mem 161 (by decide +kernel) rfl, rx_mem 130 (by decide +kernel) rfl⟩
theorem rx_wc8 : Cond.instantiable RX8 18 ∈ rx_Gd ∧ Cond.initialized RX8 ∈ rx_Gd := ⟨rx_mem 273 (by decide +kernel) rfl, rx_mem 135 (by decide +kernel) rfl⟩
theorem rx_wc9 : Cond.instantiable RX9 18 ∈ rx_Gd ∧ Cond.initialized RX9 ∈ rx_Gd := ⟨rx_mem 153 (by decide +kernel) rfl, rx_mem 129 (by decide +kernel) rfl⟩
theorem rx_wc10 : Cond.instantiable RX10 50 ∈ rx_Gd ∧ Cond.initialized RX10 ∈ rx_Gd := ⟨rx_mem 1323 (by decide +kernel) rfl, rx_mem 145 (by decide +kernel) rfl⟩
theorem rx_wok : rx_Wok := by
  refine ⟨fun ci r hr => ?_, ⟨rx_mem 376 (by decide +kernel) rfl, rx_mem 270 (by decide +kernel) rfl, rx_mem 1489 (by decide +kernel) rfl, rx_mem 271 (by decide +kernel) rfl⟩, ⟨rx_mem 158 (by decide +kernel) rfl, rx_mem 159 (by decide +kernel) rfl⟩, ⟨rx_mem 773 (by decide +kernel) rfl, rx_mem 772 (by decide +kernel) rfl, rx_mem 146 (by decide +kernel) rfl⟩, rx_mem 680 (by decide +kernel) rfl, rx_mem 137 (by decide +kernel) rfl, rx_mem 681 (by decide +kernel) rfl, ⟨rx_mem 925 (by decide +kernel) rfl, rx_mem 926 (by decide +kernel) rfl⟩, ⟨rx_mem 290 (by decide +kernel) rfl, rx_mem 291 (by decide +kernel) rfl⟩⟩
  match ci, hr with
  | 0, hr => cases hr; exact rx_wc0
  | 1, hr => cases hr; exact rx_wc1
  | 2, hr => cases hr; exact rx_wc2
  | 3, hr => cases hr; exact rx_wc3
  | 4, hr => cases hr; exact rx_wc4
  | 5, hr => cases hr; exact rx_wc5
  | 6, hr => cases hr; exact rx_wc6
  | 7, hr => cases hr; exact rx_wc7
  | 8, hr => cases hr; exact rx_wc8
  | 9, hr => cases hr; exact rx_wc9
  | 10, hr => cases hr; exact rx_wc10
  | k + 11, hr => simp [vwCl] at hr
theorem rx_cw0 : ∀ w ∈ u_ws RX0 TX0 6, w ∈ rx_Gd := by
  have h : u_ws RX0 TX0 6 = [487, 489, 491, 493, 495, 497].filterMap (fun i => lw_tbl[i]?) := by decide +kernel
  have hg : (u_ws RX0 TX0 6).all goodWord = true := by decide +kernel
  intro w hw
  have h1 := List.all_eq_true.mp hg w hw
  rw [h] at hw
  obtain ⟨i, -, hi⟩ := List.mem_filterMap.mp hw
  exact rx_mem i hi h1
theorem rx_cw1 : ∀ w ∈ u_ws RX1 TX1 3, w ∈ rx_Gd := by
  have h : u_ws RX1 TX1 3 = [513, 515, 517].filterMap (fun i => lw_tbl[i]?) := by decide +kernel
  have hg : (u_ws RX1 TX1 3).all goodWord = true := by decide +kernel
  intro w hw
  have h1 := List.all_eq_true.mp hg w hw
  rw [h] at hw
  obtain ⟨i, -, hi⟩ := List.mem_filterMap.mp hw
  exact rx_mem i hi h1
theorem rx_cw2 : ∀ w ∈ u_ws RX2 TX2 4, w ∈ rx_Gd := by
  have h : u_ws RX2 TX2 4 = [587, 589, 591, 593].filterMap (fun i => lw_tbl[i]?) := by decide +kernel
  have hg : (u_ws RX2 TX2 4).all goodWord = true := by decide +kernel
  intro w hw
  have h1 := List.all_eq_true.mp hg w hw
  rw [h] at hw
  obtain ⟨i, -, hi⟩ := List.mem_filterMap.mp hw
  exact rx_mem i hi h1
theorem rx_cw3 : ∀ w ∈ u_ws RX3 TX3 7, w ∈ rx_Gd := by
  have h : u_ws RX3 TX3 7 = [539, 541, 543, 545, 547, 549, 551].filterMap (fun i => lw_tbl[i]?) := by decide +kernel
  have hg : (u_ws RX3 TX3 7).all goodWord = true := by decide +kernel
  intro w hw
  have h1 := List.all_eq_true.mp hg w hw
  rw [h] at hw
  obtain ⟨i, -, hi⟩ := List.mem_filterMap.mp hw
  exact rx_mem i hi h1
theorem rx_cw4 : ∀ w ∈ u_ws RX4 TX4 6, w ∈ rx_Gd := by
  have h : u_ws RX4 TX4 6 = [461, 463, 465, 467, 469, 471].filterMap (fun i => lw_tbl[i]?) := by decide +kernel
  have hg : (u_ws RX4 TX4 6).all goodWord = true := by decide +kernel
  intro w hw
  have h1 := List.all_eq_true.mp hg w hw
  rw [h] at hw
  obtain ⟨i, -, hi⟩ := List.mem_filterMap.mp hw
  exact rx_mem i hi h1
theorem rx_cw5 : ∀ w ∈ u_ws RX5 TX5 13, w ∈ rx_Gd := by
  have h : u_ws RX5 TX5 13 = [421, 423, 425, 427, 429, 431, 433, 435, 437, 439, 441, 443, 445].filterMap (fun i => lw_tbl[i]?) := by decide +kernel
  have hg : (u_ws RX5 TX5 13).all goodWord = true := by decide +kernel
  intro w hw
  have h1 := List.all_eq_true.mp hg w hw
  rw [h] at hw
  obtain ⟨i, -, hi⟩ := List.mem_filterMap.mp hw
  exact rx_mem i hi h1
theorem rx_cw6 : ∀ w ∈ u_ws RX6 TX6 2, w ∈ rx_Gd := by
  have h : u_ws RX6 TX6 2 = [564, 566].filterMap (fun i => lw_tbl[i]?) := by decide +kernel
  have hg : (u_ws RX6 TX6 2).all goodWord = true := by decide +kernel
  intro w hw
  have h1 := List.all_eq_true.mp hg w hw
  rw [h] at hw
  obtain ⟨i, -, hi⟩ := List.mem_filterMap.mp hw
  exact rx_mem i hi h1
theorem rx_cw7 : ∀ w ∈ u_ws RX7 TX7 14, w ∈ rx_Gd := by
  have h : u_ws RX7 TX7 14 = [241, 243, 245, 247, 249, 251, 253, 255, 257, 259, 261, 263, 265, 267].filterMap (fun i => lw_tbl[i]?) := by decide +kernel
  have hg : (u_ws RX7 TX7 14).all goodWord = true := by decide +kernel
  intro w hw
  have h1 := List.all_eq_true.mp hg w hw
  rw [h] at hw
  obtain ⟨i, -, hi⟩ := List.mem_filterMap.mp hw
  exact rx_mem i hi h1
theorem rx_cw8 : ∀ w ∈ u_ws RX8 TX8 18, w ∈ rx_Gd := by
  have h : u_ws RX8 TX8 18 = [339, 341, 343, 345, 347, 349, 351, 353, 355, 357, 359, 361, 363, 365, 367, 369, 371, 373].filterMap (fun i => lw_tbl[i]?) := by decide +kernel
  have hg : (u_ws RX8 TX8 18).all goodWord = true := by decide +kernel
  intro w hw
  have h1 := List.all_eq_true.mp hg w hw
  rw [h] at hw
  obtain ⟨i, -, hi⟩ := List.mem_filterMap.mp hw
  exact rx_mem i hi h1
theorem rx_cw9 : ∀ w ∈ u_ws RX9 TX9 18, w ∈ rx_Gd := by
  have h : u_ws RX9 TX9 18 = [614, 616, 618, 620, 622, 624, 626, 628, 630, 632, 634, 636, 638, 640, 642, 644, 646, 648].filterMap (fun i => lw_tbl[i]?) := by decide +kernel
  have hg : (u_ws RX9 TX9 18).all goodWord = true := by decide +kernel
  intro w hw
  have h1 := List.all_eq_true.mp hg w hw
  rw [h] at hw
  obtain ⟨i, -, hi⟩ := List.mem_filterMap.mp hw
  exact rx_mem i hi h1
theorem rx_cw10 : ∀ w ∈ u_ws RX10 TX10 50, w ∈ rx_Gd := by
  have h : u_ws RX10 TX10 50 = [1388, 1390, 1392, 1394, 1396, 1398, 1400, 1402, 1404, 1406, 1408, 1410, 1412, 1414, 1416, 1418, 1420, 1422, 1424, 1426, 1428, 1430, 1432, 1434, 1436, 1438, 1440, 1442, 1444, 1446, 1448, 1450, 1452, 1454, 1456, 1458, 1460, 1462, 1464, 1466, 1468, 1470, 1472, 1474, 1476, 1478, 1480, 1482, 1484, 1486].filterMap (fun i => lw_tbl[i]?) := by decide +kernel
  have hg : (u_ws RX10 TX10 50).all goodWord = true := by decide +kernel
  intro w hw
  have h1 := List.all_eq_true.mp hg w hw
  rw [h] at hw
  obtain ⟨i, -, hi⟩ := List.mem_filterMap.mp hw
  exact rx_mem i hi h1
theorem rx_clok : rx_Clok rx_NW := by
  intro ci r hr
  match ci, hr with
  | 0, hr => cases hr; exact ⟨rx_cw0, ⟨tyX0, tyX0_ok, by decide +kernel⟩, nmX0, rfl, rfl⟩
  | 1, hr => cases hr; exact ⟨rx_cw1, ⟨tyX1, tyX1_ok, by decide +kernel⟩, nmX1, rfl, rfl⟩
  | 2, hr => cases hr; exact ⟨rx_cw2, ⟨tyX2, tyX2_ok, by decide +kernel⟩, nmX2, rfl, rfl⟩
  | 3, hr => cases hr; exact ⟨rx_cw3, ⟨tyX3, tyX3_ok, by decide +kernel⟩, nmX3, rfl, rfl⟩
  | 4, hr => cases hr; exact ⟨rx_cw4, ⟨tyX4, tyX4_ok, by decide +kernel⟩, nmX4, rfl, rfl⟩
  | 5, hr => cases hr; exact ⟨rx_cw5, ⟨tyX5, tyX5_ok, by decide +kernel⟩, nmX5, rfl, rfl⟩
  | 6, hr => cases hr; exact ⟨rx_cw6, ⟨tyX6, tyX6_ok, by decide +kernel⟩, nmX6, rfl, rfl⟩
  | 7, hr => cases hr; exact ⟨rx_cw7, ⟨tyX7, tyX7_ok, by decide +kernel⟩, nmX7, rfl, rfl⟩
  | 8, hr => cases hr; exact ⟨rx_cw8, ⟨tyX8, tyX8_ok, by decide +kernel⟩, nmX8, rfl, rfl⟩
  | 9, hr => cases hr; exact ⟨rx_cw9, ⟨tyX9, tyX9_ok, by decide +kernel⟩, nmX9, rfl, rfl⟩
  | 10, hr => cases hr; exact ⟨rx_cw10, ⟨tyX10, tyX10_ok, by decide +kernel⟩, nmX10, rfl, rfl⟩
  | k + 11, hr => simp [vwCl] at hr
set_option maxRecDepth 100000 in
theorem rx_mv0 : rx_okM rx_m0 := ⟨rx_mem 156 rfl rfl, rx_mem 129 (by decide +kernel) rfl, ⟨by decide +kernel, by decide +kernel⟩, Nat.le_of_ble_eq_true rfl, by decide +kernel, Or.inr (Or.inr ⟨rfl, ⟨rfl, rx_mem 155 (by decide +kernel) rfl, rfl⟩, by decide +kernel⟩)⟩
set_option maxRecDepth 100000 in
theorem rx_mv1 : rx_okM rx_m1 := ⟨rx_mem 805 rfl rfl, rx_mem 129 (by decide +kernel) rfl, ⟨by decide +kernel, by decide +kernel⟩, Nat.le_of_ble_eq_true rfl, by decide +kernel, Or.inr (Or.inl ⟨rfl, ⟨rx_mem 804 (by decide +kernel) rfl, rx_mem 13 (by decide +kernel) rfl⟩, by decide +kernel⟩)⟩
set_option maxRecDepth 100000 in
theorem rx_mv2 : rx_okM rx_m2 := ⟨rx_mem 1114 rfl rfl, rx_mem 129 (by decide +kernel) rfl, ⟨by decide +kernel, by decide +kernel⟩, Nat.le_of_ble_eq_true rfl, by decide +kernel, Or.inr (Or.inl ⟨rfl, ⟨rx_mem 1112 (by decide +kernel) rfl, rx_mem 1113 (by decide +kernel) rfl⟩, by decide +kernel⟩)⟩
set_option maxRecDepth 100000 in
theorem rx_mv3 : rx_okM rx_m3 := ⟨rx_mem 1069 rfl rfl, rx_mem 129 (by decide +kernel) rfl, ⟨by decide +kernel, by decide +kernel⟩, Nat.le_of_ble_eq_true rfl, by decide +kernel, Or.inr (Or.inl ⟨rfl, ⟨rx_mem 1067 (by decide +kernel) rfl, rx_mem 1068 (by decide +kernel) rfl⟩, by decide +kernel⟩)⟩
set_option maxRecDepth 100000 in
theorem rx_mv4 : rx_okM rx_m4 := ⟨rx_mem 1237 rfl rfl, rx_mem 129 (by decide +kernel) rfl, ⟨by decide +kernel, by decide +kernel⟩, Nat.le_of_ble_eq_true rfl, by decide +kernel, Or.inr (Or.inl ⟨rfl, ⟨rx_mem 1235 (by decide +kernel) rfl, rx_mem 1236 (by decide +kernel) rfl⟩, by decide +kernel⟩)⟩
set_option maxRecDepth 100000 in
theorem rx_mv5 : rx_okM rx_m5 := ⟨rx_mem 856 rfl rfl, rx_mem 129 (by decide +kernel) rfl, ⟨by decide +kernel, by decide +kernel⟩, Nat.le_of_ble_eq_true rfl, by decide +kernel, Or.inr (Or.inl ⟨rfl, ⟨rx_mem 854 (by decide +kernel) rfl, rx_mem 855 (by decide +kernel) rfl⟩, by decide +kernel⟩)⟩
set_option maxRecDepth 100000 in
theorem rx_mv6 : rx_okM rx_m6 := ⟨rx_mem 1073 rfl rfl, rx_mem 129 (by decide +kernel) rfl, ⟨by decide +kernel, by decide +kernel⟩, Nat.le_of_ble_eq_true rfl, by decide +kernel, Or.inr (Or.inl ⟨rfl, ⟨rx_mem 1071 (by decide +kernel) rfl, rx_mem 1072 (by decide +kernel) rfl⟩, by decide +kernel⟩)⟩
set_option maxRecDepth 100000 in
theorem rx_mv7 : rx_okM rx_m7 := ⟨rx_mem 801 rfl rfl, rx_mem 129 (by decide +kernel) rfl, ⟨by decide +kernel, by decide +kernel⟩, Nat.le_of_ble_eq_true rfl, by decide +kernel, Or.inr (Or.inl ⟨rfl, ⟨rx_mem 799 (by decide +kernel) rfl, rx_mem 800 (by decide +kernel) rfl⟩, by decide +kernel⟩)⟩
set_option maxRecDepth 100000 in
theorem rx_mv8 : rx_okM rx_m8 := ⟨rx_mem 662 rfl rfl, rx_mem 129 (by decide +kernel) rfl, ⟨by decide +kernel, by decide +kernel⟩, Nat.le_of_ble_eq_true rfl, by decide +kernel, Or.inr (Or.inl ⟨rfl, ⟨rx_mem 660 (by decide +kernel) rfl, rx_mem 661 (by decide +kernel) rfl⟩, by decide +kernel⟩)⟩
set_option maxRecDepth 100000 in
theorem rx_mv9 : rx_okM rx_m9 := ⟨rx_mem 766 rfl rfl, rx_mem 129 (by decide +kernel) rfl, ⟨by decide +kernel, by decide +kernel⟩, Nat.le_of_ble_eq_true rfl, by decide +kernel, Or.inr (Or.inl ⟨rfl, ⟨rx_mem 765 (by decide +kernel) rfl, rx_mem 12 (by decide +kernel) rfl⟩, by decide +kernel⟩)⟩
set_option maxRecDepth 100000 in
theorem rx_mv10 : rx_okM rx_m10 := ⟨rx_mem 781 rfl rfl, rx_mem 129 (by decide +kernel) rfl, ⟨by decide +kernel, by decide +kernel⟩, Nat.le_of_ble_eq_true rfl, by decide +kernel, Or.inr (Or.inl ⟨rfl, ⟨rx_mem 779 (by decide +kernel) rfl, rx_mem 780 (by decide +kernel) rfl⟩, by decide +kernel⟩)⟩
set_option maxRecDepth 100000 in
theorem rx_mv11 : rx_okM rx_m11 := ⟨rx_mem 654 rfl rfl, rx_mem 129 (by decide +kernel) rfl, ⟨by decide +kernel, by decide +kernel⟩, Nat.le_of_ble_eq_true rfl, by decide +kernel, Or.inr (Or.inl ⟨rfl, ⟨rx_mem 652 (by decide +kernel) rfl, rx_mem 653 (by decide +kernel) rfl⟩, by decide +kernel⟩)⟩
set_option maxRecDepth 100000 in
theorem rx_mv12 : rx_okM rx_m12 := ⟨rx_mem 913 rfl rfl, rx_mem 129 (by decide +kernel) rfl, ⟨by decide +kernel, by decide +kernel⟩, Nat.le_of_ble_eq_true rfl, by decide +kernel, Or.inr (Or.inl ⟨rfl, ⟨rx_mem 911 (by decide +kernel) rfl, rx_mem 912 (by decide +kernel) rfl⟩, by decide +kernel⟩)⟩
set_option maxRecDepth 100000 in
theorem rx_mv13 : rx_okM rx_m13 := ⟨rx_mem 993 rfl rfl, rx_mem 129 (by decide +kernel) rfl, ⟨by decide +kernel, by decide +kernel⟩, Nat.le_of_ble_eq_true rfl, by decide +kernel, Or.inr (Or.inl ⟨rfl, ⟨rx_mem 991 (by decide +kernel) rfl, rx_mem 992 (by decide +kernel) rfl⟩, by decide +kernel⟩)⟩
set_option maxRecDepth 100000 in
theorem rx_mv14 : rx_okM rx_m14 := ⟨rx_mem 1219 rfl rfl, rx_mem 129 (by decide +kernel) rfl, ⟨by decide +kernel, by decide +kernel⟩, Nat.le_of_ble_eq_true rfl, by decide +kernel, Or.inr (Or.inl ⟨rfl, ⟨rx_mem 1217 (by decide +kernel) rfl, rx_mem 1218 (by decide +kernel) rfl⟩, by decide +kernel⟩)⟩
set_option maxRecDepth 100000 in
theorem rx_mv15 : rx_okM rx_m15 := ⟨rx_mem 1001 rfl rfl, rx_mem 129 (by decide +kernel) rfl, ⟨by decide +kernel, by decide +kernel⟩, Nat.le_of_ble_eq_true rfl, by decide +kernel, Or.inr (Or.inl ⟨rfl, ⟨rx_mem 1000 (by decide +kernel) rfl, rx_mem 25 (by decide +kernel) rfl⟩, by decide +kernel⟩)⟩
set_option maxRecDepth 100000 in
theorem rx_mv16 : rx_okM rx_m16 := ⟨rx_mem 785 rfl rfl, rx_mem 129 (by decide +kernel) rfl, ⟨by decide +kernel, by decide +kernel⟩, Nat.le_of_ble_eq_true rfl, by decide +kernel, Or.inr (Or.inl ⟨rfl, ⟨rx_mem 783 (by decide +kernel) rfl, rx_mem 784 (by decide +kernel) rfl⟩, by decide +kernel⟩)⟩
set_option maxRecDepth 100000 in
theorem rx_mv17 : rx_okM rx_m17 := ⟨rx_mem 918 rfl rfl, rx_mem 129 (by decide +kernel) rfl, ⟨by decide +kernel, by decide +kernel⟩, Nat.le_of_ble_eq_true rfl, by decide +kernel, Or.inr (Or.inl ⟨rfl, ⟨rx_mem 916 (by decide +kernel) rfl, rx_mem 917 (by decide +kernel) rfl⟩, by decide +kernel⟩)⟩
set_option maxRecDepth 100000 in
theorem rx_mv18 : rx_okM rx_m18 := ⟨rx_mem 930 rfl rfl, rx_mem 129 (by decide +kernel) rfl, ⟨by decide +kernel, by decide +kernel⟩, Nat.le_of_ble_eq_true rfl, by decide +kernel, Or.inr (Or.inl ⟨rfl, ⟨rx_mem 928 (by decide +kernel) rfl, rx_mem 929 (by decide +kernel) rfl⟩, by decide +kernel⟩)⟩
set_option maxRecDepth 100000 in
theorem rx_mv19 : rx_okM rx_m19 := ⟨rx_mem 1060 rfl rfl, rx_mem 129 (by decide +kernel) rfl, ⟨by decide +kernel, by decide +kernel⟩, Nat.le_of_ble_eq_true rfl, by decide +kernel, Or.inl ⟨rfl, rx_mem 1059 (by decide +kernel) rfl, by decide +kernel⟩⟩
set_option maxRecDepth 100000 in
theorem rx_mv20 : rx_okM rx_m20 := ⟨rx_mem 934 rfl rfl, rx_mem 129 (by decide +kernel) rfl, ⟨by decide +kernel, by decide +kernel⟩, Nat.le_of_ble_eq_true rfl, by decide +kernel, Or.inr (Or.inl ⟨rfl, ⟨rx_mem 932 (by decide +kernel) rfl, rx_mem 933 (by decide +kernel) rfl⟩, by decide +kernel⟩)⟩
set_option maxRecDepth 100000 in
theorem rx_mv21 : rx_okM rx_m21 := ⟨rx_mem 957 rfl rfl, rx_mem 129 (by decide +kernel) rfl, ⟨by decide +kernel, by decide +kernel⟩, Nat.le_of_ble_eq_true rfl, by decide +kernel, Or.inr (Or.inl ⟨rfl, ⟨rx_mem 955 (by decide +kernel) rfl, rx_mem 956 (by decide +kernel) rfl⟩, by decide +kernel⟩)⟩
set_option maxRecDepth 100000 in
theorem rx_mv22 : rx_okM rx_m22 := ⟨rx_mem 898 rfl rfl, rx_mem 129 (by decide +kernel) rfl, ⟨by decide +kernel, by decide +kernel⟩, Nat.le_of_ble_eq_true rfl, by decide +kernel, Or.inr (Or.inl ⟨rfl, ⟨rx_mem 896 (by decide +kernel) rfl, rx_mem 897 (by decide +kernel) rfl⟩, by decide +kernel⟩)⟩
set_option maxRecDepth 100000 in
theorem rx_mv23 : rx_okM rx_m23 := ⟨rx_mem 793 rfl rfl, rx_mem 129 (by decide +kernel) rfl, ⟨by decide +kernel, by decide +kernel⟩, Nat.le_of_ble_eq_true rfl, by decide +kernel, Or.inr (Or.inl ⟨rfl, ⟨rx_mem 791 (by decide +kernel) rfl, rx_mem 792 (by decide +kernel) rfl⟩, by decide +kernel⟩)⟩
set_option maxRecDepth 100000 in
theorem rx_mv24 : rx_okM rx_m24 := ⟨rx_mem 1110 rfl rfl, rx_mem 129 (by decide +kernel) rfl, ⟨by decide +kernel, by decide +kernel⟩, Nat.le_of_ble_eq_true rfl, by decide +kernel, Or.inr (Or.inl ⟨rfl, ⟨rx_mem 1108 (by decide +kernel) rfl, rx_mem 1109 (by decide +kernel) rfl⟩, by decide +kernel⟩)⟩
set_option maxRecDepth 100000 in
theorem rx_mv25 : rx_okM rx_m25 := ⟨rx_mem 903 rfl rfl, rx_mem 129 (by decide +kernel) rfl, ⟨by decide +kernel, by decide +kernel⟩, Nat.le_of_ble_eq_true rfl, by decide +kernel, Or.inr (Or.inl ⟨rfl, ⟨rx_mem 901 (by decide +kernel) rfl, rx_mem 902 (by decide +kernel) rfl⟩, by decide +kernel⟩)⟩
set_option maxRecDepth 100000 in
theorem rx_mv26 : rx_okM rx_m26 := ⟨rx_mem 965 rfl rfl, rx_mem 129 (by decide +kernel) rfl, ⟨by decide +kernel, by decide +kernel⟩, Nat.le_of_ble_eq_true rfl, by decide +kernel, Or.inr (Or.inl ⟨rfl, ⟨rx_mem 964 (by decide +kernel) rfl, rx_mem 22 (by decide +kernel) rfl⟩, by decide +kernel⟩)⟩
set_option maxRecDepth 100000 in
theorem rx_mv27 : rx_okM rx_m27 := ⟨rx_mem 961 rfl rfl, rx_mem 129 (by decide +kernel) rfl, ⟨by decide +kernel, by decide +kernel⟩, Nat.le_of_ble_eq_true rfl, by decide +kernel, Or.inr (Or.inl ⟨rfl, ⟨rx_mem 959 (by decide +kernel) rfl, rx_mem 960 (by decide +kernel) rfl⟩, by decide +kernel⟩)⟩
set_option maxRecDepth 100000 in
theorem rx_mv28 : rx_okM rx_m28 := ⟨rx_mem 844 rfl rfl, rx_mem 129 (by decide +kernel) rfl, ⟨by decide +kernel, by decide +kernel⟩, Nat.le_of_ble_eq_true rfl, by decide +kernel, Or.inr (Or.inl ⟨rfl, ⟨rx_mem 842 (by decide +kernel) rfl, rx_mem 843 (by decide +kernel) rfl⟩, by decide +kernel⟩)⟩
set_option maxRecDepth 100000 in
theorem rx_mv29 : rx_okM rx_m29 := ⟨rx_mem 1233 rfl rfl, rx_mem 129 (by decide +kernel) rfl, ⟨by decide +kernel, by decide +kernel⟩, Nat.le_of_ble_eq_true rfl, by decide +kernel, Or.inr (Or.inl ⟨rfl, ⟨rx_mem 1231 (by decide +kernel) rfl, rx_mem 1232 (by decide +kernel) rfl⟩, by decide +kernel⟩)⟩
set_option maxRecDepth 100000 in
theorem rx_mv30 : rx_okM rx_m30 := ⟨rx_mem 1198 rfl rfl, rx_mem 129 (by decide +kernel) rfl, ⟨by decide +kernel, by decide +kernel⟩, Nat.le_of_ble_eq_true rfl, by decide +kernel, Or.inr (Or.inl ⟨rfl, ⟨rx_mem 1196 (by decide +kernel) rfl, rx_mem 1197 (by decide +kernel) rfl⟩, by decide +kernel⟩)⟩
set_option maxRecDepth 100000 in
theorem rx_mv31 : rx_okM rx_m31 := ⟨rx_mem 1163 rfl rfl, rx_mem 129 (by decide +kernel) rfl, ⟨by decide +kernel, by decide +kernel⟩, Nat.le_of_ble_eq_true rfl, by decide +kernel, Or.inr (Or.inl ⟨rfl, ⟨rx_mem 1161 (by decide +kernel) rfl, rx_mem 1162 (by decide +kernel) rfl⟩, by decide +kernel⟩)⟩
set_option maxRecDepth 100000 in
theorem rx_mv32 : rx_okM rx_m32 := ⟨rx_mem 1033 rfl rfl, rx_mem 129 (by decide +kernel) rfl, ⟨by decide +kernel, by decide +kernel⟩, Nat.le_of_ble_eq_true rfl, by decide +kernel, Or.inr (Or.inl ⟨rfl, ⟨rx_mem 1031 (by decide +kernel) rfl, rx_mem 1032 (by decide +kernel) rfl⟩, by decide +kernel⟩)⟩
set_option maxRecDepth 100000 in
theorem rx_mv33 : rx_okM rx_m33 := ⟨rx_mem 1021 rfl rfl, rx_mem 129 (by decide +kernel) rfl, ⟨by decide +kernel, by decide +kernel⟩, Nat.le_of_ble_eq_true rfl, by decide +kernel, Or.inr (Or.inl ⟨rfl, ⟨rx_mem 1019 (by decide +kernel) rfl, rx_mem 1020 (by decide +kernel) rfl⟩, by decide +kernel⟩)⟩
set_option maxRecDepth 100000 in
theorem rx_mv34 : rx_okM rx_m34 := ⟨rx_mem 1159 rfl rfl, rx_mem 129 (by decide +kernel) rfl, ⟨by decide +kernel, by decide +kernel⟩, Nat.le_of_ble_eq_true rfl, by decide +kernel, Or.inr (Or.inl ⟨rfl, ⟨rx_mem 1157 (by decide +kernel) rfl, rx_mem 1158 (by decide +kernel) rfl⟩, by decide +kernel⟩)⟩
set_option maxRecDepth 100000 in
theorem rx_mv35 : rx_okM rx_m35 := ⟨rx_mem 666 rfl rfl, rx_mem 129 (by decide +kernel) rfl, ⟨by decide +kernel, by decide +kernel⟩, Nat.le_of_ble_eq_true rfl, by decide +kernel, Or.inr (Or.inl ⟨rfl, ⟨rx_mem 664 (by decide +kernel) rfl, rx_mem 665 (by decide +kernel) rfl⟩, by decide +kernel⟩)⟩
set_option maxRecDepth 100000 in
theorem rx_mv36 : rx_okM rx_m36 := ⟨rx_mem 848 rfl rfl, rx_mem 129 (by decide +kernel) rfl, ⟨by decide +kernel, by decide +kernel⟩, Nat.le_of_ble_eq_true rfl, by decide +kernel, Or.inr (Or.inl ⟨rfl, ⟨rx_mem 846 (by decide +kernel) rfl, rx_mem 847 (by decide +kernel) rfl⟩, by decide +kernel⟩)⟩
set_option maxRecDepth 100000 in
theorem rx_mv37 : rx_okM rx_m37 := ⟨rx_mem 1029 rfl rfl, rx_mem 129 (by decide +kernel) rfl, ⟨by decide +kernel, by decide +kernel⟩, Nat.le_of_ble_eq_true rfl, by decide +kernel, Or.inr (Or.inl ⟨rfl, ⟨rx_mem 1027 (by decide +kernel) rfl, rx_mem 1028 (by decide +kernel) rfl⟩, by decide +kernel⟩)⟩
set_option maxRecDepth 100000 in
theorem rx_mv38 : rx_okM rx_m38 := ⟨rx_mem 1025 rfl rfl, rx_mem 129 (by decide +kernel) rfl, ⟨by decide +kernel, by decide +kernel⟩, Nat.le_of_ble_eq_true rfl, by decide +kernel, Or.inr (Or.inl ⟨rfl, ⟨rx_mem 1023 (by decide +kernel) rfl, rx_mem 1024 (by decide +kernel) rfl⟩, by decide +kernel⟩)⟩
set_option maxRecDepth 100000 in
theorem rx_mv39 : rx_okM rx_m39 := ⟨rx_mem 890 rfl rfl, rx_mem 129 (by decide +kernel) rfl, ⟨by decide +kernel, by decide +kernel⟩, Nat.le_of_ble_eq_true rfl, by decide +kernel, Or.inr (Or.inl ⟨rfl, ⟨rx_mem 888 (by decide +kernel) rfl, rx_mem 889 (by decide +kernel) rfl⟩, by decide +kernel⟩)⟩
set_option maxRecDepth 100000 in
theorem rx_mv40 : rx_okM rx_m40 := ⟨rx_mem 852 rfl rfl, rx_mem 129 (by decide +kernel) rfl, ⟨by decide +kernel, by decide +kernel⟩, Nat.le_of_ble_eq_true rfl, by decide +kernel, Or.inr (Or.inl ⟨rfl, ⟨rx_mem 850 (by decide +kernel) rfl, rx_mem 851 (by decide +kernel) rfl⟩, by decide +kernel⟩)⟩
set_option maxRecDepth 100000 in
theorem rx_mv41 : rx_okM rx_m41 := ⟨rx_mem 970 rfl rfl, rx_mem 129 (by decide +kernel) rfl, ⟨by decide +kernel, by decide +kernel⟩, Nat.le_of_ble_eq_true rfl, by decide +kernel, Or.inr (Or.inl ⟨rfl, ⟨rx_mem 968 (by decide +kernel) rfl, rx_mem 969 (by decide +kernel) rfl⟩, by decide +kernel⟩)⟩
set_option maxRecDepth 100000 in
theorem rx_mv42 : rx_okM rx_m42 := ⟨rx_mem 989 rfl rfl, rx_mem 129 (by decide +kernel) rfl, ⟨by decide +kernel, by decide +kernel⟩, Nat.le_of_ble_eq_true rfl, by decide +kernel, Or.inr (Or.inl ⟨rfl, ⟨rx_mem 987 (by decide +kernel) rfl, rx_mem 988 (by decide +kernel) rfl⟩, by decide +kernel⟩)⟩
set_option maxRecDepth 100000 in
theorem rx_mv43 : rx_okM rx_m43 := ⟨rx_mem 478 rfl rfl, rx_mem 140 (by decide +kernel) rfl, ⟨by decide +kernel, by decide +kernel⟩, Nat.le_of_ble_eq_true rfl, by decide +kernel, Or.inr (Or.inr ⟨rfl, ⟨rfl, rx_mem 477 (by decide +kernel) rfl, rfl⟩, by decide +kernel⟩)⟩
set_option maxRecDepth 100000 in
theorem rx_mv44 : rx_okM rx_m44 := ⟨rx_mem 1147 rfl rfl, rx_mem 140 (by decide +kernel) rfl, ⟨by decide +kernel, by decide +kernel⟩, Nat.le_of_ble_eq_true rfl, by decide +kernel, Or.inr (Or.inl ⟨rfl, ⟨rx_mem 1145 (by decide +kernel) rfl, rx_mem 1146 (by decide +kernel) rfl⟩, by decide +kernel⟩)⟩
set_option maxRecDepth 100000 in
theorem rx_mv45 : rx_okM rx_m45 := ⟨rx_mem 1151 rfl rfl, rx_mem 140 (by decide +kernel) rfl, ⟨by decide +kernel, by decide +kernel⟩, Nat.le_of_ble_eq_true rfl, by decide +kernel, Or.inr (Or.inl ⟨rfl, ⟨rx_mem 1150 (by decide +kernel) rfl, rx_mem 38 (by decide +kernel) rfl⟩, by decide +kernel⟩)⟩
set_option maxRecDepth 100000 in
theorem rx_mv46 : rx_okM rx_m46 := ⟨rx_mem 1141 rfl rfl, rx_mem 140 (by decide +kernel) rfl, ⟨by decide +kernel, by decide +kernel⟩, Nat.le_of_ble_eq_true rfl, by decide +kernel, Or.inr (Or.inl ⟨rfl, ⟨rx_mem 1140 (by decide +kernel) rfl, rx_mem 37 (by decide +kernel) rfl⟩, by decide +kernel⟩)⟩
set_option maxRecDepth 100000 in
theorem rx_mv47 : rx_okM rx_m47 := ⟨rx_mem 1118 rfl rfl, rx_mem 140 (by decide +kernel) rfl, ⟨by decide +kernel, by decide +kernel⟩, Nat.le_of_ble_eq_true rfl, by decide +kernel, Or.inr (Or.inl ⟨rfl, ⟨rx_mem 1116 (by decide +kernel) rfl, rx_mem 1117 (by decide +kernel) rfl⟩, by decide +kernel⟩)⟩
set_option maxRecDepth 100000 in
theorem rx_mv48 : rx_okM rx_m48 := ⟨rx_mem 1137 rfl rfl, rx_mem 140 (by decide +kernel) rfl, ⟨by decide +kernel, by decide +kernel⟩, Nat.le_of_ble_eq_true rfl, by decide +kernel, Or.inr (Or.inl ⟨rfl, ⟨rx_mem 1136 (by decide +kernel) rfl, rx_mem 36 (by decide +kernel) rfl⟩, by decide +kernel⟩)⟩
set_option maxRecDepth 100000 in
theorem rx_mv49 : rx_okM rx_m49 := ⟨rx_mem 1124 rfl rfl, rx_mem 140 (by decide +kernel) rfl, ⟨by decide +kernel, by decide +kernel⟩, Nat.le_of_ble_eq_true rfl, by decide +kernel, Or.inr (Or.inl ⟨rfl, ⟨rx_mem 1123 (by decide +kernel) rfl, rx_mem 34 (by decide +kernel) rfl⟩, by decide +kernel⟩)⟩
set_option maxRecDepth 100000 in
theorem rx_mv50 : rx_okM rx_m50 := ⟨rx_mem 1132 rfl rfl, rx_mem 140 (by decide +kernel) rfl, ⟨by decide +kernel, by decide +kernel⟩, Nat.le_of_ble_eq_true rfl, by decide +kernel, Or.inr (Or.inl ⟨rfl, ⟨rx_mem 1131 (by decide +kernel) rfl, rx_mem 35 (by decide +kernel) rfl⟩, by decide +kernel⟩)⟩
set_option maxRecDepth 100000 in
theorem rx_mv51 : rx_okM rx_m51 := ⟨rx_mem 504 rfl rfl, rx_mem 141 (by decide +kernel) rfl, ⟨by decide +kernel, by decide +kernel⟩, Nat.le_of_ble_eq_true rfl, by decide +kernel, Or.inr (Or.inr ⟨rfl, ⟨rfl, rx_mem 503 (by decide +kernel) rfl, rfl⟩, by decide +kernel⟩)⟩
set_option maxRecDepth 100000 in
theorem rx_mv52 : rx_okM rx_m52 := ⟨rx_mem 777 rfl rfl, rx_mem 141 (by decide +kernel) rfl, ⟨by decide +kernel, by decide +kernel⟩, Nat.le_of_ble_eq_true rfl, by decide +kernel, Or.inr (Or.inl ⟨rfl, ⟨rx_mem 775 (by decide +kernel) rfl, rx_mem 776 (by decide +kernel) rfl⟩, by decide +kernel⟩)⟩
set_option maxRecDepth 100000 in
theorem rx_mv53 : rx_okM rx_m53 := ⟨rx_mem 827 rfl rfl, rx_mem 141 (by decide +kernel) rfl, ⟨by decide +kernel, by decide +kernel⟩, Nat.le_of_ble_eq_true rfl, by decide +kernel, Or.inr (Or.inl ⟨rfl, ⟨rx_mem 825 (by decide +kernel) rfl, rx_mem 826 (by decide +kernel) rfl⟩, by decide +kernel⟩)⟩
set_option maxRecDepth 100000 in
theorem rx_mv54 : rx_okM rx_m54 := ⟨rx_mem 894 rfl rfl, rx_mem 141 (by decide +kernel) rfl, ⟨by decide +kernel, by decide +kernel⟩, Nat.le_of_ble_eq_true rfl, by decide +kernel, Or.inr (Or.inl ⟨rfl, ⟨rx_mem 892 (by decide +kernel) rfl, rx_mem 893 (by decide +kernel) rfl⟩, by decide +kernel⟩)⟩
set_option maxRecDepth 100000 in
theorem rx_mv55 : rx_okM rx_m55 := ⟨rx_mem 572 rfl rfl, rx_mem 144 (by decide +kernel) rfl, ⟨by decide +kernel, by decide +kernel⟩, Nat.le_of_ble_eq_true rfl, by decide +kernel, Or.inr (Or.inr ⟨rfl, ⟨rfl, rx_mem 571 (by decide +kernel) rfl, rfl⟩, by decide +kernel⟩)⟩
set_option maxRecDepth 100000 in
theorem rx_mv56 : rx_okM rx_m56 := ⟨rx_mem 526 rfl rfl, rx_mem 142 (by decide +kernel) rfl, ⟨by decide +kernel, by decide +kernel⟩, Nat.le_of_ble_eq_true rfl, by decide +kernel, Or.inr (Or.inr ⟨rfl, ⟨rfl, rx_mem 525 (by decide +kernel) rfl, rfl⟩, by decide +kernel⟩)⟩
set_option maxRecDepth 100000 in
theorem rx_mv57 : rx_okM rx_m57 := ⟨rx_mem 985 rfl rfl, rx_mem 142 (by decide +kernel) rfl, ⟨by decide +kernel, by decide +kernel⟩, Nat.le_of_ble_eq_true rfl, by decide +kernel, Or.inl ⟨rfl, rx_mem 984 (by decide +kernel) rfl, by decide +kernel⟩⟩
set_option maxRecDepth 100000 in
theorem rx_mv58 : rx_okM rx_m58 := ⟨rx_mem 948 rfl rfl, rx_mem 142 (by decide +kernel) rfl, ⟨by decide +kernel, by decide +kernel⟩, Nat.le_of_ble_eq_true rfl, by decide +kernel, Or.inr (Or.inl ⟨rfl, ⟨rx_mem 947 (by decide +kernel) rfl, rx_mem 20 (by decide +kernel) rfl⟩, by decide +kernel⟩)⟩
set_option maxRecDepth 100000 in
theorem rx_mv59 : rx_okM rx_m59 := ⟨rx_mem 953 rfl rfl, rx_mem 142 (by decide +kernel) rfl, ⟨by decide +kernel, by decide +kernel⟩, Nat.le_of_ble_eq_true rfl, by decide +kernel, Or.inr (Or.inl ⟨rfl, ⟨rx_mem 952 (by decide +kernel) rfl, rx_mem 21 (by decide +kernel) rfl⟩, by decide +kernel⟩)⟩
set_option maxRecDepth 100000 in
theorem rx_mv60 : rx_okM rx_m60 := ⟨rx_mem 944 rfl rfl, rx_mem 142 (by decide +kernel) rfl, ⟨by decide +kernel, by decide +kernel⟩, Nat.le_of_ble_eq_true rfl, by decide +kernel, Or.inr (Or.inl ⟨rfl, ⟨rx_mem 943 (by decide +kernel) rfl, rx_mem 19 (by decide +kernel) rfl⟩, by decide +kernel⟩)⟩
set_option maxRecDepth 100000 in
theorem rx_mv61 : rx_okM rx_m61 := ⟨rx_mem 974 rfl rfl, rx_mem 142 (by decide +kernel) rfl, ⟨by decide +kernel, by decide +kernel⟩, Nat.le_of_ble_eq_true rfl, by decide +kernel, Or.inr (Or.inl ⟨rfl, ⟨rx_mem 972 (by decide +kernel) rfl, rx_mem 973 (by decide +kernel) rfl⟩, by decide +kernel⟩)⟩
set_option maxRecDepth 100000 in
theorem rx_mv62 : rx_okM rx_m62 := ⟨rx_mem 982 rfl rfl, rx_mem 142 (by decide +kernel) rfl, ⟨by decide +kernel, by decide +kernel⟩, Nat.le_of_ble_eq_true rfl, by decide +kernel, Or.inr (Or.inl ⟨rfl, ⟨rx_mem 981 (by decide +kernel) rfl, rx_mem 24 (by decide +kernel) rfl⟩, by decide +kernel⟩)⟩
set_option maxRecDepth 100000 in
theorem rx_mv63 : rx_okM rx_m63 := ⟨rx_mem 938 rfl rfl, rx_mem 142 (by decide +kernel) rfl, ⟨by decide +kernel, by decide +kernel⟩, Nat.le_of_ble_eq_true rfl, by decide +kernel, Or.inr (Or.inl ⟨rfl, ⟨rx_mem 936 (by decide +kernel) rfl, rx_mem 937 (by decide +kernel) rfl⟩, by decide +kernel⟩)⟩
set_option maxRecDepth 100000 in
theorem rx_mv64 : rx_okM rx_m64 := ⟨rx_mem 1015 rfl rfl, rx_mem 142 (by decide +kernel) rfl, ⟨by decide +kernel, by decide +kernel⟩, Nat.le_of_ble_eq_true rfl, by decide +kernel, Or.inr (Or.inl ⟨rfl, ⟨rx_mem 1014 (by decide +kernel) rfl, rx_mem 26 (by decide +kernel) rfl⟩, by decide +kernel⟩)⟩
set_option maxRecDepth 100000 in
theorem rx_mv65 : rx_okM rx_m65 := ⟨rx_mem 978 rfl rfl, rx_mem 142 (by decide +kernel) rfl, ⟨by decide +kernel, by decide +kernel⟩, Nat.le_of_ble_eq_true rfl, by decide +kernel, Or.inr (Or.inl ⟨rfl, ⟨rx_mem 977 (by decide +kernel) rfl, rx_mem 23 (by decide +kernel) rfl⟩, by decide +kernel⟩)⟩
set_option maxRecDepth 100000 in
theorem rx_mv66 : rx_okM rx_m66 := ⟨rx_mem 1011 rfl rfl, rx_mem 142 (by decide +kernel) rfl, ⟨by decide +kernel, by decide +kernel⟩, Nat.le_of_ble_eq_true rfl, by decide +kernel, Or.inr (Or.inl ⟨rfl, ⟨rx_mem 1009 (by decide +kernel) rfl, rx_mem 1010 (by decide +kernel) rfl⟩, by decide +kernel⟩)⟩
set_option maxRecDepth 100000 in
theorem rx_mv67 : rx_okM rx_m67 := ⟨rx_mem 452 rfl rfl, rx_mem 139 (by decide +kernel) rfl, ⟨by decide +kernel, by decide +kernel⟩, Nat.le_of_ble_eq_true rfl, by decide +kernel, Or.inr (Or.inr ⟨rfl, ⟨rfl, rx_mem 451 (by decide +kernel) rfl, rfl⟩, by decide +kernel⟩)⟩
set_option maxRecDepth 100000 in
theorem rx_mv68 : rx_okM rx_m68 := ⟨rx_mem 1215 rfl rfl, rx_mem 139 (by decide +kernel) rfl, ⟨by decide +kernel, by decide +kernel⟩, Nat.le_of_ble_eq_true rfl, by decide +kernel, Or.inl ⟨rfl, rx_mem 1214 (by decide +kernel) rfl, by decide +kernel⟩⟩
set_option maxRecDepth 100000 in
theorem rx_mv69 : rx_okM rx_m69 := ⟨rx_mem 1228 rfl rfl, rx_mem 139 (by decide +kernel) rfl, ⟨by decide +kernel, by decide +kernel⟩, Nat.le_of_ble_eq_true rfl, by decide +kernel, Or.inr (Or.inl ⟨rfl, ⟨rx_mem 1226 (by decide +kernel) rfl, rx_mem 1227 (by decide +kernel) rfl⟩, by decide +kernel⟩)⟩
set_option maxRecDepth 100000 in
theorem rx_mv70 : rx_okM rx_m70 := ⟨rx_mem 1210 rfl rfl, rx_mem 139 (by decide +kernel) rfl, ⟨by decide +kernel, by decide +kernel⟩, Nat.le_of_ble_eq_true rfl, by decide +kernel, Or.inr (Or.inl ⟨rfl, ⟨rx_mem 1209 (by decide +kernel) rfl, rx_mem 44 (by decide +kernel) rfl⟩, by decide +kernel⟩)⟩
set_option maxRecDepth 100000 in
theorem rx_mv71 : rx_okM rx_m71 := ⟨rx_mem 1202 rfl rfl, rx_mem 139 (by decide +kernel) rfl, ⟨by decide +kernel, by decide +kernel⟩, Nat.le_of_ble_eq_true rfl, by decide +kernel, Or.inr (Or.inl ⟨rfl, ⟨rx_mem 1200 (by decide +kernel) rfl, rx_mem 1201 (by decide +kernel) rfl⟩, by decide +kernel⟩)⟩
set_option maxRecDepth 100000 in
theorem rx_mv72 : rx_okM rx_m72 := ⟨rx_mem 1206 rfl rfl, rx_mem 139 (by decide +kernel) rfl, ⟨by decide +kernel, by decide +kernel⟩, Nat.le_of_ble_eq_true rfl, by decide +kernel, Or.inr (Or.inl ⟨rfl, ⟨rx_mem 1205 (by decide +kernel) rfl, rx_mem 43 (by decide +kernel) rfl⟩, by decide +kernel⟩)⟩
set_option maxRecDepth 100000 in
theorem rx_mv73 : rx_okM rx_m73 := ⟨rx_mem 1187 rfl rfl, rx_mem 139 (by decide +kernel) rfl, ⟨by decide +kernel, by decide +kernel⟩, Nat.le_of_ble_eq_true rfl, by decide +kernel, Or.inr (Or.inl ⟨rfl, ⟨rx_mem 1186 (by decide +kernel) rfl, rx_mem 42 (by decide +kernel) rfl⟩, by decide +kernel⟩)⟩
set_option maxRecDepth 100000 in
theorem rx_mv74 : rx_okM rx_m74 := ⟨rx_mem 1167 rfl rfl, rx_mem 139 (by decide +kernel) rfl, ⟨by decide +kernel, by decide +kernel⟩, Nat.le_of_ble_eq_true rfl, by decide +kernel, Or.inr (Or.inl ⟨rfl, ⟨rx_mem 1165 (by decide +kernel) rfl, rx_mem 1166 (by decide +kernel) rfl⟩, by decide +kernel⟩)⟩
set_option maxRecDepth 100000 in
theorem rx_mv75 : rx_okM rx_m75 := ⟨rx_mem 1176 rfl rfl, rx_mem 139 (by decide +kernel) rfl, ⟨by decide +kernel, by decide +kernel⟩, Nat.le_of_ble_eq_true rfl, by decide +kernel, Or.inr (Or.inl ⟨rfl, ⟨rx_mem 1175 (by decide +kernel) rfl, rx_mem 40 (by decide +kernel) rfl⟩, by decide +kernel⟩)⟩
set_option maxRecDepth 100000 in
theorem rx_mv76 : rx_okM rx_m76 := ⟨rx_mem 1172 rfl rfl, rx_mem 139 (by decide +kernel) rfl, ⟨by decide +kernel, by decide +kernel⟩, Nat.le_of_ble_eq_true rfl, by decide +kernel, Or.inr (Or.inl ⟨rfl, ⟨rx_mem 1171 (by decide +kernel) rfl, rx_mem 39 (by decide +kernel) rfl⟩, by decide +kernel⟩)⟩
set_option maxRecDepth 100000 in
theorem rx_mv77 : rx_okM rx_m77 := ⟨rx_mem 1180 rfl rfl, rx_mem 139 (by decide +kernel) rfl, ⟨by decide +kernel, by decide +kernel⟩, Nat.le_of_ble_eq_true rfl, by decide +kernel, Or.inr (Or.inl ⟨rfl, ⟨rx_mem 1179 (by decide +kernel) rfl, rx_mem 41 (by decide +kernel) rfl⟩, by decide +kernel⟩)⟩
set_option maxRecDepth 100000 in
theorem rx_mv78 : rx_okM rx_m78 := ⟨rx_mem 381 rfl rfl, rx_mem 138 (by decide +kernel) rfl, ⟨by decide +kernel, by decide +kernel⟩, Nat.le_of_ble_eq_true rfl, by decide +kernel, Or.inr (Or.inr ⟨rfl, ⟨rfl, rx_mem 380 (by decide +kernel) rfl, rfl⟩, by decide +kernel⟩)⟩
set_option maxRecDepth 100000 in
theorem rx_mv79 : rx_okM rx_m79 := ⟨rx_mem 1094 rfl rfl, rx_mem 138 (by decide +kernel) rfl, ⟨by decide +kernel, by decide +kernel⟩, Nat.le_of_ble_eq_true rfl, by decide +kernel, Or.inr (Or.inl ⟨rfl, ⟨rx_mem 1093 (by decide +kernel) rfl, rx_mem 33 (by decide +kernel) rfl⟩, by decide +kernel⟩)⟩
set_option maxRecDepth 100000 in
theorem rx_mv80 : rx_okM rx_m80 := ⟨rx_mem 770 rfl rfl, rx_mem 138 (by decide +kernel) rfl, ⟨by decide +kernel, by decide +kernel⟩, Nat.le_of_ble_eq_true rfl, by decide +kernel, Or.inr (Or.inl ⟨rfl, ⟨rx_mem 768 (by decide +kernel) rfl, rx_mem 769 (by decide +kernel) rfl⟩, by decide +kernel⟩)⟩
set_option maxRecDepth 100000 in
theorem rx_mv81 : rx_okM rx_m81 := ⟨rx_mem 831 rfl rfl, rx_mem 138 (by decide +kernel) rfl, ⟨by decide +kernel, by decide +kernel⟩, Nat.le_of_ble_eq_true rfl, by decide +kernel, Or.inr (Or.inl ⟨rfl, ⟨rx_mem 829 (by decide +kernel) rfl, rx_mem 830 (by decide +kernel) rfl⟩, by decide +kernel⟩)⟩
set_option maxRecDepth 100000 in
theorem rx_mv82 : rx_okM rx_m82 := ⟨rx_mem 860 rfl rfl, rx_mem 138 (by decide +kernel) rfl, ⟨by decide +kernel, by decide +kernel⟩, Nat.le_of_ble_eq_true rfl, by decide +kernel, Or.inr (Or.inl ⟨rfl, ⟨rx_mem 858 (by decide +kernel) rfl, rx_mem 859 (by decide +kernel) rfl⟩, by decide +kernel⟩)⟩
set_option maxRecDepth 100000 in
theorem rx_mv83 : rx_okM rx_m83 := ⟨rx_mem 1081 rfl rfl, rx_mem 138 (by decide +kernel) rfl, ⟨by decide +kernel, by decide +kernel⟩, Nat.le_of_ble_eq_true rfl, by decide +kernel, Or.inr (Or.inl ⟨rfl, ⟨rx_mem 1080 (by decide +kernel) rfl, rx_mem 30 (by decide +kernel) rfl⟩, by decide +kernel⟩)⟩
set_option maxRecDepth 100000 in
theorem rx_mv84 : rx_okM rx_m84 := ⟨rx_mem 1077 rfl rfl, rx_mem 138 (by decide +kernel) rfl, ⟨by decide +kernel, by decide +kernel⟩, Nat.le_of_ble_eq_true rfl, by decide +kernel, Or.inr (Or.inl ⟨rfl, ⟨rx_mem 1075 (by decide +kernel) rfl, rx_mem 1076 (by decide +kernel) rfl⟩, by decide +kernel⟩)⟩
set_option maxRecDepth 100000 in
theorem rx_mv85 : rx_okM rx_m85 := ⟨rx_mem 1085 rfl rfl, rx_mem 138 (by decide +kernel) rfl, ⟨by decide +kernel, by decide +kernel⟩, Nat.le_of_ble_eq_true rfl, by decide +kernel, Or.inr (Or.inl ⟨rfl, ⟨rx_mem 1084 (by decide +kernel) rfl, rx_mem 31 (by decide +kernel) rfl⟩, by decide +kernel⟩)⟩
set_option maxRecDepth 100000 in
theorem rx_mv86 : rx_okM rx_m86 := ⟨rx_mem 1090 rfl rfl, rx_mem 138 (by decide +kernel) rfl, ⟨by decide +kernel, by decide +kernel⟩, Nat.le_of_ble_eq_true rfl, by decide +kernel, Or.inr (Or.inl ⟨rfl, ⟨rx_mem 1089 (by decide +kernel) rfl, rx_mem 32 (by decide +kernel) rfl⟩, by decide +kernel⟩)⟩
set_option maxRecDepth 100000 in
theorem rx_mv87 : rx_okM rx_m87 := ⟨rx_mem 840 rfl rfl, rx_mem 138 (by decide +kernel) rfl, ⟨by decide +kernel, by decide +kernel⟩, Nat.le_of_ble_eq_true rfl, by decide +kernel, Or.inr (Or.inl ⟨rfl, ⟨rx_mem 839 (by decide +kernel) rfl, rx_mem 16 (by decide +kernel) rfl⟩, by decide +kernel⟩)⟩
set_option maxRecDepth 100000 in
theorem rx_mv88 : rx_okM rx_m88 := ⟨rx_mem 886 rfl rfl, rx_mem 138 (by decide +kernel) rfl, ⟨by decide +kernel, by decide +kernel⟩, Nat.le_of_ble_eq_true rfl, by decide +kernel, Or.inr (Or.inl ⟨rfl, ⟨rx_mem 884 (by decide +kernel) rfl, rx_mem 885 (by decide +kernel) rfl⟩, by decide +kernel⟩)⟩
set_option maxRecDepth 100000 in
theorem rx_mv89 : rx_okM rx_m89 := ⟨rx_mem 797 rfl rfl, rx_mem 138 (by decide +kernel) rfl, ⟨by decide +kernel, by decide +kernel⟩, Nat.le_of_ble_eq_true rfl, by decide +kernel, Or.inr (Or.inl ⟨rfl, ⟨rx_mem 795 (by decide +kernel) rfl, rx_mem 796 (by decide +kernel) rfl⟩, by decide +kernel⟩)⟩
set_option maxRecDepth 100000 in
theorem rx_mv90 : rx_okM rx_m90 := ⟨rx_mem 1102 rfl rfl, rx_mem 138 (by decide +kernel) rfl, ⟨by decide +kernel, by decide +kernel⟩, Nat.le_of_ble_eq_true rfl, by decide +kernel, Or.inr (Or.inl ⟨rfl, ⟨rx_mem 1100 (by decide +kernel) rfl, rx_mem 1101 (by decide +kernel) rfl⟩, by decide +kernel⟩)⟩
set_option maxRecDepth 100000 in
theorem rx_mv91 : rx_okM rx_m91 := ⟨rx_mem 874 rfl rfl, rx_mem 138 (by decide +kernel) rfl, ⟨by decide +kernel, by decide +kernel⟩, Nat.le_of_ble_eq_true rfl, by decide +kernel, Or.inr (Or.inl ⟨rfl, ⟨rx_mem 873 (by decide +kernel) rfl, rx_mem 18 (by decide +kernel) rfl⟩, by decide +kernel⟩)⟩
set_option maxRecDepth 100000 in
theorem rx_mv92 : rx_okM rx_m92 := ⟨rx_mem 818 rfl rfl, rx_mem 138 (by decide +kernel) rfl, ⟨by decide +kernel, by decide +kernel⟩, Nat.le_of_ble_eq_true rfl, by decide +kernel, Or.inr (Or.inl ⟨rfl, ⟨rx_mem 817 (by decide +kernel) rfl, rx_mem 14 (by decide +kernel) rfl⟩, by decide +kernel⟩)⟩
set_option maxRecDepth 100000 in
theorem rx_mv93 : rx_okM rx_m93 := ⟨rx_mem 870 rfl rfl, rx_mem 138 (by decide +kernel) rfl, ⟨by decide +kernel, by decide +kernel⟩, Nat.le_of_ble_eq_true rfl, by decide +kernel, Or.inr (Or.inl ⟨rfl, ⟨rx_mem 869 (by decide +kernel) rfl, rx_mem 17 (by decide +kernel) rfl⟩, by decide +kernel⟩)⟩
set_option maxRecDepth 100000 in
theorem rx_mv94 : rx_okM rx_m94 := ⟨rx_mem 864 rfl rfl, rx_mem 138 (by decide +kernel) rfl, ⟨by decide +kernel, by decide +kernel⟩, Nat.le_of_ble_eq_true rfl, by decide +kernel, Or.inr (Or.inl ⟨rfl, ⟨rx_mem 862 (by decide +kernel) rfl, rx_mem 863 (by decide +kernel) rfl⟩, by decide +kernel⟩)⟩
set_option maxRecDepth 100000 in
theorem rx_mv95 : rx_okM rx_m95 := ⟨rx_mem 836 rfl rfl, rx_mem 138 (by decide +kernel) rfl, ⟨by decide +kernel, by decide +kernel⟩, Nat.le_of_ble_eq_true rfl, by decide +kernel, Or.inr (Or.inl ⟨rfl, ⟨rx_mem 834 (by decide +kernel) rfl, rx_mem 835 (by decide +kernel) rfl⟩, by decide +kernel⟩)⟩
set_option maxRecDepth 100000 in
theorem rx_mv96 : rx_okM rx_m96 := ⟨rx_mem 809 rfl rfl, rx_mem 138 (by decide +kernel) rfl, ⟨by decide +kernel, by decide +kernel⟩, Nat.le_of_ble_eq_true rfl, by decide +kernel, Or.inr (Or.inl ⟨rfl, ⟨rx_mem 807 (by decide +kernel) rfl, rx_mem 808 (by decide +kernel) rfl⟩, by decide +kernel⟩)⟩
set_option maxRecDepth 100000 in
theorem rx_mv97 : rx_okM rx_m97 := ⟨rx_mem 822 rfl rfl, rx_mem 138 (by decide +kernel) rfl, ⟨by decide +kernel, by decide +kernel⟩, Nat.le_of_ble_eq_true rfl, by decide +kernel, Or.inr (Or.inl ⟨rfl, ⟨rx_mem 821 (by decide +kernel) rfl, rx_mem 15 (by decide +kernel) rfl⟩, by decide +kernel⟩)⟩
set_option maxRecDepth 100000 in
theorem rx_mv98 : rx_okM rx_m98 := ⟨rx_mem 558 rfl rfl, rx_mem 143 (by decide +kernel) rfl, ⟨by decide +kernel, by decide +kernel⟩, Nat.le_of_ble_eq_true rfl, by decide +kernel, Or.inr (Or.inr ⟨rfl, ⟨rfl, rx_mem 557 (by decide +kernel) rfl, rfl⟩, by decide +kernel⟩)⟩
set_option maxRecDepth 100000 in
theorem rx_mv99 : rx_okM rx_m99 := ⟨rx_mem 1045 rfl rfl, rx_mem 143 (by decide +kernel) rfl, ⟨by decide +kernel, by decide +kernel⟩, Nat.le_of_ble_eq_true rfl, by decide +kernel, Or.inr (Or.inl ⟨rfl, ⟨rx_mem 1044 (by decide +kernel) rfl, rx_mem 28 (by decide +kernel) rfl⟩, by decide +kernel⟩)⟩
set_option maxRecDepth 100000 in
theorem rx_mv100 : rx_okM rx_m100 := ⟨rx_mem 1041 rfl rfl, rx_mem 143 (by decide +kernel) rfl, ⟨by decide +kernel, by decide +kernel⟩, Nat.le_of_ble_eq_true rfl, by decide +kernel, Or.inr (Or.inl ⟨rfl, ⟨rx_mem 1040 (by decide +kernel) rfl, rx_mem 27 (by decide +kernel) rfl⟩, by decide +kernel⟩)⟩
set_option maxRecDepth 100000 in
theorem rx_mv101 : rx_okM rx_m101 := ⟨rx_mem 1050 rfl rfl, rx_mem 143 (by decide +kernel) rfl, ⟨by decide +kernel, by decide +kernel⟩, Nat.le_of_ble_eq_true rfl, by decide +kernel, Or.inr (Or.inl ⟨rfl, ⟨rx_mem 1049 (by decide +kernel) rfl, rx_mem 29 (by decide +kernel) rfl⟩, by decide +kernel⟩)⟩
set_option maxRecDepth 100000 in
theorem rx_mv102 : rx_okM rx_m102 := ⟨rx_mem 1037 rfl rfl, rx_mem 143 (by decide +kernel) rfl, ⟨by decide +kernel, by decide +kernel⟩, Nat.le_of_ble_eq_true rfl, by decide +kernel, Or.inr (Or.inl ⟨rfl, ⟨rx_mem 1035 (by decide +kernel) rfl, rx_mem 1036 (by decide +kernel) rfl⟩, by decide +kernel⟩)⟩
set_option maxRecDepth 100000 in
theorem rx_mv103 : rx_okM rx_m103 := ⟨rx_mem 164 rfl rfl, rx_mem 130 (by decide +kernel) rfl, ⟨by decide +kernel, by decide +kernel⟩, Nat.le_of_ble_eq_true rfl, by decide +kernel, Or.inr (Or.inr ⟨rfl, ⟨rfl, rx_mem 163 (by decide +kernel) rfl, rfl⟩, by decide +kernel⟩)⟩
set_option maxRecDepth 100000 in
theorem rx_mv104 : rx_okM rx_m104 := ⟨rx_mem 697 rfl rfl, rx_mem 130 (by decide +kernel) rfl, ⟨by decide +kernel, by decide +kernel⟩, Nat.le_of_ble_eq_true rfl, by decide +kernel, Or.inr (Or.inl ⟨rfl, ⟨rx_mem 695 (by decide +kernel) rfl, rx_mem 696 (by decide +kernel) rfl⟩, by decide +kernel⟩)⟩
set_option maxRecDepth 100000 in
theorem rx_mv105 : rx_okM rx_m105 := ⟨rx_mem 716 rfl rfl, rx_mem 130 (by decide +kernel) rfl, ⟨by decide +kernel, by decide +kernel⟩, Nat.le_of_ble_eq_true rfl, by decide +kernel, Or.inr (Or.inl ⟨rfl, ⟨rx_mem 714 (by decide +kernel) rfl, rx_mem 715 (by decide +kernel) rfl⟩, by decide +kernel⟩)⟩
set_option maxRecDepth 100000 in
theorem rx_mv106 : rx_okM rx_m106 := ⟨rx_mem 674 rfl rfl, rx_mem 130 (by decide +kernel) rfl, ⟨by decide +kernel, by decide +kernel⟩, Nat.le_of_ble_eq_true rfl, by decide +kernel, Or.inr (Or.inl ⟨rfl, ⟨rx_mem 672 (by decide +kernel) rfl, rx_mem 673 (by decide +kernel) rfl⟩, by decide +kernel⟩)⟩
set_option maxRecDepth 100000 in
theorem rx_mv107 : rx_okM rx_m107 := ⟨rx_mem 997 rfl rfl, rx_mem 130 (by decide +kernel) rfl, ⟨by decide +kernel, by decide +kernel⟩, Nat.le_of_ble_eq_true rfl, by decide +kernel, Or.inr (Or.inl ⟨rfl, ⟨rx_mem 995 (by decide +kernel) rfl, rx_mem 996 (by decide +kernel) rfl⟩, by decide +kernel⟩)⟩
set_option maxRecDepth 100000 in
theorem rx_mv108 : rx_okM rx_m108 := ⟨rx_mem 678 rfl rfl, rx_mem 130 (by decide +kernel) rfl, ⟨by decide +kernel, by decide +kernel⟩, Nat.le_of_ble_eq_true rfl, by decide +kernel, Or.inr (Or.inl ⟨rfl, ⟨rx_mem 676 (by decide +kernel) rfl, rx_mem 677 (by decide +kernel) rfl⟩, by decide +kernel⟩)⟩
set_option maxRecDepth 100000 in
theorem rx_mv109 : rx_okM rx_m109 := ⟨rx_mem 693 rfl rfl, rx_mem 130 (by decide +kernel) rfl, ⟨by decide +kernel, by decide +kernel⟩, Nat.le_of_ble_eq_true rfl, by decide +kernel, Or.inr (Or.inl ⟨rfl, ⟨rx_mem 692 (by decide +kernel) rfl, rx_mem 4 (by decide +kernel) rfl⟩, by decide +kernel⟩)⟩
set_option maxRecDepth 100000 in
theorem rx_mv110 : rx_okM rx_m110 := ⟨rx_mem 658 rfl rfl, rx_mem 130 (by decide +kernel) rfl, ⟨by decide +kernel, by decide +kernel⟩, Nat.le_of_ble_eq_true rfl, by decide +kernel, Or.inr (Or.inl ⟨rfl, ⟨rx_mem 656 (by decide +kernel) rfl, rx_mem 657 (by decide +kernel) rfl⟩, by decide +kernel⟩)⟩
set_option maxRecDepth 100000 in
theorem rx_mv111 : rx_okM rx_m111 := ⟨rx_mem 685 rfl rfl, rx_mem 130 (by decide +kernel) rfl, ⟨by decide +kernel, by decide +kernel⟩, Nat.le_of_ble_eq_true rfl, by decide +kernel, Or.inr (Or.inl ⟨rfl, ⟨rx_mem 684 (by decide +kernel) rfl, rx_mem 2 (by decide +kernel) rfl⟩, by decide +kernel⟩)⟩
set_option maxRecDepth 100000 in
theorem rx_mv112 : rx_okM rx_m112 := ⟨rx_mem 689 rfl rfl, rx_mem 130 (by decide +kernel) rfl, ⟨by decide +kernel, by decide +kernel⟩, Nat.le_of_ble_eq_true rfl, by decide +kernel, Or.inr (Or.inl ⟨rfl, ⟨rx_mem 688 (by decide +kernel) rfl, rx_mem 3 (by decide +kernel) rfl⟩, by decide +kernel⟩)⟩
set_option maxRecDepth 100000 in
theorem rx_mv113 : rx_okM rx_m113 := ⟨rx_mem 707 rfl rfl, rx_mem 130 (by decide +kernel) rfl, ⟨by decide +kernel, by decide +kernel⟩, Nat.le_of_ble_eq_true rfl, by decide +kernel, Or.inr (Or.inl ⟨rfl, ⟨rx_mem 705 (by decide +kernel) rfl, rx_mem 706 (by decide +kernel) rfl⟩, by decide +kernel⟩)⟩
set_option maxRecDepth 100000 in
theorem rx_mv114 : rx_okM rx_m114 := ⟨rx_mem 1192 rfl rfl, rx_mem 130 (by decide +kernel) rfl, ⟨by decide +kernel, by decide +kernel⟩, Nat.le_of_ble_eq_true rfl, by decide +kernel, Or.inr (Or.inl ⟨rfl, ⟨rx_mem 1190 (by decide +kernel) rfl, rx_mem 1191 (by decide +kernel) rfl⟩, by decide +kernel⟩)⟩
set_option maxRecDepth 100000 in
theorem rx_mv115 : rx_okM rx_m115 := ⟨rx_mem 712 rfl rfl, rx_mem 130 (by decide +kernel) rfl, ⟨by decide +kernel, by decide +kernel⟩, Nat.le_of_ble_eq_true rfl, by decide +kernel, Or.inr (Or.inl ⟨rfl, ⟨rx_mem 710 (by decide +kernel) rfl, rx_mem 711 (by decide +kernel) rfl⟩, by decide +kernel⟩)⟩
set_option maxRecDepth 100000 in
theorem rx_mv116 : rx_okM rx_m116 := ⟨rx_mem 742 rfl rfl, rx_mem 130 (by decide +kernel) rfl, ⟨by decide +kernel, by decide +kernel⟩, Nat.le_of_ble_eq_true rfl, by decide +kernel, Or.inr (Or.inl ⟨rfl, ⟨rx_mem 740 (by decide +kernel) rfl, rx_mem 741 (by decide +kernel) rfl⟩, by decide +kernel⟩)⟩
set_option maxRecDepth 100000 in
theorem rx_mv117 : rx_okM rx_m117 := ⟨rx_mem 762 rfl rfl, rx_mem 130 (by decide +kernel) rfl, ⟨by decide +kernel, by decide +kernel⟩, Nat.le_of_ble_eq_true rfl, by decide +kernel, Or.inr (Or.inl ⟨rfl, ⟨rx_mem 760 (by decide +kernel) rfl, rx_mem 761 (by decide +kernel) rfl⟩, by decide +kernel⟩)⟩
set_option maxRecDepth 100000 in
theorem rx_mv118 : rx_okM rx_m118 := ⟨rx_mem 733 rfl rfl, rx_mem 130 (by decide +kernel) rfl, ⟨by decide +kernel, by decide +kernel⟩, Nat.le_of_ble_eq_true rfl, by decide +kernel, Or.inr (Or.inl ⟨rfl, ⟨rx_mem 731 (by decide +kernel) rfl, rx_mem 732 (by decide +kernel) rfl⟩, by decide +kernel⟩)⟩
set_option maxRecDepth 100000 in
theorem rx_mv119 : rx_okM rx_m119 := ⟨rx_mem 276 rfl rfl, rx_mem 135 (by decide +kernel) rfl, ⟨by decide +kernel, by decide +kernel⟩, Nat.le_of_ble_eq_true rfl, by decide +kernel, Or.inr (Or.inr ⟨rfl, ⟨rfl, rx_mem 275 (by decide +kernel) rfl, rfl⟩, by decide +kernel⟩)⟩
set_option maxRecDepth 100000 in
theorem rx_mv120 : rx_okM rx_m120 := ⟨rx_mem 721 rfl rfl, rx_mem 135 (by decide +kernel) rfl, ⟨by decide +kernel, by decide +kernel⟩, Nat.le_of_ble_eq_true rfl, by decide +kernel, Or.inr (Or.inl ⟨rfl, ⟨rx_mem 719 (by decide +kernel) rfl, rx_mem 720 (by decide +kernel) rfl⟩, by decide +kernel⟩)⟩
set_option maxRecDepth 100000 in
theorem rx_mv121 : rx_okM rx_m121 := ⟨rx_mem 281 rfl rfl, rx_mem 135 (by decide +kernel) rfl, ⟨by decide +kernel, by decide +kernel⟩, Nat.le_of_ble_eq_true rfl, by decide +kernel, Or.inr (Or.inl ⟨rfl, ⟨rx_mem 280 (by decide +kernel) rfl, rx_mem 0 (by decide +kernel) rfl⟩, by decide +kernel⟩)⟩
set_option maxRecDepth 100000 in
theorem rx_mv122 : rx_okM rx_m122 := ⟨rx_mem 1223 rfl rfl, rx_mem 135 (by decide +kernel) rfl, ⟨by decide +kernel, by decide +kernel⟩, Nat.le_of_ble_eq_true rfl, by decide +kernel, Or.inr (Or.inl ⟨rfl, ⟨rx_mem 1221 (by decide +kernel) rfl, rx_mem 1222 (by decide +kernel) rfl⟩, by decide +kernel⟩)⟩
set_option maxRecDepth 100000 in
theorem rx_mv123 : rx_okM rx_m123 := ⟨rx_mem 922 rfl rfl, rx_mem 135 (by decide +kernel) rfl, ⟨by decide +kernel, by decide +kernel⟩, Nat.le_of_ble_eq_true rfl, by decide +kernel, Or.inr (Or.inl ⟨rfl, ⟨rx_mem 920 (by decide +kernel) rfl, rx_mem 921 (by decide +kernel) rfl⟩, by decide +kernel⟩)⟩
set_option maxRecDepth 100000 in
theorem rx_mv124 : rx_okM rx_m124 := ⟨rx_mem 1106 rfl rfl, rx_mem 135 (by decide +kernel) rfl, ⟨by decide +kernel, by decide +kernel⟩, Nat.le_of_ble_eq_true rfl, by decide +kernel, Or.inr (Or.inl ⟨rfl, ⟨rx_mem 1104 (by decide +kernel) rfl, rx_mem 1105 (by decide +kernel) rfl⟩, by decide +kernel⟩)⟩
set_option maxRecDepth 100000 in
theorem rx_mv125 : rx_okM rx_m125 := ⟨rx_mem 789 rfl rfl, rx_mem 135 (by decide +kernel) rfl, ⟨by decide +kernel, by decide +kernel⟩, Nat.le_of_ble_eq_true rfl, by decide +kernel, Or.inr (Or.inl ⟨rfl, ⟨rx_mem 787 (by decide +kernel) rfl, rx_mem 788 (by decide +kernel) rfl⟩, by decide +kernel⟩)⟩
set_option maxRecDepth 100000 in
theorem rx_mv126 : rx_okM rx_m126 := ⟨rx_mem 814 rfl rfl, rx_mem 135 (by decide +kernel) rfl, ⟨by decide +kernel, by decide +kernel⟩, Nat.le_of_ble_eq_true rfl, by decide +kernel, Or.inr (Or.inl ⟨rfl, ⟨rx_mem 812 (by decide +kernel) rfl, rx_mem 813 (by decide +kernel) rfl⟩, by decide +kernel⟩)⟩
set_option maxRecDepth 100000 in
theorem rx_mv127 : rx_okM rx_m127 := ⟨rx_mem 1057 rfl rfl, rx_mem 135 (by decide +kernel) rfl, ⟨by decide +kernel, by decide +kernel⟩, Nat.le_of_ble_eq_true rfl, by decide +kernel, Or.inr (Or.inl ⟨rfl, ⟨rx_mem 1055 (by decide +kernel) rfl, rx_mem 1056 (by decide +kernel) rfl⟩, by decide +kernel⟩)⟩
set_option maxRecDepth 100000 in
theorem rx_mv128 : rx_okM rx_m128 := ⟨rx_mem 878 rfl rfl, rx_mem 135 (by decide +kernel) rfl, ⟨by decide +kernel, by decide +kernel⟩, Nat.le_of_ble_eq_true rfl, by decide +kernel, Or.inr (Or.inl ⟨rfl, ⟨rx_mem 876 (by decide +kernel) rfl, rx_mem 877 (by decide +kernel) rfl⟩, by decide +kernel⟩)⟩
set_option maxRecDepth 100000 in
theorem rx_mv129 : rx_okM rx_m129 := ⟨rx_mem 725 rfl rfl, rx_mem 135 (by decide +kernel) rfl, ⟨by decide +kernel, by decide +kernel⟩, Nat.le_of_ble_eq_true rfl, by decide +kernel, Or.inr (Or.inl ⟨rfl, ⟨rx_mem 723 (by decide +kernel) rfl, rx_mem 724 (by decide +kernel) rfl⟩, by decide +kernel⟩)⟩
set_option maxRecDepth 100000 in
theorem rx_mv130 : rx_okM rx_m130 := ⟨rx_mem 670 rfl rfl, rx_mem 135 (by decide +kernel) rfl, ⟨by decide +kernel, by decide +kernel⟩, Nat.le_of_ble_eq_true rfl, by decide +kernel, Or.inr (Or.inl ⟨rfl, ⟨rx_mem 668 (by decide +kernel) rfl, rx_mem 669 (by decide +kernel) rfl⟩, by decide +kernel⟩)⟩
set_option maxRecDepth 100000 in
theorem rx_mv131 : rx_okM rx_m131 := ⟨rx_mem 738 rfl rfl, rx_mem 135 (by decide +kernel) rfl, ⟨by decide +kernel, by decide +kernel⟩, Nat.le_of_ble_eq_true rfl, by decide +kernel, Or.inr (Or.inl ⟨rfl, ⟨rx_mem 737 (by decide +kernel) rfl, rx_mem 7 (by decide +kernel) rfl⟩, by decide +kernel⟩)⟩
set_option maxRecDepth 100000 in
theorem rx_mv132 : rx_okM rx_m132 := ⟨rx_mem 754 rfl rfl, rx_mem 135 (by decide +kernel) rfl, ⟨by decide +kernel, by decide +kernel⟩, Nat.le_of_ble_eq_true rfl, by decide +kernel, Or.inr (Or.inl ⟨rfl, ⟨rx_mem 753 (by decide +kernel) rfl, rx_mem 10 (by decide +kernel) rfl⟩, by decide +kernel⟩)⟩
set_option maxRecDepth 100000 in
theorem rx_mv133 : rx_okM rx_m133 := ⟨rx_mem 750 rfl rfl, rx_mem 135 (by decide +kernel) rfl, ⟨by decide +kernel, by decide +kernel⟩, Nat.le_of_ble_eq_true rfl, by decide +kernel, Or.inr (Or.inl ⟨rfl, ⟨rx_mem 749 (by decide +kernel) rfl, rx_mem 9 (by decide +kernel) rfl⟩, by decide +kernel⟩)⟩
set_option maxRecDepth 100000 in
theorem rx_mv134 : rx_okM rx_m134 := ⟨rx_mem 701 rfl rfl, rx_mem 135 (by decide +kernel) rfl, ⟨by decide +kernel, by decide +kernel⟩, Nat.le_of_ble_eq_true rfl, by decide +kernel, Or.inr (Or.inl ⟨rfl, ⟨rx_mem 700 (by decide +kernel) rfl, rx_mem 5 (by decide +kernel) rfl⟩, by decide +kernel⟩)⟩
set_option maxRecDepth 100000 in
theorem rx_mv135 : rx_okM rx_m135 := ⟨rx_mem 729 rfl rfl, rx_mem 135 (by decide +kernel) rfl, ⟨by decide +kernel, by decide +kernel⟩, Nat.le_of_ble_eq_true rfl, by decide +kernel, Or.inr (Or.inl ⟨rfl, ⟨rx_mem 728 (by decide +kernel) rfl, rx_mem 6 (by decide +kernel) rfl⟩, by decide +kernel⟩)⟩
set_option maxRecDepth 100000 in
theorem rx_mv136 : rx_okM rx_m136 := ⟨rx_mem 746 rfl rfl, rx_mem 135 (by decide +kernel) rfl, ⟨by decide +kernel, by decide +kernel⟩, Nat.le_of_ble_eq_true rfl, by decide +kernel, Or.inr (Or.inl ⟨rfl, ⟨rx_mem 745 (by decide +kernel) rfl, rx_mem 8 (by decide +kernel) rfl⟩, by decide +kernel⟩)⟩
set_option maxRecDepth 100000 in
theorem rx_mv137 : rx_okM rx_m137 := ⟨rx_mem 758 rfl rfl, rx_mem 135 (by decide +kernel) rfl, ⟨by decide +kernel, by decide +kernel⟩, Nat.le_of_ble_eq_true rfl, by decide +kernel, Or.inr (Or.inl ⟨rfl, ⟨rx_mem 757 (by decide +kernel) rfl, rx_mem 11 (by decide +kernel) rfl⟩, by decide +kernel⟩)⟩
set_option maxRecDepth 100000 in
theorem rx_mv138 : rx_okM rx_m138 := ⟨rx_mem 288 rfl rfl, rx_mem 135 (by decide +kernel) rfl, ⟨by decide +kernel, by decide +kernel⟩, Nat.le_of_ble_eq_true rfl, by decide +kernel, Or.inr (Or.inl ⟨rfl, ⟨rx_mem 287 (by decide +kernel) rfl, rx_mem 1 (by decide +kernel) rfl⟩, by decide +kernel⟩)⟩
set_option maxRecDepth 100000 in
theorem rx_mv139 : rx_okM rx_m139 := ⟨rx_mem 882 rfl rfl, rx_mem 135 (by decide +kernel) rfl, ⟨by decide +kernel, by decide +kernel⟩, Nat.le_of_ble_eq_true rfl, by decide +kernel, Or.inl ⟨rfl, rx_mem 881 (by decide +kernel) rfl, by decide +kernel⟩⟩
set_option maxRecDepth 100000 in
theorem rx_mv140 : rx_okM rx_m140 := ⟨rx_mem 1005 rfl rfl, rx_mem 135 (by decide +kernel) rfl, ⟨by decide +kernel, by decide +kernel⟩, Nat.le_of_ble_eq_true rfl, by decide +kernel, Or.inr (Or.inl ⟨rfl, ⟨rx_mem 1003 (by decide +kernel) rfl, rx_mem 1004 (by decide +kernel) rfl⟩, by decide +kernel⟩)⟩
set_option maxRecDepth 100000 in
theorem rx_mv141 : rx_okM rx_m141 := ⟨rx_mem 1332 rfl rfl, rx_mem 145 (by decide +kernel) rfl, ⟨by decide +kernel, by decide +kernel⟩, Nat.le_of_ble_eq_true rfl, by decide +kernel, Or.inr (Or.inr ⟨rfl, ⟨rfl, rx_mem 1331 (by decide +kernel) rfl, rfl⟩, by decide +kernel⟩)⟩
set_option maxRecDepth 100000 in
theorem rx_mv142 : rx_okM rx_m142 := ⟨rx_mem 1691 rfl rfl, rx_mem 145 (by decide +kernel) rfl, ⟨by decide +kernel, by decide +kernel⟩, Nat.le_of_ble_eq_true rfl, by decide +kernel, Or.inr (Or.inl ⟨rfl, ⟨rx_mem 1690 (by decide +kernel) rfl, rx_mem 84 (by decide +kernel) rfl⟩, by decide +kernel⟩)⟩
set_option maxRecDepth 100000 in
theorem rx_mv143 : rx_okM rx_m143 := ⟨rx_mem 1836 rfl rfl, rx_mem 145 (by decide +kernel) rfl, ⟨by decide +kernel, by decide +kernel⟩, Nat.le_of_ble_eq_true rfl, by decide +kernel, Or.inr (Or.inl ⟨rfl, ⟨rx_mem 1835 (by decide +kernel) rfl, rx_mem 102 (by decide +kernel) rfl⟩, by decide +kernel⟩)⟩
set_option maxRecDepth 100000 in
theorem rx_mv144 : rx_okM rx_m144 := ⟨rx_mem 1539 rfl rfl, rx_mem 145 (by decide +kernel) rfl, ⟨by decide +kernel, by decide +kernel⟩, Nat.le_of_ble_eq_true rfl, by decide +kernel, Or.inr (Or.inl ⟨rfl, ⟨rx_mem 1538 (by decide +kernel) rfl, rx_mem 55 (by decide +kernel) rfl⟩, by decide +kernel⟩)⟩
set_option maxRecDepth 100000 in
theorem rx_mv145 : rx_okM rx_m145 := ⟨rx_mem 1497 rfl rfl, rx_mem 145 (by decide +kernel) rfl, ⟨by decide +kernel, by decide +kernel⟩, Nat.le_of_ble_eq_true rfl, by decide +kernel, Or.inr (Or.inl ⟨rfl, ⟨rx_mem 1496 (by decide +kernel) rfl, rx_mem 48 (by decide +kernel) rfl⟩, by decide +kernel⟩)⟩
set_option maxRecDepth 100000 in
theorem rx_mv146 : rx_okM rx_m146 := ⟨rx_mem 1659 rfl rfl, rx_mem 145 (by decide +kernel) rfl, ⟨by decide +kernel, by decide +kernel⟩, Nat.le_of_ble_eq_true rfl, by decide +kernel, Or.inl ⟨rfl, rx_mem 1658 (by decide +kernel) rfl, by decide +kernel⟩⟩
set_option maxRecDepth 100000 in
theorem rx_mv147 : rx_okM rx_m147 := ⟨rx_mem 1901 rfl rfl, rx_mem 145 (by decide +kernel) rfl, ⟨by decide +kernel, by decide +kernel⟩, Nat.le_of_ble_eq_true rfl, by decide +kernel, Or.inr (Or.inl ⟨rfl, ⟨rx_mem 1899 (by decide +kernel) rfl, rx_mem 1900 (by decide +kernel) rfl⟩, by decide +kernel⟩)⟩
set_option maxRecDepth 100000 in
theorem rx_mv148 : rx_okM rx_m148 := ⟨rx_mem 1868 rfl rfl, rx_mem 145 (by decide +kernel) rfl, ⟨by decide +kernel, by decide +kernel⟩, Nat.le_of_ble_eq_true rfl, by decide +kernel, Or.inr (Or.inl ⟨rfl, ⟨rx_mem 1866 (by decide +kernel) rfl, rx_mem 1867 (by decide +kernel) rfl⟩, by decide +kernel⟩)⟩
set_option maxRecDepth 100000 in
theorem rx_mv149 : rx_okM rx_m149 := ⟨rx_mem 1832 rfl rfl, rx_mem 145 (by decide +kernel) rfl, ⟨by decide +kernel, by decide +kernel⟩, Nat.le_of_ble_eq_true rfl, by decide +kernel, Or.inr (Or.inl ⟨rfl, ⟨rx_mem 1831 (by decide +kernel) rfl, rx_mem 101 (by decide +kernel) rfl⟩, by decide +kernel⟩)⟩
set_option maxRecDepth 100000 in
theorem rx_mv150 : rx_okM rx_m150 := ⟨rx_mem 1749 rfl rfl, rx_mem 145 (by decide +kernel) rfl, ⟨by decide +kernel, by decide +kernel⟩, Nat.le_of_ble_eq_true rfl, by decide +kernel, Or.inr (Or.inl ⟨rfl, ⟨rx_mem 1748 (by decide +kernel) rfl, rx_mem 92 (by decide +kernel) rfl⟩, by decide +kernel⟩)⟩
set_option maxRecDepth 100000 in
theorem rx_mv151 : rx_okM rx_m151 := ⟨rx_mem 1324 rfl rfl, rx_mem 145 (by decide +kernel) rfl, ⟨by decide +kernel, by decide +kernel⟩, Nat.le_of_ble_eq_true rfl, by decide +kernel, Or.inr (Or.inl ⟨rfl, ⟨rx_mem 1322 (by decide +kernel) rfl, rx_mem 46 (by decide +kernel) rfl⟩, by decide +kernel⟩)⟩
set_option maxRecDepth 100000 in
theorem rx_mv152 : rx_okM rx_m152 := ⟨rx_mem 1993 rfl rfl, rx_mem 145 (by decide +kernel) rfl, ⟨by decide +kernel, by decide +kernel⟩, Nat.le_of_ble_eq_true rfl, by decide +kernel, Or.inr (Or.inl ⟨rfl, ⟨rx_mem 1991 (by decide +kernel) rfl, rx_mem 1992 (by decide +kernel) rfl⟩, by decide +kernel⟩)⟩
set_option maxRecDepth 100000 in
theorem rx_mv153 : rx_okM rx_m153 := ⟨rx_mem 1734 rfl rfl, rx_mem 145 (by decide +kernel) rfl, ⟨by decide +kernel, by decide +kernel⟩, Nat.le_of_ble_eq_true rfl, by decide +kernel, Or.inr (Or.inl ⟨rfl, ⟨rx_mem 1732 (by decide +kernel) rfl, rx_mem 1733 (by decide +kernel) rfl⟩, by decide +kernel⟩)⟩
set_option maxRecDepth 100000 in
theorem rx_mv154 : rx_okM rx_m154 := ⟨rx_mem 1884 rfl rfl, rx_mem 145 (by decide +kernel) rfl, ⟨by decide +kernel, by decide +kernel⟩, Nat.le_of_ble_eq_true rfl, by decide +kernel, Or.inr (Or.inl ⟨rfl, ⟨rx_mem 1883 (by decide +kernel) rfl, rx_mem 108 (by decide +kernel) rfl⟩, by decide +kernel⟩)⟩
set_option maxRecDepth 100000 in
theorem rx_mv155 : rx_okM rx_m155 := ⟨rx_mem 1876 rfl rfl, rx_mem 145 (by decide +kernel) rfl, ⟨by decide +kernel, by decide +kernel⟩, Nat.le_of_ble_eq_true rfl, by decide +kernel, Or.inr (Or.inl ⟨rfl, ⟨rx_mem 1875 (by decide +kernel) rfl, rx_mem 106 (by decide +kernel) rfl⟩, by decide +kernel⟩)⟩
set_option maxRecDepth 100000 in
theorem rx_mv156 : rx_okM rx_m156 := ⟨rx_mem 1872 rfl rfl, rx_mem 145 (by decide +kernel) rfl, ⟨by decide +kernel, by decide +kernel⟩, Nat.le_of_ble_eq_true rfl, by decide +kernel, Or.inr (Or.inl ⟨rfl, ⟨rx_mem 1870 (by decide +kernel) rfl, rx_mem 1871 (by decide +kernel) rfl⟩, by decide +kernel⟩)⟩
set_option maxRecDepth 100000 in
theorem rx_mv157 : rx_okM rx_m157 := ⟨rx_mem 1880 rfl rfl, rx_mem 145 (by decide +kernel) rfl, ⟨by decide +kernel, by decide +kernel⟩, Nat.le_of_ble_eq_true rfl, by decide +kernel, Or.inr (Or.inl ⟨rfl, ⟨rx_mem 1879 (by decide +kernel) rfl, rx_mem 107 (by decide +kernel) rfl⟩, by decide +kernel⟩)⟩
set_option maxRecDepth 100000 in
theorem rx_mv158 : rx_okM rx_m158 := ⟨rx_mem 1687 rfl rfl, rx_mem 145 (by decide +kernel) rfl, ⟨by decide +kernel, by decide +kernel⟩, Nat.le_of_ble_eq_true rfl, by decide +kernel, Or.inr (Or.inl ⟨rfl, ⟨rx_mem 1685 (by decide +kernel) rfl, rx_mem 1686 (by decide +kernel) rfl⟩, by decide +kernel⟩)⟩
set_option maxRecDepth 100000 in
theorem rx_mv159 : rx_okM rx_m159 := ⟨rx_mem 1328 rfl rfl, rx_mem 145 (by decide +kernel) rfl, ⟨by decide +kernel, by decide +kernel⟩, Nat.le_of_ble_eq_true rfl, by decide +kernel, Or.inr (Or.inl ⟨rfl, ⟨rx_mem 1326 (by decide +kernel) rfl, rx_mem 1327 (by decide +kernel) rfl⟩, by decide +kernel⟩)⟩
set_option maxRecDepth 100000 in
theorem rx_mv160 : rx_okM rx_m160 := ⟨rx_mem 1613 rfl rfl, rx_mem 145 (by decide +kernel) rfl, ⟨by decide +kernel, by decide +kernel⟩, Nat.le_of_ble_eq_true rfl, by decide +kernel, Or.inr (Or.inl ⟨rfl, ⟨rx_mem 1611 (by decide +kernel) rfl, rx_mem 1612 (by decide +kernel) rfl⟩, by decide +kernel⟩)⟩
set_option maxRecDepth 100000 in
theorem rx_mv161 : rx_okM rx_m161 := ⟨rx_mem 1319 rfl rfl, rx_mem 145 (by decide +kernel) rfl, ⟨by decide +kernel, by decide +kernel⟩, Nat.le_of_ble_eq_true rfl, by decide +kernel, Or.inr (Or.inl ⟨rfl, ⟨rx_mem 1317 (by decide +kernel) rfl, rx_mem 1318 (by decide +kernel) rfl⟩, by decide +kernel⟩)⟩
set_option maxRecDepth 100000 in
theorem rx_mv162 : rx_okM rx_m162 := ⟨rx_mem 1577 rfl rfl, rx_mem 145 (by decide +kernel) rfl, ⟨by decide +kernel, by decide +kernel⟩, Nat.le_of_ble_eq_true rfl, by decide +kernel, Or.inl ⟨rfl, rx_mem 1576 (by decide +kernel) rfl, by decide +kernel⟩⟩
set_option maxRecDepth 100000 in
theorem rx_mv163 : rx_okM rx_m163 := ⟨rx_mem 1889 rfl rfl, rx_mem 145 (by decide +kernel) rfl, ⟨by decide +kernel, by decide +kernel⟩, Nat.le_of_ble_eq_true rfl, by decide +kernel, Or.inr (Or.inl ⟨rfl, ⟨rx_mem 1888 (by decide +kernel) rfl, rx_mem 109 (by decide +kernel) rfl⟩, by decide +kernel⟩)⟩
set_option maxRecDepth 100000 in
theorem rx_mv164 : rx_okM rx_m164 := ⟨rx_mem 1652 rfl rfl, rx_mem 145 (by decide +kernel) rfl, ⟨by decide +kernel, by decide +kernel⟩, Nat.le_of_ble_eq_true rfl, by decide +kernel, Or.inr (Or.inl ⟨rfl, ⟨rx_mem 1651 (by decide +kernel) rfl, rx_mem 78 (by decide +kernel) rfl⟩, by decide +kernel⟩)⟩
set_option maxRecDepth 100000 in
theorem rx_mv165 : rx_okM rx_m165 := ⟨rx_mem 1768 rfl rfl, rx_mem 145 (by decide +kernel) rfl, ⟨by decide +kernel, by decide +kernel⟩, Nat.le_of_ble_eq_true rfl, by decide +kernel, Or.inr (Or.inl ⟨rfl, ⟨rx_mem 1766 (by decide +kernel) rfl, rx_mem 1767 (by decide +kernel) rfl⟩, by decide +kernel⟩)⟩
set_option maxRecDepth 100000 in
theorem rx_mv166 : rx_okM rx_m166 := ⟨rx_mem 1828 rfl rfl, rx_mem 145 (by decide +kernel) rfl, ⟨by decide +kernel, by decide +kernel⟩, Nat.le_of_ble_eq_true rfl, by decide +kernel, Or.inr (Or.inl ⟨rfl, ⟨rx_mem 1826 (by decide +kernel) rfl, rx_mem 1827 (by decide +kernel) rfl⟩, by decide +kernel⟩)⟩
set_option maxRecDepth 100000 in
theorem rx_mv167 : rx_okM rx_m167 := ⟨rx_mem 1505 rfl rfl, rx_mem 145 (by decide +kernel) rfl, ⟨by decide +kernel, by decide +kernel⟩, Nat.le_of_ble_eq_true rfl, by decide +kernel, Or.inr (Or.inl ⟨rfl, ⟨rx_mem 1504 (by decide +kernel) rfl, rx_mem 50 (by decide +kernel) rfl⟩, by decide +kernel⟩)⟩
set_option maxRecDepth 100000 in
theorem rx_mv168 : rx_okM rx_m168 := ⟨rx_mem 1925 rfl rfl, rx_mem 145 (by decide +kernel) rfl, ⟨by decide +kernel, by decide +kernel⟩, Nat.le_of_ble_eq_true rfl, by decide +kernel, Or.inr (Or.inl ⟨rfl, ⟨rx_mem 1924 (by decide +kernel) rfl, rx_mem 116 (by decide +kernel) rfl⟩, by decide +kernel⟩)⟩
set_option maxRecDepth 100000 in
theorem rx_mv169 : rx_okM rx_m169 := ⟨rx_mem 1671 rfl rfl, rx_mem 145 (by decide +kernel) rfl, ⟨by decide +kernel, by decide +kernel⟩, Nat.le_of_ble_eq_true rfl, by decide +kernel, Or.inr (Or.inl ⟨rfl, ⟨rx_mem 1670 (by decide +kernel) rfl, rx_mem 81 (by decide +kernel) rfl⟩, by decide +kernel⟩)⟩
set_option maxRecDepth 100000 in
theorem rx_mv170 : rx_okM rx_m170 := ⟨rx_mem 1624 rfl rfl, rx_mem 145 (by decide +kernel) rfl, ⟨by decide +kernel, by decide +kernel⟩, Nat.le_of_ble_eq_true rfl, by decide +kernel, Or.inl ⟨rfl, rx_mem 1623 (by decide +kernel) rfl, by decide +kernel⟩⟩
set_option maxRecDepth 100000 in
theorem rx_mv171 : rx_okM rx_m171 := ⟨rx_mem 1981 rfl rfl, rx_mem 145 (by decide +kernel) rfl, ⟨by decide +kernel, by decide +kernel⟩, Nat.le_of_ble_eq_true rfl, by decide +kernel, Or.inr (Or.inl ⟨rfl, ⟨rx_mem 1980 (by decide +kernel) rfl, rx_mem 127 (by decide +kernel) rfl⟩, by decide +kernel⟩)⟩
set_option maxRecDepth 100000 in
theorem rx_mv172 : rx_okM rx_m172 := ⟨rx_mem 1985 rfl rfl, rx_mem 145 (by decide +kernel) rfl, ⟨by decide +kernel, by decide +kernel⟩, Nat.le_of_ble_eq_true rfl, by decide +kernel, Or.inr (Or.inl ⟨rfl, ⟨rx_mem 1983 (by decide +kernel) rfl, rx_mem 1984 (by decide +kernel) rfl⟩, by decide +kernel⟩)⟩
set_option maxRecDepth 100000 in
theorem rx_mv173 : rx_okM rx_m173 := ⟨rx_mem 1726 rfl rfl, rx_mem 145 (by decide +kernel) rfl, ⟨by decide +kernel, by decide +kernel⟩, Nat.le_of_ble_eq_true rfl, by decide +kernel, Or.inr (Or.inl ⟨rfl, ⟨rx_mem 1725 (by decide +kernel) rfl, rx_mem 89 (by decide +kernel) rfl⟩, by decide +kernel⟩)⟩
set_option maxRecDepth 100000 in
theorem rx_mv174 : rx_okM rx_m174 := ⟨rx_mem 1511 rfl rfl, rx_mem 145 (by decide +kernel) rfl, ⟨by decide +kernel, by decide +kernel⟩, Nat.le_of_ble_eq_true rfl, by decide +kernel, Or.inl ⟨rfl, rx_mem 1510 (by decide +kernel) rfl, by decide +kernel⟩⟩
set_option maxRecDepth 100000 in
theorem rx_mv175 : rx_okM rx_m175 := ⟨rx_mem 1543 rfl rfl, rx_mem 145 (by decide +kernel) rfl, ⟨by decide +kernel, by decide +kernel⟩, Nat.le_of_ble_eq_true rfl, by decide +kernel, Or.inr (Or.inl ⟨rfl, ⟨rx_mem 1542 (by decide +kernel) rfl, rx_mem 56 (by decide +kernel) rfl⟩, by decide +kernel⟩)⟩
set_option maxRecDepth 100000 in
theorem rx_mv176 : rx_okM rx_m176 := ⟨rx_mem 1699 rfl rfl, rx_mem 145 (by decide +kernel) rfl, ⟨by decide +kernel, by decide +kernel⟩, Nat.le_of_ble_eq_true rfl, by decide +kernel, Or.inr (Or.inl ⟨rfl, ⟨rx_mem 1698 (by decide +kernel) rfl, rx_mem 86 (by decide +kernel) rfl⟩, by decide +kernel⟩)⟩
set_option maxRecDepth 100000 in
theorem rx_mv177 : rx_okM rx_m177 := ⟨rx_mem 1550 rfl rfl, rx_mem 145 (by decide +kernel) rfl, ⟨by decide +kernel, by decide +kernel⟩, Nat.le_of_ble_eq_true rfl, by decide +kernel, Or.inl ⟨rfl, rx_mem 1549 (by decide +kernel) rfl, by decide +kernel⟩⟩
set_option maxRecDepth 100000 in
theorem rx_mv178 : rx_okM rx_m178 := ⟨rx_mem 1632 rfl rfl, rx_mem 145 (by decide +kernel) rfl, ⟨by decide +kernel, by decide +kernel⟩, Nat.le_of_ble_eq_true rfl, by decide +kernel, Or.inr (Or.inl ⟨rfl, ⟨rx_mem 1631 (by decide +kernel) rfl, rx_mem 73 (by decide +kernel) rfl⟩, by decide +kernel⟩)⟩
set_option maxRecDepth 100000 in
theorem rx_mv179 : rx_okM rx_m179 := ⟨rx_mem 1508 rfl rfl, rx_mem 145 (by decide +kernel) rfl, ⟨by decide +kernel, by decide +kernel⟩, Nat.le_of_ble_eq_true rfl, by decide +kernel, Or.inl ⟨rfl, rx_mem 1507 (by decide +kernel) rfl, by decide +kernel⟩⟩
set_option maxRecDepth 100000 in
theorem rx_mv180 : rx_okM rx_m180 := ⟨rx_mem 1621 rfl rfl, rx_mem 145 (by decide +kernel) rfl, ⟨by decide +kernel, by decide +kernel⟩, Nat.le_of_ble_eq_true rfl, by decide +kernel, Or.inr (Or.inl ⟨rfl, ⟨rx_mem 1620 (by decide +kernel) rfl, rx_mem 72 (by decide +kernel) rfl⟩, by decide +kernel⟩)⟩
set_option maxRecDepth 100000 in
theorem rx_mv181 : rx_okM rx_m181 := ⟨rx_mem 1667 rfl rfl, rx_mem 145 (by decide +kernel) rfl, ⟨by decide +kernel, by decide +kernel⟩, Nat.le_of_ble_eq_true rfl, by decide +kernel, Or.inr (Or.inl ⟨rfl, ⟨rx_mem 1666 (by decide +kernel) rfl, rx_mem 80 (by decide +kernel) rfl⟩, by decide +kernel⟩)⟩
set_option maxRecDepth 100000 in
theorem rx_mv182 : rx_okM rx_m182 := ⟨rx_mem 1969 rfl rfl, rx_mem 145 (by decide +kernel) rfl, ⟨by decide +kernel, by decide +kernel⟩, Nat.le_of_ble_eq_true rfl, by decide +kernel, Or.inr (Or.inl ⟨rfl, ⟨rx_mem 1968 (by decide +kernel) rfl, rx_mem 125 (by decide +kernel) rfl⟩, by decide +kernel⟩)⟩
set_option maxRecDepth 100000 in
theorem rx_mv183 : rx_okM rx_m183 := ⟨rx_mem 1570 rfl rfl, rx_mem 145 (by decide +kernel) rfl, ⟨by decide +kernel, by decide +kernel⟩, Nat.le_of_ble_eq_true rfl, by decide +kernel, Or.inr (Or.inl ⟨rfl, ⟨rx_mem 1569 (by decide +kernel) rfl, rx_mem 62 (by decide +kernel) rfl⟩, by decide +kernel⟩)⟩
set_option maxRecDepth 100000 in
theorem rx_mv184 : rx_okM rx_m184 := ⟨rx_mem 1585 rfl rfl, rx_mem 145 (by decide +kernel) rfl, ⟨by decide +kernel, by decide +kernel⟩, Nat.le_of_ble_eq_true rfl, by decide +kernel, Or.inr (Or.inl ⟨rfl, ⟨rx_mem 1584 (by decide +kernel) rfl, rx_mem 65 (by decide +kernel) rfl⟩, by decide +kernel⟩)⟩
set_option maxRecDepth 100000 in
theorem rx_mv185 : rx_okM rx_m185 := ⟨rx_mem 1812 rfl rfl, rx_mem 145 (by decide +kernel) rfl, ⟨by decide +kernel, by decide +kernel⟩, Nat.le_of_ble_eq_true rfl, by decide +kernel, Or.inr (Or.inl ⟨rfl, ⟨rx_mem 1811 (by decide +kernel) rfl, rx_mem 98 (by decide +kernel) rfl⟩, by decide +kernel⟩)⟩
set_option maxRecDepth 100000 in
theorem rx_mv186 : rx_okM rx_m186 := ⟨rx_mem 1605 rfl rfl, rx_mem 145 (by decide +kernel) rfl, ⟨by decide +kernel, by decide +kernel⟩, Nat.le_of_ble_eq_true rfl, by decide +kernel, Or.inr (Or.inl ⟨rfl, ⟨rx_mem 1604 (by decide +kernel) rfl, rx_mem 70 (by decide +kernel) rfl⟩, by decide +kernel⟩)⟩
set_option maxRecDepth 100000 in
theorem rx_mv187 : rx_okM rx_m187 := ⟨rx_mem 1574 rfl rfl, rx_mem 145 (by decide +kernel) rfl, ⟨by decide +kernel, by decide +kernel⟩, Nat.le_of_ble_eq_true rfl, by decide +kernel, Or.inr (Or.inl ⟨rfl, ⟨rx_mem 1573 (by decide +kernel) rfl, rx_mem 63 (by decide +kernel) rfl⟩, by decide +kernel⟩)⟩
set_option maxRecDepth 100000 in
theorem rx_mv188 : rx_okM rx_m188 := ⟨rx_mem 1525 rfl rfl, rx_mem 145 (by decide +kernel) rfl, ⟨by decide +kernel, by decide +kernel⟩, Nat.le_of_ble_eq_true rfl, by decide +kernel, Or.inr (Or.inl ⟨rfl, ⟨rx_mem 1524 (by decide +kernel) rfl, rx_mem 53 (by decide +kernel) rfl⟩, by decide +kernel⟩)⟩
set_option maxRecDepth 100000 in
theorem rx_mv189 : rx_okM rx_m189 := ⟨rx_mem 1909 rfl rfl, rx_mem 145 (by decide +kernel) rfl, ⟨by decide +kernel, by decide +kernel⟩, Nat.le_of_ble_eq_true rfl, by decide +kernel, Or.inr (Or.inl ⟨rfl, ⟨rx_mem 1908 (by decide +kernel) rfl, rx_mem 112 (by decide +kernel) rfl⟩, by decide +kernel⟩)⟩
set_option maxRecDepth 100000 in
theorem rx_mv190 : rx_okM rx_m190 := ⟨rx_mem 1628 rfl rfl, rx_mem 145 (by decide +kernel) rfl, ⟨by decide +kernel, by decide +kernel⟩, Nat.le_of_ble_eq_true rfl, by decide +kernel, Or.inr (Or.inl ⟨rfl, ⟨rx_mem 1626 (by decide +kernel) rfl, rx_mem 1627 (by decide +kernel) rfl⟩, by decide +kernel⟩)⟩
set_option maxRecDepth 100000 in
theorem rx_mv191 : rx_okM rx_m191 := ⟨rx_mem 1800 rfl rfl, rx_mem 145 (by decide +kernel) rfl, ⟨by decide +kernel, by decide +kernel⟩, Nat.le_of_ble_eq_true rfl, by decide +kernel, Or.inr (Or.inl ⟨rfl, ⟨rx_mem 1799 (by decide +kernel) rfl, rx_mem 96 (by decide +kernel) rfl⟩, by decide +kernel⟩)⟩
set_option maxRecDepth 100000 in
theorem rx_mv192 : rx_okM rx_m192 := ⟨rx_mem 1816 rfl rfl, rx_mem 145 (by decide +kernel) rfl, ⟨by decide +kernel, by decide +kernel⟩, Nat.le_of_ble_eq_true rfl, by decide +kernel, Or.inr (Or.inl ⟨rfl, ⟨rx_mem 1815 (by decide +kernel) rfl, rx_mem 99 (by decide +kernel) rfl⟩, by decide +kernel⟩)⟩
set_option maxRecDepth 100000 in
theorem rx_mv193 : rx_okM rx_m193 := ⟨rx_mem 1741 rfl rfl, rx_mem 145 (by decide +kernel) rfl, ⟨by decide +kernel, by decide +kernel⟩, Nat.le_of_ble_eq_true rfl, by decide +kernel, Or.inl ⟨rfl, rx_mem 1740 (by decide +kernel) rfl, by decide +kernel⟩⟩
set_option maxRecDepth 100000 in
theorem rx_mv194 : rx_okM rx_m194 := ⟨rx_mem 1644 rfl rfl, rx_mem 145 (by decide +kernel) rfl, ⟨by decide +kernel, by decide +kernel⟩, Nat.le_of_ble_eq_true rfl, by decide +kernel, Or.inr (Or.inl ⟨rfl, ⟨rx_mem 1643 (by decide +kernel) rfl, rx_mem 76 (by decide +kernel) rfl⟩, by decide +kernel⟩)⟩
set_option maxRecDepth 100000 in
theorem rx_mv195 : rx_okM rx_m195 := ⟨rx_mem 1710 rfl rfl, rx_mem 145 (by decide +kernel) rfl, ⟨by decide +kernel, by decide +kernel⟩, Nat.le_of_ble_eq_true rfl, by decide +kernel, Or.inr (Or.inl ⟨rfl, ⟨rx_mem 1709 (by decide +kernel) rfl, rx_mem 88 (by decide +kernel) rfl⟩, by decide +kernel⟩)⟩
set_option maxRecDepth 100000 in
theorem rx_mv196 : rx_okM rx_m196 := ⟨rx_mem 1617 rfl rfl, rx_mem 145 (by decide +kernel) rfl, ⟨by decide +kernel, by decide +kernel⟩, Nat.le_of_ble_eq_true rfl, by decide +kernel, Or.inr (Or.inl ⟨rfl, ⟨rx_mem 1615 (by decide +kernel) rfl, rx_mem 1616 (by decide +kernel) rfl⟩, by decide +kernel⟩)⟩
set_option maxRecDepth 100000 in
theorem rx_mv197 : rx_okM rx_m197 := ⟨rx_mem 1893 rfl rfl, rx_mem 145 (by decide +kernel) rfl, ⟨by decide +kernel, by decide +kernel⟩, Nat.le_of_ble_eq_true rfl, by decide +kernel, Or.inr (Or.inl ⟨rfl, ⟨rx_mem 1892 (by decide +kernel) rfl, rx_mem 110 (by decide +kernel) rfl⟩, by decide +kernel⟩)⟩
set_option maxRecDepth 100000 in
theorem rx_mv198 : rx_okM rx_m198 := ⟨rx_mem 1772 rfl rfl, rx_mem 145 (by decide +kernel) rfl, ⟨by decide +kernel, by decide +kernel⟩, Nat.le_of_ble_eq_true rfl, by decide +kernel, Or.inr (Or.inl ⟨rfl, ⟨rx_mem 1770 (by decide +kernel) rfl, rx_mem 1771 (by decide +kernel) rfl⟩, by decide +kernel⟩)⟩
set_option maxRecDepth 100000 in
theorem rx_mv199 : rx_okM rx_m199 := ⟨rx_mem 1776 rfl rfl, rx_mem 145 (by decide +kernel) rfl, ⟨by decide +kernel, by decide +kernel⟩, Nat.le_of_ble_eq_true rfl, by decide +kernel, Or.inr (Or.inl ⟨rfl, ⟨rx_mem 1774 (by decide +kernel) rfl, rx_mem 1775 (by decide +kernel) rfl⟩, by decide +kernel⟩)⟩
set_option maxRecDepth 100000 in
theorem rx_mv200 : rx_okM rx_m200 := ⟨rx_mem 1756 rfl rfl, rx_mem 145 (by decide +kernel) rfl, ⟨by decide +kernel, by decide +kernel⟩, Nat.le_of_ble_eq_true rfl, by decide +kernel, Or.inl ⟨rfl, rx_mem 1755 (by decide +kernel) rfl, by decide +kernel⟩⟩
set_option maxRecDepth 100000 in
theorem rx_mv201 : rx_okM rx_m201 := ⟨rx_mem 1683 rfl rfl, rx_mem 145 (by decide +kernel) rfl, ⟨by decide +kernel, by decide +kernel⟩, Nat.le_of_ble_eq_true rfl, by decide +kernel, Or.inr (Or.inl ⟨rfl, ⟨rx_mem 1682 (by decide +kernel) rfl, rx_mem 83 (by decide +kernel) rfl⟩, by decide +kernel⟩)⟩
set_option maxRecDepth 100000 in
theorem rx_mv202 : rx_okM rx_m202 := ⟨rx_mem 1675 rfl rfl, rx_mem 145 (by decide +kernel) rfl, ⟨by decide +kernel, by decide +kernel⟩, Nat.le_of_ble_eq_true rfl, by decide +kernel, Or.inr (Or.inl ⟨rfl, ⟨rx_mem 1674 (by decide +kernel) rfl, rx_mem 82 (by decide +kernel) rfl⟩, by decide +kernel⟩)⟩
set_option maxRecDepth 100000 in
theorem rx_mv203 : rx_okM rx_m203 := ⟨rx_mem 1663 rfl rfl, rx_mem 145 (by decide +kernel) rfl, ⟨by decide +kernel, by decide +kernel⟩, Nat.le_of_ble_eq_true rfl, by decide +kernel, Or.inr (Or.inl ⟨rfl, ⟨rx_mem 1661 (by decide +kernel) rfl, rx_mem 1662 (by decide +kernel) rfl⟩, by decide +kernel⟩)⟩
set_option maxRecDepth 100000 in
theorem rx_mv204 : rx_okM rx_m204 := ⟨rx_mem 1780 rfl rfl, rx_mem 145 (by decide +kernel) rfl, ⟨by decide +kernel, by decide +kernel⟩, Nat.le_of_ble_eq_true rfl, by decide +kernel, Or.inr (Or.inl ⟨rfl, ⟨rx_mem 1778 (by decide +kernel) rfl, rx_mem 1779 (by decide +kernel) rfl⟩, by decide +kernel⟩)⟩
set_option maxRecDepth 100000 in
theorem rx_mv205 : rx_okM rx_m205 := ⟨rx_mem 1784 rfl rfl, rx_mem 145 (by decide +kernel) rfl, ⟨by decide +kernel, by decide +kernel⟩, Nat.le_of_ble_eq_true rfl, by decide +kernel, Or.inr (Or.inl ⟨rfl, ⟨rx_mem 1783 (by decide +kernel) rfl, rx_mem 94 (by decide +kernel) rfl⟩, by decide +kernel⟩)⟩
set_option maxRecDepth 100000 in
theorem rx_mv206 : rx_okM rx_m206 := ⟨rx_mem 1788 rfl rfl, rx_mem 145 (by decide +kernel) rfl, ⟨by decide +kernel, by decide +kernel⟩, Nat.le_of_ble_eq_true rfl, by decide +kernel, Or.inr (Or.inl ⟨rfl, ⟨rx_mem 1786 (by decide +kernel) rfl, rx_mem 1787 (by decide +kernel) rfl⟩, by decide +kernel⟩)⟩
set_option maxRecDepth 100000 in
theorem rx_mv207 : rx_okM rx_m207 := ⟨rx_mem 1760 rfl rfl, rx_mem 145 (by decide +kernel) rfl, ⟨by decide +kernel, by decide +kernel⟩, Nat.le_of_ble_eq_true rfl, by decide +kernel, Or.inr (Or.inl ⟨rfl, ⟨rx_mem 1758 (by decide +kernel) rfl, rx_mem 1759 (by decide +kernel) rfl⟩, by decide +kernel⟩)⟩
set_option maxRecDepth 100000 in
theorem rx_mv208 : rx_okM rx_m208 := ⟨rx_mem 1753 rfl rfl, rx_mem 145 (by decide +kernel) rfl, ⟨by decide +kernel, by decide +kernel⟩, Nat.le_of_ble_eq_true rfl, by decide +kernel, Or.inr (Or.inl ⟨rfl, ⟨rx_mem 1752 (by decide +kernel) rfl, rx_mem 93 (by decide +kernel) rfl⟩, by decide +kernel⟩)⟩
set_option maxRecDepth 100000 in
theorem rx_mv209 : rx_okM rx_m209 := ⟨rx_mem 1679 rfl rfl, rx_mem 145 (by decide +kernel) rfl, ⟨by decide +kernel, by decide +kernel⟩, Nat.le_of_ble_eq_true rfl, by decide +kernel, Or.inr (Or.inl ⟨rfl, ⟨rx_mem 1677 (by decide +kernel) rfl, rx_mem 1678 (by decide +kernel) rfl⟩, by decide +kernel⟩)⟩
set_option maxRecDepth 100000 in
theorem rx_mv210 : rx_okM rx_m210 := ⟨rx_mem 1897 rfl rfl, rx_mem 145 (by decide +kernel) rfl, ⟨by decide +kernel, by decide +kernel⟩, Nat.le_of_ble_eq_true rfl, by decide +kernel, Or.inr (Or.inl ⟨rfl, ⟨rx_mem 1895 (by decide +kernel) rfl, rx_mem 1896 (by decide +kernel) rfl⟩, by decide +kernel⟩)⟩
set_option maxRecDepth 100000 in
theorem rx_mv211 : rx_okM rx_m211 := ⟨rx_mem 1764 rfl rfl, rx_mem 145 (by decide +kernel) rfl, ⟨by decide +kernel, by decide +kernel⟩, Nat.le_of_ble_eq_true rfl, by decide +kernel, Or.inr (Or.inl ⟨rfl, ⟨rx_mem 1762 (by decide +kernel) rfl, rx_mem 1763 (by decide +kernel) rfl⟩, by decide +kernel⟩)⟩
set_option maxRecDepth 100000 in
theorem rx_mv212 : rx_okM rx_m212 := ⟨rx_mem 1656 rfl rfl, rx_mem 145 (by decide +kernel) rfl, ⟨by decide +kernel, by decide +kernel⟩, Nat.le_of_ble_eq_true rfl, by decide +kernel, Or.inr (Or.inl ⟨rfl, ⟨rx_mem 1655 (by decide +kernel) rfl, rx_mem 79 (by decide +kernel) rfl⟩, by decide +kernel⟩)⟩
set_option maxRecDepth 100000 in
theorem rx_mv213 : rx_okM rx_m213 := ⟨rx_mem 1745 rfl rfl, rx_mem 145 (by decide +kernel) rfl, ⟨by decide +kernel, by decide +kernel⟩, Nat.le_of_ble_eq_true rfl, by decide +kernel, Or.inr (Or.inl ⟨rfl, ⟨rx_mem 1744 (by decide +kernel) rfl, rx_mem 91 (by decide +kernel) rfl⟩, by decide +kernel⟩)⟩
set_option maxRecDepth 100000 in
theorem rx_mv214 : rx_okM rx_m214 := ⟨rx_mem 1796 rfl rfl, rx_mem 145 (by decide +kernel) rfl, ⟨by decide +kernel, by decide +kernel⟩, Nat.le_of_ble_eq_true rfl, by decide +kernel, Or.inr (Or.inl ⟨rfl, ⟨rx_mem 1795 (by decide +kernel) rfl, rx_mem 95 (by decide +kernel) rfl⟩, by decide +kernel⟩)⟩
set_option maxRecDepth 100000 in
theorem rx_mv215 : rx_okM rx_m215 := ⟨rx_mem 1792 rfl rfl, rx_mem 145 (by decide +kernel) rfl, ⟨by decide +kernel, by decide +kernel⟩, Nat.le_of_ble_eq_true rfl, by decide +kernel, Or.inr (Or.inl ⟨rfl, ⟨rx_mem 1790 (by decide +kernel) rfl, rx_mem 1791 (by decide +kernel) rfl⟩, by decide +kernel⟩)⟩
set_option maxRecDepth 100000 in
theorem rx_mv216 : rx_okM rx_m216 := ⟨rx_mem 1820 rfl rfl, rx_mem 145 (by decide +kernel) rfl, ⟨by decide +kernel, by decide +kernel⟩, Nat.le_of_ble_eq_true rfl, by decide +kernel, Or.inr (Or.inl ⟨rfl, ⟨rx_mem 1819 (by decide +kernel) rfl, rx_mem 100 (by decide +kernel) rfl⟩, by decide +kernel⟩)⟩
set_option maxRecDepth 100000 in
theorem rx_mv217 : rx_okM rx_m217 := ⟨rx_mem 1738 rfl rfl, rx_mem 145 (by decide +kernel) rfl, ⟨by decide +kernel, by decide +kernel⟩, Nat.le_of_ble_eq_true rfl, by decide +kernel, Or.inr (Or.inl ⟨rfl, ⟨rx_mem 1737 (by decide +kernel) rfl, rx_mem 90 (by decide +kernel) rfl⟩, by decide +kernel⟩)⟩
set_option maxRecDepth 100000 in
theorem rx_mv218 : rx_okM rx_m218 := ⟨rx_mem 1714 rfl rfl, rx_mem 145 (by decide +kernel) rfl, ⟨by decide +kernel, by decide +kernel⟩, Nat.le_of_ble_eq_true rfl, by decide +kernel, Or.inr (Or.inl ⟨rfl, ⟨rx_mem 1712 (by decide +kernel) rfl, rx_mem 1713 (by decide +kernel) rfl⟩, by decide +kernel⟩)⟩
set_option maxRecDepth 100000 in
theorem rx_mv219 : rx_okM rx_m219 := ⟨rx_mem 1554 rfl rfl, rx_mem 145 (by decide +kernel) rfl, ⟨by decide +kernel, by decide +kernel⟩, Nat.le_of_ble_eq_true rfl, by decide +kernel, Or.inr (Or.inl ⟨rfl, ⟨rx_mem 1553 (by decide +kernel) rfl, rx_mem 58 (by decide +kernel) rfl⟩, by decide +kernel⟩)⟩
set_option maxRecDepth 100000 in
theorem rx_mv220 : rx_okM rx_m220 := ⟨rx_mem 1945 rfl rfl, rx_mem 145 (by decide +kernel) rfl, ⟨by decide +kernel, by decide +kernel⟩, Nat.le_of_ble_eq_true rfl, by decide +kernel, Or.inr (Or.inl ⟨rfl, ⟨rx_mem 1944 (by decide +kernel) rfl, rx_mem 119 (by decide +kernel) rfl⟩, by decide +kernel⟩)⟩
set_option maxRecDepth 100000 in
theorem rx_mv221 : rx_okM rx_m221 := ⟨rx_mem 1905 rfl rfl, rx_mem 145 (by decide +kernel) rfl, ⟨by decide +kernel, by decide +kernel⟩, Nat.le_of_ble_eq_true rfl, by decide +kernel, Or.inr (Or.inl ⟨rfl, ⟨rx_mem 1904 (by decide +kernel) rfl, rx_mem 111 (by decide +kernel) rfl⟩, by decide +kernel⟩)⟩
set_option maxRecDepth 100000 in
theorem rx_mv222 : rx_okM rx_m222 := ⟨rx_mem 1953 rfl rfl, rx_mem 145 (by decide +kernel) rfl, ⟨by decide +kernel, by decide +kernel⟩, Nat.le_of_ble_eq_true rfl, by decide +kernel, Or.inr (Or.inl ⟨rfl, ⟨rx_mem 1952 (by decide +kernel) rfl, rx_mem 121 (by decide +kernel) rfl⟩, by decide +kernel⟩)⟩
set_option maxRecDepth 100000 in
theorem rx_mv223 : rx_okM rx_m223 := ⟨rx_mem 1589 rfl rfl, rx_mem 145 (by decide +kernel) rfl, ⟨by decide +kernel, by decide +kernel⟩, Nat.le_of_ble_eq_true rfl, by decide +kernel, Or.inr (Or.inl ⟨rfl, ⟨rx_mem 1588 (by decide +kernel) rfl, rx_mem 66 (by decide +kernel) rfl⟩, by decide +kernel⟩)⟩
set_option maxRecDepth 100000 in
theorem rx_mv224 : rx_okM rx_m224 := ⟨rx_mem 1973 rfl rfl, rx_mem 145 (by decide +kernel) rfl, ⟨by decide +kernel, by decide +kernel⟩, Nat.le_of_ble_eq_true rfl, by decide +kernel, Or.inr (Or.inl ⟨rfl, ⟨rx_mem 1972 (by decide +kernel) rfl, rx_mem 126 (by decide +kernel) rfl⟩, by decide +kernel⟩)⟩
set_option maxRecDepth 100000 in
theorem rx_mv225 : rx_okM rx_m225 := ⟨rx_mem 1913 rfl rfl, rx_mem 145 (by decide +kernel) rfl, ⟨by decide +kernel, by decide +kernel⟩, Nat.le_of_ble_eq_true rfl, by decide +kernel, Or.inr (Or.inl ⟨rfl, ⟨rx_mem 1912 (by decide +kernel) rfl, rx_mem 113 (by decide +kernel) rfl⟩, by decide +kernel⟩)⟩
set_option maxRecDepth 100000 in
theorem rx_mv226 : rx_okM rx_m226 := ⟨rx_mem 1601 rfl rfl, rx_mem 145 (by decide +kernel) rfl, ⟨by decide +kernel, by decide +kernel⟩, Nat.le_of_ble_eq_true rfl, by decide +kernel, Or.inr (Or.inl ⟨rfl, ⟨rx_mem 1600 (by decide +kernel) rfl, rx_mem 69 (by decide +kernel) rfl⟩, by decide +kernel⟩)⟩
set_option maxRecDepth 100000 in
theorem rx_mv227 : rx_okM rx_m227 := ⟨rx_mem 1535 rfl rfl, rx_mem 145 (by decide +kernel) rfl, ⟨by decide +kernel, by decide +kernel⟩, Nat.le_of_ble_eq_true rfl, by decide +kernel, Or.inr (Or.inl ⟨rfl, ⟨rx_mem 1534 (by decide +kernel) rfl, rx_mem 54 (by decide +kernel) rfl⟩, by decide +kernel⟩)⟩
set_option maxRecDepth 100000 in
theorem rx_mv228 : rx_okM rx_m228 := ⟨rx_mem 1562 rfl rfl, rx_mem 145 (by decide +kernel) rfl, ⟨by decide +kernel, by decide +kernel⟩, Nat.le_of_ble_eq_true rfl, by decide +kernel, Or.inr (Or.inl ⟨rfl, ⟨rx_mem 1561 (by decide +kernel) rfl, rx_mem 60 (by decide +kernel) rfl⟩, by decide +kernel⟩)⟩
set_option maxRecDepth 100000 in
theorem rx_mv229 : rx_okM rx_m229 := ⟨rx_mem 1597 rfl rfl, rx_mem 145 (by decide +kernel) rfl, ⟨by decide +kernel, by decide +kernel⟩, Nat.le_of_ble_eq_true rfl, by decide +kernel, Or.inr (Or.inl ⟨rfl, ⟨rx_mem 1596 (by decide +kernel) rfl, rx_mem 68 (by decide +kernel) rfl⟩, by decide +kernel⟩)⟩
set_option maxRecDepth 100000 in
theorem rx_mv230 : rx_okM rx_m230 := ⟨rx_mem 1917 rfl rfl, rx_mem 145 (by decide +kernel) rfl, ⟨by decide +kernel, by decide +kernel⟩, Nat.le_of_ble_eq_true rfl, by decide +kernel, Or.inr (Or.inl ⟨rfl, ⟨rx_mem 1916 (by decide +kernel) rfl, rx_mem 114 (by decide +kernel) rfl⟩, by decide +kernel⟩)⟩
set_option maxRecDepth 100000 in
theorem rx_mv231 : rx_okM rx_m231 := ⟨rx_mem 1521 rfl rfl, rx_mem 145 (by decide +kernel) rfl, ⟨by decide +kernel, by decide +kernel⟩, Nat.le_of_ble_eq_true rfl, by decide +kernel, Or.inr (Or.inl ⟨rfl, ⟨rx_mem 1520 (by decide +kernel) rfl, rx_mem 52 (by decide +kernel) rfl⟩, by decide +kernel⟩)⟩
set_option maxRecDepth 100000 in
theorem rx_mv232 : rx_okM rx_m232 := ⟨rx_mem 1581 rfl rfl, rx_mem 145 (by decide +kernel) rfl, ⟨by decide +kernel, by decide +kernel⟩, Nat.le_of_ble_eq_true rfl, by decide +kernel, Or.inr (Or.inl ⟨rfl, ⟨rx_mem 1580 (by decide +kernel) rfl, rx_mem 64 (by decide +kernel) rfl⟩, by decide +kernel⟩)⟩
set_option maxRecDepth 100000 in
theorem rx_mv233 : rx_okM rx_m233 := ⟨rx_mem 1593 rfl rfl, rx_mem 145 (by decide +kernel) rfl, ⟨by decide +kernel, by decide +kernel⟩, Nat.le_of_ble_eq_true rfl, by decide +kernel, Or.inr (Or.inl ⟨rfl, ⟨rx_mem 1592 (by decide +kernel) rfl, rx_mem 67 (by decide +kernel) rfl⟩, by decide +kernel⟩)⟩
set_option maxRecDepth 100000 in
theorem rx_mv234 : rx_okM rx_m234 := ⟨rx_mem 1921 rfl rfl, rx_mem 145 (by decide +kernel) rfl, ⟨by decide +kernel, by decide +kernel⟩, Nat.le_of_ble_eq_true rfl, by decide +kernel, Or.inr (Or.inl ⟨rfl, ⟨rx_mem 1920 (by decide +kernel) rfl, rx_mem 115 (by decide +kernel) rfl⟩, by decide +kernel⟩)⟩
set_option maxRecDepth 100000 in
theorem rx_mv235 : rx_okM rx_m235 := ⟨rx_mem 1566 rfl rfl, rx_mem 145 (by decide +kernel) rfl, ⟨by decide +kernel, by decide +kernel⟩, Nat.le_of_ble_eq_true rfl, by decide +kernel, Or.inr (Or.inl ⟨rfl, ⟨rx_mem 1565 (by decide +kernel) rfl, rx_mem 61 (by decide +kernel) rfl⟩, by decide +kernel⟩)⟩
set_option maxRecDepth 100000 in
theorem rx_mv236 : rx_okM rx_m236 := ⟨rx_mem 1957 rfl rfl, rx_mem 145 (by decide +kernel) rfl, ⟨by decide +kernel, by decide +kernel⟩, Nat.le_of_ble_eq_true rfl, by decide +kernel, Or.inr (Or.inl ⟨rfl, ⟨rx_mem 1956 (by decide +kernel) rfl, rx_mem 122 (by decide +kernel) rfl⟩, by decide +kernel⟩)⟩
set_option maxRecDepth 100000 in
theorem rx_mv237 : rx_okM rx_m237 := ⟨rx_mem 1547 rfl rfl, rx_mem 145 (by decide +kernel) rfl, ⟨by decide +kernel, by decide +kernel⟩, Nat.le_of_ble_eq_true rfl, by decide +kernel, Or.inr (Or.inl ⟨rfl, ⟨rx_mem 1546 (by decide +kernel) rfl, rx_mem 57 (by decide +kernel) rfl⟩, by decide +kernel⟩)⟩
set_option maxRecDepth 100000 in
theorem rx_mv238 : rx_okM rx_m238 := ⟨rx_mem 1965 rfl rfl, rx_mem 145 (by decide +kernel) rfl, ⟨by decide +kernel, by decide +kernel⟩, Nat.le_of_ble_eq_true rfl, by decide +kernel, Or.inr (Or.inl ⟨rfl, ⟨rx_mem 1964 (by decide +kernel) rfl, rx_mem 124 (by decide +kernel) rfl⟩, by decide +kernel⟩)⟩
set_option maxRecDepth 100000 in
theorem rx_mv239 : rx_okM rx_m239 := ⟨rx_mem 1941 rfl rfl, rx_mem 145 (by decide +kernel) rfl, ⟨by decide +kernel, by decide +kernel⟩, Nat.le_of_ble_eq_true rfl, by decide +kernel, Or.inr (Or.inl ⟨rfl, ⟨rx_mem 1940 (by decide +kernel) rfl, rx_mem 118 (by decide +kernel) rfl⟩, by decide +kernel⟩)⟩
set_option maxRecDepth 100000 in
theorem rx_mv240 : rx_okM rx_m240 := ⟨rx_mem 1558 rfl rfl, rx_mem 145 (by decide +kernel) rfl, ⟨by decide +kernel, by decide +kernel⟩, Nat.le_of_ble_eq_true rfl, by decide +kernel, Or.inr (Or.inl ⟨rfl, ⟨rx_mem 1557 (by decide +kernel) rfl, rx_mem 59 (by decide +kernel) rfl⟩, by decide +kernel⟩)⟩
set_option maxRecDepth 100000 in
theorem rx_mv241 : rx_okM rx_m241 := ⟨rx_mem 1949 rfl rfl, rx_mem 145 (by decide +kernel) rfl, ⟨by decide +kernel, by decide +kernel⟩, Nat.le_of_ble_eq_true rfl, by decide +kernel, Or.inr (Or.inl ⟨rfl, ⟨rx_mem 1948 (by decide +kernel) rfl, rx_mem 120 (by decide +kernel) rfl⟩, by decide +kernel⟩)⟩
set_option maxRecDepth 100000 in
theorem rx_mv242 : rx_okM rx_m242 := ⟨rx_mem 1636 rfl rfl, rx_mem 145 (by decide +kernel) rfl, ⟨by decide +kernel, by decide +kernel⟩, Nat.le_of_ble_eq_true rfl, by decide +kernel, Or.inr (Or.inl ⟨rfl, ⟨rx_mem 1635 (by decide +kernel) rfl, rx_mem 74 (by decide +kernel) rfl⟩, by decide +kernel⟩)⟩
set_option maxRecDepth 100000 in
theorem rx_mv243 : rx_okM rx_m243 := ⟨rx_mem 1989 rfl rfl, rx_mem 145 (by decide +kernel) rfl, ⟨by decide +kernel, by decide +kernel⟩, Nat.le_of_ble_eq_true rfl, by decide +kernel, Or.inr (Or.inl ⟨rfl, ⟨rx_mem 1987 (by decide +kernel) rfl, rx_mem 1988 (by decide +kernel) rfl⟩, by decide +kernel⟩)⟩
set_option maxRecDepth 100000 in
theorem rx_mv244 : rx_okM rx_m244 := ⟨rx_mem 1977 rfl rfl, rx_mem 145 (by decide +kernel) rfl, ⟨by decide +kernel, by decide +kernel⟩, Nat.le_of_ble_eq_true rfl, by decide +kernel, Or.inr (Or.inl ⟨rfl, ⟨rx_mem 1975 (by decide +kernel) rfl, rx_mem 1976 (by decide +kernel) rfl⟩, by decide +kernel⟩)⟩
set_option maxRecDepth 100000 in
theorem rx_mv245 : rx_okM rx_m245 := ⟨rx_mem 1961 rfl rfl, rx_mem 145 (by decide +kernel) rfl, ⟨by decide +kernel, by decide +kernel⟩, Nat.le_of_ble_eq_true rfl, by decide +kernel, Or.inr (Or.inl ⟨rfl, ⟨rx_mem 1960 (by decide +kernel) rfl, rx_mem 123 (by decide +kernel) rfl⟩, by decide +kernel⟩)⟩
set_option maxRecDepth 100000 in
theorem rx_mv246 : rx_okM rx_m246 := ⟨rx_mem 1937 rfl rfl, rx_mem 145 (by decide +kernel) rfl, ⟨by decide +kernel, by decide +kernel⟩, Nat.le_of_ble_eq_true rfl, by decide +kernel, Or.inr (Or.inl ⟨rfl, ⟨rx_mem 1935 (by decide +kernel) rfl, rx_mem 1936 (by decide +kernel) rfl⟩, by decide +kernel⟩)⟩
set_option maxRecDepth 100000 in
theorem rx_mv247 : rx_okM rx_m247 := ⟨rx_mem 1702 rfl rfl, rx_mem 145 (by decide +kernel) rfl, ⟨by decide +kernel, by decide +kernel⟩, Nat.le_of_ble_eq_true rfl, by decide +kernel, Or.inl ⟨rfl, rx_mem 1701 (by decide +kernel) rfl, by decide +kernel⟩⟩
set_option maxRecDepth 100000 in
theorem rx_mv248 : rx_okM rx_m248 := ⟨rx_mem 1706 rfl rfl, rx_mem 145 (by decide +kernel) rfl, ⟨by decide +kernel, by decide +kernel⟩, Nat.le_of_ble_eq_true rfl, by decide +kernel, Or.inr (Or.inl ⟨rfl, ⟨rx_mem 1705 (by decide +kernel) rfl, rx_mem 87 (by decide +kernel) rfl⟩, by decide +kernel⟩)⟩
set_option maxRecDepth 100000 in
theorem rx_mv249 : rx_okM rx_m249 := ⟨rx_mem 1531 rfl rfl, rx_mem 145 (by decide +kernel) rfl, ⟨by decide +kernel, by decide +kernel⟩, Nat.le_of_ble_eq_true rfl, by decide +kernel, Or.inl ⟨rfl, rx_mem 1530 (by decide +kernel) rfl, by decide +kernel⟩⟩
set_option maxRecDepth 100000 in
theorem rx_mv250 : rx_okM rx_m250 := ⟨rx_mem 1337 rfl rfl, rx_mem 145 (by decide +kernel) rfl, ⟨by decide +kernel, by decide +kernel⟩, Nat.le_of_ble_eq_true rfl, by decide +kernel, Or.inr (Or.inl ⟨rfl, ⟨rx_mem 1336 (by decide +kernel) rfl, rx_mem 47 (by decide +kernel) rfl⟩, by decide +kernel⟩)⟩
set_option maxRecDepth 100000 in
theorem rx_mv251 : rx_okM rx_m251 := ⟨rx_mem 1609 rfl rfl, rx_mem 145 (by decide +kernel) rfl, ⟨by decide +kernel, by decide +kernel⟩, Nat.le_of_ble_eq_true rfl, by decide +kernel, Or.inr (Or.inl ⟨rfl, ⟨rx_mem 1608 (by decide +kernel) rfl, rx_mem 71 (by decide +kernel) rfl⟩, by decide +kernel⟩)⟩
set_option maxRecDepth 100000 in
theorem rx_mv252 : rx_okM rx_m252 := ⟨rx_mem 1929 rfl rfl, rx_mem 145 (by decide +kernel) rfl, ⟨by decide +kernel, by decide +kernel⟩, Nat.le_of_ble_eq_true rfl, by decide +kernel, Or.inr (Or.inl ⟨rfl, ⟨rx_mem 1928 (by decide +kernel) rfl, rx_mem 117 (by decide +kernel) rfl⟩, by decide +kernel⟩)⟩
set_option maxRecDepth 100000 in
theorem rx_mv253 : rx_okM rx_m253 := ⟨rx_mem 1852 rfl rfl, rx_mem 145 (by decide +kernel) rfl, ⟨by decide +kernel, by decide +kernel⟩, Nat.le_of_ble_eq_true rfl, by decide +kernel, Or.inr (Or.inl ⟨rfl, ⟨rx_mem 1850 (by decide +kernel) rfl, rx_mem 1851 (by decide +kernel) rfl⟩, by decide +kernel⟩)⟩
set_option maxRecDepth 100000 in
theorem rx_mv254 : rx_okM rx_m254 := ⟨rx_mem 1501 rfl rfl, rx_mem 145 (by decide +kernel) rfl, ⟨by decide +kernel, by decide +kernel⟩, Nat.le_of_ble_eq_true rfl, by decide +kernel, Or.inr (Or.inl ⟨rfl, ⟨rx_mem 1500 (by decide +kernel) rfl, rx_mem 49 (by decide +kernel) rfl⟩, by decide +kernel⟩)⟩
set_option maxRecDepth 100000 in
theorem rx_mv255 : rx_okM rx_m255 := ⟨rx_mem 1804 rfl rfl, rx_mem 145 (by decide +kernel) rfl, ⟨by decide +kernel, by decide +kernel⟩, Nat.le_of_ble_eq_true rfl, by decide +kernel, Or.inr (Or.inl ⟨rfl, ⟨rx_mem 1803 (by decide +kernel) rfl, rx_mem 97 (by decide +kernel) rfl⟩, by decide +kernel⟩)⟩
set_option maxRecDepth 100000 in
theorem rx_mv256 : rx_okM rx_m256 := ⟨rx_mem 1515 rfl rfl, rx_mem 145 (by decide +kernel) rfl, ⟨by decide +kernel, by decide +kernel⟩, Nat.le_of_ble_eq_true rfl, by decide +kernel, Or.inr (Or.inl ⟨rfl, ⟨rx_mem 1514 (by decide +kernel) rfl, rx_mem 51 (by decide +kernel) rfl⟩, by decide +kernel⟩)⟩
set_option maxRecDepth 100000 in
theorem rx_mv257 : rx_okM rx_m257 := ⟨rx_mem 1840 rfl rfl, rx_mem 145 (by decide +kernel) rfl, ⟨by decide +kernel, by decide +kernel⟩, Nat.le_of_ble_eq_true rfl, by decide +kernel, Or.inr (Or.inl ⟨rfl, ⟨rx_mem 1838 (by decide +kernel) rfl, rx_mem 1839 (by decide +kernel) rfl⟩, by decide +kernel⟩)⟩
set_option maxRecDepth 100000 in
theorem rx_mv258 : rx_okM rx_m258 := ⟨rx_mem 1933 rfl rfl, rx_mem 145 (by decide +kernel) rfl, ⟨by decide +kernel, by decide +kernel⟩, Nat.le_of_ble_eq_true rfl, by decide +kernel, Or.inr (Or.inl ⟨rfl, ⟨rx_mem 1931 (by decide +kernel) rfl, rx_mem 1932 (by decide +kernel) rfl⟩, by decide +kernel⟩)⟩
set_option maxRecDepth 100000 in
theorem rx_mv259 : rx_okM rx_m259 := ⟨rx_mem 1493 rfl rfl, rx_mem 145 (by decide +kernel) rfl, ⟨by decide +kernel, by decide +kernel⟩, Nat.le_of_ble_eq_true rfl, by decide +kernel, Or.inr (Or.inl ⟨rfl, ⟨rx_mem 1491 (by decide +kernel) rfl, rx_mem 1492 (by decide +kernel) rfl⟩, by decide +kernel⟩)⟩
set_option maxRecDepth 100000 in
theorem rx_mv260 : rx_okM rx_m260 := ⟨rx_mem 1718 rfl rfl, rx_mem 145 (by decide +kernel) rfl, ⟨by decide +kernel, by decide +kernel⟩, Nat.le_of_ble_eq_true rfl, by decide +kernel, Or.inr (Or.inl ⟨rfl, ⟨rx_mem 1716 (by decide +kernel) rfl, rx_mem 1717 (by decide +kernel) rfl⟩, by decide +kernel⟩)⟩
set_option maxRecDepth 100000 in
theorem rx_mv261 : rx_okM rx_m261 := ⟨rx_mem 1848 rfl rfl, rx_mem 145 (by decide +kernel) rfl, ⟨by decide +kernel, by decide +kernel⟩, Nat.le_of_ble_eq_true rfl, by decide +kernel, Or.inr (Or.inl ⟨rfl, ⟨rx_mem 1846 (by decide +kernel) rfl, rx_mem 1847 (by decide +kernel) rfl⟩, by decide +kernel⟩)⟩
set_option maxRecDepth 100000 in
theorem rx_mv262 : rx_okM rx_m262 := ⟨rx_mem 1844 rfl rfl, rx_mem 145 (by decide +kernel) rfl, ⟨by decide +kernel, by decide +kernel⟩, Nat.le_of_ble_eq_true rfl, by decide +kernel, Or.inr (Or.inl ⟨rfl, ⟨rx_mem 1842 (by decide +kernel) rfl, rx_mem 1843 (by decide +kernel) rfl⟩, by decide +kernel⟩)⟩
set_option maxRecDepth 100000 in
theorem rx_mv263 : rx_okM rx_m263 := ⟨rx_mem 1730 rfl rfl, rx_mem 145 (by decide +kernel) rfl, ⟨by decide +kernel, by decide +kernel⟩, Nat.le_of_ble_eq_true rfl, by decide +kernel, Or.inr (Or.inl ⟨rfl, ⟨rx_mem 1728 (by decide +kernel) rfl, rx_mem 1729 (by decide +kernel) rfl⟩, by decide +kernel⟩)⟩
set_option maxRecDepth 100000 in
theorem rx_mv264 : rx_okM rx_m264 := ⟨rx_mem 1722 rfl rfl, rx_mem 145 (by decide +kernel) rfl, ⟨by decide +kernel, by decide +kernel⟩, Nat.le_of_ble_eq_true rfl, by decide +kernel, Or.inr (Or.inl ⟨rfl, ⟨rx_mem 1720 (by decide +kernel) rfl, rx_mem 1721 (by decide +kernel) rfl⟩, by decide +kernel⟩)⟩
set_option maxRecDepth 100000 in
theorem rx_mv265 : rx_okM rx_m265 := ⟨rx_mem 1808 rfl rfl, rx_mem 145 (by decide +kernel) rfl, ⟨by decide +kernel, by decide +kernel⟩, Nat.le_of_ble_eq_true rfl, by decide +kernel, Or.inr (Or.inl ⟨rfl, ⟨rx_mem 1806 (by decide +kernel) rfl, rx_mem 1807 (by decide +kernel) rfl⟩, by decide +kernel⟩)⟩
set_option maxRecDepth 100000 in
theorem rx_mv266 : rx_okM rx_m266 := ⟨rx_mem 1824 rfl rfl, rx_mem 145 (by decide +kernel) rfl, ⟨by decide +kernel, by decide +kernel⟩, Nat.le_of_ble_eq_true rfl, by decide +kernel, Or.inr (Or.inl ⟨rfl, ⟨rx_mem 1822 (by decide +kernel) rfl, rx_mem 1823 (by decide +kernel) rfl⟩, by decide +kernel⟩)⟩
set_option maxRecDepth 100000 in
theorem rx_mv267 : rx_okM rx_m267 := ⟨rx_mem 1695 rfl rfl, rx_mem 145 (by decide +kernel) rfl, ⟨by decide +kernel, by decide +kernel⟩, Nat.le_of_ble_eq_true rfl, by decide +kernel, Or.inr (Or.inl ⟨rfl, ⟨rx_mem 1694 (by decide +kernel) rfl, rx_mem 85 (by decide +kernel) rfl⟩, by decide +kernel⟩)⟩
set_option maxRecDepth 100000 in
theorem rx_mv268 : rx_okM rx_m268 := ⟨rx_mem 1528 rfl rfl, rx_mem 145 (by decide +kernel) rfl, ⟨by decide +kernel, by decide +kernel⟩, Nat.le_of_ble_eq_true rfl, by decide +kernel, Or.inl ⟨rfl, rx_mem 1527 (by decide +kernel) rfl, by decide +kernel⟩⟩
set_option maxRecDepth 100000 in
theorem rx_mv269 : rx_okM rx_m269 := ⟨rx_mem 1860 rfl rfl, rx_mem 145 (by decide +kernel) rfl, ⟨by decide +kernel, by decide +kernel⟩, Nat.le_of_ble_eq_true rfl, by decide +kernel, Or.inr (Or.inl ⟨rfl, ⟨rx_mem 1859 (by decide +kernel) rfl, rx_mem 104 (by decide +kernel) rfl⟩, by decide +kernel⟩)⟩
set_option maxRecDepth 100000 in
theorem rx_mv270 : rx_okM rx_m270 := ⟨rx_mem 1864 rfl rfl, rx_mem 145 (by decide +kernel) rfl, ⟨by decide +kernel, by decide +kernel⟩, Nat.le_of_ble_eq_true rfl, by decide +kernel, Or.inr (Or.inl ⟨rfl, ⟨rx_mem 1863 (by decide +kernel) rfl, rx_mem 105 (by decide +kernel) rfl⟩, by decide +kernel⟩)⟩
set_option maxRecDepth 100000 in
theorem rx_mv271 : rx_okM rx_m271 := ⟨rx_mem 1856 rfl rfl, rx_mem 145 (by decide +kernel) rfl, ⟨by decide +kernel, by decide +kernel⟩, Nat.le_of_ble_eq_true rfl, by decide +kernel, Or.inr (Or.inl ⟨rfl, ⟨rx_mem 1855 (by decide +kernel) rfl, rx_mem 103 (by decide +kernel) rfl⟩, by decide +kernel⟩)⟩
set_option maxRecDepth 100000 in
theorem rx_mv272 : rx_okM rx_m272 := ⟨rx_mem 1640 rfl rfl, rx_mem 145 (by decide +kernel) rfl, ⟨by decide +kernel, by decide +kernel⟩, Nat.le_of_ble_eq_true rfl, by decide +kernel, Or.inr (Or.inl ⟨rfl, ⟨rx_mem 1639 (by decide +kernel) rfl, rx_mem 75 (by decide +kernel) rfl⟩, by decide +kernel⟩)⟩
set_option maxRecDepth 100000 in
theorem rx_mv273 : rx_okM rx_m273 := ⟨rx_mem 1648 rfl rfl, rx_mem 145 (by decide +kernel) rfl, ⟨by decide +kernel, by decide +kernel⟩, Nat.le_of_ble_eq_true rfl, by decide +kernel, Or.inr (Or.inl ⟨rfl, ⟨rx_mem 1647 (by decide +kernel) rfl, rx_mem 77 (by decide +kernel) rfl⟩, by decide +kernel⟩)⟩
set_option maxRecDepth 100000 in
theorem rx_mv274 : rx_okM rx_m274 := ⟨rx_mem 906 rfl rfl, rx_mem 151 (by decide +kernel) rfl, ⟨by decide +kernel, by decide +kernel⟩, Nat.le_of_ble_eq_true rfl, by decide +kernel, Or.inl ⟨rfl, rx_mem 905 (by decide +kernel) rfl, by decide +kernel⟩⟩
set_option maxRecDepth 100000 in
theorem rx_mv275 : rx_okM rx_m275 := ⟨rx_mem 1063 rfl rfl, rx_mem 151 (by decide +kernel) rfl, ⟨by decide +kernel, by decide +kernel⟩, Nat.le_of_ble_eq_true rfl, by decide +kernel, Or.inl ⟨rfl, rx_mem 1062 (by decide +kernel) rfl, by decide +kernel⟩⟩
set_option maxRecDepth 100000 in
theorem rx_mv276 : rx_okM rx_m276 := ⟨rx_mem 180 rfl rfl, rx_mem 131 (by decide +kernel) rfl, ⟨by decide +kernel, by decide +kernel⟩, Nat.le_of_ble_eq_true rfl, by decide +kernel, Or.inr (Or.inl ⟨rfl, ⟨rx_mem 178 (by decide +kernel) rfl, rx_mem 179 (by decide +kernel) rfl⟩, by decide +kernel⟩)⟩
set_option maxRecDepth 100000 in
theorem rx_mv277 : rx_okM rx_m277 := ⟨rx_mem 190 rfl rfl, rx_mem 131 (by decide +kernel) rfl, ⟨by decide +kernel, by decide +kernel⟩, Nat.le_of_ble_eq_true rfl, by decide +kernel, Or.inl ⟨rfl, rx_mem 189 (by decide +kernel) rfl, by decide +kernel⟩⟩
set_option maxRecDepth 100000 in
theorem rx_mv278 : rx_okM rx_m278 := ⟨rx_mem 174 rfl rfl, rx_mem 131 (by decide +kernel) rfl, ⟨by decide +kernel, by decide +kernel⟩, Nat.le_of_ble_eq_true rfl, by decide +kernel, Or.inr (Or.inl ⟨rfl, ⟨rx_mem 172 (by decide +kernel) rfl, rx_mem 173 (by decide +kernel) rfl⟩, by decide +kernel⟩)⟩
set_option maxRecDepth 100000 in
theorem rx_mv279 : rx_okM rx_m279 := ⟨rx_mem 184 rfl rfl, rx_mem 131 (by decide +kernel) rfl, ⟨by decide +kernel, by decide +kernel⟩, Nat.le_of_ble_eq_true rfl, by decide +kernel, Or.inr (Or.inl ⟨rfl, ⟨rx_mem 182 (by decide +kernel) rfl, rx_mem 183 (by decide +kernel) rfl⟩, by decide +kernel⟩)⟩
set_option maxRecDepth 100000 in
theorem rx_mv280 : rx_okM rx_m280 := ⟨rx_mem 170 rfl rfl, rx_mem 131 (by decide +kernel) rfl, ⟨by decide +kernel, by decide +kernel⟩, Nat.le_of_ble_eq_true rfl, by decide +kernel, Or.inr (Or.inl ⟨rfl, ⟨rx_mem 168 (by decide +kernel) rfl, rx_mem 169 (by decide +kernel) rfl⟩, by decide +kernel⟩)⟩
set_option maxRecDepth 100000 in
theorem rx_mv281 : rx_okM rx_m281 := ⟨rx_mem 187 rfl rfl, rx_mem 132 (by decide +kernel) rfl, ⟨by decide +kernel, by decide +kernel⟩, Nat.le_of_ble_eq_true rfl, by decide +kernel, Or.inl ⟨rfl, rx_mem 186 (by decide +kernel) rfl, by decide +kernel⟩⟩
set_option maxRecDepth 100000 in
theorem rx_mv282 : rx_okM rx_m282 := ⟨rx_mem 284 rfl rfl, rx_mem 136 (by decide +kernel) rfl, ⟨by decide +kernel, by decide +kernel⟩, Nat.le_of_ble_eq_true rfl, by decide +kernel, Or.inl ⟨rfl, rx_mem 283 (by decide +kernel) rfl, by decide +kernel⟩⟩
set_option maxRecDepth 100000 in
theorem rx_mv283 : rx_okM rx_m283 := ⟨rx_mem 195 rfl rfl, rx_mem 133 (by decide +kernel) rfl, ⟨by decide +kernel, by decide +kernel⟩, Nat.le_of_ble_eq_true rfl, by decide +kernel, Or.inl ⟨rfl, rx_mem 194 (by decide +kernel) rfl, by decide +kernel⟩⟩
