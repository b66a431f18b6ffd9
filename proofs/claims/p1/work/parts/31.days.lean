/-! printed by a program: the law, run from its entry on; each of its calls from a new class and a new reference on -/
def rx_kD0 : List (Int × Int) := [((-2147483648), 0), (1, 1), (2, 2), (3, 3), (4, 4), (5, 5)]
/-- 8061 steps -/
theorem rx_kD0_ok : rx_kD0.all (fun q => rx_runB (rx_T40 q (12, 12))) = true := by decide +kernel
def rx_kD1 : List (Int × Int) := [(6, 6), (7, 7), (8, 8), (9, 9)]
/-- 7258 steps -/
theorem rx_kD1_ok : rx_kD1.all (fun q => rx_runB (rx_T40 q (12, 12))) = true := by decide +kernel
def rx_kD2 : List (Int × Int) := [(10, 10), (11, 11), (12, 12), (13, 13)]
/-- 8010 steps -/
theorem rx_kD2_ok : rx_kD2.all (fun q => rx_runB (rx_T40 q (12, 12))) = true := by decide +kernel
def rx_kD3 : List (Int × Int) := [(14, 14), (15, 15), (16, 16), (17, 17)]
/-- 8762 steps -/
theorem rx_kD3_ok : rx_kD3.all (fun q => rx_runB (rx_T40 q (12, 12))) = true := by decide +kernel
def rx_kD4 : List (Int × Int) := [(18, 18), (19, 19), (20, 20)]
/-- 7065 steps -/
theorem rx_kD4_ok : rx_kD4.all (fun q => rx_runB (rx_T40 q (12, 12))) = true := by decide +kernel
def rx_kD5 : List (Int × Int) := [(21, 21), (22, 22), (23, 23)]
/-- 7488 steps -/
theorem rx_kD5_ok : rx_kD5.all (fun q => rx_runB (rx_T40 q (12, 12))) = true := by decide +kernel
def rx_kD6 : List (Int × Int) := [(24, 24), (25, 25), (26, 26)]
/-- 7911 steps -/
theorem rx_kD6_ok : rx_kD6.all (fun q => rx_runB (rx_T40 q (12, 12))) = true := by decide +kernel
def rx_kD7 : List (Int × Int) := [(27, 27), (28, 28), (29, 29)]
/-- 8334 steps -/
theorem rx_kD7_ok : rx_kD7.all (fun q => rx_runB (rx_T40 q (12, 12))) = true := by decide +kernel
def rx_kD8 : List (Int × Int) := [(30, 30), (31, 31), (32, 32)]
/-- 8757 steps -/
theorem rx_kD8_ok : rx_kD8.all (fun q => rx_runB (rx_T40 q (12, 12))) = true := by decide +kernel
def rx_kD9 : List (Int × Int) := [(33, 33), (34, 34)]
/-- 6073 steps -/
theorem rx_kD9_ok : rx_kD9.all (fun q => rx_runB (rx_T40 q (12, 12))) = true := by decide +kernel
def rx_kD10 : List (Int × Int) := [(35, 35), (36, 36)]
/-- 6261 steps -/
theorem rx_kD10_ok : rx_kD10.all (fun q => rx_runB (rx_T40 q (12, 12))) = true := by decide +kernel
def rx_kD11 : List (Int × Int) := [(37, 37), (38, 38)]
/-- 6449 steps -/
theorem rx_kD11_ok : rx_kD11.all (fun q => rx_runB (rx_T40 q (12, 12))) = true := by decide +kernel
def rx_kD12 : List (Int × Int) := [(39, 39), (40, 40)]
/-- 6637 steps -/
theorem rx_kD12_ok : rx_kD12.all (fun q => rx_runB (rx_T40 q (12, 12))) = true := by decide +kernel
def rx_kD13 : List (Int × Int) := [(41, 41), (42, 42)]
/-- 6825 steps -/
theorem rx_kD13_ok : rx_kD13.all (fun q => rx_runB (rx_T40 q (12, 12))) = true := by decide +kernel
def rx_kD14 : List (Int × Int) := [(43, 43), (44, 44)]
/-- 7013 steps -/
theorem rx_kD14_ok : rx_kD14.all (fun q => rx_runB (rx_T40 q (12, 12))) = true := by decide +kernel
def rx_kD15 : List (Int × Int) := [(45, 45), (46, 46)]
/-- 7201 steps -/
theorem rx_kD15_ok : rx_kD15.all (fun q => rx_runB (rx_T40 q (12, 12))) = true := by decide +kernel
def rx_kD16 : List (Int × Int) := [(47, 47), (48, 48)]
/-- 7389 steps -/
theorem rx_kD16_ok : rx_kD16.all (fun q => rx_runB (rx_T40 q (12, 12))) = true := by decide +kernel
def rx_kD17 : List (Int × Int) := [(49, 49), (50, 50)]
/-- 7577 steps -/
theorem rx_kD17_ok : rx_kD17.all (fun q => rx_runB (rx_T40 q (12, 12))) = true := by decide +kernel
def rx_kD18 : List (Int × Int) := [(51, 51), (52, 52)]
/-- 7765 steps -/
theorem rx_kD18_ok : rx_kD18.all (fun q => rx_runB (rx_T40 q (12, 12))) = true := by decide +kernel
def rx_kD19 : List (Int × Int) := [(53, 53), (54, 54)]
/-- 7953 steps -/
theorem rx_kD19_ok : rx_kD19.all (fun q => rx_runB (rx_T40 q (12, 12))) = true := by decide +kernel
def rx_kD20 : List (Int × Int) := [(55, 55), (56, 56)]
/-- 8141 steps -/
theorem rx_kD20_ok : rx_kD20.all (fun q => rx_runB (rx_T40 q (12, 12))) = true := by decide +kernel
def rx_kD21 : List (Int × Int) := [(57, 57), (58, 58)]
/-- 8329 steps -/
theorem rx_kD21_ok : rx_kD21.all (fun q => rx_runB (rx_T40 q (12, 12))) = true := by decide +kernel
def rx_kD22 : List (Int × Int) := [(59, 59), (60, 60), (61, 2147483647)]
/-- 8569 steps -/
theorem rx_kD22_ok : rx_kD22.all (fun q => rx_runB (rx_T40 q (12, 12))) = true := by decide +kernel
def rx_kD : List (Int × Int) := rx_kD0 ++ (rx_kD1 ++ (rx_kD2 ++ (rx_kD3 ++ (rx_kD4 ++ (rx_kD5 ++ (rx_kD6 ++ (rx_kD7 ++ (rx_kD8 ++ (rx_kD9 ++ (rx_kD10 ++ (rx_kD11 ++ (rx_kD12 ++ (rx_kD13 ++ (rx_kD14 ++ (rx_kD15 ++ (rx_kD16 ++ (rx_kD17 ++ (rx_kD18 ++ (rx_kD19 ++ (rx_kD20 ++ (rx_kD21 ++ (rx_kD22))))))))))))))))))))))
theorem rx_kD_ok : ∀ q ∈ rx_kD, rx_runB (rx_T40 q (12, 12)) = true := List.forall_mem_append.mpr ⟨List.all_eq_true.mp rx_kD0_ok, List.forall_mem_append.mpr ⟨List.all_eq_true.mp rx_kD1_ok, List.forall_mem_append.mpr ⟨List.all_eq_true.mp rx_kD2_ok, List.forall_mem_append.mpr ⟨List.all_eq_true.mp rx_kD3_ok, List.forall_mem_append.mpr ⟨List.all_eq_true.mp rx_kD4_ok, List.forall_mem_append.mpr ⟨List.all_eq_true.mp rx_kD5_ok, List.forall_mem_append.mpr ⟨List.all_eq_true.mp rx_kD6_ok, List.forall_mem_append.mpr ⟨List.all_eq_true.mp rx_kD7_ok, List.forall_mem_append.mpr ⟨List.all_eq_true.mp rx_kD8_ok, List.forall_mem_append.mpr ⟨List.all_eq_true.mp rx_kD9_ok, List.forall_mem_append.mpr ⟨List.all_eq_true.mp rx_kD10_ok, List.forall_mem_append.mpr ⟨List.all_eq_true.mp rx_kD11_ok, List.forall_mem_append.mpr ⟨List.all_eq_true.mp rx_kD12_ok, List.forall_mem_append.mpr ⟨List.all_eq_true.mp rx_kD13_ok, List.forall_mem_append.mpr ⟨List.all_eq_true.mp rx_kD14_ok, List.forall_mem_append.mpr ⟨List.all_eq_true.mp rx_kD15_ok, List.forall_mem_append.mpr ⟨List.all_eq_true.mp rx_kD16_ok, List.forall_mem_append.mpr ⟨List.all_eq_true.mp rx_kD17_ok, List.forall_mem_append.mpr ⟨List.all_eq_true.mp rx_kD18_ok, List.forall_mem_append.mpr ⟨List.all_eq_true.mp rx_kD19_ok, List.forall_mem_append.mpr ⟨List.all_eq_true.mp rx_kD20_ok, List.forall_mem_append.mpr ⟨List.all_eq_true.mp rx_kD21_ok, List.all_eq_true.mp rx_kD22_ok⟩⟩⟩⟩⟩⟩⟩⟩⟩⟩⟩⟩⟩⟩⟩⟩⟩⟩⟩⟩⟩⟩
