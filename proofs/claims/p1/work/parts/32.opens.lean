/-! printed by a program: the law, run from its entry on; each of its calls from a new class and a new reference on -/
def rx_kO0 : List (Int × Int) := [((-2147483648), (-1)), (0, 0), (1, 1), (2, 2), (3, 3)]
/-- 8528 steps -/
theorem rx_kO0_ok : rx_kO0.all (fun q => rx_runB (rx_T40 q (21, 21))) = true := by decide +kernel
def rx_kO1 : List (Int × Int) := [(4, 4), (5, 5), (6, 6)]
/-- 6855 steps -/
theorem rx_kO1_ok : rx_kO1.all (fun q => rx_runB (rx_T40 q (21, 21))) = true := by decide +kernel
def rx_kO2 : List (Int × Int) := [(7, 7), (8, 8), (9, 9)]
/-- 7278 steps -/
theorem rx_kO2_ok : rx_kO2.all (fun q => rx_runB (rx_T40 q (21, 21))) = true := by decide +kernel
def rx_kO3 : List (Int × Int) := [(10, 10), (11, 11), (12, 12)]
/-- 7701 steps -/
theorem rx_kO3_ok : rx_kO3.all (fun q => rx_runB (rx_T40 q (21, 21))) = true := by decide +kernel
def rx_kO4 : List (Int × Int) := [(13, 13), (14, 14), (15, 15)]
/-- 8124 steps -/
theorem rx_kO4_ok : rx_kO4.all (fun q => rx_runB (rx_T40 q (21, 21))) = true := by decide +kernel
def rx_kO5 : List (Int × Int) := [(16, 16), (17, 17), (18, 18)]
/-- 8547 steps -/
theorem rx_kO5_ok : rx_kO5.all (fun q => rx_runB (rx_T40 q (21, 21))) = true := by decide +kernel
def rx_kO6 : List (Int × Int) := [(19, 19), (20, 20), (21, 21)]
/-- 8970 steps -/
theorem rx_kO6_ok : rx_kO6.all (fun q => rx_runB (rx_T40 q (21, 21))) = true := by decide +kernel
def rx_kO7 : List (Int × Int) := [(22, 22), (23, 23)]
/-- 6215 steps -/
theorem rx_kO7_ok : rx_kO7.all (fun q => rx_runB (rx_T40 q (21, 21))) = true := by decide +kernel
def rx_kO8 : List (Int × Int) := [(24, 24), (25, 25)]
/-- 6403 steps -/
theorem rx_kO8_ok : rx_kO8.all (fun q => rx_runB (rx_T40 q (21, 21))) = true := by decide +kernel
def rx_kO9 : List (Int × Int) := [(26, 26), (27, 27)]
/-- 6591 steps -/
theorem rx_kO9_ok : rx_kO9.all (fun q => rx_runB (rx_T40 q (21, 21))) = true := by decide +kernel
def rx_kO10 : List (Int × Int) := [(28, 28), (29, 29)]
/-- 6779 steps -/
theorem rx_kO10_ok : rx_kO10.all (fun q => rx_runB (rx_T40 q (21, 21))) = true := by decide +kernel
def rx_kO11 : List (Int × Int) := [(30, 30), (31, 31)]
/-- 6967 steps -/
theorem rx_kO11_ok : rx_kO11.all (fun q => rx_runB (rx_T40 q (21, 21))) = true := by decide +kernel
def rx_kO12 : List (Int × Int) := [(32, 32), (33, 33)]
/-- 7155 steps -/
theorem rx_kO12_ok : rx_kO12.all (fun q => rx_runB (rx_T40 q (21, 21))) = true := by decide +kernel
def rx_kO13 : List (Int × Int) := [(34, 34), (35, 35)]
/-- 7343 steps -/
theorem rx_kO13_ok : rx_kO13.all (fun q => rx_runB (rx_T40 q (21, 21))) = true := by decide +kernel
def rx_kO14 : List (Int × Int) := [(36, 36), (37, 37)]
/-- 7531 steps -/
theorem rx_kO14_ok : rx_kO14.all (fun q => rx_runB (rx_T40 q (21, 21))) = true := by decide +kernel
def rx_kO15 : List (Int × Int) := [(38, 38), (39, 39)]
/-- 7719 steps -/
theorem rx_kO15_ok : rx_kO15.all (fun q => rx_runB (rx_T40 q (21, 21))) = true := by decide +kernel
def rx_kO16 : List (Int × Int) := [(40, 40), (41, 41)]
/-- 7907 steps -/
theorem rx_kO16_ok : rx_kO16.all (fun q => rx_runB (rx_T40 q (21, 21))) = true := by decide +kernel
def rx_kO17 : List (Int × Int) := [(42, 42), (43, 43)]
/-- 8095 steps -/
theorem rx_kO17_ok : rx_kO17.all (fun q => rx_runB (rx_T40 q (21, 21))) = true := by decide +kernel
def rx_kO18 : List (Int × Int) := [(44, 44), (45, 45)]
/-- 8283 steps -/
theorem rx_kO18_ok : rx_kO18.all (fun q => rx_runB (rx_T40 q (21, 21))) = true := by decide +kernel
def rx_kO19 : List (Int × Int) := [(46, 46), (47, 47)]
/-- 8471 steps -/
theorem rx_kO19_ok : rx_kO19.all (fun q => rx_runB (rx_T40 q (21, 21))) = true := by decide +kernel
def rx_kO20 : List (Int × Int) := [(48, 48), (49, 49)]
/-- 8659 steps -/
theorem rx_kO20_ok : rx_kO20.all (fun q => rx_runB (rx_T40 q (21, 21))) = true := by decide +kernel
def rx_kO21 : List (Int × Int) := [(50, 50), (51, 51)]
/-- 8847 steps -/
theorem rx_kO21_ok : rx_kO21.all (fun q => rx_runB (rx_T40 q (21, 21))) = true := by decide +kernel
def rx_kO22 : List (Int × Int) := [(52, 52)]
/-- 4494 steps -/
theorem rx_kO22_ok : rx_kO22.all (fun q => rx_runB (rx_T40 q (21, 21))) = true := by decide +kernel
def rx_kO23 : List (Int × Int) := [(53, 53)]
/-- 4541 steps -/
theorem rx_kO23_ok : rx_kO23.all (fun q => rx_runB (rx_T40 q (21, 21))) = true := by decide +kernel
def rx_kO24 : List (Int × Int) := [(54, 54)]
/-- 4588 steps -/
theorem rx_kO24_ok : rx_kO24.all (fun q => rx_runB (rx_T40 q (21, 21))) = true := by decide +kernel
def rx_kO25 : List (Int × Int) := [(55, 55)]
/-- 4635 steps -/
theorem rx_kO25_ok : rx_kO25.all (fun q => rx_runB (rx_T40 q (21, 21))) = true := by decide +kernel
def rx_kO26 : List (Int × Int) := [(56, 56)]
/-- 4682 steps -/
theorem rx_kO26_ok : rx_kO26.all (fun q => rx_runB (rx_T40 q (21, 21))) = true := by decide +kernel
def rx_kO27 : List (Int × Int) := [(57, 57)]
/-- 4729 steps -/
theorem rx_kO27_ok : rx_kO27.all (fun q => rx_runB (rx_T40 q (21, 21))) = true := by decide +kernel
def rx_kO28 : List (Int × Int) := [(58, 58)]
/-- 4776 steps -/
theorem rx_kO28_ok : rx_kO28.all (fun q => rx_runB (rx_T40 q (21, 21))) = true := by decide +kernel
def rx_kO29 : List (Int × Int) := [(59, 59)]
/-- 4823 steps -/
theorem rx_kO29_ok : rx_kO29.all (fun q => rx_runB (rx_T40 q (21, 21))) = true := by decide +kernel
def rx_kO30 : List (Int × Int) := [(60, 60), (61, 2147483647)]
/-- 4922 steps -/
theorem rx_kO30_ok : rx_kO30.all (fun q => rx_runB (rx_T40 q (21, 21))) = true := by decide +kernel
def rx_kO : List (Int × Int) := rx_kO0 ++ (rx_kO1 ++ (rx_kO2 ++ (rx_kO3 ++ (rx_kO4 ++ (rx_kO5 ++ (rx_kO6 ++ (rx_kO7 ++ (rx_kO8 ++ (rx_kO9 ++ (rx_kO10 ++ (rx_kO11 ++ (rx_kO12 ++ (rx_kO13 ++ (rx_kO14 ++ (rx_kO15 ++ (rx_kO16 ++ (rx_kO17 ++ (rx_kO18 ++ (rx_kO19 ++ (rx_kO20 ++ (rx_kO21 ++ (rx_kO22 ++ (rx_kO23 ++ (rx_kO24 ++ (rx_kO25 ++ (rx_kO26 ++ (rx_kO27 ++ (rx_kO28 ++ (rx_kO29 ++ (rx_kO30))))))))))))))))))))))))))))))
theorem rx_kO_ok : ∀ q ∈ rx_kO, rx_runB (rx_T40 q (21, 21)) = true := List.forall_mem_append.mpr ⟨List.all_eq_true.mp rx_kO0_ok, List.forall_mem_append.mpr ⟨List.all_eq_true.mp rx_kO1_ok, List.forall_mem_append.mpr ⟨List.all_eq_true.mp rx_kO2_ok, List.forall_mem_append.mpr ⟨List.all_eq_true.mp rx_kO3_ok, List.forall_mem_append.mpr ⟨List.all_eq_true.mp rx_kO4_ok, List.forall_mem_append.mpr ⟨List.all_eq_true.mp rx_kO5_ok, List.forall_mem_append.mpr ⟨List.all_eq_true.mp rx_kO6_ok, List.forall_mem_append.mpr ⟨List.all_eq_true.mp rx_kO7_ok, List.forall_mem_append.mpr ⟨List.all_eq_true.mp rx_kO8_ok, List.forall_mem_append.mpr ⟨List.all_eq_true.mp rx_kO9_ok, List.forall_mem_append.mpr ⟨List.all_eq_true.mp rx_kO10_ok, List.forall_mem_append.mpr ⟨List.all_eq_true.mp rx_kO11_ok, List.forall_mem_append.mpr ⟨List.all_eq_true.mp rx_kO12_ok, List.forall_mem_append.mpr ⟨List.all_eq_true.mp rx_kO13_ok, List.forall_mem_append.mpr ⟨List.all_eq_true.mp rx_kO14_ok, List.forall_mem_append.mpr ⟨List.all_eq_true.mp rx_kO15_ok, List.forall_mem_append.mpr ⟨List.all_eq_true.mp rx_kO16_ok, List.forall_mem_append.mpr ⟨List.all_eq_true.mp rx_kO17_ok, List.forall_mem_append.mpr ⟨List.all_eq_true.mp rx_kO18_ok, List.forall_mem_append.mpr ⟨List.all_eq_true.mp rx_kO19_ok, List.forall_mem_append.mpr ⟨List.all_eq_true.mp rx_kO20_ok, List.forall_mem_append.mpr ⟨List.all_eq_true.mp rx_kO21_ok, List.forall_mem_append.mpr ⟨List.all_eq_true.mp rx_kO22_ok, List.forall_mem_append.mpr ⟨List.all_eq_true.mp rx_kO23_ok, List.forall_mem_append.mpr ⟨List.all_eq_true.mp rx_kO24_ok, List.forall_mem_append.mpr ⟨List.all_eq_true.mp rx_kO25_ok, List.forall_mem_append.mpr ⟨List.all_eq_true.mp rx_kO26_ok, List.forall_mem_append.mpr ⟨List.all_eq_true.mp rx_kO27_ok, List.forall_mem_append.mpr ⟨List.all_eq_true.mp rx_kO28_ok, List.forall_mem_append.mpr ⟨List.all_eq_true.mp rx_kO29_ok, List.all_eq_true.mp rx_kO30_ok⟩⟩⟩⟩⟩⟩⟩⟩⟩⟩⟩⟩⟩⟩⟩⟩⟩⟩⟩⟩⟩⟩⟩⟩⟩⟩⟩⟩⟩⟩
