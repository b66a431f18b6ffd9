/-! printed by a program: the law, run from its entry on; each of its calls from a new class and a new reference on -/
def rx_kA0 : List (Int × Int) := [((-2147483648), (-1)), (0, 0), (1, 1), (2, 2), (3, 3), (4, 4), (7, 7), (8, 8), (9, 9), (10, 10), (11, 11), (13, 13)]
/-- 8699 steps -/
theorem rx_kA0_ok : rx_kA0.all (fun q => rx_runB (rx_T40 rx_full q)) = true := by decide +kernel
def rx_kA1 : List (Int × Int) := [(14, 14), (15, 15), (16, 16), (17, 17), (18, 18)]
/-- 7921 steps -/
theorem rx_kA1_ok : rx_kA1.all (fun q => rx_runB (rx_T40 rx_full q)) = true := by decide +kernel
def rx_kA2 : List (Int × Int) := [(19, 19)]
/-- 16475 steps -/
theorem rx_kA2_ok : rx_kA2.all (fun q => rx_runB (rx_T40 rx_full q)) = true := by decide +kernel
def rx_kA3 : List (Int × Int) := [(20, 20), (22, 22), (23, 23), (24, 24), (25, 25), (26, 26), (27, 27), (28, 28), (29, 29), (30, 30), (31, 31), (32, 32), (33, 33), (34, 34), (35, 35)]
/-- 8030 steps -/
theorem rx_kA3_ok : rx_kA3.all (fun q => rx_runB (rx_T40 rx_full q)) = true := by decide +kernel
def rx_kA4 : List (Int × Int) := [(36, 36)]
/-- 14020 steps -/
theorem rx_kA4_ok : rx_kA4.all (fun q => rx_runB (rx_T40 rx_full q)) = true := by decide +kernel
def rx_kA5 : List (Int × Int) := [(37, 37), (38, 38), (39, 2147483647)]
/-- 521 steps -/
theorem rx_kA5_ok : rx_kA5.all (fun q => rx_runB (rx_T40 rx_full q)) = true := by decide +kernel
def rx_kA : List (Int × Int) := rx_kA0 ++ (rx_kA1 ++ (rx_kA2 ++ (rx_kA3 ++ (rx_kA4 ++ (rx_kA5)))))
theorem rx_kA_ok : ∀ q ∈ rx_kA, rx_runB (rx_T40 rx_full q) = true := List.forall_mem_append.mpr ⟨List.all_eq_true.mp rx_kA0_ok, List.forall_mem_append.mpr ⟨List.all_eq_true.mp rx_kA1_ok, List.forall_mem_append.mpr ⟨List.all_eq_true.mp rx_kA2_ok, List.forall_mem_append.mpr ⟨List.all_eq_true.mp rx_kA3_ok, List.forall_mem_append.mpr ⟨List.all_eq_true.mp rx_kA4_ok, List.all_eq_true.mp rx_kA5_ok⟩⟩⟩⟩⟩
