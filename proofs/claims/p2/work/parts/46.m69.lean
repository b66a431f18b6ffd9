theorem bk_a36 : bk_lg [rc_m9236_k, rc_m60_k] (bk_A 36 []) (bk_tA 36) = true := by decide +kernel
theorem bk_a37 : bk_lg [rc_m9237_k, rc_m60_k] (bk_A 37 []) (bk_tA 37) = true := by decide +kernel
theorem bk_a38 : bk_lg [rc_m9238_k, rc_m60_k] (bk_A 38 []) (bk_tA 38) = true := by decide +kernel
theorem bk_a39 : bk_lg [rc_m9239_k, rc_m60_k] (bk_A 39 []) (bk_tA 39) = true := by decide +kernel
theorem bk_a40 : bk_lg [rc_m9240_k, rc_m60_k] (bk_A 40 []) (bk_tE 40) = true := by decide +kernel
