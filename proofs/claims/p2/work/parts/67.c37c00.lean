set_option maxRecDepth 100000 in
theorem la_c37c00 : la_csB [rc_wf_k, rc_sb_k, rc_n8_k] [(814, 37, 37), (809, 1, 1), (107, 0, 0), (586, 0, 0)] = true := by decide +kernel
