set_option maxRecDepth 100000 in
theorem la_c37c11 : la_csB [rc_wf_k, rc_sb_k, rc_n8_k, rn_n85_w1_k] [(814, 37, 37), (809, 1, 1), (107, 1, 1), (586, 1, 1)] = true := by decide +kernel
