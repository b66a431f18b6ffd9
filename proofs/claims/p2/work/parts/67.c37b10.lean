set_option maxRecDepth 100000 in
theorem la_c37b10 : la_csB [rc_wf_k, rc_sb_k, rc_n8_k] [(814, 37, 37), (809, 0, 0), (89, 1, 1), (585, 0, 0)] = true := by decide +kernel
