set_option maxRecDepth 100000 in
theorem la_c37b01 : la_csB [rc_wf_k, rc_sb_k, rc_n8_k, rn_n85_w0_k] [(814, 37, 37), (809, 0, 0), (89, 0, 0), (585, 1, 1)] = true := by decide +kernel
