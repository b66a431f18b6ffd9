set_option maxRecDepth 100000 in
theorem la_m01 : rs_hdB la_S la_cps la_sps 807 806 la_U01 = true := by decide +kernel
theorem la_c37c01 : la_csB [rc_wf_k, rc_sb_k, rc_n8_k] [(814, 37, 37), (809, 1, 1), (107, 0, 0), (586, 1, 1)] = true := la_glue la_r01 la_m01
