set_option maxRecDepth 100000 in
theorem la_m11 : rs_hdB la_S la_cps la_sps 807 806 la_U11 = true := by decide +kernel
theorem la_c37c11 : la_csB [rc_wf_k, rc_sb_k, rc_n8_k] [(814, 37, 37), (809, 1, 1), (107, 1, 1), (586, 1, 1)] = true := la_glue la_r11 la_m11
