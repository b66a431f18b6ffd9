/-! printed by a program: the table of the law is sound -/
theorem rx_tvL0 : ((rx_mL.2.2.2.2.2.2.2.2.drop 0).take 8).all (fun l => l.all (fun i => rx_dcB cL_law i && rx_chk rx_p10 false i)) = true := by decide +kernel
theorem rx_tvL1 : ((rx_mL.2.2.2.2.2.2.2.2.drop 8).take 8).all (fun l => l.all (fun i => rx_dcB cL_law i && rx_chk rx_p10 false i)) = true := by decide +kernel
theorem rx_tvL2 : ((rx_mL.2.2.2.2.2.2.2.2.drop 16).take 8).all (fun l => l.all (fun i => rx_dcB cL_law i && rx_chk rx_p10 false i)) = true := by decide +kernel
theorem rx_tvL3 : ((rx_mL.2.2.2.2.2.2.2.2.drop 24).take 8).all (fun l => l.all (fun i => rx_dcB cL_law i && rx_chk rx_p10 false i)) = true := by decide +kernel
theorem rx_tvL4 : ((rx_mL.2.2.2.2.2.2.2.2.drop 32).take 8).all (fun l => l.all (fun i => rx_dcB cL_law i && rx_chk rx_p10 false i)) = true := by decide +kernel
theorem rx_tvL5 : ((rx_mL.2.2.2.2.2.2.2.2.drop 40).take 8).all (fun l => l.all (fun i => rx_dcB cL_law i && rx_chk rx_p10 false i)) = true := by decide +kernel
theorem rx_tvL6 : ((rx_mL.2.2.2.2.2.2.2.2.drop 48).take 8).all (fun l => l.all (fun i => rx_dcB cL_law i && rx_chk rx_p10 false i)) = true := by decide +kernel
theorem rx_tvL7 : ((rx_mL.2.2.2.2.2.2.2.2.drop 56).take 8).all (fun l => l.all (fun i => rx_dcB cL_law i && rx_chk rx_p10 false i)) = true := by decide +kernel
theorem rx_tvL8 : ((rx_mL.2.2.2.2.2.2.2.2.drop 64).take 8).all (fun l => l.all (fun i => rx_dcB cL_law i && rx_chk rx_p10 false i)) = true := by decide +kernel
theorem rx_tvL9 : ((rx_mL.2.2.2.2.2.2.2.2.drop 72).take 8).all (fun l => l.all (fun i => rx_dcB cL_law i && rx_chk rx_p10 false i)) = true := by decide +kernel
theorem rx_tvL10 : ((rx_mL.2.2.2.2.2.2.2.2.drop 80).take 8).all (fun l => l.all (fun i => rx_dcB cL_law i && rx_chk rx_p10 false i)) = true := by decide +kernel
theorem rx_tvL11 : ((rx_mL.2.2.2.2.2.2.2.2.drop 88).take 8).all (fun l => l.all (fun i => rx_dcB cL_law i && rx_chk rx_p10 false i)) = true := by decide +kernel
theorem rx_tvL (nm : String) : rx_Tok rx_MT cL_law RL nm rx_mL := rx_tok_parts (pool := rx_p10) 12 8 rx_wok rx_pv10 (by decide +kernel) (fun i hi => by
  match i, hi with
  | 0, _ => exact rx_tvL0
  | 1, _ => exact rx_tvL1
  | 2, _ => exact rx_tvL2
  | 3, _ => exact rx_tvL3
  | 4, _ => exact rx_tvL4
  | 5, _ => exact rx_tvL5
  | 6, _ => exact rx_tvL6
  | 7, _ => exact rx_tvL7
  | 8, _ => exact rx_tvL8
  | 9, _ => exact rx_tvL9
  | 10, _ => exact rx_tvL10
  | 11, _ => exact rx_tvL11
  | k + 12, hi => omega)
