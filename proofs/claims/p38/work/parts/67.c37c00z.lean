/-! ===== a turn's one end, told; run and match each for itself ===== -/
noncomputable def la_toU (U : rx_T) (LA : Option (List rx_T)) : Bool := match LA with
  | some L => L.all (fun T => @decide (T = U) (rx_dT T U))
  | none => false
theorem la_glue {KT : List rx_KE} {bs : List (Nat × Int × Int)} {U : rx_T} (hr : la_toU U (rx_lrun KT 266 807 806 808 6 [23] 20000 20 (rx_nar la_T40 bs)) = true) (hm : rs_hdB la_S la_cps la_sps 807 806 U = true) : la_csB KT bs = true := by
  unfold la_csB
  generalize rx_lrun KT 266 807 806 808 6 [23] 20000 20 (rx_nar la_T40 bs) = X at hr ⊢
  unfold la_toU at hr
  cases X with
  | none => cases hr
  | some L =>
    refine List.all_eq_true.mpr fun T hT => ?_
    have h := List.all_eq_true.mp hr T hT
    have e : T = U := @of_decide_eq_true _ (rx_dT T U) h
    rw [e]
    exact hm
