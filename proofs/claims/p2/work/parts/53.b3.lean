theorem wy_l6 : (List.range 6).all (fun r => (List.range 6).all (fun o => (List.range 5).all (fun u => wy_g6 r o u))) = true := by decide +kernel
