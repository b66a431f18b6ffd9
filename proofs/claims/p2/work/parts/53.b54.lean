theorem wy_l7_4 : (List.range 6).all (fun r => (List.range 6).all (fun i => (List.range 6).all (fun j => wy_g7 4 r i j))) = true := by decide +kernel
