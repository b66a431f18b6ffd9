theorem wy_l4_0 : (List.range 6).all (fun r => (List.range 6).all (fun i => (List.range 6).all (fun j => wy_g4 0 r i j))) = true := by decide +kernel
