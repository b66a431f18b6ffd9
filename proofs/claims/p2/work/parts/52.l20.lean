theorem ly_l3_0 : (List.range 6).all (fun i => (List.range 6).all (fun j => ly_g3 0 i j)) = true := by decide +kernel
