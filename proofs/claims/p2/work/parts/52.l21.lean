theorem ly_l3_1 : (List.range 6).all (fun i => (List.range 6).all (fun j => ly_g3 1 i j)) = true := by decide +kernel
