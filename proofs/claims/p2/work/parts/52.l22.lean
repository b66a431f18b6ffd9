theorem ly_l3_2 : (List.range 6).all (fun i => (List.range 6).all (fun j => ly_g3 2 i j)) = true := by decide +kernel
