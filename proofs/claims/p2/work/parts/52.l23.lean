theorem ly_l3_3 : (List.range 6).all (fun i => (List.range 6).all (fun j => ly_g3 3 i j)) = true := by decide +kernel
