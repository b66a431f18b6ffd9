theorem ly_l3_4 : (List.range 6).all (fun i => (List.range 6).all (fun j => ly_g3 4 i j)) = true := by decide +kernel
