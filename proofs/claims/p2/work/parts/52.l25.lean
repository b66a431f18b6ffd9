theorem ly_l3_5 : (List.range 6).all (fun i => (List.range 6).all (fun j => ly_g3 5 i j)) = true := by decide +kernel
