set_option maxRecDepth 100000 in
theorem rn_n84_v2_b : ∀ i, i < 367 → rx_leg2 [] 6 (rx_flag [33, 64] rx_m172) 6 468 [18] 20000 (rn_n84_v2_S i) [(rn_n84_v2_S (i + 1), [], some [], [])] = true := by
  intro i hi
  by_cases h0 : i < 61
  · obtain ⟨j, rfl⟩ : ∃ j, i = 0 + j := ⟨i - 0, by omega⟩
    exact List.all_eq_true.mp rn_n84_v2_c0 j (List.mem_range.mpr (by omega))
  by_cases h1 : i < 122
  · obtain ⟨j, rfl⟩ : ∃ j, i = 61 + j := ⟨i - 61, by omega⟩
    exact List.all_eq_true.mp rn_n84_v2_c1 j (List.mem_range.mpr (by omega))
  by_cases h2 : i < 183
  · obtain ⟨j, rfl⟩ : ∃ j, i = 122 + j := ⟨i - 122, by omega⟩
    exact List.all_eq_true.mp rn_n84_v2_c2 j (List.mem_range.mpr (by omega))
  by_cases h3 : i < 244
  · obtain ⟨j, rfl⟩ : ∃ j, i = 183 + j := ⟨i - 183, by omega⟩
    exact List.all_eq_true.mp rn_n84_v2_c3 j (List.mem_range.mpr (by omega))
  by_cases h4 : i < 305
  · obtain ⟨j, rfl⟩ : ∃ j, i = 244 + j := ⟨i - 244, by omega⟩
    exact List.all_eq_true.mp rn_n84_v2_c4 j (List.mem_range.mpr (by omega))
  by_cases h5 : i < 366
  · obtain ⟨j, rfl⟩ : ∃ j, i = 305 + j := ⟨i - 305, by omega⟩
    exact List.all_eq_true.mp rn_n84_v2_c5 j (List.mem_range.mpr (by omega))
  by_cases h6 : i < 367
  · obtain ⟨j, rfl⟩ : ∃ j, i = 366 + j := ⟨i - 366, by omega⟩
    exact List.all_eq_true.mp rn_n84_v2_c6 j (List.mem_range.mpr (by omega))
  exact absurd hi (by omega)
set_option maxRecDepth 100000 in
theorem rn_n84_v2 : rx_OK rn_n84_v2_k := by
  refine rx_okP (KT := []) (fl := [33, 64]) (rx_oknil) rfl rfl fun GG R g hg => ?_
  have fin : ∀ t ∈ [rn_n84_v2_o0, rn_n84_v2_o1, rn_n84_v2_o2, rn_n84_v2_o3], ∀ g2, rx_g t.1.1 g2 → t.1.2.2.2.1 = 0 ∧ ∃ sy' : rx_Y, (sy', t.1.2) ∈ rn_n84_v2_k.2.2.2 ∧ rx_g sy' g2 := by
    intro t ht g2 hg2
    simp only [List.mem_cons, List.not_mem_nil, or_false] at ht
    rcases ht with rfl | rfl | rfl | rfl
    · exact ⟨rfl, (rn_n84_o.getD 0 default).1.1, List.mem_map.mpr ⟨(rn_n84_o.getD 0 default), List.mem_of_getElem? (show rn_n84_o[0]? = some _ from rfl), rfl⟩, hg2⟩
    · exact ⟨rfl, (rn_n84_o.getD 1 default).1.1, List.mem_map.mpr ⟨(rn_n84_o.getD 1 default), List.mem_of_getElem? (show rn_n84_o[1]? = some _ from rfl), rfl⟩, hg2⟩
    · exact ⟨rfl, (rn_n84_o.getD 2 default).1.1, List.mem_map.mpr ⟨(rn_n84_o.getD 2 default), List.mem_of_getElem? (show rn_n84_o[2]? = some _ from rfl), rfl⟩, hg2⟩
    · exact ⟨rfl, (rn_n84_o.getD 3 default).1.1, List.mem_map.mpr ⟨(rn_n84_o.getD 3 default), List.mem_of_getElem? (show rn_n84_o[3]? = some _ from rfl), rfl⟩, hg2⟩
  refine rx_leg2_ok R rn_n84_v2_a hg fun t ht g2 hg2 hE => ?_
  rcases List.mem_cons.mp ht with rfl | ht
  · have hz : GG (rn_n84_v2_S 367) g2 := rx_leg2_ok R rn_n84_v2_z hg2 fun t ht g3 hg3 _ => ⟨(fun q => by cases q), fun _ => (fin t ht g3 hg3).2⟩
    have h0 := rx_chain R (S := rn_n84_v2_S) (fun _ => rfl) (fun _ => rfl) (by decide) rn_n84_v2_b hg2 hz
    exact ⟨fun _ => h0, fun q => absurd (show (18 : Nat) = 0 from q) (by decide)⟩
  · have := fin t ht g2 hg2
    refine ⟨fun q => ?_, fun _ => this.2⟩
    rw [this.1] at q
    exact absurd q (by decide)
