theorem rc_m40_v8_b : ∀ i, i < 427 → rx_leg2 [] 6 (rx_flag [67] rx_m248) 3 175 [11] 20000 (rc_m40_v8_S i) [(rc_m40_v8_S (i + 1), [], some [], [])] = true := by
  intro i hi
  by_cases h0 : i < 61
  · obtain ⟨j, rfl⟩ : ∃ j, i = 0 + j := ⟨i - 0, by omega⟩
    exact List.all_eq_true.mp rc_m40_v8_c0 j (List.mem_range.mpr (by omega))
  by_cases h1 : i < 122
  · obtain ⟨j, rfl⟩ : ∃ j, i = 61 + j := ⟨i - 61, by omega⟩
    exact List.all_eq_true.mp rc_m40_v8_c1 j (List.mem_range.mpr (by omega))
  by_cases h2 : i < 183
  · obtain ⟨j, rfl⟩ : ∃ j, i = 122 + j := ⟨i - 122, by omega⟩
    exact List.all_eq_true.mp rc_m40_v8_c2 j (List.mem_range.mpr (by omega))
  by_cases h3 : i < 244
  · obtain ⟨j, rfl⟩ : ∃ j, i = 183 + j := ⟨i - 183, by omega⟩
    exact List.all_eq_true.mp rc_m40_v8_c3 j (List.mem_range.mpr (by omega))
  by_cases h4 : i < 305
  · obtain ⟨j, rfl⟩ : ∃ j, i = 244 + j := ⟨i - 244, by omega⟩
    exact List.all_eq_true.mp rc_m40_v8_c4 j (List.mem_range.mpr (by omega))
  by_cases h5 : i < 366
  · obtain ⟨j, rfl⟩ : ∃ j, i = 305 + j := ⟨i - 305, by omega⟩
    exact List.all_eq_true.mp rc_m40_v8_c5 j (List.mem_range.mpr (by omega))
  by_cases h6 : i < 427
  · obtain ⟨j, rfl⟩ : ∃ j, i = 366 + j := ⟨i - 366, by omega⟩
    exact List.all_eq_true.mp rc_m40_v8_c6 j (List.mem_range.mpr (by omega))
  exact absurd hi (by omega)
theorem rc_m40_v8 : rx_OK rc_m40_v8_k := by
  refine rx_okP (KT := []) (fl := [67]) (rx_oknil) rfl rfl fun GG R g hg => ?_
  have fin : ∀ t ∈ [rc_m40_v8_o0], ∀ g2, rx_g t.1.1 g2 → t.1.2.2.2.1 = 0 ∧ ∃ sy' : rx_Y, (sy', t.1.2) ∈ rc_m40_v8_k.2.2.2 ∧ rx_g sy' g2 := by
    intro t ht g2 hg2
    simp only [List.mem_cons, List.not_mem_nil, or_false] at ht
    rcases ht with rfl
    · exact ⟨rfl, (rc_m40_o.getD 0 default).1.1, List.mem_map.mpr ⟨(rc_m40_o.getD 0 default), List.mem_of_getElem? (show rc_m40_o[0]? = some _ from rfl), rfl⟩, hg2⟩
  refine rx_leg2_ok R rc_m40_v8_a hg fun t ht g2 hg2 hE => ?_
  rcases List.mem_cons.mp ht with rfl | ht
  · have hz : GG (rc_m40_v8_S 427) g2 := rx_leg2_ok R rc_m40_v8_z hg2 fun t ht g3 hg3 _ => ⟨(fun q => by cases q), fun _ => (fin t ht g3 hg3).2⟩
    have h0 := rx_chain R (S := rc_m40_v8_S) (fun _ => rfl) (fun _ => rfl) (by decide) rc_m40_v8_b hg2 hz
    exact ⟨fun _ => h0, fun q => absurd (show (11 : Nat) = 0 from q) (by decide)⟩
  · have := fin t ht g2 hg2
    refine ⟨fun q => ?_, fun _ => this.2⟩
    rw [this.1] at q
    exact absurd q (by decide)
