/-! ===== restore in the second place, where it is kept: one end ===== -/
noncomputable def rn_n85_w_k : rx_KE := ((243, 6), ([(0, 0), (1, 14), (1, 16), (1, 19), (1, 21), (1, 22)], rc_p96, [(1, 1), (1, 15), (1, 17), (1, 18), (1, 20), (1, 23), (1, 27), (1, 28), (1, 29), (1, 32), (1, 33), (1, 38), (1, 41), (1, 42), (1, 45)]), ((rc_b232, rc_f78), rn_n85_h, [.inr (.inr (.inl (some 0))), .inl (468, 0)]), [rn_n85_v2_o2.1])
theorem rn_n85_w_a : rx_leg2 [] 6 (rx_flag [19, 47, 78] rx_m243) 6 468 [27] 20000 (rx_ent rn_n85_w_k ([], 0)).1 [(rn_n85_v2_S 0, [], some [], [])] = true := by decide +kernel
theorem rn_n85_w_z : rx_leg2 [] 6 (rx_flag [19, 47, 78] rx_m243) 6 468 [] 20000 (rn_n85_v2_S 367) [rn_n85_v2_o2] = true := by decide +kernel
theorem rn_n85_w_in : (rn_n85_v2_o2.1.1, rn_n85_v2_o2.1.2) ∈ rn_n85_w_k.2.2.2 := List.mem_singleton.mpr rfl
set_option maxRecDepth 100000 in
theorem rn_n85_w : rx_OK rn_n85_w_k := by
  refine rx_okP (KT := []) (fl := [19, 47, 78]) (rx_oknil) rfl rfl fun GG R g hg => ?_
  refine rx_leg2_ok R rn_n85_w_a hg fun t ht g2 hg2 hE => ?_
  have e : t = (rn_n85_v2_S 0, [], some [], []) := List.mem_singleton.mp ht
  subst e
  have hz : GG (rn_n85_v2_S 367) g2 := rx_leg2_ok R rn_n85_w_z hg2 fun t ht g3 hg3 _ => by
    have e : t = rn_n85_v2_o2 := List.mem_singleton.mp ht
    subst e
    exact ⟨(fun q => by cases q), fun _ => ⟨rn_n85_v2_o2.1.1, rn_n85_w_in, hg3⟩⟩
  have h0 := rx_chain R (S := rn_n85_v2_S) (fun _ => rfl) (fun _ => rfl) (by decide) rn_n85_v2_b hg2 hz
  exact ⟨fun _ => h0, fun q => absurd (show (27 : Nat) = 0 from q) (by decide)⟩
