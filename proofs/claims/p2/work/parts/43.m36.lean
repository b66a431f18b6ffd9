noncomputable def ca_h : List rx_C := [
  rc_c30,
  rc_c31]
noncomputable def ca_O : rx_T := (((rx_apR rc_b42 [(0, 63), (0, 5), (0, 255), (0, 63)] (fun x => x)), []), [
  rc_c30,
  rc_c32], (0, 0), 0, [], [.inl (179, 0)])
noncomputable def ca_pO : List (Nat × Nat) := [(0, 1000)]
noncomputable def rc_m66_k : rx_KE := ((149, 12), ([(0, 0), (1, 14)], rc_p13, [(1, 1), (1, 15), (1, 16), (1, 17), (1, 18), (1, 19), (1, 20), (1, 21), (1, 22), (1, 23), (1, 27), (1, 28), (1, 29), (1, 32), (1, 33), (1, 38), (1, 41), (1, 42), (1, 45)]), (((rx_apR rc_b42 [(0, 63), (0, 5), (0, 255)] (fun x => x)), []), ca_h, [.inr (.inr (.inl (some 0))), .inl (176, 0), .inl (177, 0), .inl (178, 0)]), [ca_O])
noncomputable def ca_S : rx_T := (((rx_apR rc_b42 [(0, 63), (0, 5), (0, 255), (0, 63), (0, 255)] (fun x => x)), []), ca_h, (0, 0), 6, [(0, .inr (.inr (.inl (some 0)))), (1, .inl (176, 0)), (2, .inl (177, 0)), (3, .inl (178, 0)), (4, .inl (179, 0)), (5, .inl (180, 0))], [])
noncomputable def ca_KT : List rx_KE := [rc_m02_k]
theorem ca_KTok : ∀ K ∈ ca_KT, rx_OK K := rx_okcons rc_m02_ok (rx_oknil)

noncomputable def ca_lg (A : rx_T) (ts : List rx_Le) : Bool := rx_leg2 ca_KT 12 (rx_flag [] rx_m149) 2 178 [6] 400 A ts
noncomputable def ca_t0 : List rx_Le := [(ca_S, [(0, 4), (0, 5)], some [(178, none), (178 + 1, some (0, 0))], [])]
noncomputable def ca_t1 : List rx_Le := [(ca_S, [(0, 4), (0, 5)], some [(178, none), (178 + 1, some (178 + 2, 1))], []), (ca_O, ca_pO, none, [])]
noncomputable def ca_t3 : List rx_Le := [(ca_O, ca_pO, none, [])]
noncomputable def ca_g1 (l t : Nat) : Bool := ca_lg (rx_nar ca_S [(176, (l : Int), (l : Int)), (178, 0, (t : Int)), (19 + l, (t : Int) + 1, 63)]) ca_t1
noncomputable def ca_g2 (l t : Nat) : Bool := ca_lg (rx_nar ca_S [(176, (l : Int), (l : Int)), (178, (t : Int) + 1, 63), (19 + l, 0, (t : Int))]) ca_t1
noncomputable def ca_g3 (l t : Nat) : Bool := ca_lg (rx_nar ca_S [(176, (l : Int), (l : Int)), (178, (t : Int), (t : Int)), (19 + l, (t : Int), (t : Int))]) ca_t3
theorem ca_l0 : ca_lg (rx_ent rc_m66_k ([], 0)).1 ca_t0 = true := by decide +kernel
theorem ca_nS : ca_S.1.1.length = 178 + 2 := by decide +kernel
