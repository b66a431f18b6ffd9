/-- a check in two pieces -/
theorem rq_chk2_app {KT : List rx_KE} {fuel : Nat} {K : rx_KE} {M : rx_Md} {m0 : List (Int × Nat) × Int} {rest : List rx_Cu} {outs : List (rx_T × (List (Nat × Nat) × List (Nat × Nat)))} {l : List rx_Cu} (n : Nat) (h1 : rq_chk2 KT fuel K M m0 rest outs (l.take n) = true) (h2 : rq_chk2 KT fuel K M m0 rest outs (l.drop n) = true) : rq_chk2 KT fuel K M m0 rest outs l = true := by
  unfold rq_chk2 at *
  refine rx_allR_of fun x hx => ?_
  rw [← List.take_append_drop n l] at hx
  rcases List.mem_append.mp hx with hx | hx
  · exact rx_allR_ok h1 _ hx
  · exact rx_allR_ok h2 _ hx
theorem rc_m95_c0a : rq_chk2 rc_m95_t 20000 rc_m95_k (rx_flag [88] rx_m147) ([], 73142) rc_m95_r rc_m95_o (rc_m95_p0.take 6) = true := by decide +kernel
