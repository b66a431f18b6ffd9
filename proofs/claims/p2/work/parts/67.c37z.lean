section RXW6
variable {p : Program} {l : Launch} {e : Env} {s : State} {m : MethodId} {b : Nat} {below : List Frame} {meth : Method} {c : Code} {bb : (Nat → Option Nat) × List Int} {D : va_G} {sz0 a L i : Nat} {xs : Nat → Int32}
/-- restore: by which image, and whether class and model have it -/
theorem la_case37 (hl : l.stackTraces = false) (hb : rx_Cw p s m #[Value.ref b] meth c bb sz0 a L xs) (hb2 : bb.2 = []) (ha : bb.1 50 = some a) (haz : a < sz0) (hL : L ≤ 3072) (hi6 : i + 6 ≤ L) {g : List Int} (hg : rx_g la_T40.1 g) (hv : 37 ≤ g.getD 814 0 ∧ g.getD 814 0 ≤ 37) :
    rx_GL p l e s m #[Value.ref b] below meth c bb D sz0 (rx_Q1 p l e s m #[Value.ref b] below meth c bb D sz0 la_S 807 806 L (i + 6)) (rx_Ps L i xs 807 806 808 6) la_T40 g := by
  have b9 := la_atK hg (k := 809) (lo := (-2147483648)) (hi := 2147483647) (by decide +kernel)
  have d0 := la_atK hg (k := 89) (lo := 0) (hi := 1) (by decide +kernel)
  have d1 := la_atK hg (k := 107) (lo := 0) (hi := 1) (by decide +kernel)
  have e0 := la_atK hg (k := 585) (lo := 0) (hi := 1) (by decide +kernel)
  have e1 := la_atK hg (k := 586) (lo := 0) (hi := 1) (by decide +kernel)
  by_cases k1 : g.getD 809 0 ≤ -1
  · exact la_case2 (rx_okcons rc_k39_ok (rx_okcons rn_n85_ok (rx_oknil))) la_c37a hl hb hb2 ha haz hL hi6 hg hv ⟨b9.1, k1⟩
  by_cases k4 : 2 ≤ g.getD 809 0
  · exact la_case2 (rx_okcons rc_k39_ok (rx_okcons rn_n85_ok (rx_oknil))) la_c37d hl hb hb2 ha haz hL hi6 hg hv ⟨k4, b9.2⟩
  by_cases k20 : g.getD 809 0 = 0
  · by_cases k3 : g.getD 89 0 = 0
    · by_cases k5 : g.getD 585 0 = 0
      · exact la_caseB (rx_okcons rc_wf_ok (rx_okcons rc_sb_ok (rx_okcons rc_n8_ok rx_oknil))) la_c37b00 hl hb hb2 ha haz hL hi6 hg (fun x hx => by
          simp only [List.mem_cons, List.not_mem_nil, or_false] at hx
          rcases hx with rfl | rfl | rfl | rfl <;> (dsimp only; omega))
      · exact la_caseB (rx_okcons rc_wf_ok (rx_okcons rc_sb_ok (rx_okcons rc_n8_ok (rx_okcons rn_n85_w0 rx_oknil)))) la_c37b01 hl hb hb2 ha haz hL hi6 hg (fun x hx => by
          simp only [List.mem_cons, List.not_mem_nil, or_false] at hx
          rcases hx with rfl | rfl | rfl | rfl <;> (dsimp only; omega))
    · by_cases k5 : g.getD 585 0 = 0
      · exact la_caseB (rx_okcons rc_wf_ok (rx_okcons rc_sb_ok (rx_okcons rc_n8_ok rx_oknil))) la_c37b10 hl hb hb2 ha haz hL hi6 hg (fun x hx => by
          simp only [List.mem_cons, List.not_mem_nil, or_false] at hx
          rcases hx with rfl | rfl | rfl | rfl <;> (dsimp only; omega))
      · exact la_caseB (rx_okcons rc_wf_ok (rx_okcons rc_sb_ok (rx_okcons rc_n8_ok (rx_okcons rn_n85_w0 rx_oknil)))) la_c37b11 hl hb hb2 ha haz hL hi6 hg (fun x hx => by
          simp only [List.mem_cons, List.not_mem_nil, or_false] at hx
          rcases hx with rfl | rfl | rfl | rfl <;> (dsimp only; omega))
  by_cases k21 : g.getD 809 0 = 1
  · by_cases k3 : g.getD 107 0 = 0
    · by_cases k5 : g.getD 586 0 = 0
      · exact la_caseB (rx_okcons rc_wf_ok (rx_okcons rc_sb_ok (rx_okcons rc_n8_ok rx_oknil))) la_c37c00 hl hb hb2 ha haz hL hi6 hg (fun x hx => by
          simp only [List.mem_cons, List.not_mem_nil, or_false] at hx
          rcases hx with rfl | rfl | rfl | rfl <;> (dsimp only; omega))
      · exact la_caseB (rx_okcons rc_wf_ok (rx_okcons rc_sb_ok (rx_okcons rc_n8_ok (rx_okcons rn_n85_w1 rx_oknil)))) la_c37c01 hl hb hb2 ha haz hL hi6 hg (fun x hx => by
          simp only [List.mem_cons, List.not_mem_nil, or_false] at hx
          rcases hx with rfl | rfl | rfl | rfl <;> (dsimp only; omega))
    · by_cases k5 : g.getD 586 0 = 0
      · exact la_caseB (rx_okcons rc_wf_ok (rx_okcons rc_sb_ok (rx_okcons rc_n8_ok rx_oknil))) la_c37c10 hl hb hb2 ha haz hL hi6 hg (fun x hx => by
          simp only [List.mem_cons, List.not_mem_nil, or_false] at hx
          rcases hx with rfl | rfl | rfl | rfl <;> (dsimp only; omega))
      · exact la_caseB (rx_okcons rc_wf_ok (rx_okcons rc_sb_ok (rx_okcons rc_n8_ok (rx_okcons rn_n85_w1 rx_oknil)))) la_c37c11 hl hb hb2 ha haz hL hi6 hg (fun x hx => by
          simp only [List.mem_cons, List.not_mem_nil, or_false] at hx
          rcases hx with rfl | rfl | rfl | rfl <;> (dsimp only; omega))
  omega
end RXW6
