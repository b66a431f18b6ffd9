/-! ===== a contract with more room ===== -/
theorem rx_room {s : State} {pl : Platform} {r r' : Room} (hf : r.frames ≤ r'.frames) (hl : r.locals ≤ r'.locals) (hc : r.cells ≤ r'.cells) (hs : r.slots ≤ r'.slots) (h : s.hasRoom pl r' = true) : s.hasRoom pl r = true := by
  unfold State.hasRoom at h ⊢
  simp only [Bool.and_eq_true, decide_eq_true_eq] at h ⊢
  obtain ⟨⟨⟨⟨h1, h2, h3, h4, h5, h6⟩, h7⟩, h8⟩, h9⟩ := h
  exact ⟨⟨⟨⟨by omega, by omega, by omega, by omega, by omega, h6⟩, by omega⟩, by omega⟩, h9⟩
theorem rx_Met_up {l : Launch} {y : MethodName} {ws : List Cond} {rm rm' : Room} {P : Array Value → State → Prop} {Q : Array Value → State → Outcome → State → Prop} {mc ms : Nat} {f : Addr → Prop} (h : Met l y ws rm P Q mc ms f) (hf : rm.frames ≤ rm'.frames) (hl : rm.locals ≤ rm'.locals) (hc : rm.cells ≤ rm'.cells) (hs : rm.slots ≤ rm'.slots) : Met l y ws rm' P Q mc ms f := by
  intro p e ha hcc hk s m args below hfr happ hp hK
  refine h p e ha hcc hk s m args below hfr ?_ hp hK
  rw [Spec.appliesLoose_iff hfr] at happ ⊢
  obtain ⟨a1, a2, a3, a4, a5, a6, a7, a8⟩ := happ
  exact ⟨a1, a2, a3, a4, a5, a6, rx_room hf hl hc hs a7, a8⟩
theorem rx_up {K : rx_KE} {d : Nat} (hd : K.1.2 ≤ d) (h : rx_OK K) : rx_OK ((K.1.1, d), K.2) := by
  intro l D sz0 Zb hZC
  obtain ⟨M, h1, h2, h3⟩ := h l D sz0 Zb hZC
  refine ⟨M, h1, h2, fun b hb g tys ws vs sz hG hH hvs => rx_Met_up (h3 b hb g tys ws vs sz hG hH hvs) ?_ ?_ (Nat.le_refl _) (Nat.le_refl _)⟩
  · show K.1.2 + 1 ≤ d + 1
    omega
  · show 100 * (K.1.2 + 1) ≤ 100 * (d + 1)
    omega
