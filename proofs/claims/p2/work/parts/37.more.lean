/-! ===== a contract that can't be asked for; a check in pieces ===== -/
theorem rx_bot {K : rx_KE} {M0 : rx_Md} (hM : rx_MT[K.1.1]? = some M0) (hf : K.2.2.1.1.2 = [([], [], -1)]) : rx_OK K := by
  intro l D sz0 Zb hZC
  obtain ⟨hok, -⟩ := rx_mtok _ M0 hM
  refine ⟨M0, hM, hok, fun b hb2 => ?_⟩
  intro g tys ws vs sz hG hH hvs
  have h0 := hG.2 ([], [], -1) (by rw [hf]; exact List.mem_singleton.mpr rfl)
  obtain ⟨z, hz, h1⟩ := h0 (fun q hq => by cases hq)
  have hz : z = 0 := hz
  dsimp only at h1
  omega
theorem rx_allR_of {α : Type} {p : α → Bool} : ∀ {l : List α}, (∀ x ∈ l, p x = true) → rx_allR p l = true
  | [], _ => rfl
  | x :: l, h => by
    show @Bool.rec (fun _ => Bool) false (rx_allR p l) (p x) = true
    rw [h x List.mem_cons_self]
    exact rx_allR_of (fun y hy => h y (List.mem_cons_of_mem _ hy))
noncomputable def rx_chk2 (KT : List rx_KE) (fuel : Nat) (K : rx_KE) (M : rx_Md) (m0 : List (Int × Nat) × Int) (rest : List rx_Cu) (outs : List (rx_T × (List (Nat × Nat) × List (Nat × Nat)))) (l : List rx_Cu) : Bool :=
  rx_allR (rx_chkC rx_NW (rx_fcall rx_NW rx_MT (rx_ext rx_MT KT) fuel K.1.2) M fuel (rx_lenR K.2.2.1.2.1) (rx_lenR K.2.2.1.1.1) (rest.map (fun J => J.1.2.2.2.1)) (rx_ent K m0 :: rest) outs) l
theorem rx_vfy2_of {KT : List rx_KE} {fuel : Nat} {K : rx_KE} {M : rx_Md} {m0 : List (Int × Nat) × Int} {rest : List rx_Cu} {outs : List (rx_T × (List (Nat × Nat) × List (Nat × Nat)))} {parts : List (List rx_Cu)} (hr : rest = parts.flatten) (h0 : (Nat.ble (rx_cats K.2.2.1.2.2) M.2.2.1 && rx_isS (rx_lbs K.2.2.1.1 m0.1)) = true) (h1 : rx_chk2 KT fuel K M m0 rest outs [rx_ent K m0] = true) (h2 : ∀ l ∈ parts, rx_chk2 KT fuel K M m0 rest outs l = true) : rx_vfy2 KT fuel K M m0 rest outs = true := by
  unfold rx_vfy2
  rw [h0, Bool.true_and]
  refine rx_allR_of fun x hx => ?_
  rcases List.mem_cons.mp hx with rfl | hx
  · exact rx_allR_ok h1 _ List.mem_cons_self
  · rw [hr] at hx
    obtain ⟨l, hl, hx⟩ := List.mem_flatten.mp hx
    exact rx_allR_ok (h2 l hl) _ hx
theorem rx_chnil {p : List rx_Cu → Bool} : ∀ l ∈ ([] : List (List rx_Cu)), p l = true := fun l h => by cases h
theorem rx_chcons {p : List rx_Cu → Bool} {l : List rx_Cu} {L : List (List rx_Cu)} (h : p l = true) (t : ∀ l ∈ L, p l = true) : ∀ x ∈ l :: L, p x = true := List.forall_mem_cons.mpr ⟨h, t⟩
