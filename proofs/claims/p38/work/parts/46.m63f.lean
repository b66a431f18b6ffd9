/-! ===== a check against few of the cuts ===== -/
noncomputable def rq_pk (l : List rx_Cu) (ix : List Nat) : List rx_Cu := ix.filterMap (fun i => l[i]?)
theorem rq_pk_mem {l : List rx_Cu} {ix : List Nat} {x : rx_Cu} (h : x ∈ rq_pk l ix) : x ∈ l := by
  obtain ⟨i, _, hi⟩ := List.mem_filterMap.mp h
  exact List.mem_of_getElem? hi
theorem rq_chkC_mono {N : List (List rx_V)} {call : Nat → List rx_V → rx_Y → List rx_C → Option rx_O} {M : rx_Md} {fuel na n0 : Nat} {stops : List Nat} {cuts cuts' : List rx_Cu} {outs : List (rx_T × (List (Nat × Nat) × List (Nat × Nat)))} {J : rx_Cu} (hs : ∀ K ∈ cuts, K ∈ cuts') (h : rq_chkC N call M fuel na n0 stops cuts outs J = true) : rq_chkC N call M fuel na n0 stops cuts' outs J = true := by
  unfold rq_chkC at h ⊢
  split at h
  · cases h
  · rename_i L hL
    rw [Bool.and_eq_true] at h ⊢
    refine ⟨h.1, rx_allR_of fun T hT => ?_⟩
    have h2 := rx_allR_ok h.2 T hT
    cases hin : rx_isin stops T.2.2.2.1 with
    | true =>
      rw [hin] at h2
      obtain ⟨K, hK, hk⟩ := List.any_eq_true.mp h2
      exact List.any_eq_true.mpr ⟨K, hs K hK, hk⟩
    | false =>
      rw [hin] at h2
      exact h2
noncomputable def rq_chk3 (KT : List rx_KE) (fuel : Nat) (K : rx_KE) (M : rx_Md) (rest : List rx_Cu) (outs : List (rx_T × (List (Nat × Nat) × List (Nat × Nat)))) (ix : List Nat) (l : List rx_Cu) : Bool :=
  rx_allR (rq_chkC rx_NW (rx_fcall rx_NW rx_MT (rx_ext rx_MT KT) fuel K.1.2) M fuel (rx_lenR K.2.2.1.2.1) (rx_lenR K.2.2.1.1.1) (rest.map (fun J => J.1.2.2.2.1)) (rq_pk rest ix) outs) l
theorem rq_chk3_ok {KT : List rx_KE} {fuel : Nat} {K : rx_KE} {M : rx_Md} {m0 : List (Int × Nat) × Int} {rest : List rx_Cu} {outs : List (rx_T × (List (Nat × Nat) × List (Nat × Nat)))} {ix : List Nat} {l : List rx_Cu} (h : rq_chk3 KT fuel K M rest outs ix l = true) : rq_chk2 KT fuel K M m0 rest outs l = true := by
  unfold rq_chk3 at h
  unfold rq_chk2
  exact rx_allR_of fun x hx => rq_chkC_mono (fun J hJ => List.mem_cons_of_mem _ (rq_pk_mem hJ)) (rx_allR_ok h x hx)
theorem rc_m95_c0f3 : rq_chk3 rc_m95_t 20000 rc_m95_k (rx_flag [88] rx_m147) rc_m95_r rc_m95_o [32, 33, 34, 35, 36, 72, 73, 74, 75, 76] ((((((rc_m95_p0.drop 6).drop 6).drop 6).drop 6).drop 7).take 5) = true := by decide +kernel
theorem rc_m95_c0g3 : rq_chk3 rc_m95_t 20000 rc_m95_k (rx_flag [88] rx_m147) rc_m95_r rc_m95_o [37, 38, 39, 40, 77, 78, 79, 80, 81] (((((((rc_m95_p0.drop 6).drop 6).drop 6).drop 6).drop 7).drop 5).take 5) = true := by decide +kernel
