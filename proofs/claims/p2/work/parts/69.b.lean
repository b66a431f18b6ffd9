/-! ===== the law, from its entry ===== -/
noncomputable def la_s0 : rx_Y := ([(0, 3072)], [])
noncomputable def la_b0 : Option (List rx_T) := rx_go rx_NW (rx_fcall rx_NW rx_MT (rx_ext rx_MT []) 100000 60) rx_mL [23] 100000 la_s0 [] (0, 0) 0 [(0, .inr (.inr (.inr 50)))] []
noncomputable def la_hd0 (T : rx_T) : Bool := match Nat.beq T.2.2.2.1 23 && (Nat.ble T.2.2.1.1 226 && (Nat.ble T.2.2.1.2 8467 && T.2.2.2.2.2.isEmpty)) with
  | false => false
  | true => (rx_gpT T la_cps [] (fun pi => rx_gth (rx_gT T pi) la_sps la_S.1.1 (fun tt => rx_apR tt [(1, 0)] (fun th => some ((rx_isP th 806 (0, 0) && rx_isP th 807 (1, 0)) && ry_subG T la_S th pi))))).getD false
noncomputable def la_b1 : Bool := match la_b0 with
  | some L => L.all la_hd0
  | none => false
set_option maxRecDepth 100000 in
theorem la_b1_ok : la_b1 = true := by decide +kernel
theorem la_hd0_ok {T : rx_T} (h : la_hd0 T = true) : (T.2.2.2.1 = 23 ∧ T.2.2.1.1 ≤ 226 ∧ T.2.2.1.2 ≤ 8467 ∧ T.2.2.2.2.2 = []) ∧ ∃ th pi, th[806]? = some (0, 0) ∧ th[807]? = some (1, 0) ∧ ry_subG T la_S th pi = true := by
  unfold la_hd0 at h
  split at h
  · cases h
  · rename_i hb
    simp only [Bool.and_eq_true] at hb
    refine ⟨⟨Nat.eq_of_beq_eq_true hb.1, Nat.le_of_ble_eq_true hb.2.1, Nat.le_of_ble_eq_true hb.2.2.1, List.isEmpty_iff.mp hb.2.2.2⟩, ?_⟩
    obtain ⟨pi, h1⟩ := rx_gpT_ok (rx_gtd (f := fun x : Bool => x) h)
    obtain ⟨tt, h2⟩ := rx_gth_ok h1
    rw [rx_apR_eq] at h2
    have h2 := Option.some.inj h2
    simp only [Bool.and_eq_true] at h2
    exact ⟨_, pi, rx_isP_ok h2.1.1, rx_isP_ok h2.1.2, h2.2⟩
/-- from the entry, for every script of at most 3072 ints, the law comes to its end with true -/
theorem whole_start {p : Program} {e : Env} {s : State} {m : MethodId} {below : List Frame} {meth : Method} {c : Code} (l : Launch) (hflags : l.flags = flags0) {b L : Nat} {xs : Nat → Int32} (hL : L ≤ 3072) (hmn : meth.name = yL_law.name) (C0 : lw_At p s m meth c b L xs) : W p l e room_1 s m #[Value.ref b] below meth c s.heap [] 0 0 (lw_Z below #[Value.ref b] s) (entryFrame m ([Value.ref b] : List Value).toArray 7) := by
  obtain ⟨bb, hb50, hb2, hZ⟩ := rx_begin C0
  obtain ⟨hx, hb, hr, hml, hown, hts, hX, hbl, hlocks, hgv⟩ := C0
  have hGd := rx_lwG hts
  obtain ⟨D, hK⟩ := rx_known hGd
  have hl : l.stackTraces = false := by unfold Launch.stackTraces; rw [hflags]; decide
  have C : rx_Cx p s m #[Value.ref b] c cL_law RL 7 := ⟨hx, hb, hml, hown, hGd, rx_lwP hts⟩
  have hCw : rx_Cw p s m #[Value.ref b] meth c bb s.heap.size b L xs := ⟨C, hmn, hZ, Nat.le_refl _, hX⟩
  have hG : rx_g la_s0 [(L : Int)] := by
    refine ⟨⟨rfl, fun k z q hz hq => ?_⟩, fun f hf => by cases hf⟩
    match k, hz, hq with
    | 0, hz, hq => cases hz; cases hq; exact ⟨by show (0 : Int) ≤ (L : Int); omega, by show (L : Int) ≤ 3072; omega⟩
    | k + 1, hz, hq => cases hz
  have hvs : rx_vs bb (([] : va_W).map Prod.fst) [(L : Int)] [.inr (.inr (.inr 50))] [Value.ref b] := ⟨by show Value.ref b = va_rf (bb.1 50); rw [hb50]; rfl, trivial⟩
  have hlv := lv_entry [Value.ref b] (n := 7) (by rw [rx_cats_len hvs]; exact Nat.le_of_ble_eq_true rfl)
  rw [lg_entry_eq]
  generalize (lg_sl [Value.ref b] ++ List.replicate (7 - (lg_sl [Value.ref b]).length) Slot.unset).toArray = ls at hlv ⊢
  have hcall : rx_Hc l bb D (rx_Zz bb s.heap.size) s.heap.size rx_MT room_1 (rx_fcall rx_NW rx_MT (rx_ext rx_MT []) 100000 60) := by
    intro mi' as' sy' h' r' hr'
    obtain ⟨d', hd', M', h1, h2, h3, h4⟩ := rx_fcall_ok rx_clok rx_mtok (rx_Zz_ok bb s.heap.size) (rx_ext_ok (Zb := fun b => rx_Zz b s.heap.size) (rx_ZC_ok s.heap.size).1 hb2 (fun K hk => by cases hk)) 60 mi' as' sy' h' r' hr'
    exact ⟨M', d', h1, h2, h3, ⟨(by show d' + 2 ≤ 2048; omega), (by show 100 * (d' + 2) ≤ 84000; omega)⟩, h4⟩
  have hB := la_b1_ok
  unfold la_b1 at hB
  split at hB
  · rename_i L0 hL0
    have key := rx_go_ok (p := p) (l := l) (e := e) (below := below) (A := fun q => s.heap.size ≤ q) (g0 := [(L : Int)]) (a0 := []) (t0 := []) (Q := lw_Z below #[Value.ref b] s) C rx_clok (rx_tvL yL_law.name) hmn ⟨rfl, rfl, by decide, by decide⟩ rfl (rx_Zz_ok bb s.heap.size) hZ (Nat.le_refl _) (fun q h => h) (fun q h => h) hcall 100000 la_s0 [] (0, 0) 0 [(0, .inr (.inr (.inr 50)))] [] L0 hL0
    refine key.2 (fun T hT => ?_) s.heap [] ls [] ⟨[(L : Int)], [], [], lv_args 0 [Value.ref b], ⟨rx_le.rf, rx_le.rf, fun _ q => q⟩, hG, ⟨rfl, fun i c h => (by cases h), by rw [hb2]; exact fun i x h => by cases h⟩, hK, fun k q h => (by cases h), ⟨fun i j p q h => (by cases h), fun k q h => (by cases h)⟩, va_S.rf, rx_args_ok 0 hvs, hlv, trivial⟩
    obtain ⟨⟨hpc, hc1, hc2, hst0⟩, th, pi, hIS, hLE, hsub⟩ := la_hd0_ok (List.all_eq_true.mp hB T hT)
    intro H locs ls1 st hat
    obtain ⟨g', tys', ws', lv', hE', hG', hH', hK', hP', hD', hS', hl', hv', hst'⟩ := hat
    rw [hst0] at hst'
    obtain ⟨g2, ws2, lv2, hTh, hG2, hH2, hP2, hD2, hl2, hv2, hst2⟩ := ry_subG_ok hb2 hsub hG' hH' hP' hD' hl' hv' (by rw [hst0]; exact hst')
    cases st with
    | cons v w => exact hst'.elim
    | nil =>
      rw [hpc]
      have vIS : g2[806]? = some (0 : Int) := by
        have h2 : 806 < g2.length := by rw [hTh.1]; exact (List.getElem?_eq_some_iff.mp hIS).1
        obtain ⟨r, h3, h4⟩ := hTh.2 806 _ (List.getElem?_eq_getElem h2)
        rw [hIS] at h3
        cases h3
        have h4 : g2[806] = 0 := h4
        rw [List.getElem?_eq_getElem h2, h4]
      have vLE : g2[807]? = some (L : Int) := by
        have h2 : 807 < g2.length := by rw [hTh.1]; exact (List.getElem?_eq_some_iff.mp hLE).1
        obtain ⟨r, h3, h4⟩ := hTh.2 807 _ (List.getElem?_eq_getElem h2)
        rw [hLE] at h3
        cases h3
        obtain ⟨y, h5, h6⟩ := h4
        have h7 := hE'.1 0 (L : Int) rfl
        rw [h7] at h5
        cases h5
        rw [List.getElem?_eq_getElem h2, h6, Int.add_zero]
      intro T1 hT1 X
      exact rx_loop (S := la_S) (LE := 807) (IS := 806) (D := D) hCw hbl hr hlocks hL (la_HI hl hb2 hb50 hbl hL) (L + 1) 0 T1 locs _ _ ls1 (by omega) (Nat.zero_le _) X (by omega) (by omega) (by rw [hT1]; exact hS') ⟨g2, tys', ws2, lv2, hG2, ⟨vLE, vIS⟩, hH2, hK', by rw [hT1]; exact hP2, hD2, hl2, hv2⟩
  · cases hB
