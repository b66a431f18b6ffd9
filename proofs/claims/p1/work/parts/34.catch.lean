/-! ===== the law's own key and man: they catch ===== -/
section RXK
variable {p : Program} {l : Launch} {e : Env} {R : Room} {s : State} {m : MethodId} {args : Array Value} {below : List Frame} {meth : Method} {c : Code} {b : (Nat → Option Nat) × List Int} {D : va_G} {A : Nat → Prop} {Q : State → Prop}
/-- a call that throws, by its contract -/
theorem rx_throwW {H : Heap} {locs : List Loc} {cells slots mc ms pc : Nat} {ls : Array Slot} {st0 rest : List Value} {outs : List rx_T} {g : List Int} {tys : List (ClassId × FieldType)} {ws : va_W} (hr : vx_Run p l e R s m args below meth c H locs cells slots mc ms (F0 m pc ls st0) rest (fun _ _ _ => False) (rx_Xc b D g tys ws H.size outs) (va_A ws H.size)) (hS : va_S A s.heap H locs) (hF : ∀ q, va_A ws H.size q → A q)
    (kk : ∀ o ∈ outs, ∀ (g' : List Int) (tys' : List (ClassId × FieldType)) (ws' : va_W) (q9 : Addr) (ce : Cell) (H1 : Heap) (locs1 : List Loc), (rx_le g g' ∧ rx_le (ws.map Prod.fst) (ws'.map Prod.fst) ∧ ∀ q ∈ tys, q ∈ tys') → rx_g o.1 g' → rx_h b g' tys' o.2.1 ws' → va_K D vwCl tys' s → va_P D vwCl ws' H1 → va_D A ws' → va_S A s.heap H1 locs1 → H1[q9]? = some ce → ce.vm = .none → s.vm.findClass "java/util/NoSuchElementException" = some ce.cls →
      vx_W p l e R s m args below meth c H1 locs1 (cells + mc) (slots + ms) Q (F0 m pc ls rest) q9) : W p l e R s m args below meth c H locs cells slots Q (F0 m pc ls st0) := by
  intro T hT X
  rcases hr T hT X with ⟨v, st₀, t, T', L, h0, X', hL, e1, e2, hq, st⟩ | ⟨q, st₀, t, T', L, E, ce, h0, X', hL, e1, e2, ⟨rfl, ⟨o, ho, g', tys', ws', hx1, hx2, hx3, hx5, hx6, hx7⟩, hz, hk⟩, hce, hcv, hcl, st⟩
  · exact hq.elim
  · rw [h0] at hz hk
    have hvm : s.vm.Alike t.vm := by rw [← e2]; exact X'.warmed.alike
    obtain ⟨t2, a1, b1⟩ := kk o ho g' tys' ws' q ce T'.heap (locs ++ L) hx1 hx2 hx3 (va_K.moved hvm.symm hx5) (by rw [e1]; exact hx6) (hx7.weaken (fun _ q _ h => hF q.1 h))
      ⟨Nat.le_trans hS.1 (by rw [e1]; exact hz), fun q h1 h2 => by rw [e1, hk q (Nat.lt_of_lt_of_le h1 hS.1) (fun z => h2 (hF q z))]; exact hS.2.1 q h1 h2, fun q hq => by
        rcases List.mem_append.mp hq with h | h
        · exact hS.2.2 q h
        · exact hF _ (hL q h)⟩ (by rw [e1]; exact hce) hcv hcl T' rfl X'
    exact ⟨t2, st.trans a1, b1⟩
def rx_hh : List (Nat × Nat × Nat × Nat) := [(0, 10, 13, 13)]
def rx_wsH (M : rx_Md) : List Cond := Cond.codeWith M.1 M.2.1 M.2.2.1 M.2.2.2.1 rx_hh :: rx_Gd
def rx_kout (outs : List rx_T) : List rx_T := outs.map (fun o => (o.1, o.2.1, (1, 6), 16, [], [.inl (0, 1)]))
theorem rx_catch {sz0 d : Nat} {ML MX : rx_Md} {sy : rx_Y} {h : List rx_C} {outs : List rx_T} {r0 r1 idx : Nat} {q1 q2 : rx_I} {lc : rx_L} {fs : List rx_V} (hMX : rx_okM MX) (hcX : MX.1.cls = RX9) (hmc : MX.2.2.2.2.2.2.1 = 1) (hms : MX.2.2.2.2.2.2.2.1 = 6) (hnX : (parseMethodDescriptor MX.1.desc).map (fun d => d.parameters.length) = some 2) (hsX : Cond.instanceMethod MX.1 ∈ rx_Gd ∧ Cond.selects MX.1.cls MX.1 MX.1 ∈ rx_Gd)
    (hX : ∀ (g : List Int) (tys : List (ClassId × FieldType)) (ws : va_W) (vs : List Value) (sz : Nat), rx_g sy g → rx_h b g tys h ws → rx_vs b (ws.map Prod.fst) g [.inr (.inr (.inl (some r0))), .inl q1, .inl q2] vs →
      vx_Met l MX.1 (rx_ws MX) (rx_rm d MX) (va_Pc vs (rx_Bg D (rx_Zz b sz0) sz0 tys ws sz)) (fun _ _ _ _ => False) (rx_Xc b D g tys ws sz outs) 1 6 (va_A ws sz))
    (hTL : rx_Tok rx_MT ML.2.1 ML.1.cls ML.1.name ML) (hcL : ML.1.cls = RL) (hrL : ML.2.2.2.1 = some .int) (hnL : ML.2.2.1 = 5) (hmL : ML.2.2.2.2.2.2.1 = 1 ∧ ML.2.2.2.2.2.2.2.1 = 6) (hlk : Cond.methodLink RL idx MX.1 ∈ rx_Gd) (hck : Cond.classLink RL 13 "java/util/NoSuchElementException" ∈ rx_Gd)
    (c5 : decode ML.2.1 5 = .ok (.invokevirtual idx, 3)) (c13 : decode ML.2.1 13 = .ok (.astore 4, 2)) (c15 : decode ML.2.1 15 = .ok (.iconst 1, 1)) (c16 : decode ML.2.1 16 = .ok (.ireturn, 1))
    (hgo : rx_go rx_NW (rx_fcall rx_NW rx_MT rx_ext 100000 (d + 1)) ML 5 100000 sy h (0, 0) 0 (rx_args 0 [.inr (.inr (.inl (some r0))), .inl q1, .inl q2, .inr (.inr (.inl (some r1)))]) [] = some [(sy, h, (0, 0), 5, lc, [.inl q2, .inl q1, .inr (.inr (.inl (some r0))), .inl (0, 0), .inr (.inr (.inl (some r1)))])]) (hr0 : h[r0]? = some (.inl (9, fs))) :
    ∀ (g : List Int) (tys : List (ClassId × FieldType)) (ws : va_W) (vs : List Value) (sz : Nat), rx_g sy g → rx_h b g tys h ws → rx_vs b (ws.map Prod.fst) g [.inr (.inr (.inl (some r0))), .inl q1, .inl q2, .inr (.inr (.inl (some r1)))] vs →
      vx_Met l ML.1 (rx_wsH ML) (rx_rm (d + 1) ML) (va_Pc vs (rx_Bg D (rx_Zz b sz0) sz0 tys ws sz)) (rx_Qc b D g tys ws sz (rx_kout outs)) (fun _ _ _ => False) 1 6 (va_A ws sz) := by
  intro g tys ws vs sz hG hH hvs
  refine vx_ofWH (cc := ML.2.1) (maxL := ML.2.2.1) (ret := ML.2.2.2.1) (hh := rx_hh) (by rw [hcL]; decide +kernel) rfl ?_
  intro p e s m args below meth c s₁ B hml hv
  obtain ⟨rfl, hsz, hP, hK, hD0, hsz0, hpr, hZs⟩ := hv
  subst hsz
  have hts0 : ∀ w ∈ rx_wsH ML, w.before vs.toArray s = true := atoms_spec (ws := rx_wsH ML) B.pre
  have hts : ∀ w ∈ rx_Gd, w.before vs.toArray s = true := fun w hw => hts0 w (List.mem_cons_of_mem _ hw)
  have htab : c.exceptionTable.toList = tableOf rx_hh := vx_table (x := ML.1) B (hts0 _ List.mem_cons_self)
  have C : rx_Cx p s m vs.toArray c ML.2.1 ML.1.cls ML.2.2.1 := ⟨B.exec, B.bytes, hml, findClass_of_methodNamed B.named, hts, hpr⟩
  have hmn : meth.name = ML.1.name := (name_of_methodNamed B.named B.method).1
  have hlv := lv_entry vs (n := ML.2.2.1) (by rw [rx_cats_len hvs, hnL]; exact Nat.le_of_ble_eq_true rfl)
  rw [lg_entry_eq]
  generalize (lg_sl vs ++ List.replicate (ML.2.2.1 - (lg_sl vs).length) Slot.unset).toArray = ls at hlv ⊢
  have hA : ∀ q, s.heap.size ≤ q → va_A ws s.heap.size q := fun q h => Or.inr h
  have hA0 : ∀ q, va_A ws s.heap.size q → sz0 ≤ q := by
    intro q hq
    rcases hq with ⟨k, e', hk⟩ | hq
    · exact hD0.2 k _ hk
    · exact Nat.le_trans hsz0 hq
  have hcall : rx_Hc l b D (rx_Zz b sz0) sz0 rx_MT (headSpec (rx_wsH ML) (rx_rm (d + 1) ML)).room (rx_fcall rx_NW rx_MT rx_ext 100000 (d + 1)) := by
    intro mi' as' sy' h' r' hr'
    obtain ⟨d', hd', M', h1, h2, h3, h4⟩ := rx_fcall_ok rx_clok rx_mtok (rx_Zz_ok b sz0) (fun d mi as sy h r h => by cases h) (d + 1) mi' as' sy' h' r' hr'
    obtain rfl : d' = d := by omega
    exact ⟨M', d', h1, h2, h3, ⟨Nat.le_refl _, Nat.le_refl _⟩, h4⟩
  have hR : (headSpec (rx_wsH ML) (rx_rm (d + 1) ML)).room.cells = ML.2.2.2.2.2.2.1 ∧ (headSpec (rx_wsH ML) (rx_rm (d + 1) ML)).room.slots = ML.2.2.2.2.2.2.2.1 ∧ 1 ≤ (headSpec (rx_wsH ML) (rx_rm (d + 1) ML)).room.frames ∧ 60 ≤ (headSpec (rx_wsH ML) (rx_rm (d + 1) ML)).room.locals := ⟨rfl, rfl, Nat.succ_le_succ (Nat.zero_le _), by show 60 ≤ 100 * (d + 1 + 1); omega⟩
  have key := rx_go_ok (p := p) (e := e) (below := below) (A := va_A ws s.heap.size) (g0 := g) (a0 := ws.map Prod.fst) (t0 := tys) (Q := vx_MQ below (rx_Qc b D g tys ws s.heap.size (rx_kout outs)) (fun _ _ _ => False) vs.toArray s 1 6 (va_A ws s.heap.size)) C rx_clok hTL hmn hR rfl (rx_Zz_ok b sz0) hZs hsz0 hA hA0 hcall 100000 sy h (0, 0) 0 _ [] _ hgo
  refine key.2 (fun T hTo => ?_) s.heap [] ls [] ⟨g, tys, ws, lv_args 0 vs, ⟨rx_le.rf, rx_le.rf, fun _ q => q⟩, hG, hH, hK, hP, hD0.self, va_S.rf, rx_args_ok 0 hvs, hlv, trivial⟩
  cases List.mem_singleton.mp hTo
  intro H locs ls' st hat
  obtain ⟨g', tys', ws', lv', hE', hG', hH', hK', hP', hD', hS', hl', hv', hst'⟩ := hat
  dsimp only at hG' hH' hst' ⊢
  obtain ⟨v2, w2, rfl, hw2, hst2⟩ := rx_vs_cons hst'
  obtain ⟨v1, w1, rfl, hw1, hst1⟩ := rx_vs_cons hst2
  obtain ⟨v0, w0, rfl, hw0, hst0⟩ := rx_vs_cons hst1
  obtain ⟨a0, ha0, rfl⟩ := id hw0
  have hmet := hX g' tys' ws' [.ref a0, v1, v2] H.size hG' hH' ⟨hw0, hw1, hw2, trivial⟩
  obtain ⟨vs1, hws1, -⟩ := hH'.obj hr0 ha0
  have hown : s.vm.findClass RL = some m.cls := by rw [← hcL]; exact C.2.2.2.1
  have hrecv := va_recv (q0 := r0) (q := (RX9, TX9, _)) hK' hP' rfl hws1
  have cb := rx_cb (R := (headSpec (rx_wsH ML) (rx_rm (d + 1) ML)).room) (d := d) hts hMX hlk hnX ⟨Nat.le_refl _, Nat.le_refl _⟩
  rw [hmc, hms] at cb
  have hroom := lv_room (m := m) (pc := 5) (ls := ls') (rest := v2 :: v1 :: .ref a0 :: w0) (st := w0) (by rw [rx_cats_ok hst0]; exact Nat.le_of_ble_eq_true rfl)
  have S : CallFix p m c ML.2.1 ML.2.2.1 s vs.toArray rx_Gd RL := ⟨B.exec, B.bytes, hml, hown, hts⟩
  have hrun := vx_runV (cells := 0) (slots := 0) (locs := locs) (below := below) (meth := meth) (e := e) (g := F0 m 5 ls' (v2 :: v1 :: .ref a0 :: w0)) (C := RX9) (b := a0) (As := [v1, v2]) (rest := w0) S hmet ⟨cb, hts _ hsX.1, by have := hts _ hsX.2; rw [hcX] at this; exact this⟩ ⟨rx_blind (rx_Zz_ok b sz0), hrecv, fun U hU hW => rx_pre (rx_Zz_ok b sz0) hZs hsz0 hA0 hpr hK' hP' hD' hS' U hU hW⟩ rfl rfl hv'.1 rfl hroom c5 ⟨by rw [hR.1, hmL.1]; exact Nat.le_refl _, by rw [hR.2.1, hmL.2]; exact Nat.le_refl _⟩
  refine rx_throwW hrun hS' ?_ ?_
  · intro q hq
    rcases hq with ⟨k, e', hk⟩ | hq
    · exact hD'.2 k _ hk
    · exact hA q (Nat.le_trans hS'.1 hq)
  · intro o ho g2 tys2 ws2 q9 ce H1 locs1 le2 hg2 hh2 hK2 hP2 hD2 hS2 hce hcv hcl9
    refine vx_catch (own := RL) (name := "java/util/NoSuchElementException") (E := "java/util/NoSuchElementException") hown [] ((tableOf rx_hh).head (by decide)) [] (by rw [htab]; rfl) (fun z hz => by cases hz) (by decide) (by decide) (hts _ hck) ((hZs.2.2.2 _ (by decide)).use rfl) hce hcv hcl9 ?_
    refine lv_astore B.exec B.bytes c13 hv' (by rw [hnL]; decide) rfl fun ls2 hls2 => ?_
    refine lv_iconst B.exec B.bytes c15 (show Int32.ofInt 1 = 1 from rfl) ?_
    refine vx_ret (W.iret B.exec B.bytes (B.returns.trans hrL) (fun t ht hW => ?_) hS2.2.2 c16 B.notSynchronized)
    refine ⟨⟨(o.1, o.2.1, (1, 6), 16, [], [.inl (0, 1)]), List.mem_map.mpr ⟨o, ho, rfl⟩, g2, tys2, ws2, some (.int 1), rfl, ⟨hE'.1.tr le2.1, hE'.2.1.tr le2.2.1, fun q hq => le2.2.2 q (hE'.2.2 q hq)⟩, hg2, hh2, ⟨⟨1, rfl, rfl⟩, trivial⟩, va_K.moved hW.alike hK2, by rw [ht]; exact hP2, hD2⟩, hS2.F ht⟩
end RXK
section RXK2
variable {p : Program} {l : Launch} {e : Env} {s : State} {m : MethodId} {below : List Frame} {meth : Method} {c : Code} {b : Nat} {bb : (Nat → Option Nat) × List Int} {D : va_G} {g0 : List Int} {a0 : List Nat} {t0 : List (ClassId × FieldType)} {Q : State → Prop}
/-- the law's call of its own key or man -/
theorem rx_key_go {d : Nat} (hd : d ≤ 100) {ML : rx_Md} {sy : rx_Y} {h : List rx_C} {nn : Nat × Nat} {lc : rx_L} {outs : List rx_T} {r0 r1 idx pc : Nat} {q1 q2 : rx_I} (F : rx_Lw p s m meth c b bb)
    (hL : ∀ (g : List Int) (tys : List (ClassId × FieldType)) (ws : va_W) (vs : List Value) (sz : Nat), rx_g sy g → rx_h bb g tys h ws → rx_vs bb (ws.map Prod.fst) g [.inr (.inr (.inl (some r0))), .inl q1, .inl q2, .inr (.inr (.inl (some r1)))] vs →
      vx_Met l ML.1 (rx_wsH ML) (rx_rm (d + 1) ML) (va_Pc vs (rx_Bg D (rx_Zz bb s.heap.size) s.heap.size tys ws sz)) (rx_Qc bb D g tys ws sz outs) (fun _ _ _ => False) 1 6 (va_A ws sz))
    (hcL : ML.1.cls = RL) (hmL : ML.2.2.2.2.2.2.1 = 1 ∧ ML.2.2.2.2.2.2.2.1 = 6) (hnL : ML.2.2.1 = 5) (hnp : (parseMethodDescriptor ML.1.desc).map (fun d => d.parameters.length) = some 4) (hws : Cond.methodLink RL idx ML.1 ∈ rx_Gd ∧ Cond.static ML.1 ∈ rx_Gd ∧ Cond.initialized RL ∈ rx_Gd ∧ Cond.codeWith ML.1 ML.2.1 ML.2.2.1 ML.2.2.2.1 rx_hh ∈ rx_Gd)
    (hdc : decode cL_law pc = .ok (.invokestatic idx, 3)) (h1 : nn.1 + 1 ≤ 600002) (h2 : nn.2 + 6 ≤ 7302232)
    (K : ∀ o ∈ outs, rx_Go p l e room_1 s m #[Value.ref b] below meth c bb D (fun q => s.heap.size ≤ q) g0 a0 t0 7 Q (o.1, o.2.1, (nn.1 + 1, nn.2 + 6), pc + 3, lc, o.2.2.2.2.2)) : rx_Go p l e room_1 s m #[Value.ref b] below meth c bb D (fun q => s.heap.size ≤ q) g0 a0 t0 7 Q (sy, h, nn, pc, lc, [.inr (.inr (.inl (some r1))), .inl q2, .inl q1, .inr (.inr (.inl (some r0)))]) := by
  intro H locs ls st hat
  obtain ⟨g, tys, ws, lv, hE, hG, hH, hK, hP, hD, hS, hl, hv, hst⟩ := hat
  dsimp only at hG hH hl hst ⊢
  obtain ⟨v3, w3, rfl, hw3, hst3⟩ := rx_vs_cons hst
  obtain ⟨v2, w2, rfl, hw2, hst2⟩ := rx_vs_cons hst3
  obtain ⟨v1, w1, rfl, hw1, hst1⟩ := rx_vs_cons hst2
  obtain ⟨v0, w0, rfl, hw0, hst0⟩ := rx_vs_cons hst1
  cases w0 with
  | cons v9 w9 => exact hst0.elim
  | nil =>
    obtain ⟨hx, hb, hml, hown, hts, hpr⟩ := F.1
    have hmet := hL g tys ws [v0, v1, v2, v3] H.size hG hH ⟨hw0, hw1, hw2, hw3, trivial⟩
    have hgood : GoodIn rx_Gd (va_wsS RL idx ML.1 (rx_wsH ML)) := by
      intro w hw
      have hm : w ∈ rx_Gd := by
        rcases List.mem_append.mp hw with hw | hw
        · simp only [List.mem_cons, List.not_mem_nil, or_false] at hw
          rcases hw with rfl | rfl | rfl
          · exact hws.1
          · exact hws.2.1
          · rw [hcL]; exact hws.2.2.1
        · rcases List.mem_cons.mp hw with rfl | hw
          · exact hws.2.2.2
          · exact hw
      exact ⟨hm, rx_good hm⟩
    have cw : vx_CSW room_1 s #[Value.ref b] RL idx ML.1 ML.2.1 ML.2.2.1 ML.2.2.2.1 rx_hh (rx_wsH ML) (rx_rm (d + 1) ML) 1 6 4 := by
      refine vx_cwSW 4 hts hgood rfl hmL.1 hmL.2 ⟨by rw [hcL]; decide +kernel, by rw [hcL]; decide +kernel, hnp⟩ ⟨?_, ?_⟩
      · show d + 1 + 1 + 1 ≤ 2048
        omega
      · show 8 + (ML.2.2.1 + 11) + 100 * (d + 1 + 1) ≤ 84000
        omega
    have S : CallFix p m c cL_law 7 s #[Value.ref b] rx_Gd RL := ⟨hx, hb, hml, hown, hts⟩
    have hrun := vx_runSX (cells := nn.1) (slots := nn.2) (locs := locs) (below := below) (meth := meth) (e := e) (g := F0 m pc ls [v3, v2, v1, v0]) (As := [v0, v1, v2, v3]) (rest := []) S hmet cw ⟨rx_blind (rx_Zz_ok bb s.heap.size), fun U hU hW => rx_pre (rx_Zz_ok bb s.heap.size) F.2.2.2 (Nat.le_refl _) (fun q h => h) hpr hK hP hD hS U hU hW⟩ rfl rfl hv.1 rfl (lv_room (by decide)) hdc ⟨h1, h2⟩
    have hrun2 : va_Run p l e room_1 s m #[Value.ref b] below meth c H locs nn.1 nn.2 1 6 (F0 m pc ls [v3, v2, v1, v0]) [] (rx_Qc bb D g tys ws H.size outs [v0, v1, v2, v3].toArray) (va_A ws H.size) := by
      intro T hT X
      rcases hrun T hT X with h | ⟨q, st₀, t, T', L, E, ce, h0, X', hL, e1, e2, hq, -⟩
      · exact h
      · exact hq.elim
    refine rx_callW hrun2 hS ?_ ?_
    · intro q hq
      rcases hq with ⟨k, e', hk⟩ | hq
      · exact hD.2 k _ hk
      · exact Nat.le_trans hS.1 hq
    · intro o ho g' tys' ws' v H1 locs1 hx1 hg' hh' hvs' hK' hP' hD' hS'
      refine K o ho H1 locs1 ls (v.toList ++ []) ⟨g', tys', ws', lv, ⟨hE.1.tr hx1.1, hE.2.1.tr hx1.2.1, fun q hq => hx1.2.2 q (hE.2.2 q hq)⟩, hg', hh', hK', hP', hD', hS', hl.mono hx1.2.1 hx1.1, hv, ?_⟩
      rw [List.append_nil]
      exact hvs'
end RXK2
