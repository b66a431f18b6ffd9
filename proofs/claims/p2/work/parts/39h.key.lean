/-! ===== key and man: the class answers or throws; the law's own method catches ===== -/
section RXT
def rx_Xc (b : (Nat → Option Nat) × List Int) (D : va_G) (g0 : List Int) (t0 : List (ClassId × FieldType)) (ws0 : va_W) (sz : Nat) (outs : List rx_T) : String → State → State → Prop := fun E st t =>
  E = "java/util/NoSuchElementException" ∧ (∃ o ∈ outs, ∃ (g : List Int) (tys : List (ClassId × FieldType)) (ws : va_W), (rx_le g0 g ∧ rx_le (ws0.map Prod.fst) (ws.map Prod.fst) ∧ ∀ q ∈ t0, q ∈ tys) ∧ rx_g o.1 g ∧ rx_h b g tys o.2.1 ws ∧ va_K D vwCl tys t ∧ va_P D vwCl ws t.heap ∧ va_D (va_A ws0 sz) ws) ∧ va_F (va_A ws0 sz) st t
def rx_xa : List Cond := vx_at0 RX9 152 "java/util/NoSuchElementException" ["java/lang/RuntimeException", "java/lang/Exception"]
theorem rx_xa_good : ∀ w ∈ rx_xa.filter goodWord, w ∈ lw_tbl := by decide +kernel
theorem rx_xa_bad : ∀ w ∈ rx_xa.filter (fun w => !goodWord w), w ∈ rx_Xd := by decide +kernel
theorem rx_xa_ot : ∀ w ∈ Cond.classLink RX9 150 "java/util/NoSuchElementException" :: Cond.initialized "java/util/NoSuchElementException" :: rx_xa, vx_ot w = true := by decide +kernel
theorem rx_xa_cl : Cond.classLink RX9 150 "java/util/NoSuchElementException" ∈ rx_Gd := List.mem_filter.mpr ⟨by decide +kernel, by decide +kernel⟩
theorem rx_xa_in : Cond.initialized "java/util/NoSuchElementException" ∈ rx_Gd := List.mem_filter.mpr ⟨by decide +kernel, by decide +kernel⟩
/-- the places where a new exception is thrown -/
def rx_site (cc : ByteArray) (q : Nat) : Prop := decode cc q = .ok (.new 150, 3) ∧ decode cc (q + 3) = .ok (.dup, 1) ∧ decode cc (q + 4) = .ok (.invokespecial 152, 3) ∧ decode cc (q + 7) = .ok (.athrow, 1)
noncomputable def rx_oN (M : rx_Md) (sites : List Nat) (L : List rx_T) : List rx_T := L.filter (fun T => !rx_isin sites T.2.2.2.1)
noncomputable def rx_oX (sites : List Nat) (L : List rx_T) : List rx_T := L.filter (fun T => rx_isin sites T.2.2.2.1)
/-- a method that answers, or throws a new exception at one of its sites -/
theorem rx_thr2 {l : Launch} (hl : l.stackTraces = false) {b : (Nat → Option Nat) × List Int} (hb2 : b.2 = []) {D : va_G} {sz0 d : Nat} (hd5 : 8 ≤ d) {KT : List rx_KE} (hKT : ∀ K ∈ KT, rx_OK K) {M : rx_Md} (hM : rx_okM M) (hT : rx_Tok rx_MT M.2.1 M.1.cls M.1.name M) (hcls : M.1.cls = RX9) (hmc : M.2.2.2.2.2.2.1 = 1) (hms : M.2.2.2.2.2.2.2.1 = 6) {sites : List Nat} (hsites : ∀ q ∈ sites, rx_site M.2.1 q) {fuel : Nat}
    {as : List rx_V} {sy : rx_Y} {h : List rx_C} {L : List rx_T} (has : rx_cats as ≤ M.2.2.1) (hgo : rx_go rx_NW (rx_fcall rx_NW rx_MT (rx_ext rx_MT KT) fuel d) M sites fuel sy h (0, 0) 0 (rx_args 0 as) [] = some L) (hall : L.all (fun T => Nat.beq T.2.2.1.1 0 && (Nat.beq T.2.2.1.2 0 && (!rx_isin sites T.2.2.2.1 || T.2.2.2.2.2.isEmpty))) = true) :
    ∀ (g : List Int) (tys : List (ClassId × FieldType)) (ws : va_W) (vs : List Value) (sz : Nat), rx_g sy g → rx_h b g tys h ws → rx_vs b (ws.map Prod.fst) g as vs →
      vx_Met l M.1 (rx_ws M) (rx_rm d M) (va_Pc vs (rx_Bg D (rx_Zz b sz0) sz0 tys ws sz)) (rx_Qc b D g tys ws sz L) (rx_Xc b D g tys ws sz L) 1 6 (va_A ws sz) := by
  intro g tys ws vs sz hG hH hvs
  refine vx_ofW (cc := M.2.1) (maxL := M.2.2.1) (ret := M.2.2.2.1) hM.2.2.2.2.1 rfl ?_
  intro p e s m args below meth c s₁ B hml hnx hv
  obtain ⟨rfl, hsz, hP, hK, hD0, hsz0, hpr, hZs⟩ := hv
  subst hsz
  have hts : ∀ w ∈ rx_Gd, w.before vs.toArray s = true := fun w hw => atoms_spec (ws := rx_ws M) B.pre w (List.mem_cons_of_mem _ hw)
  have C : rx_Cx p s m vs.toArray c M.2.1 M.1.cls M.2.2.1 := ⟨B.exec, B.bytes, hml, findClass_of_methodNamed B.named, hts, hpr⟩
  have hmn : meth.name = M.1.name := (name_of_methodNamed B.named B.method).1
  have hlv := lv_entry vs (n := M.2.2.1) (by rw [rx_cats_len hvs]; exact has)
  rw [lg_entry_eq]
  generalize (lg_sl vs ++ List.replicate (M.2.2.1 - (lg_sl vs).length) Slot.unset).toArray = ls at hlv ⊢
  have hA : ∀ q, s.heap.size ≤ q → va_A ws s.heap.size q := fun q h => Or.inr h
  have hA0 : ∀ q, va_A ws s.heap.size q → sz0 ≤ q := by
    intro q hq
    rcases hq with ⟨k, e', hk⟩ | hq
    · exact hD0.2 k _ hk
    · exact Nat.le_trans hsz0 hq
  have hcall : rx_Hc l b D (rx_Zz b sz0) sz0 rx_MT (headSpec (rx_ws M) (rx_rm d M)).room (rx_fcall rx_NW rx_MT (rx_ext rx_MT KT) fuel d) := by
    intro mi' as' sy' h' r' hr'
    obtain ⟨d', hd', M', h1, h2, h3, h4⟩ := rx_fcall_ok rx_clok rx_mtok (rx_Zz_ok b sz0) (rx_ext_ok (Zb := fun b => rx_Zz b sz0) (rx_ZC_ok sz0).1 hb2 (fun K hk => hKT K hk l D sz0 _ (rx_ZC_ok sz0))) d mi' as' sy' h' r' hr'
    exact ⟨M', d', h1, h2, h3, ⟨(by show d' + 2 ≤ d + 1; omega), (by show 100 * (d' + 2) ≤ 100 * (d + 1); omega)⟩, h4⟩
  have hR : (headSpec (rx_ws M) (rx_rm d M)).room.cells = M.2.2.2.2.2.2.1 ∧ (headSpec (rx_ws M) (rx_rm d M)).room.slots = M.2.2.2.2.2.2.2.1 ∧ 1 ≤ (headSpec (rx_ws M) (rx_rm d M)).room.frames ∧ 60 ≤ (headSpec (rx_ws M) (rx_rm d M)).room.locals := ⟨rfl, rfl, Nat.succ_le_succ (Nat.zero_le d), by show 60 ≤ 100 * (d + 1); omega⟩
  have key := rx_go_ok (p := p) (e := e) (below := below) (A := va_A ws s.heap.size) (g0 := g) (a0 := ws.map Prod.fst) (t0 := tys) (Q := vx_MQ below (rx_Qc b D g tys ws s.heap.size L) (rx_Xc b D g tys ws s.heap.size L) vs.toArray s 1 6 (va_A ws s.heap.size)) C rx_clok hT hmn hR rfl (rx_Zz_ok b sz0) hZs hsz0 hA hA0 hcall fuel sy h (0, 0) 0 (rx_args 0 as) [] L hgo
  refine key.2 (fun T hTo => ?_) s.heap [] ls [] ⟨g, tys, ws, lv_args 0 vs, ⟨rx_le.rf, rx_le.rf, fun _ q => q⟩, hG, hH, hK, hP, hD0.self, va_S.rf, rx_args_ok 0 hvs, hlv, trivial⟩
  have h1 := List.all_eq_true.mp hall T hTo
  simp only [Bool.and_eq_true] at h1
  obtain ⟨t2, t3, t4⟩ := h1
  cases hin : rx_isin sites T.2.2.2.1 with
  | false =>
    have hend : rx_ends M T = true := by
      rcases key.1 T hTo with q | q
      · rw [hin] at q; cases q
      · exact q
    intro H locs ls' st hat
    exact vx_ret (rx_ret_go (outs := L) (mc := 1) (ms := 6) C hT B.returns B.notSynchronized hend (by rw [Nat.eq_of_beq_eq_true t2]; omega) (by rw [Nat.eq_of_beq_eq_true t3]; omega) hTo H locs ls' st hat)
  | true =>
    rw [hin] at t4
    have t4 : T.2.2.2.2.2.isEmpty = true := t4
    obtain ⟨d0, d3, d4, d7⟩ := hsites _ (rx_isin_ok.mp hin)
    intro H locs ls' st hat
    obtain ⟨g', tys', ws', lv', hE', hG', hH', hK', hP', hD', hS', hl', hv', hst'⟩ := hat
    rw [Nat.eq_of_beq_eq_true t2, Nat.eq_of_beq_eq_true t3]
    have e9 := List.isEmpty_iff.mp t4
    rw [e9] at hst'
    have hown : s.vm.findClass RX9 = some m.cls := by rw [← hcls]; exact C.2.2.2.1
    have hZU : ∀ {n dd : String}, vx_Zq Bundle.tN n dd (fun q => sz0 ≤ q) s s.heap → vx_Zq Bundle.tN n dd (va_A ws s.heap.size) s s.heap := fun hz => hz.narrow hA0
    cases st with
    | cons v w => exact hst'.elim
    | nil =>
      refine vx_throw0 (A := va_A ws s.heap.size) (own := RX9) (cls := "java/util/NoSuchElementException") (names := ["java/lang/RuntimeException", "java/lang/Exception"]) (ik := 150) (ic := 152) B.exec B.bytes hl hown (by decide +kernel) (by decide +kernel) (hts _ rx_xa_cl) (hts _ rx_xa_in)
        (vx_hat (B := rx_Xd) (fun w hw => hts w (List.mem_filter.mpr ⟨rx_xa_good w hw, (List.mem_filter.mp hw).2⟩)) rx_xa_bad (fun w hw => (hZs.2.2.2 w hw).use (rx_Xd_tab w hw))) rx_xa_ot (hZU hZs.2.1) (hZU hZs.2.2.1) hS' (by rw [hv'.1, hml]) d0 d3 d4 d7 (fun x hx => (hnx x hx).elim) ?_ ?_ ?_ ?_ B.notSynchronized ?_ hS'.2.2 (Nat.le_refl _) (Nat.le_refl _)
      · show 2 + 3 < d + 1
        omega
      · show 0 + (13 * (2 + 1) + 42) ≤ 100 * (d + 1)
        omega
      · rw [hR.1, hmc]
        exact Nat.le_refl _
      · rw [hR.2.1, hms]
        exact Nat.le_refl _
      · intro t ht1 ht2 ht3
        refine ⟨rfl, ⟨T, hTo, g', tys', ws', hE', hG', hH', va_K.moved ht1 hK', hP'.kept (fun k q hk => ht3 _ (vx_lt hP' hk)), hD'⟩, Nat.le_trans hS'.1 ht2, fun q q1 q2 => ?_⟩
        rw [ht3 q (Nat.lt_of_lt_of_le q1 hS'.1)]
        exact hS'.2.1 q q1 q2
end RXT
/-! ===== the law's own key and man: they catch ===== -/
section RXK
variable {p : Program} {l : Launch} {e : Env} {R : Room} {s : State} {m : MethodId} {args : Array Value} {below : List Frame} {meth : Method} {c : Code} {b : (Nat → Option Nat) × List Int} {D : va_G} {A : Nat → Prop} {Q : State → Prop}
/-- a call that answers or throws, by its contract -/
theorem rx_callX {H : Heap} {locs : List Loc} {cells slots mc ms pc : Nat} {ls : Array Slot} {st0 rest : List Value} {outs outsX : List rx_T} {av : Array Value} {g : List Int} {tys : List (ClassId × FieldType)} {ws : va_W} (hr : vx_Run p l e R s m args below meth c H locs cells slots mc ms (F0 m pc ls st0) rest (rx_Qc b D g tys ws H.size outs av) (rx_Xc b D g tys ws H.size outsX) (va_A ws H.size)) (hS : va_S A s.heap H locs) (hF : ∀ q, va_A ws H.size q → A q)
    (kn : ∀ o ∈ outs, ∀ (g' : List Int) (tys' : List (ClassId × FieldType)) (ws' : va_W) (v : Option Value) (H1 : Heap) (locs1 : List Loc), (rx_le g g' ∧ rx_le (ws.map Prod.fst) (ws'.map Prod.fst) ∧ ∀ q ∈ tys, q ∈ tys') → rx_g o.1 g' → rx_h b g' tys' o.2.1 ws' → rx_vs b (ws'.map Prod.fst) g' o.2.2.2.2.2 v.toList → va_K D vwCl tys' s → va_P D vwCl ws' H1 → va_D A ws' → va_S A s.heap H1 locs1 →
      W p l e R s m args below meth c H1 locs1 (cells + mc) (slots + ms) Q (F0 m (pc + 3) ls (v.toList ++ rest)))
    (kk : ∀ o ∈ outsX, ∀ (g' : List Int) (tys' : List (ClassId × FieldType)) (ws' : va_W) (q9 : Addr) (ce : Cell) (H1 : Heap) (locs1 : List Loc), (rx_le g g' ∧ rx_le (ws.map Prod.fst) (ws'.map Prod.fst) ∧ ∀ q ∈ tys, q ∈ tys') → rx_g o.1 g' → rx_h b g' tys' o.2.1 ws' → va_K D vwCl tys' s → va_P D vwCl ws' H1 → va_D A ws' → va_S A s.heap H1 locs1 → H1[q9]? = some ce → ce.vm = .none → s.vm.findClass "java/util/NoSuchElementException" = some ce.cls →
      vx_W p l e R s m args below meth c H1 locs1 (cells + mc) (slots + ms) Q (F0 m pc ls rest) q9) : W p l e R s m args below meth c H locs cells slots Q (F0 m pc ls st0) := by
  intro T hT X
  rcases hr T hT X with ⟨v, st₀, t, T', L, h0, X', hL, e1, e2, ⟨⟨o, ho, g', tys', ws', v', hv, hx1, hx2, hx3, hx4, hx5, hx6, hx7⟩, hz, hk⟩, st⟩ | ⟨q, st₀, t, T', L, E, ce, h0, X', hL, e1, e2, ⟨rfl, ⟨o, ho, g', tys', ws', hx1, hx2, hx3, hx5, hx6, hx7⟩, hz, hk⟩, hce, hcv, hcl, st⟩
  · cases hv
    rw [h0] at hz hk
    have hvm : s.vm.Alike t.vm := by rw [← e2]; exact X'.warmed.alike
    obtain ⟨t2, a1, b1⟩ := kn o ho g' tys' ws' v T'.heap (locs ++ L) hx1 hx2 hx3 hx4 (va_K.moved hvm.symm hx5) (by rw [e1]; exact hx6) (hx7.weaken (fun _ q _ h => hF q.1 h))
      ⟨Nat.le_trans hS.1 (by rw [e1]; exact hz), fun q h1 h2 => by rw [e1, hk q (Nat.lt_of_lt_of_le h1 hS.1) (fun z => h2 (hF q z))]; exact hS.2.1 q h1 h2, fun q hq => by
        rcases List.mem_append.mp hq with h | h
        · exact hS.2.2 q h
        · exact hF _ (hL q h)⟩ T' rfl X'
    exact ⟨t2, st t2 a1, b1⟩
  · rw [h0] at hz hk
    have hvm : s.vm.Alike t.vm := by rw [← e2]; exact X'.warmed.alike
    obtain ⟨t2, a1, b1⟩ := kk o ho g' tys' ws' q ce T'.heap (locs ++ L) hx1 hx2 hx3 (va_K.moved hvm.symm hx5) (by rw [e1]; exact hx6) (hx7.weaken (fun _ q _ h => hF q.1 h))
      ⟨Nat.le_trans hS.1 (by rw [e1]; exact hz), fun q h1 h2 => by rw [e1, hk q (Nat.lt_of_lt_of_le h1 hS.1) (fun z => h2 (hF q z))]; exact hS.2.1 q h1 h2, fun q hq => by
        rcases List.mem_append.mp hq with h | h
        · exact hS.2.2 q h
        · exact hF _ (hL q h)⟩ (by rw [e1]; exact hce) hcv hcl T' rfl X'
    exact ⟨t2, st.trans a1, b1⟩
def rx_hh : List (Nat × Nat × Nat × Nat) := [(0, 10, 13, 13)]
def rx_wsH (M : rx_Md) : List Cond := Cond.codeWith M.1 M.2.1 M.2.2.1 M.2.2.2.1 rx_hh :: rx_Gd
def rx_kout (outs : List rx_T) : List rx_T := outs.map (fun o => (o.1, o.2.1, (1, 6), 16, [], [.inl (0, 1)]))
/-- the law's own method over the class's: what it comes back with -/
theorem rx_catch2 {sz0 d fuel : Nat} {KT : List rx_KE} (hKT : ∀ K ∈ KT, rx_OK K) (hb2 : b.2 = []) {ML MX : rx_Md} {sy : rx_Y} {h : List rx_C} {outs fin : List rx_T} {r0 r1 idx : Nat} {q1 q2 : rx_I} {lc : rx_L} {fs : List rx_V} (hMX : rx_okM MX) (hcX : MX.1.cls = RX9) (hmc : MX.2.2.2.2.2.2.1 = 1) (hms : MX.2.2.2.2.2.2.2.1 = 6) (hnX : (parseMethodDescriptor MX.1.desc).map (fun d => d.parameters.length) = some 2) (hsX : Cond.instanceMethod MX.1 ∈ rx_Gd ∧ Cond.selects MX.1.cls MX.1 MX.1 ∈ rx_Gd)
    (hX : ∀ (g : List Int) (tys : List (ClassId × FieldType)) (ws : va_W) (vs : List Value) (sz : Nat), rx_g sy g → rx_h b g tys h ws → rx_vs b (ws.map Prod.fst) g [.inr (.inr (.inl (some r0))), .inl q1, .inl q2] vs →
      vx_Met l MX.1 (rx_ws MX) (rx_rm d MX) (va_Pc vs (rx_Bg D (rx_Zz b sz0) sz0 tys ws sz)) (rx_Qc b D g tys ws sz outs) (rx_Xc b D g tys ws sz outs) 1 6 (va_A ws sz))
    (hTL : rx_Tok rx_MT ML.2.1 ML.1.cls ML.1.name ML) (hcL : ML.1.cls = RL) (hrL : ML.2.2.2.1 = some .int) (hnL : ML.2.2.1 = 5) (hmL : ML.2.2.2.2.2.2.1 = 1 ∧ ML.2.2.2.2.2.2.2.1 = 6) (hlk : Cond.methodLink RL idx MX.1 ∈ rx_Gd) (hck : Cond.classLink RL 13 "java/util/NoSuchElementException" ∈ rx_Gd)
    (c5 : decode ML.2.1 5 = .ok (.invokevirtual idx, 3)) (c13 : decode ML.2.1 13 = .ok (.astore 4, 2)) (c15 : decode ML.2.1 15 = .ok (.iconst 1, 1)) (c16 : decode ML.2.1 16 = .ok (.ireturn, 1))
    (hgo : rx_go rx_NW (rx_fcall rx_NW rx_MT (rx_ext rx_MT KT) fuel (d + 1)) ML [5] fuel sy h (0, 0) 0 (rx_args 0 [.inr (.inr (.inl (some r0))), .inl q1, .inl q2, .inr (.inr (.inl (some r1)))]) [] = some [(sy, h, (0, 0), 5, lc, [.inl q2, .inl q1, .inr (.inr (.inl (some r0))), .inl (0, 0), .inr (.inr (.inl (some r1)))])]) (hr0 : h[r0]? = some (.inl (9, fs)))
    (hgo2 : ∀ o ∈ outs, ∃ Lo, rx_go rx_NW (rx_fcall rx_NW rx_MT (rx_ext rx_MT KT) fuel (d + 1)) ML [] fuel o.1 o.2.1 (1, 6) 8 lc (o.2.2.2.2.2 ++ [.inl (0, 0), .inr (.inr (.inl (some r1)))]) = some Lo ∧ ∀ T ∈ Lo, T ∈ fin ∧ T.2.2.1.1 ≤ 1 ∧ T.2.2.1.2 ≤ 6) (hfin : ∀ T ∈ rx_kout outs, T ∈ fin) :
    ∀ (g : List Int) (tys : List (ClassId × FieldType)) (ws : va_W) (vs : List Value) (sz : Nat), rx_g sy g → rx_h b g tys h ws → rx_vs b (ws.map Prod.fst) g [.inr (.inr (.inl (some r0))), .inl q1, .inl q2, .inr (.inr (.inl (some r1)))] vs →
      vx_Met l ML.1 (rx_wsH ML) (rx_rm (d + 1) ML) (va_Pc vs (rx_Bg D (rx_Zz b sz0) sz0 tys ws sz)) (rx_Qc b D g tys ws sz fin) (fun _ _ _ => False) 1 6 (va_A ws sz) := by
  intro g tys ws vs sz hG hH hvs
  refine vx_ofWH (cc := ML.2.1) (maxL := ML.2.2.1) (ret := ML.2.2.2.1) (hh := rx_hh) (by rw [hcL]; decide +kernel) rfl ?_
  intro p e s m args below meth c s₁ B hml hv
  obtain ⟨rfl, hsz, hP, hK, hD0, hsz0, hpr, hZs⟩ := hv
  subst hsz
  have hts0 : ∀ w ∈ rx_wsH ML, w.before vs.toArray s = true := atoms_spec (ws := rx_wsH ML) B.pre
  have hts : ∀ w ∈ rx_Gd, w.before vs.toArray s = true := fun w hw => hts0 w (List.mem_cons_of_mem _ hw)
  have htab : c.exceptionTable.toList = tableOf rx_hh := vx_table (x := ML.1) B (hts0 _ List.mem_cons_self)
  have C : rx_Cx p s m vs.toArray c ML.2.1 ML.1.cls ML.2.2.1 := ⟨B.exec, B.bytes, hml, findClass_of_methodNamed B.named, hts, hpr⟩
  have hmn : meth.name = ML.1.name := (name_of_methodNamed B.named B.method).1
  have hlv := lv_entry vs (n := ML.2.2.1) (by rw [rx_cats_len hvs, hnL]; exact Nat.le_of_ble_eq_true rfl)
  rw [lg_entry_eq]
  generalize (lg_sl vs ++ List.replicate (ML.2.2.1 - (lg_sl vs).length) Slot.unset).toArray = ls at hlv ⊢
  have hA : ∀ q, s.heap.size ≤ q → va_A ws s.heap.size q := fun q h => Or.inr h
  have hA0 : ∀ q, va_A ws s.heap.size q → sz0 ≤ q := by
    intro q hq
    rcases hq with ⟨k, e', hk⟩ | hq
    · exact hD0.2 k _ hk
    · exact Nat.le_trans hsz0 hq
  have hcall : rx_Hc l b D (rx_Zz b sz0) sz0 rx_MT (headSpec (rx_wsH ML) (rx_rm (d + 1) ML)).room (rx_fcall rx_NW rx_MT (rx_ext rx_MT KT) fuel (d + 1)) := by
    intro mi' as' sy' h' r' hr'
    obtain ⟨d', hd', M', h1, h2, h3, h4⟩ := rx_fcall_ok rx_clok rx_mtok (rx_Zz_ok b sz0) (rx_ext_ok (Zb := fun b => rx_Zz b sz0) (rx_ZC_ok sz0).1 hb2 (fun K hk => hKT K hk l D sz0 _ (rx_ZC_ok sz0))) (d + 1) mi' as' sy' h' r' hr'
    exact ⟨M', d', h1, h2, h3, ⟨(by show d' + 2 ≤ d + 1 + 1; omega), (by show 100 * (d' + 2) ≤ 100 * (d + 1 + 1); omega)⟩, h4⟩
  have hR : (headSpec (rx_wsH ML) (rx_rm (d + 1) ML)).room.cells = ML.2.2.2.2.2.2.1 ∧ (headSpec (rx_wsH ML) (rx_rm (d + 1) ML)).room.slots = ML.2.2.2.2.2.2.2.1 ∧ 1 ≤ (headSpec (rx_wsH ML) (rx_rm (d + 1) ML)).room.frames ∧ 60 ≤ (headSpec (rx_wsH ML) (rx_rm (d + 1) ML)).room.locals := ⟨rfl, rfl, Nat.succ_le_succ (Nat.zero_le _), by show 60 ≤ 100 * (d + 1 + 1); omega⟩
  have key := rx_go_ok (p := p) (e := e) (below := below) (A := va_A ws s.heap.size) (g0 := g) (a0 := ws.map Prod.fst) (t0 := tys) (Q := vx_MQ below (rx_Qc b D g tys ws s.heap.size fin) (fun _ _ _ => False) vs.toArray s 1 6 (va_A ws s.heap.size)) C rx_clok hTL hmn hR rfl (rx_Zz_ok b sz0) hZs hsz0 hA hA0 hcall fuel sy h (0, 0) 0 _ [] _ hgo
  refine key.2 (fun T hTo => ?_) s.heap [] ls [] ⟨g, tys, ws, lv_args 0 vs, ⟨rx_le.rf, rx_le.rf, fun _ q => q⟩, hG, hH, hK, hP, hD0.self, va_S.rf, rx_args_ok 0 hvs, hlv, trivial⟩
  cases List.mem_singleton.mp hTo
  intro H locs ls' st hat
  obtain ⟨g', tys', ws', lv', hE', hG', hH', hK', hP', hD', hS', hl', hv', hst'⟩ := hat
  dsimp only at hG' hH' hst' hl' ⊢
  obtain ⟨v2, w2, rfl, hw2, hst2⟩ := rx_vs_cons hst'
  obtain ⟨v1, w1, rfl, hw1, hst1⟩ := rx_vs_cons hst2
  obtain ⟨v0, w0, rfl, hw0, hst0⟩ := rx_vs_cons hst1
  obtain ⟨a0, ha0, rfl⟩ := id hw0
  have hmet := hX g' tys' ws' [.ref a0, v1, v2] H.size hG' hH' ⟨hw0, hw1, hw2, trivial⟩
  obtain ⟨vs1, hws1, -⟩ := hH'.obj (by decide) hr0 ha0
  have hown : s.vm.findClass RL = some m.cls := by rw [← hcL]; exact C.2.2.2.1
  have hrecv := va_recv (q0 := r0) (q := (RX9, TX9, _)) hK' hP' rfl hws1
  have cb := rx_cb (R := (headSpec (rx_wsH ML) (rx_rm (d + 1) ML)).room) (d := d) hts hMX hlk hnX ⟨Nat.le_refl _, Nat.le_refl _⟩
  rw [hmc, hms] at cb
  have hroom := lv_room (m := m) (pc := 5) (ls := ls') (rest := v2 :: v1 :: .ref a0 :: w0) (st := w0) (by rw [rx_cats_ok hst0]; exact Nat.le_of_ble_eq_true rfl)
  have S : CallFix p m c ML.2.1 ML.2.2.1 s vs.toArray rx_Gd RL := ⟨B.exec, B.bytes, hml, hown, hts⟩
  have hrun := vx_runV (cells := 0) (slots := 0) (locs := locs) (below := below) (meth := meth) (e := e) (g := F0 m 5 ls' (v2 :: v1 :: .ref a0 :: w0)) (C := RX9) (b := a0) (As := [v1, v2]) (rest := w0) S hmet ⟨cb, hts _ hsX.1, by have := hts _ hsX.2; rw [hcX] at this; exact this⟩ ⟨rx_blind (rx_Zz_ok b sz0), hrecv, fun U hU hW => rx_pre (rx_Zz_ok b sz0) hZs hsz0 hA0 hpr hK' hP' hD' hS' U hU hW⟩ rfl rfl hv'.1 rfl hroom c5 ⟨by rw [hR.1, hmL.1]; exact Nat.le_refl _, by rw [hR.2.1, hmL.2]; exact Nat.le_refl _⟩
  have hF : ∀ q, va_A ws' H.size q → va_A ws s.heap.size q := by
    intro q hq
    rcases hq with ⟨k, e', hk⟩ | hq
    · exact hD'.2 k _ hk
    · exact hA q (Nat.le_trans hS'.1 hq)
  refine rx_callX hrun hS' hF ?_ ?_
  · intro o ho g2 tys2 ws2 v H1 locs1 le2 hg2 hh2 hvs2 hK2 hP2 hD2 hS2
    obtain ⟨Lo, hLo, hfo⟩ := hgo2 o ho
    have key2 := rx_go_ok (p := p) (e := e) (below := below) (A := va_A ws s.heap.size) (g0 := g2) (a0 := ws2.map Prod.fst) (t0 := tys2) (Q := vx_MQ below (rx_Qc b D g tys ws s.heap.size fin) (fun _ _ _ => False) vs.toArray s 1 6 (va_A ws s.heap.size)) C rx_clok hTL hmn hR rfl (rx_Zz_ok b sz0) hZs hsz0 hA hA0 hcall fuel _ _ _ _ _ _ Lo hLo
    refine key2.2 (fun T hT => ?_) H1 locs1 ls' (v.toList ++ w0) ⟨g2, tys2, ws2, lv', ⟨rx_le.rf, rx_le.rf, fun _ q => q⟩, hg2, hh2, hK2, hP2, hD2, hS2, hl'.mono le2.2.1 le2.1, hv', rx_vs.app (hst0.mono le2.2.1 le2.1) hvs2⟩
    have hend : rx_ends ML T = true := by
      rcases key2.1 T hT with q | q
      · cases q
      · exact q
    obtain ⟨f1, f2, f3⟩ := hfo T hT
    intro H3 locs3 ls3 st3 hat3
    have h9 := rx_ret_go (p := p) (l := l) (e := e) (R := (headSpec (rx_wsH ML) (rx_rm (d + 1) ML)).room) (below := below) (b := b) (D := D) (outs := fin) (mc := 1) (ms := 6) (g0 := g) (t0 := tys) (ws0 := ws) C hTL B.returns B.notSynchronized hend f2 f3 f1 H3 locs3 ls3 st3
    refine vx_ret (h9 ?_)
    obtain ⟨g3, tys3, ws3, lv3, hE3, hr3⟩ := hat3
    exact ⟨g3, tys3, ws3, lv3, ⟨hE'.1.tr (le2.1.tr hE3.1), hE'.2.1.tr (le2.2.1.tr hE3.2.1), fun q hq => hE3.2.2 q (le2.2.2 q (hE'.2.2 q hq))⟩, hr3⟩
  · intro o ho g2 tys2 ws2 q9 ce H1 locs1 le2 hg2 hh2 hK2 hP2 hD2 hS2 hce hcv hcl9
    refine vx_catch (own := RL) (name := "java/util/NoSuchElementException") (E := "java/util/NoSuchElementException") hown [] ((tableOf rx_hh).head (by decide)) [] (by rw [htab]; rfl) (fun z hz => by cases hz) (by decide) (by decide) (hts _ hck) ((hZs.2.2.2 _ (by decide)).use rfl) hce hcv hcl9 ?_
    refine lv_astore B.exec B.bytes c13 hv' (by rw [hnL]; decide) rfl fun ls2 hls2 => ?_
    refine lv_iconst B.exec B.bytes c15 (show Int32.ofInt 1 = 1 from rfl) ?_
    refine vx_ret (W.iret B.exec B.bytes (B.returns.trans hrL) (fun t ht hW => ?_) hS2.2.2 c16 B.notSynchronized)
    refine ⟨⟨(o.1, o.2.1, (1, 6), 16, [], [.inl (0, 1)]), hfin _ (List.mem_map.mpr ⟨o, ho, rfl⟩), g2, tys2, ws2, some (.int 1), rfl, ⟨hE'.1.tr le2.1, hE'.2.1.tr le2.2.1, fun q hq => le2.2.2 q (hE'.2.2 q hq)⟩, hg2, hh2, ⟨⟨1, rfl, rfl⟩, trivial⟩, va_K.moved hW.alike hK2, by rw [ht]; exact hP2, hD2⟩, hS2.F ht⟩
end RXK
