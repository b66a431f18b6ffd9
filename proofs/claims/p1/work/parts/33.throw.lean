/-! ===== key and man: the class throws, the law's own method catches ===== -/
section RXT
def rx_Xc (b : (Nat → Option Nat) × List Int) (D : va_G) (g0 : List Int) (t0 : List (ClassId × FieldType)) (ws0 : va_W) (sz : Nat) (outs : List rx_T) : String → State → State → Prop := fun E st t =>
  E = "java/util/NoSuchElementException" ∧ (∃ o ∈ outs, ∃ (g : List Int) (tys : List (ClassId × FieldType)) (ws : va_W), (rx_le g0 g ∧ rx_le (ws0.map Prod.fst) (ws.map Prod.fst) ∧ ∀ q ∈ t0, q ∈ tys) ∧ rx_g o.1 g ∧ rx_h b g tys o.2.1 ws ∧ va_K D vwCl tys t ∧ va_P D vwCl ws t.heap ∧ va_D (va_A ws0 sz) ws) ∧ va_F (va_A ws0 sz) st t
def rx_xa : List Cond := vx_at0 RX9 152 "java/util/NoSuchElementException" ["java/lang/RuntimeException", "java/lang/Exception"]
theorem rx_xa_good : ∀ w ∈ rx_xa.filter goodWord, w ∈ lw_tbl := by decide +kernel
theorem rx_xa_bad : ∀ w ∈ rx_xa.filter (fun w => !goodWord w), w ∈ rx_Xd := by decide +kernel
theorem rx_xa_ot : ∀ w ∈ Cond.classLink RX9 150 "java/util/NoSuchElementException" :: Cond.initialized "java/util/NoSuchElementException" :: rx_xa, vx_ot w = true := by decide +kernel
theorem rx_xa_cl : Cond.classLink RX9 150 "java/util/NoSuchElementException" ∈ rx_Gd := List.mem_filter.mpr ⟨by decide +kernel, by decide +kernel⟩
theorem rx_xa_in : Cond.initialized "java/util/NoSuchElementException" ∈ rx_Gd := List.mem_filter.mpr ⟨by decide +kernel, by decide +kernel⟩
/-- a method that throws a new exception at 12 -/
theorem rx_thr {l : Launch} (hl : l.stackTraces = false) {b : (Nat → Option Nat) × List Int} {D : va_G} {sz0 d : Nat} (hd5 : 8 ≤ d) {M : rx_Md} (hM : rx_okM M) (hT : rx_Tok rx_MT M.2.1 M.1.cls M.1.name M) (hcls : M.1.cls = RX9) (hmc : M.2.2.2.2.2.2.1 = 1) (hms : M.2.2.2.2.2.2.2.1 = 6)
    (d0 : decode M.2.1 12 = .ok (.new 150, 3)) (d3 : decode M.2.1 15 = .ok (.dup, 1)) (d4 : decode M.2.1 16 = .ok (.invokespecial 152, 3)) (d7 : decode M.2.1 19 = .ok (.athrow, 1))
    {as : List rx_V} {sy : rx_Y} {h : List rx_C} {outs : List rx_T} (has : rx_cats as ≤ M.2.2.1) (hgo : rx_go rx_NW (rx_fcall rx_NW rx_MT rx_ext 100000 d) M 12 100000 sy h (0, 0) 0 (rx_args 0 as) [] = some outs) (hall : outs.all (fun T => Nat.beq T.2.2.2.1 12 && (Nat.beq T.2.2.1.1 0 && (Nat.beq T.2.2.1.2 0 && T.2.2.2.2.2.isEmpty))) = true) :
    ∀ (g : List Int) (tys : List (ClassId × FieldType)) (ws : va_W) (vs : List Value) (sz : Nat), rx_g sy g → rx_h b g tys h ws → rx_vs b (ws.map Prod.fst) g as vs →
      vx_Met l M.1 (rx_ws M) (rx_rm d M) (va_Pc vs (rx_Bg D (rx_Zz b sz0) sz0 tys ws sz)) (fun _ _ _ _ => False) (rx_Xc b D g tys ws sz outs) 1 6 (va_A ws sz) := by
  intro g tys ws vs sz hG hH hvs
  refine vx_ofW (cc := M.2.1) (maxL := M.2.2.1) (ret := M.2.2.2.1) hM.2.2.2.2.1 rfl ?_
  intro p e s m args below meth c s₁ B hml hnx hv
  obtain ⟨rfl, hsz, hP, hK, hD0, hsz0, hpr, hZs⟩ := hv
  subst hsz
  have hts : ∀ w ∈ rx_Gd, w.before vs.toArray s = true := fun w hw => atoms_spec (ws := rx_ws M) B.pre w (List.mem_cons_of_mem _ hw)
  have C : rx_Cx p s m vs.toArray c M.2.1 M.1.cls M.2.2.1 := ⟨B.exec, B.bytes, hml, findClass_of_methodNamed B.named, hts, hpr⟩
  have hmn : meth.name = M.1.name := (name_of_methodNamed B.named B.method).1
  have hlv := lv_entry vs (n := M.2.2.1) (by rw [rx_cats_len hvs]; exact has)
  rw [lg_entry_eq]
  generalize (lg_sl vs ++ List.replicate (M.2.2.1 - (lg_sl vs).length) Slot.unset).toArray = ls at hlv ⊢
  have hA : ∀ q, s.heap.size ≤ q → va_A ws s.heap.size q := fun q h => Or.inr h
  have hA0 : ∀ q, va_A ws s.heap.size q → sz0 ≤ q := by
    intro q hq
    rcases hq with ⟨k, e', hk⟩ | hq
    · exact hD0.2 k _ hk
    · exact Nat.le_trans hsz0 hq
  have hcall : rx_Hc l b D (rx_Zz b sz0) sz0 rx_MT (headSpec (rx_ws M) (rx_rm d M)).room (rx_fcall rx_NW rx_MT rx_ext 100000 d) := by
    intro mi' as' sy' h' r' hr'
    obtain ⟨d', rfl, M', h1, h2, h3, h4⟩ := rx_fcall_ok rx_clok rx_mtok (rx_Zz_ok b sz0) (fun d mi as sy h r h => by cases h) d mi' as' sy' h' r' hr'
    exact ⟨M', d', h1, h2, h3, ⟨Nat.le_refl _, Nat.le_refl _⟩, h4⟩
  have hR : (headSpec (rx_ws M) (rx_rm d M)).room.cells = M.2.2.2.2.2.2.1 ∧ (headSpec (rx_ws M) (rx_rm d M)).room.slots = M.2.2.2.2.2.2.2.1 ∧ 1 ≤ (headSpec (rx_ws M) (rx_rm d M)).room.frames ∧ 60 ≤ (headSpec (rx_ws M) (rx_rm d M)).room.locals := ⟨rfl, rfl, Nat.succ_le_succ (Nat.zero_le d), by show 60 ≤ 100 * (d + 1); omega⟩
  have key := rx_go_ok (p := p) (e := e) (below := below) (A := va_A ws s.heap.size) (g0 := g) (a0 := ws.map Prod.fst) (t0 := tys) (Q := vx_MQ below (fun _ _ _ _ => False) (rx_Xc b D g tys ws s.heap.size outs) vs.toArray s 1 6 (va_A ws s.heap.size)) C rx_clok hT hmn hR rfl (rx_Zz_ok b sz0) hZs hsz0 hA hA0 hcall 100000 sy h (0, 0) 0 (rx_args 0 as) [] outs hgo
  refine key.2 (fun T hTo => ?_) s.heap [] ls [] ⟨g, tys, ws, lv_args 0 vs, ⟨rx_le.rf, rx_le.rf, fun _ q => q⟩, hG, hH, hK, hP, hD0.self, va_S.rf, rx_args_ok 0 hvs, hlv, trivial⟩
  have h1 := List.all_eq_true.mp hall T hTo
  simp only [Bool.and_eq_true] at h1
  obtain ⟨t1, t2, t3, t4⟩ := h1
  intro H locs ls' st hat
  obtain ⟨g', tys', ws', lv', hE', hG', hH', hK', hP', hD', hS', hl', hv', hst'⟩ := hat
  rw [Nat.eq_of_beq_eq_true t1, Nat.eq_of_beq_eq_true t2, Nat.eq_of_beq_eq_true t3]
  have e9 := List.isEmpty_iff.mp t4
  rw [e9] at hst'
  have hown : s.vm.findClass RX9 = some m.cls := by rw [← hcls]; exact C.2.2.2.1
  have hZU : ∀ {n dd : String}, vx_Zq Bundle.tN n dd (fun q => sz0 ≤ q) s s.heap → vx_Zq Bundle.tN n dd (va_A ws s.heap.size) s s.heap := fun hz => hz.narrow hA0
  cases st with
  | cons v w => exact hst'.elim
  | nil =>
    refine vx_throw0 (A := va_A ws s.heap.size) (own := RX9) (cls := "java/util/NoSuchElementException") (names := ["java/lang/RuntimeException", "java/lang/Exception"]) (ik := 150) (ic := 152) B.exec B.bytes hl hown (by decide +kernel) (by decide +kernel) (hts _ rx_xa_cl) (hts _ rx_xa_in)
      (vx_hat (B := rx_Xd) (fun w hw => hts w (List.mem_filter.mpr ⟨rx_xa_good w hw, (List.mem_filter.mp hw).2⟩)) rx_xa_bad (fun w hw => (hZs.2.2.2 w hw).use (rx_Xd_tab w hw))) rx_xa_ot (hZU hZs.2.1) (hZU hZs.2.2.1) hS' (by rw [hv'.1, hml]) d0 d3 d4 d7 (fun x hx => (hnx x hx).elim) ?_ ?_ ?_ ?_ B.notSynchronized ?_ hS'.2.2 (Nat.le_refl _) (Nat.le_refl _)
    · show 2 + 3 < d + 1
      omega
    · show 0 + (13 * (2 + 1) + 42) ≤ 100 * (d + 1)
      omega
    · rw [hR.1, hmc]
      exact Nat.le_refl _
    · rw [hR.2.1, hms]
      exact Nat.le_refl _
    · intro t ht1 ht2 ht3
      refine ⟨rfl, ⟨T, hTo, g', tys', ws', hE', hG', hH', va_K.moved ht1 hK', hP'.kept (fun k q hk => ht3 _ (vx_lt hP' hk)), hD'⟩, Nat.le_trans hS'.1 ht2, fun q q1 q2 => ?_⟩
      rw [ht3 q (Nat.lt_of_lt_of_le q1 hS'.1)]
      exact hS'.2.1 q q1 q2
end RXT
