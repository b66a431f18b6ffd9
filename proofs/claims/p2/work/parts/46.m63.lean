/-! ===== a contract by hand, over several tables of contracts ===== -/
theorem rx_okA {K : rx_KE} {M0 : rx_Md} {fl : List Nat} (hM : rx_MT[K.1.1]? = some M0) (hcats : Nat.ble (rx_cats K.2.2.1.2.2) M0.2.2.1 = true)
    (HH : ∀ GG : rx_T → List Int → Prop, (∀ KT : List rx_KE, (∀ K ∈ KT, rx_OK K) → rx_Rl KT K.1.2 (rx_flag fl M0) K.2.2.1.2.1.length K.2.2.1.1.1.length K.2.2.2 GG) → ∀ g, rx_g K.2.2.1.1 g → GG (rx_ent K ([], 0)).1 g) : rx_OK K := by
  intro l D sz0 Zb hZC
  obtain ⟨hok, htab0⟩ := rx_mtok _ M0 hM
  refine ⟨M0, hM, hok, fun b hb2 => ?_⟩
  have htab : rx_Tok rx_MT M0.2.1 M0.1.cls M0.1.name (rx_flag fl M0) := rx_flag_tok fl htab0
  obtain ⟨f1, f2, f3, f4, f5, f6⟩ := rx_flag_eq fl M0
  generalize rx_flag fl M0 = M at HH htab f1 f2 f3 f4 f5 f6
  intro g tys ws vs sz hG hH hvs
  refine Met.ofW (cc := M0.2.1) (maxL := M0.2.2.1) (ret := M0.2.2.2.1) hok.2.2.2.2.1 rfl ?_
  intro p e s m args below meth c s₁ B hml hv
  obtain ⟨rfl, hsz, hP, hK, hD0, hsz0, hpr, hZs⟩ := hv
  subst hsz
  have hts : ∀ w ∈ rx_Gd, w.before vs.toArray s = true := fun w hw => atoms_spec (ws := rx_ws M0) B.pre w (List.mem_cons_of_mem _ hw)
  have C : rx_Cx p s m vs.toArray c M0.2.1 M0.1.cls M0.2.2.1 := ⟨B.exec, B.bytes, hml, findClass_of_methodNamed B.named, hts, hpr⟩
  have hmn : meth.name = M0.1.name := (name_of_methodNamed B.named B.method).1
  have hl := lv_entry vs (n := M0.2.2.1) (by rw [rx_cats_len hvs]; exact Nat.le_of_ble_eq_true hcats)
  rw [lg_entry_eq]
  generalize (lg_sl vs ++ List.replicate (M0.2.2.1 - (lg_sl vs).length) Slot.unset).toArray = ls at hl ⊢
  have hA : ∀ q, s.heap.size ≤ q → va_A ws s.heap.size q := fun q h => Or.inr h
  have hA0 : ∀ q, va_A ws s.heap.size q → sz0 ≤ q := by
    intro q hq
    rcases hq with ⟨k, e', hk⟩ | hq
    · exact hD0.2 k _ hk
    · exact Nat.le_trans hsz0 hq
  have hcall : ∀ (KT : List rx_KE) (_ : ∀ K ∈ KT, rx_OK K) (fuel : Nat), rx_Hc l b D (Zb b) sz0 rx_MT (headSpec (rx_ws M0) (rx_rm K.1.2 M0)).room (rx_fcall rx_NW rx_MT (rx_ext rx_MT KT) fuel K.1.2) := by
    intro KT hKT fuel mi' as' sy' h' r' hr'
    obtain ⟨d', hd', M', h1, h2, h3, h4⟩ := rx_fcall_ok rx_clok rx_mtok (hZC.2 b) (rx_ext_ok hZC.1 hb2 (fun K hk => hKT K hk l D sz0 Zb hZC)) K.1.2 mi' as' sy' h' r' hr'
    exact ⟨M', d', h1, h2, h3, ⟨(by show d' + 2 ≤ K.1.2 + 1; omega), (by show 100 * (d' + 2) ≤ 100 * (K.1.2 + 1); omega)⟩, h4⟩
  have hR : (headSpec (rx_ws M0) (rx_rm K.1.2 M0)).room.cells = M.2.2.2.2.2.2.1 ∧ (headSpec (rx_ws M0) (rx_rm K.1.2 M0)).room.slots = M.2.2.2.2.2.2.2.1 ∧ 1 ≤ (headSpec (rx_ws M0) (rx_rm K.1.2 M0)).room.frames ∧ 60 ≤ (headSpec (rx_ws M0) (rx_rm K.1.2 M0)).room.locals := ⟨f5.symm, f6.symm, Nat.succ_le_succ (Nat.zero_le _), by show 60 ≤ 100 * (K.1.2 + 1); omega⟩
  have hwl : K.2.2.1.2.1.length = ws.length := hH.1
  have hgl : K.2.2.1.1.1.length = g.length := hG.1.1.symm
  rw [hwl, hgl] at HH
  have key := HH (fun T g1 => rx_le g g1 → rx_g T.1 g1 → ∀ (a0 : List Nat) (t0 : List (ClassId × FieldType)), rx_le (ws.map Prod.fst) a0 → (∀ q ∈ tys, q ∈ t0) → rx_Go p l e (headSpec (rx_ws M0) (rx_rm K.1.2 M0)).room s m vs.toArray below meth c b D (va_A ws s.heap.size) g1 a0 t0 M0.2.2.1 (MQ below (rx_Qc b D g tys ws s.heap.size K.2.2.2) vs.toArray s M.2.2.2.2.2.2.1 M.2.2.2.2.2.2.2.1 (va_A ws s.heap.size)) T) ?_ g hG rx_le.rf hG (ws.map Prod.fst) tys rx_le.rf (fun _ q => q) s.heap [] ls [] ⟨g, tys, ws, lv_args 0 vs, ⟨rx_le.rf, rx_le.rf, fun _ q => q⟩, hG, hH, hK, hP, hD0.self, va_S.rf, rx_args_ok 0 hvs, hl, trivial⟩
  · rw [f5, f6] at key
    exact key
  · intro KT hKT
    have hcall := hcall KT hKT
    refine ⟨?_, ?_, ?_, ?_, ?_, ?_, ?_, ?_, ?_⟩
    · -- a run
      intro stops fuel T g1 L hL kk hgE hG1 a0 t0 ha ht
      have key := rx_by_ok (p := p) (e := e) (below := below) (A := va_A ws s.heap.size) (g0 := g1) (a0 := a0) (t0 := t0) (Q := MQ below (rx_Qc b D g tys ws s.heap.size K.2.2.2) vs.toArray s M.2.2.2.2.2.2.1 M.2.2.2.2.2.2.2.1 (va_A ws s.heap.size)) C rx_clok htab hmn hR f3 (hZC.2 b) hZs hsz0 hA hA0 (hcall fuel) (n := fuel) (fun sy h nn pc lc sa L h1 => rx_go_ok C rx_clok htab hmn hR f3 (hZC.2 b) hZs hsz0 hA hA0 (hcall fuel) fuel sy h nn pc lc sa L h1) _ _ _ _ _ _ L hL
      refine key.2 fun T' hT' => ?_
      intro H locs ls1 st hat
      obtain ⟨g', tys', ws', lv', hE', hG', hrest⟩ := hat
      exact kk T' hT' (key.1 T' hT') g' hE'.1 hG' (hgE.tr hE'.1) hG' (ws'.map Prod.fst) tys' (ha.tr hE'.2.1) (fun q hq => hE'.2.2 q (ht q hq)) H locs ls1 st ⟨g', tys', ws', lv', ⟨rx_le.rf, rx_le.rf, fun _ q => q⟩, hG', hrest⟩
    · -- other bounds
      intro T g1 sy' hsy kk hgE hG1 a0 t0 ha ht H locs ls1 st hat
      obtain ⟨g', tys', ws', lv', hE', hG', hrest⟩ := hat
      have e1 : g' = g1 := rx_le_eq hE'.1 (by rw [hG'.1.1, hG1.1.1])
      subst e1
      exact kk hgE hsy a0 t0 ha ht H locs ls1 st ⟨g', tys', ws', lv', hE', hsy, hrest⟩
    · -- another state's names
      intro T S m' tt g1 hpc hc1 hc2 hsub hna hn0 kk hgE hG1 a0 t0 ha ht H locs ls1 st hat
      obtain ⟨g', tys', ws', lv', hE', hG', hH', hK', hP', hD', hS', hl', hv', hst'⟩ := hat
      have e1 : g' = g1 := rx_le_eq hE'.1 (by rw [hG'.1.1, hG1.1.1])
      subst e1
      obtain ⟨g2, ws2, lv2, hTh, hG2, hH2, hP2, hD2, hl2, hv2, hst2, hA2⟩ := rx_subF_ok hb2 hsub hG' hH' hP' hD' hl' hv' hst'
      rw [hpc]
      refine W.widen hc1 hc2 (kk g2 hTh hG2 (rx_fn_le hTh hn0 hgE rfl) hG2 (ws2.map Prod.fst) tys' (fun i r hr => ?_) (fun q hq => hE'.2.2 q (ht q hq)) H locs ls1 st ⟨g2, tys', ws2, lv2, ⟨rx_le.rf, rx_le.rf, fun _ q => q⟩, hG2, hH2, hK', hP2, hD2, hS', hl2, hv2, hst2⟩)
      have hi : i < ws.length := by
        have := (List.getElem?_eq_some_iff.mp hr).1
        rw [List.length_map] at this
        exact this
      exact hA2 i r (by omega) ((ha.tr hE'.2.1) i r hr)
    · -- an end
      intro T O m' tt g1 hend hc1 hc2 hlc hsub hna hn0 kk hgE hG1 a0 t0 ha ht
      refine rx_ret_go2 C htab (B.returns.trans f4.symm) B.notSynchronized hend hc1 hc2 fun g1' tys1 ws1 v H1 hE1 hG1' hH1 hv1 hP1 hD1 => ?_
      have e1 : g1' = g1 := rx_le_eq hE1.1 (by rw [hG1'.1.1, hG1.1.1])
      subst e1
      have hl1 : rx_ls b (ws1.map Prod.fst) g1' [] [] := trivial
      have hsub2 : rx_subF m' (T.1, T.2.1, T.2.2.1, T.2.2.2.1, [], T.2.2.2.2.2) O tt = true := by
        unfold rx_subF rx_subQ at hsub ⊢
        rw [hlc] at hsub ⊢
        exact hsub
      obtain ⟨g2, ws2, lv2, hTh, hG2, hH2, hP2, hD2, -, -, hst2, hA2⟩ := rx_subF_ok (nL := M0.2.2.1) (ls := ls) hb2 hsub2 hG1' hH1 hP1 hD1 hl1 ⟨hl.1, hl.2.1, fun q hq => by cases hq⟩ hv1
      obtain ⟨sy', ho, hgo⟩ := kk g2 hTh hG2
      refine ⟨_, ho, g2, ws2, ⟨rx_fn_le hTh hn0 hgE rfl, fun i r hr => ?_, fun q hq => hE1.2.2 q (ht q hq)⟩, hgo, hH2, hst2, hP2, hD2⟩
      have hi : i < ws.length := by
        have := (List.getElem?_eq_some_iff.mp hr).1
        rw [List.length_map] at this
        exact this
      exact hA2 i r (by omega) ((ha.tr hE1.2.1) i r hr)
    · -- a remainder
      intro T g1 i y x sa hfe hin hsa kk hgE hG1 a0 t0 ha ht H locs ls1 st hat
      obtain ⟨⟨lt, hlt, hil⟩, hipc⟩ := rx_fe_ok hfe
      obtain ⟨hdc, -⟩ := htab lt hlt i hil
      obtain ⟨g', tys', ws', lv', hE', hG', hH', hK', hP', hD', hS', hl', hv', hst'⟩ := hat
      have e1 : g' = g1 := rx_le_eq hE'.1 (by rw [hG'.1.1, hG1.1.1])
      subst e1
      rw [hsa] at hst'
      obtain ⟨v1, w1, rfl, ⟨yv, rfl, hy⟩, hst1⟩ := rx_vs_cons hst'
      obtain ⟨v2, w, rfl, ⟨xv, rfl, hx⟩, hst2⟩ := rx_vs_cons hst1
      obtain ⟨hy1, kk⟩ := kk xv.toInt yv.toInt hx hy (fb_rng xv)
      obtain ⟨pc, ins, len, u, w', x', z⟩ := i
      dsimp only at hin hipc
      subst hin
      have hlen := rx_len hdc rfl
      subst hlen
      rw [← hipc]
      refine lv_irem C.1 C.2.1 hdc.1 (fun q => by rw [q] at hy1; exact absurd hy1 (by decide)) ?_
      have hr := fb_rng (xv - xv / yv * yv)
      have hG2 : rx_g (T.1.1 ++ [(-2147483648, 2147483647)], T.1.2) (g' ++ [(xv - xv / yv * yv).toInt]) := rx_g.push hG' (by dsimp only; omega) (by dsimp only; omega)
      rw [← rn_rem hy1] at kk
      have hap : rx_le g' (g' ++ [(xv - xv / yv * yv).toInt]) := rx_le.app _
      have := kk (hgE.tr hap) hG2 a0 t0 ha ht H locs ls1 (.int (xv - xv / yv * yv) :: w) ⟨_, tys', ws', lv', ⟨rx_le.rf, hE'.2.1, hE'.2.2⟩, hG2, rx_h.mono hap (fun _ q => q) hH', hK', hP', hD', hS', hl'.mono rx_le.rf hap, hv', ⟨⟨_, rfl, ⟨(xv - xv / yv * yv).toInt, by rw [← hG'.1.1]; exact rx_snocg _ _, (Int.add_zero _).symm⟩⟩, hst2.mono rx_le.rf hap⟩⟩
      rw [← hipc] at this
      exact this
    · -- one more
      intro T g1 i k n q hfe hin hq kk hgE hG1 a0 t0 ha ht H locs ls1 st hat
      obtain ⟨⟨lt, hlt, hil⟩, hipc⟩ := rx_fe_ok hfe
      obtain ⟨hdc, -⟩ := htab lt hlt i hil
      obtain ⟨g', tys', ws', lv', hE', hG', hH', hK', hP', hD', hS', hl', hv', hst'⟩ := hat
      have e1 : g' = g1 := rx_le_eq hE'.1 (by rw [hG'.1.1, hG1.1.1])
      subst e1
      obtain ⟨j, v, h1, y, rfl, h2⟩ := rx_lk_ok hl' hq
      have kk := kk y h2
      obtain ⟨pc, ins, len, u, w', x', z⟩ := i
      dsimp only at hin hipc
      subst hin
      have hlen := rx_len hdc rfl
      subst hlen
      have hk : k < M0.2.2.1 := by
        have h3 := lv_at hv' j h1
        have h4 := hv'.1
        rcases Nat.lt_or_ge k ls1.size with h5 | h5
        · omega
        · rw [Array.getElem?_eq_none h5] at h3
          cases h3
      obtain ⟨l', h3, h4⟩ := rx_f1_ok k (fun lc : rx_L => lc) hl'
      rw [h3] at kk
      rw [← hipc] at kk ⊢
      refine lv_iinc C.1 C.2.1 hdc.1 hv' h1 rfl hk rfl fun ls' hv2 => ?_
      have hap : rx_le g' (g' ++ [(y + Int32.ofInt n).toInt]) := rx_le.app _
      have hr := fb_rng (y + Int32.ofInt n)
      have hG2 : rx_g (T.1.1 ++ [(-2147483648, 2147483647)], T.1.2) (g' ++ [(y + Int32.ofInt n).toInt]) := rx_g.push hG' (by dsimp only; omega) (by dsimp only; omega)
      exact kk (hgE.tr hap) hG2 a0 t0 ha ht H locs ls' st ⟨_, tys', ws', (k, .int (y + Int32.ofInt n)) :: lv'.filter (fun q => !(q.1 == k) && !(q.1 + 1 == k && q.2.category == 2)), ⟨rx_le.rf, hE'.2.1, hE'.2.2⟩, hG2, rx_h.mono hap (fun _ q => q) hH', hK', hP', hD', hS', ⟨⟨rfl, ⟨_, rfl, ⟨(y + Int32.ofInt n).toInt, by rw [← hG'.1.1]; exact rx_snocg _ _, (Int.add_zero _).symm⟩⟩⟩, h4.mono rx_le.rf hap⟩, hv2, hst'.mono rx_le.rf hap⟩
    · -- two ints
      intro T g1 i y x sa f hfe hin hsa kk hgE hG1 a0 t0 ha ht H locs ls1 st hat
      obtain ⟨⟨lt, hlt, hil⟩, hipc⟩ := rx_fe_ok hfe
      obtain ⟨hdc, -⟩ := htab lt hlt i hil
      obtain ⟨g', tys', ws', lv', hE', hG', hH', hK', hP', hD', hS', hl', hv', hst'⟩ := hat
      have e1 : g' = g1 := rx_le_eq hE'.1 (by rw [hG'.1.1, hG1.1.1])
      subst e1
      rw [hsa] at hst'
      obtain ⟨v1, w1, rfl, ⟨yv, rfl, hy⟩, hst1⟩ := rx_vs_cons hst'
      obtain ⟨v2, w, rfl, ⟨xv, rfl, hx⟩, hst2⟩ := rx_vs_cons hst1
      have kk := kk xv yv hx hy
      have hr := fb_rng (f xv yv)
      have hG2 : rx_g (T.1.1 ++ [(-2147483648, 2147483647)], T.1.2) (g' ++ [(f xv yv).toInt]) := rx_g.push hG' (by dsimp only; omega) (by dsimp only; omega)
      have hap : rx_le g' (g' ++ [(f xv yv).toInt]) := rx_le.app _
      have fin := kk (hgE.tr hap) hG2 a0 t0 ha ht H locs ls1 (.int (f xv yv) :: w) ⟨_, tys', ws', lv', ⟨rx_le.rf, hE'.2.1, hE'.2.2⟩, hG2, rx_h.mono hap (fun _ q => q) hH', hK', hP', hD', hS', hl'.mono rx_le.rf hap, hv', ⟨⟨_, rfl, ⟨(f xv yv).toInt, by rw [← hG'.1.1]; exact rx_snocg _ _, (Int.add_zero _).symm⟩⟩, hst2.mono rx_le.rf hap⟩⟩
      obtain ⟨pc, ins, len, u, w', x', z⟩ := i
      dsimp only at hin hipc
      rw [← hipc] at fin ⊢
      rcases hin with ⟨rfl, rfl⟩ | ⟨rfl, rfl⟩
      · have hlen := rx_len hdc rfl
        subst hlen
        exact lv_ishr C.1 C.2.1 hdc.1 fin
      · have hlen := rx_len hdc rfl
        subst hlen
        exact lv_iand C.1 C.2.1 hdc.1 fin
    · -- other names on the stack
      intro T g1 sa hsa kk hgE hG1 a0 t0 ha ht H locs ls1 st hat
      obtain ⟨g', tys', ws', lv', hE', hG', hH', hK', hP', hD', hS', hl', hv', hst'⟩ := hat
      have e1 : g' = g1 := rx_le_eq hE'.1 (by rw [hG'.1.1, hG1.1.1])
      subst e1
      exact kk hgE hG1 a0 t0 ha ht H locs ls1 st ⟨g', tys', ws', lv', hE', hG', hH', hK', hP', hD', hS', hl', hv', hsa b _ st hst'⟩
    · -- a call
      intro T g1 i J M' rs hJ hd hMJ hfe hsF hT1 hT2 hc1 hc2 kk hgE hG1 a0 t0 ha ht
      obtain ⟨⟨lt, hlt, hil⟩, hipc⟩ := rx_fe_ok hfe
      obtain ⟨hdc, ⟨hoe, hoc⟩, hox, hoN⟩ := htab lt hlt i hil
      obtain ⟨M1, hM1, hok1, hCt⟩ := hJ l D sz0 Zb hZC
      rw [hMJ] at hM1
      cases hM1
      have hCt := hCt b hb2
      rw [← hT1, ← hT2] at hCt
      refine rx_call_go (T := T) (g0 := g1) C hdc hoc (hZC.2 b) hZs hsz0 hA hA0 (d := J.1.2) ⟨(by show J.1.2 + 2 ≤ K.1.2 + 1; omega), (by show 100 * (J.1.2 + 2) ≤ 100 * (K.1.2 + 1); omega)⟩ hipc.symm hsF hMJ hok1 hCt (by rw [hR.1]; exact hc1) (by rw [hR.2.1]; exact hc2) fun o ho => ?_
      intro H locs ls1 st hat
      obtain ⟨g', tys', ws', lv', hE', hG', hrest⟩ := hat
      exact kk o ho g' hE'.1 hG' (hgE.tr hE'.1) hG' (ws'.map Prod.fst) tys' (ha.tr hE'.2.1) (fun q hq => hE'.2.2 q (ht q hq)) H locs ls1 st ⟨g', tys', ws', lv', ⟨rx_le.rf, rx_le.rf, fun _ q => q⟩, hG', hrest⟩
