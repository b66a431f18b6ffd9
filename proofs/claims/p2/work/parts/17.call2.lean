section RXC2
variable {p : Program} {l : Launch} {e : Env} {R : Room} {s : State} {m : MethodId} {args : Array Value} {below : List Frame} {meth : Method} {c : Code} {b : (Nat → Option Nat) × List Int} {D : va_G} {A : Nat → Prop} {g0 : List Int} {a0 : List Nat} {t0 : List (ClassId × FieldType)} {nL : Nat} {Q : State → Prop} {cc : ByteArray} {own : String}
theorem rx_callB_eq {i : rx_E} {T : rx_T} {mi : Nat} {as rs : List rx_V} (h : rx_callB i T = some (.inr (.inr (mi, as, rs)))) : i.2.2.2.2.1 ≤ T.2.2.2.2.2.length ∧ rx_cats rs ≤ 8 ∧ mi = i.2.2.2.1 ∧ as = (T.2.2.2.2.2.take i.2.2.2.2.1).reverse ∧ rs = T.2.2.2.2.2.drop i.2.2.2.2.1 := by
  unfold rx_callB at h
  split at h
  · rename_i hb
    rw [Bool.and_eq_true] at hb
    cases h
    exact ⟨Nat.le_of_ble_eq_true hb.1, Nat.le_of_ble_eq_true hb.2, rfl, rfl, rfl⟩
  · cases h
/-- a call, by the callee's contract -/
theorem rx_call_go {MT : List rx_Md} {Z : State → Heap → Prop} {sz0 d : Nat} {ret : Option FieldType} {i : rx_E} {T : rx_T} {mi : Nat} {as rs : List rx_V} {M : rx_Md} {outs : List rx_T} (C : rx_Cx p s m args c cc own nL) (hd : rx_dc cc i) (hok : rx_okC MT own i) (hZ : rx_Zp b Z sz0) (hZs : Z s s.heap) (hsz : sz0 ≤ s.heap.size) (hA : ∀ q, s.heap.size ≤ q → A q) (hA0 : ∀ q, A q → sz0 ≤ q) (hR : d + 2 ≤ R.frames ∧ 100 * (d + 2) ≤ R.locals) (hpc : T.2.2.2.1 = i.1)
    (h : rx_sF ret i T = some (.inr (.inr (mi, as, rs)))) (hMT : MT[mi]? = some M) (hM : rx_okM M) (hCt : rx_Ct l b D Z sz0 d M as T.1 T.2.1 outs) (hc1 : T.2.2.1.1 + M.2.2.2.2.2.2.1 ≤ R.cells) (hc2 : T.2.2.1.2 + M.2.2.2.2.2.2.2.1 ≤ R.slots)
    (K : ∀ o ∈ outs, rx_Go p l e R s m args below meth c b D A g0 a0 t0 nL Q (rx_back T i rs M.2.2.2.2.2.2.1 M.2.2.2.2.2.2.2.1 o)) : rx_Go p l e R s m args below meth c b D A g0 a0 t0 nL Q T := by
  obtain ⟨pc, ins, len, u, w, x, z⟩ := i
  obtain ⟨hx, hb, hml, hown, hts, hpr⟩ := C
  intro H locs ls st hat
  rw [hpc]
  obtain ⟨g, tys, ws, lv, hE, hG, hH, hK, hP, hD, hS, hl, hv, hst⟩ := hat
  -- what goes on behind the call
  have after : ∀ {rest st0 : List Value} {av : Array Value}, rx_vs b (ws.map Prod.fst) g rs rest → va_Run p l e R s m args below meth c H locs T.2.2.1.1 T.2.2.1.2 M.2.2.2.2.2.2.1 M.2.2.2.2.2.2.2.1 (F0 m pc ls st0) rest (rx_Qc b D g tys ws H.size outs av) (va_A ws H.size) → W p l e R s m args below meth c H locs T.2.2.1.1 T.2.2.1.2 Q (F0 m pc ls st0) := by
    intro rest st0 av hrest hrun
    refine rx_callW hrun hS ?_ ?_
    · intro q hq
      rcases hq with ⟨k, e', hk⟩ | hq
      · exact hD.2 k _ hk
      · exact hA q (Nat.le_trans hS.1 hq)
    · intro o ho g' tys' ws' v H1 locs1 hx1 hg' hh' hvs' hK' hP' hD' hS'
      exact K o ho H1 locs1 ls (v.toList ++ rest) ⟨g', tys', ws', lv, ⟨hE.1.tr hx1.1, hE.2.1.tr hx1.2.1, fun q hq => hx1.2.2 q (hE.2.2 q hq)⟩, hg', hh', hK', hP', hD', hS', hl.mono hx1.2.1 hx1.1, hv, rx_vs.app (hrest.mono hx1.2.1 hx1.1) hvs'⟩
  have S : CallFix p m c cc nL s args rx_Gd own := ⟨hx, hb, hml, hown, hts⟩
  unfold rx_sF at h
  dsimp only at h
  split at h
  · -- invokevirtual
    rename_i idx
    have hlen := rx_len hd rfl
    subst hlen
    split at h
    · rename_i ci
      split at h
      · rename_i w0
        split at h
        · rename_i hO
          obtain ⟨h1, h2, rfl, rfl, rfl⟩ := rx_callB_eq h
          obtain ⟨M1, r1, hM1, hr1, hcls, hkind, hw, hlk⟩ := hok.1 ci rfl
          dsimp only at hM1 hw h1 h2 hMT hCt after
          cases hM1.symm.trans hMT
          obtain ⟨ar, tr, h3, h4⟩ := rx_tkh T.2.2.2.2.2 w0 h1
          have hst2 := rx_vs.take (w0 + 1) hst
          have hvs := hst2.1.rev
          rw [h3] at hO
          unfold rx_isO at hO
          split at hO
          · rename_i r0 he
            cases he
            split at hO
            · rename_i cj fs hcj
              have e1 := Nat.eq_of_beq_eq_true hO
              subst e1
              have hmet := hCt g tys ws (st.take (w0 + 1)).reverse H.size hG hH hvs
              rw [h4] at hvs
              cases hvv : (st.take (w0 + 1)).reverse with
              | nil => rw [hvv] at hvs; exact hvs.elim
              | cons v0 As =>
                rw [hvv] at hvs hmet
                obtain ⟨⟨a1, ha1, rfl⟩, hAs⟩ := hvs
                obtain ⟨vs1, hws1, -⟩ := hH.obj (by have := rx_c9 hr1; omega) hcj ha1
                have hst3 : st = As.reverse ++ .ref a1 :: st.drop (w0 + 1) := by
                  have e2 : st.take (w0 + 1) = As.reverse ++ [.ref a1] := by
                    have := congrArg List.reverse hvv
                    rw [List.reverse_reverse, List.reverse_cons] at this
                    exact this
                  conv => lhs; rw [← List.take_append_drop (w0 + 1) st, e2]
                  rw [List.append_assoc]
                  rfl
                have hlenA : As.length = w0 := by
                  have e3 := congrArg List.length hvv
                  rw [List.length_reverse, List.length_take, List.length_cons, Nat.min_eq_left (by rw [← hst.len]; exact h1)] at e3
                  omega
                have hnp : (parseMethodDescriptor M.1.desc).map (fun d => d.parameters.length) = some w0 := by
                  rcases hM.2.2.2.2.2 with q | q | q
                  · omega
                  · have q2 := q.2.2
                    cases hpd : parseMethodDescriptor M.1.desc with
                    | none => rw [hpd] at q2; cases q2
                    | some pd =>
                      rw [hpd] at q2
                      have q3 : pd.parameters.length + 1 = M.2.2.2.2.1 := Option.some.inj q2
                      show some pd.parameters.length = some w0
                      congr 1
                      omega
                  · omega
                have hsel : Cond.instanceMethod M.1 ∈ rx_Gd ∧ Cond.selects M.1.cls M.1 M.1 ∈ rx_Gd := by
                  rcases hM.2.2.2.2.2 with q | q | q
                  · omega
                  · exact q.2.1
                  · omega
                have hrecv := va_recv (q0 := r0) hK hP hr1 hws1
                rw [hcls] at hrecv
                have hroom := lv_room (m := m) (pc := pc) (ls := ls) (rest := st) (st := st.drop (w0 + 1)) (by rw [rx_cats_ok hst2.2]; exact h2)
                rcases hlk with hlk | ⟨host, hlk⟩
                · refine after hst2.2 (va_runV (C := M.1.cls) (b := a1) (As := As) S hmet ⟨rx_cb hts hM hlk hnp hR, hts _ hsel.1, hts _ hsel.2⟩ ⟨rx_blind hZ, hrecv, fun U hU hW => rx_pre hZ hZs hsz hA0 hpr hK hP hD hS U hU hW⟩ rfl hlenA hv.1 hst3 hroom hd.1 ⟨hc1, hc2⟩)
                · refine after hst2.2 (va_runVN (C := M.1.cls) (host := host) (b := a1) (As := As) S hmet ⟨rx_cn hts hpr hM hlk hnp hR, hts _ hsel.1, hts _ hsel.2⟩ ⟨rx_blind hZ, hrecv, fun U hU hW => rx_pre hZ hZs hsz hA0 hpr hK hP hD hS U hU hW⟩ rfl hlenA hv.1 hst3 hroom hd.1 ⟨hc1, hc2⟩)
            · cases hO
          · cases hO
        · cases h
      · cases h
    · split at h
      · rename_i w0
        split at h
        · rename_i hO
          obtain ⟨h1, h2, rfl, rfl, rfl⟩ := rx_callB_eq h
          obtain ⟨M1, hM1, hcls, hkind, hw, hlk⟩ := hok.2 rfl
          dsimp only at hM1 hw h1 h2 hMT hCt after
          cases hM1.symm.trans hMT
          obtain ⟨ar, tr, h3, h4⟩ := rx_tkh T.2.2.2.2.2 w0 h1
          have hst2 := rx_vs.take (w0 + 1) hst
          have hvs := hst2.1.rev
          rw [h3] at hO
          unfold rx_isX at hO
          split at hO
          · rename_i r0 he
            cases he
            split at hO
            · rename_i vid hcj
              obtain ⟨aS, eS, vS, eV, hO1, -⟩ := (hZ.2.2.2 s A hZs hA0).1 r0 _ hcj
              have hmet := hCt g tys ws (st.take (w0 + 1)).reverse H.size hG hH hvs
              rw [h4] at hvs
              cases hvv : (st.take (w0 + 1)).reverse with
              | nil => rw [hvv] at hvs; exact hvs.elim
              | cons v0 As =>
                rw [hvv] at hvs hmet
                obtain ⟨hv0, hAs⟩ := hvs
                have hv0 : v0 = va_rf (b.1 r0) := hv0
                rw [eS] at hv0
                have hv0 : v0 = .ref aS := hv0
                subst hv0
                have hst3 : st = As.reverse ++ .ref aS :: st.drop (w0 + 1) := by
                  have e2 : st.take (w0 + 1) = As.reverse ++ [.ref aS] := by
                    have := congrArg List.reverse hvv
                    rw [List.reverse_reverse, List.reverse_cons] at this
                    exact this
                  conv => lhs; rw [← List.take_append_drop (w0 + 1) st, e2]
                  rw [List.append_assoc]
                  rfl
                have hlenA : As.length = w0 := by
                  have e3 := congrArg List.length hvv
                  rw [List.length_reverse, List.length_take, List.length_cons, Nat.min_eq_left (by rw [← hst.len]; exact h1)] at e3
                  omega
                have hnp : (parseMethodDescriptor M.1.desc).map (fun d => d.parameters.length) = some w0 := by
                  rcases hM.2.2.2.2.2 with q | q | q
                  · omega
                  · have q2 := q.2.2
                    cases hpd : parseMethodDescriptor M.1.desc with
                    | none => rw [hpd] at q2; cases q2
                    | some pd =>
                      rw [hpd] at q2
                      have q3 : pd.parameters.length + 1 = M.2.2.2.2.1 := Option.some.inj q2
                      show some pd.parameters.length = some w0
                      congr 1
                      omega
                  · omega
                have hsel : Cond.instanceMethod M.1 ∈ rx_Gd ∧ Cond.selects M.1.cls M.1 M.1 ∈ rx_Gd := by
                  rcases hM.2.2.2.2.2 with q | q | q
                  · omega
                  · exact q.2.1
                  · omega
                have hrecv : ∃ cell : Cell, H[aS]? = some cell ∧ cell.vm.isStatics = false ∧ s.vm.findClass M.1.cls = some cell.cls := by
                  obtain ⟨cell, q1, q2, q3, -⟩ := hO1.kept hS.2.1
                  rw [hcls]
                  exact ⟨cell, q1, q2, q3⟩
                have hroom := lv_room (m := m) (pc := pc) (ls := ls) (rest := st) (st := st.drop (w0 + 1)) (by rw [rx_cats_ok hst2.2]; exact h2)
                rcases hlk with hlk | ⟨host, hlk⟩
                · refine after hst2.2 (va_runV (C := M.1.cls) (b := aS) (As := As) S hmet ⟨rx_cb hts hM hlk hnp hR, hts _ hsel.1, hts _ hsel.2⟩ ⟨rx_blind hZ, hrecv, fun U hU hW => rx_pre hZ hZs hsz hA0 hpr hK hP hD hS U hU hW⟩ rfl hlenA hv.1 hst3 hroom hd.1 ⟨hc1, hc2⟩)
                · refine after hst2.2 (va_runVN (C := M.1.cls) (host := host) (b := aS) (As := As) S hmet ⟨rx_cn hts hpr hM hlk hnp hR, hts _ hsel.1, hts _ hsel.2⟩ ⟨rx_blind hZ, hrecv, fun U hU hW => rx_pre hZ hZs hsz hA0 hpr hK hP hD hS U hU hW⟩ rfl hlenA hv.1 hst3 hroom hd.1 ⟨hc1, hc2⟩)
            · cases hO
          · cases hO
        · cases h
      · cases h
    · cases h
  · -- invokespecial
    rename_i idx
    have hlen := rx_len hd rfl
    subst hlen
    split at h
    · split at h
      · rename_i w0
        split at h
        · rename_i hO
          obtain ⟨h1, h2, rfl, rfl, rfl⟩ := rx_callB_eq h
          obtain ⟨M1, hM1, hkind, hw, hlk⟩ := hok rfl
          dsimp only at hM1 hw h1 h2 hMT hCt after
          cases hM1.symm.trans hMT
          obtain ⟨ar, tr, h3, h4⟩ := rx_tkh T.2.2.2.2.2 w0 h1
          have hst2 := rx_vs.take (w0 + 1) hst
          have hvs := hst2.1.rev
          rw [h3] at hO
          unfold rx_isR at hO
          split at hO
          · rename_i r0 he
            cases he
            have hmet := hCt g tys ws (st.take (w0 + 1)).reverse H.size hG hH hvs
            rw [h4] at hvs
            cases hvv : (st.take (w0 + 1)).reverse with
            | nil => rw [hvv] at hvs; exact hvs.elim
            | cons v0 As =>
              rw [hvv] at hvs hmet
              obtain ⟨⟨a1, ha1, rfl⟩, hAs⟩ := hvs
              have hst3 : st = As.reverse ++ .ref a1 :: st.drop (w0 + 1) := by
                have e2 : st.take (w0 + 1) = As.reverse ++ [.ref a1] := by
                  have := congrArg List.reverse hvv
                  rw [List.reverse_reverse, List.reverse_cons] at this
                  exact this
                conv => lhs; rw [← List.take_append_drop (w0 + 1) st, e2]
                rw [List.append_assoc]
                rfl
              have hlenA : As.length = w0 := by
                have e3 := congrArg List.length hvv
                rw [List.length_reverse, List.length_take, List.length_cons, Nat.min_eq_left (by rw [← hst.len]; exact h1)] at e3
                omega
              obtain ⟨hini, hnp⟩ : (M.1.name = "<init>" ∧ Cond.instanceMethod M.1 ∈ rx_Gd ∧ M.2.2.2.1 = none) ∧ (parseMethodDescriptor M.1.desc).map (fun d => d.parameters.length) = some w0 := by
                rcases hM.2.2.2.2.2 with q | q | q
                · omega
                · omega
                · refine ⟨q.2.1, ?_⟩
                  have q2 := q.2.2
                  cases hpd : parseMethodDescriptor M.1.desc with
                  | none => rw [hpd] at q2; cases q2
                  | some pd =>
                    rw [hpd] at q2
                    have q3 : pd.parameters.length + 1 = M.2.2.2.2.1 := Option.some.inj q2
                    show some pd.parameters.length = some w0
                    congr 1
                    omega
              have hroom := lv_room (m := m) (pc := pc) (ls := ls) (rest := st) (st := st.drop (w0 + 1)) (by rw [rx_cats_ok hst2.2]; exact h2)
              rcases hlk with hlk | ⟨host, hlk⟩
              · have hcb := rx_cb (own := own) (R := R) (d := d) hts hM hlk hnp hR
                rw [hini.2.2] at hcb
                refine after hst2.2 (va_runI (b := a1) (As := As) S hmet ⟨hcb, hini.1, hts _ hini.2.1⟩ ⟨rx_blind hZ, fun U hU hW => rx_pre hZ hZs hsz hA0 hpr hK hP hD hS U hU hW⟩ rfl hlenA hv.1 hst3 hroom hd.1 ⟨hc1, hc2⟩)
              · have hcb := rx_cn (own := own) (R := R) (d := d) hts hpr hM hlk hnp hR
                rw [hini.2.2] at hcb
                refine after hst2.2 (va_runIN (host := host) (b := a1) (As := As) S hmet ⟨hcb, hini.1, hts _ hini.2.1⟩ ⟨rx_blind hZ, fun U hU hW => rx_pre hZ hZs hsz hA0 hpr hK hP hD hS U hU hW⟩ rfl hlenA hv.1 hst3 hroom hd.1 ⟨hc1, hc2⟩)
          · cases hO
        · cases h
      · cases h
    · cases h
  · -- invokestatic
    rename_i idx
    have hlen := rx_len hd rfl
    subst hlen
    split at h
    · obtain ⟨h1, h2, rfl, rfl, rfl⟩ := rx_callB_eq h
      obtain ⟨M1, hM1, hkind, hw, hlk⟩ := hok rfl
      dsimp only at hM1 hw h1 h2 hMT hCt after
      cases hM1.symm.trans hMT
      have hst2 := rx_vs.take w hst
      have hvs := hst2.1.rev
      have hmet := hCt g tys ws (st.take w).reverse H.size hG hH hvs
      have hst3 : st = ((st.take w).reverse).reverse ++ st.drop w := by
        rw [List.reverse_reverse, List.take_append_drop]
      have hlenA : ((st.take w).reverse).length = w := by
        rw [List.length_reverse, List.length_take, Nat.min_eq_left (by rw [← hst.len]; exact h1)]
      obtain ⟨hsta, hnp⟩ : Cond.static M.1 ∈ rx_Gd ∧ (parseMethodDescriptor M.1.desc).map (fun d => d.parameters.length) = some w := by
        rcases hM.2.2.2.2.2 with q | q | q
        · refine ⟨q.2.1, ?_⟩
          rw [q.2.2, hw]
        · omega
        · omega
      have hroom := lv_room (m := m) (pc := pc) (ls := ls) (rest := st) (st := st.drop w) (by rw [rx_cats_ok hst2.2]; exact h2)
      rcases hlk with hlk | ⟨host, hlk⟩
      · refine after hst2.2 (va_runS (As := (st.take w).reverse) S hmet ⟨rx_cb hts hM hlk hnp hR, hts _ hsta⟩ ⟨rx_blind hZ, fun U hU hW => rx_pre hZ hZs hsz hA0 hpr hK hP hD hS U hU hW⟩ rfl hlenA hv.1 hst3 hroom hd.1 ⟨hc1, hc2⟩)
      · refine after hst2.2 (va_runSN (host := host) (As := (st.take w).reverse) S hmet ⟨rx_cn hts hpr hM hlk hnp hR, hts _ hsta, trivial⟩ ⟨rx_blind hZ, fun U hU hW => rx_pre hZ hZs hsz hA0 hpr hK hP hD hS U hU hW⟩ rfl hlenA hv.1 hst3 hroom hd.1 ⟨hc1, hc2⟩)
    · cases h
  · split at h <;> cases h
end RXC2
