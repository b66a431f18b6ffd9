section RXM
theorem rx_char {y : Int32} (h1 : 0 ≤ y.toInt) (h2 : y.toInt ≤ 65535) : narrow .char (.int y) = .int y := by
  have e : y = nI y.toInt.toNat := by
    apply Int32.toInt_inj.1
    rw [nI_toInt (n := y.toInt.toNat) (by omega)]
    omega
  rw [e]
  exact (pk_charN (by omega)).1
theorem rx_cats_len {b : (Nat → Option Nat) × List Int} {as : List Nat} {g : List Int} : ∀ {sa : List rx_V} {st : List Value}, rx_vs b as g sa st → (lg_sl st).length = rx_cats sa
  | [], [], _ => rfl
  | a :: sa, v :: st, h => by
    have h1 := rx_cats_len h.2
    have h2 := rx_cat h.1
    have e : (lg_sl (v :: st)).length = (if v.category = 2 then 2 else 1) + (lg_sl st).length := by
      unfold lg_sl
      rw [List.flatMap_cons, List.length_append]
      congr 1
      by_cases hc : v.category = 2
      · rw [if_pos hc, if_pos hc]; rfl
      · rw [if_neg hc, if_neg hc]; rfl
    rw [e, h1]
    show _ = (match rx_c2 a with | true => rx_cats sa + 2 | false => rx_cats sa + 1)
    cases h3 : rx_c2 a with
    | true =>
      rw [h3] at h2
      have h4 : v.category = 2 := by simpa using h2
      rw [if_pos h4]
      show 2 + rx_cats sa = rx_cats sa + 2
      rw [Nat.add_comm]
    | false =>
      have h4 := rx_cat1 h.1 h3
      rw [if_neg (by rw [h4]; decide)]
      show 1 + rx_cats sa = rx_cats sa + 1
      rw [Nat.add_comm]
  | [], _ :: _, h => h.elim
  | _ :: _, [], h => h.elim
/-- a state at its method's end -/
theorem rx_ret_go {p : Program} {l : Launch} {e : Env} {R : Room} {s : State} {m : MethodId} {args : Array Value} {below : List Frame} {meth : Method} {c : Code} {b : (Nat → Option Nat) × List Int} {D : va_G} {g0 : List Int} {t0 : List (ClassId × FieldType)} {ws0 : va_W} {nL mc ms : Nat} {cc : ByteArray} {own nm : String} {MT : List rx_Md} {M : rx_Md} {outs : List rx_T} {T : rx_T} (C : rx_Cx p s m args c cc own nL) (hT : rx_Tok MT cc own nm M) (hr : meth.sig.returnType = M.2.2.2.1) (hlocks : meth.locks = false) (he : rx_ends M T = true) (hc1 : T.2.2.1.1 ≤ mc) (hc2 : T.2.2.1.2 ≤ ms) (ho : T ∈ outs) :
    rx_Go p l e R s m args below meth c b D (va_A ws0 s.heap.size) g0 (ws0.map Prod.fst) t0 nL (MQ below (rx_Qc b D g0 t0 ws0 s.heap.size outs) args s mc ms (va_A ws0 s.heap.size)) T := by
  unfold rx_ends at he
  split at he
  · rename_i i hfe
    obtain ⟨⟨lt, hlt, hil⟩, hipc⟩ := rx_fe_ok hfe
    obtain ⟨hdc, -⟩ := hT lt hlt i hil
    obtain ⟨hx, hb, -⟩ := C
    intro H locs ls st hat
    rw [← hipc]
    obtain ⟨g, tys, ws, lv, hE, hG, hH, hK, hP, hD, hS, hl, hv, hst⟩ := hat
    have done : ∀ (v : Option Value), st = v.toList → ∀ t : State, t.heap = H → s.WarmedH t.vm → rx_Qc b D g0 t0 ws0 s.heap.size outs args s (.returned v) t := by
      intro v hv1 t ht hW
      subst hv1
      exact ⟨⟨T, ho, g, tys, ws, v, rfl, hE, hG, hH, hst, va_K.moved hW.alike hK, by rw [ht]; exact hP, hD⟩, hS.F ht⟩
    refine W.widen hc1 hc2 ?_
    obtain ⟨pc, ins, len, u, w, x, z⟩ := i
    unfold rx_retB at he
    dsimp only at he
    split at he
    · have hlen := rx_len hdc rfl
      subst hlen
      split at he
      · rename_i hret hsa
        rw [hsa] at hst
        cases st with
        | cons v0 w0 => exact hst.elim
        | nil => exact W.vret hx hb (hr.trans hret) (done none rfl) hS.2.2 hdc.1 hlocks
      · cases he
    · have hlen := rx_len hdc rfl
      subst hlen
      split at he
      · rename_i q hret hsa
        rw [hsa] at hst
        obtain ⟨v0, w0, rfl, ⟨y, rfl, -⟩, hst2⟩ := rx_vs_cons hst
        cases w0 with
        | cons v1 w1 => exact hst2.elim
        | nil => exact W.iret hx hb (hr.trans hret) (done (some (.int y)) rfl) hS.2.2 hdc.1 hlocks
      · rename_i q hret hsa
        rw [hsa] at hst
        obtain ⟨v0, w0, rfl, ⟨y, rfl, hy⟩, hst2⟩ := rx_vs_cons hst
        cases w0 with
        | cons v1 w1 => exact hst2.elim
        | nil =>
          have hn := (rx_fit_ok (b := b) (as := ws.map Prod.fst) (ty := .boolean) (t := 2) (a := .inl q) (v := .int y) he hG ⟨y, rfl, hy⟩ rfl).1
          exact W.zret hx hb (hr.trans hret) hn (done (some (.int y)) rfl) hS.2.2 hdc.1 hlocks
      · rename_i q hret hsa
        rw [hsa] at hst
        obtain ⟨v0, w0, rfl, ⟨y, rfl, hy⟩, hst2⟩ := rx_vs_cons hst
        cases w0 with
        | cons v1 w1 => exact hst2.elim
        | nil =>
          have hn := (rx_fit_ok (b := b) (as := ws.map Prod.fst) (ty := .byte) (t := 1) (a := .inl q) (v := .int y) he hG ⟨y, rfl, hy⟩ rfl).1
          exact W.zret hx hb (hr.trans hret) hn (done (some (.int y)) rfl) hS.2.2 hdc.1 hlocks
      · rename_i q hret hsa
        rw [hsa] at hst
        obtain ⟨v0, w0, rfl, ⟨y, rfl, hy⟩, hst2⟩ := rx_vs_cons hst
        cases w0 with
        | cons v1 w1 => exact hst2.elim
        | nil =>
          rw [Bool.and_eq_true] at he
          have r1 := (rx_ile_iff _ _).mp he.1
          have r2 := (rx_ile_iff _ _).mp he.2
          have r3 := rx_iv_ok hG hy
          have hn : narrow .char (.int y) = .int y := rx_char (by omega) (by omega)
          exact W.zret hx hb (hr.trans hret) hn (done (some (.int y)) rfl) hS.2.2 hdc.1 hlocks
      · cases he
    · have hlen := rx_len hdc rfl
      subst hlen
      split at he
      · rename_i q hret hsa
        rw [hsa] at hst
        obtain ⟨v0, w0, rfl, ⟨y, rfl, -⟩, hst2⟩ := rx_vs_cons hst
        cases w0 with
        | cons v1 w1 => exact hst2.elim
        | nil => exact W.lret hx hb (hr.trans hret) (done (some (.long y)) rfl) hS.2.2 hdc.1 hlocks
      · cases he
    · cases he
  · cases he
/-- the methods of a table -/
def rx_MTok (MT : List rx_Md) : Prop := ∀ (mi : Nat) (M : rx_Md), MT[mi]? = some M → rx_okM M ∧ rx_Tok MT M.2.1 M.1.cls M.1.name M
/-- contracts that come from elsewhere -/
def rx_Eok (l : Launch) (b : (Nat → Option Nat) × List Int) (D : va_G) (Z : State → Heap → Prop) (sz0 : Nat) (MT : List rx_Md) (ext : Nat → Nat → List rx_V → rx_Y → List rx_C → Option rx_O) : Prop := ∀ (d mi : Nat) (as : List rx_V) (sy : rx_Y) (h : List rx_C) (r : rx_O), ext d mi as sy h = some r → ∃ d', d' ≤ d ∧ ∃ M : rx_Md, MT[mi]? = some M ∧ rx_okM M ∧ (r.1 = M.2.2.2.2.2.2.1 ∧ r.2.1 = M.2.2.2.2.2.2.2.1) ∧ rx_Ct l b D Z sz0 d' M as sy h r.2.2
theorem rx_fcall_ok {l : Launch} {b : (Nat → Option Nat) × List Int} {D : va_G} {Z : State → Heap → Prop} {sz0 fuel : Nat} {N : List (List rx_V)} {MT : List rx_Md} {ext : Nat → Nat → List rx_V → rx_Y → List rx_C → Option rx_O} (hcl : rx_Clok N) (hMT : rx_MTok MT) (hZ : rx_Zp b Z sz0) (hext : rx_Eok l b D Z sz0 MT ext) : ∀ (d mi : Nat) (as : List rx_V) (sy : rx_Y) (h : List rx_C) (r : rx_O), rx_fcall N MT ext fuel d mi as sy h = some r → ∃ d', d' + 1 ≤ d ∧ ∃ M : rx_Md, MT[mi]? = some M ∧ rx_okM M ∧ (r.1 = M.2.2.2.2.2.2.1 ∧ r.2.1 = M.2.2.2.2.2.2.2.1) ∧ rx_Ct l b D Z sz0 d' M as sy h r.2.2 := by
  intro d
  induction d with
  | zero =>
    intro mi as sy h r hr
    unfold rx_fcall at hr
    cases hr
  | succ d ih =>
    intro mi as sy h r hr
    unfold rx_fcall at hr
    split at hr
    · rename_i r' he
      cases hr
      obtain ⟨d', h1, h2⟩ := hext d mi as sy h r he
      exact ⟨d', Nat.succ_le_succ h1, h2⟩
    · refine ⟨d, Nat.le_refl _, ?_⟩
      split at hr
      · cases hr
      · rename_i M hM
        rw [rx_nth_eq] at hM
        obtain ⟨hok, htab⟩ := hMT mi M hM
        split at hr
        · cases hr
        · rename_i hlen
          rw [Bool.and_eq_true] at hlen
          split at hr
          · cases hr
          · rename_i outs hgo
            split at hr
            · rename_i hall
              cases hr
              refine ⟨M, hM, hok, ⟨rfl, rfl⟩, ?_⟩
              intro g tys ws vs sz hG hH hvs
              refine Met.ofW (cc := M.2.1) (maxL := M.2.2.1) (ret := M.2.2.2.1) hok.2.2.2.2.1 rfl ?_
              intro p e s m args below meth c s₁ B hml hv
              obtain ⟨rfl, hsz, hP, hK, hD0, hsz0, hpr, hZs⟩ := hv
              subst hsz
              have hts : ∀ w ∈ rx_Gd, w.before vs.toArray s = true := fun w hw => atoms_spec (ws := rx_ws M) B.pre w (List.mem_cons_of_mem _ hw)
              have C : rx_Cx p s m vs.toArray c M.2.1 M.1.cls M.2.2.1 := ⟨B.exec, B.bytes, hml, findClass_of_methodNamed B.named, hts, hpr⟩
              have hmn : meth.name = M.1.name := (name_of_methodNamed B.named B.method).1
              have hl := lv_entry vs (n := M.2.2.1) (by rw [rx_cats_len hvs]; exact Nat.le_of_ble_eq_true hlen.2)
              rw [lg_entry_eq]
              generalize (lg_sl vs ++ List.replicate (M.2.2.1 - (lg_sl vs).length) Slot.unset).toArray = ls at hl ⊢
              have hA : ∀ q, s.heap.size ≤ q → va_A ws s.heap.size q := fun q h => Or.inr h
              have hA0 : ∀ q, va_A ws s.heap.size q → sz0 ≤ q := by
                intro q hq
                rcases hq with ⟨k, e', hk⟩ | hq
                · exact hD0.2 k _ hk
                · exact Nat.le_trans hsz0 hq
              have hcall : rx_Hc l b D Z sz0 MT (headSpec (rx_ws M) (rx_rm d M)).room (rx_fcall N MT ext fuel d) := by
                intro mi' as' sy' h' r' hr'
                obtain ⟨d', hd', M', h1, h2, h3, h4⟩ := ih mi' as' sy' h' r' hr'
                exact ⟨M', d', h1, h2, h3, ⟨(by show d' + 2 ≤ d + 1; omega), (by show 100 * (d' + 2) ≤ 100 * (d + 1); omega)⟩, h4⟩
              have hR : (headSpec (rx_ws M) (rx_rm d M)).room.cells = M.2.2.2.2.2.2.1 ∧ (headSpec (rx_ws M) (rx_rm d M)).room.slots = M.2.2.2.2.2.2.2.1 ∧ 1 ≤ (headSpec (rx_ws M) (rx_rm d M)).room.frames ∧ 60 ≤ (headSpec (rx_ws M) (rx_rm d M)).room.locals := ⟨rfl, rfl, Nat.succ_le_succ (Nat.zero_le d), by show 60 ≤ 100 * (d + 1); omega⟩
              have key := rx_go_ok (p := p) (e := e) (below := below) (A := va_A ws s.heap.size) (g0 := g) (a0 := ws.map Prod.fst) (t0 := tys) (Q := MQ below (rx_Qc b D g tys ws s.heap.size outs) vs.toArray s M.2.2.2.2.2.2.1 M.2.2.2.2.2.2.2.1 (va_A ws s.heap.size)) C hcl htab hmn hR rfl hZ hZs hsz0 hA hA0 hcall fuel sy h (0, 0) 0 (rx_args 0 as) [] outs hgo
              refine key.2 (fun T hT => ?_) s.heap [] ls [] ⟨g, tys, ws, lv_args 0 vs, ⟨rx_le.rf, rx_le.rf, fun _ q => q⟩, hG, hH, hK, hP, hD0.self, va_S.rf, rx_args_ok 0 hvs, hl, trivial⟩
              have h1 := List.all_eq_true.mp hall T hT
              simp only [Bool.and_eq_true] at h1
              rcases key.1 T hT with h2 | h2
              · cases h2
              · exact rx_ret_go C htab B.returns B.notSynchronized h2 (Nat.le_of_ble_eq_true h1.1) (Nat.le_of_ble_eq_true h1.2) hT
            · cases hr
end RXM
