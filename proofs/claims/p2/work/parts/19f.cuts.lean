/-! ===== loops: states at which runs are cut, each under another ===== -/
section RXM2
/-- a state at its method's end, under one of its ends -/
theorem rx_ret_go2 {p : Program} {l : Launch} {e : Env} {R : Room} {s : State} {m : MethodId} {args : Array Value} {below : List Frame} {meth : Method} {c : Code} {b : (Nat → Option Nat) × List Int} {D : va_G} {g0 gE : List Int} {a0 : List Nat} {t0 tE : List (ClassId × FieldType)} {wsE : va_W} {nL mc ms : Nat} {cc : ByteArray} {own nm : String} {MT : List rx_Md} {M : rx_Md} {outs : List rx_T} {T : rx_T} (C : rx_Cx p s m args c cc own nL) (hT : rx_Tok MT cc own nm M) (hr : meth.sig.returnType = M.2.2.2.1) (hlocks : meth.locks = false) (he : rx_ends M T = true) (hc1 : T.2.2.1.1 ≤ mc) (hc2 : T.2.2.1.2 ≤ ms)
    (hq : ∀ (g : List Int) (tys : List (ClassId × FieldType)) (ws : va_W) (v : Option Value) (H : Heap), (rx_le g0 g ∧ rx_le a0 (ws.map Prod.fst) ∧ ∀ q ∈ t0, q ∈ tys) → rx_g T.1 g → rx_h b g tys T.2.1 ws → rx_vs b (ws.map Prod.fst) g T.2.2.2.2.2 v.toList → va_P D vwCl ws H → va_D (va_A wsE s.heap.size) ws → ∃ o ∈ outs, ∃ (g' : List Int) (ws' : va_W), (rx_le gE g' ∧ rx_le (wsE.map Prod.fst) (ws'.map Prod.fst) ∧ ∀ q ∈ tE, q ∈ tys) ∧ rx_g o.1 g' ∧ rx_h b g' tys o.2.1 ws' ∧ rx_vs b (ws'.map Prod.fst) g' o.2.2.2.2.2 v.toList ∧ va_P D vwCl ws' H ∧ va_D (va_A wsE s.heap.size) ws') :
    rx_Go p l e R s m args below meth c b D (va_A wsE s.heap.size) g0 a0 t0 nL (MQ below (rx_Qc b D gE tE wsE s.heap.size outs) args s mc ms (va_A wsE s.heap.size)) T := by
  unfold rx_ends at he
  split at he
  · rename_i i hfe
    obtain ⟨⟨lt, hlt, hil⟩, hipc⟩ := rx_fe_ok hfe
    obtain ⟨hdc, -⟩ := hT lt hlt i hil
    obtain ⟨hx, hb, -⟩ := C
    intro H locs ls st hat
    rw [← hipc]
    obtain ⟨g, tys, ws, lv, hE, hG, hH, hK, hP, hD, hS, hl, hv, hst⟩ := hat
    have done : ∀ (v : Option Value), st = v.toList → ∀ t : State, t.heap = H → s.WarmedH t.vm → rx_Qc b D gE tE wsE s.heap.size outs args s (.returned v) t := by
      intro v hv1 t ht hW
      subst hv1
      obtain ⟨o, ho, g', ws', r1, r2, r3, r4, r5, r6⟩ := hq g tys ws v H hE hG hH hst hP hD
      exact ⟨⟨o, ho, g', tys, ws', v, rfl, r1, r2, r3, r4, va_K.moved hW.alike hK, by rw [ht]; exact r5, r6⟩, hS.F ht⟩
    refine W.widen hc1 hc2 ?_
    obtain ⟨pc, ins, len, u, w, x, z⟩ := i
    unfold rx_retB at he
    dsimp only at he
    split at he
    · have hlen := rx_len hdc rfl
      subst hlen
      split at he
      · rename_i hret hsa
        rw [hsa] at hst
        cases st with
        | cons v0 w0 => exact hst.elim
        | nil => exact W.vret hx hb (hr.trans hret) (done none rfl) hS.2.2 hdc.1 hlocks
      · cases he
    · have hlen := rx_len hdc rfl
      subst hlen
      split at he
      · rename_i q hret hsa
        rw [hsa] at hst
        obtain ⟨v0, w0, rfl, ⟨y, rfl, -⟩, hst2⟩ := rx_vs_cons hst
        cases w0 with
        | cons v1 w1 => exact hst2.elim
        | nil => exact W.iret hx hb (hr.trans hret) (done (some (.int y)) rfl) hS.2.2 hdc.1 hlocks
      · rename_i q hret hsa
        rw [hsa] at hst
        obtain ⟨v0, w0, rfl, ⟨y, rfl, hy⟩, hst2⟩ := rx_vs_cons hst
        cases w0 with
        | cons v1 w1 => exact hst2.elim
        | nil =>
          have hn := (rx_fit_ok (b := b) (as := ws.map Prod.fst) (ty := .boolean) (t := 2) (a := .inl q) (v := .int y) he hG ⟨y, rfl, hy⟩ rfl).1
          exact W.zret hx hb (hr.trans hret) hn (done (some (.int y)) rfl) hS.2.2 hdc.1 hlocks
      · rename_i q hret hsa
        rw [hsa] at hst
        obtain ⟨v0, w0, rfl, ⟨y, rfl, hy⟩, hst2⟩ := rx_vs_cons hst
        cases w0 with
        | cons v1 w1 => exact hst2.elim
        | nil =>
          have hn := (rx_fit_ok (b := b) (as := ws.map Prod.fst) (ty := .byte) (t := 1) (a := .inl q) (v := .int y) he hG ⟨y, rfl, hy⟩ rfl).1
          exact W.zret hx hb (hr.trans hret) hn (done (some (.int y)) rfl) hS.2.2 hdc.1 hlocks
      · rename_i q hret hsa
        rw [hsa] at hst
        obtain ⟨v0, w0, rfl, ⟨y, rfl, hy⟩, hst2⟩ := rx_vs_cons hst
        cases w0 with
        | cons v1 w1 => exact hst2.elim
        | nil =>
          rw [Bool.and_eq_true] at he
          have r1 := (rx_ile_iff _ _).mp he.1
          have r2 := (rx_ile_iff _ _).mp he.2
          have r3 := rx_iv_ok hG hy
          have hn : narrow .char (.int y) = .int y := rx_char (by omega) (by omega)
          exact W.zret hx hb (hr.trans hret) hn (done (some (.int y)) rfl) hS.2.2 hdc.1 hlocks
      · cases he
    · have hlen := rx_len hdc rfl
      subst hlen
      split at he
      · rename_i q hret hsa
        rw [hsa] at hst
        obtain ⟨v0, w0, rfl, ⟨y, rfl, -⟩, hst2⟩ := rx_vs_cons hst
        cases w0 with
        | cons v1 w1 => exact hst2.elim
        | nil => exact W.lret hx hb (hr.trans hret) (done (some (.long y)) rfl) hS.2.2 hdc.1 hlocks
      · cases he
    · cases he
  · cases he
end RXM2
theorem rx_b0_nil (b : (Nat → Option Nat) × List Int) (as : List Nat) : rx_b0 b as [] = b := by
  obtain ⟨f, l⟩ := b
  unfold rx_b0
  dsimp only
  congr 1
  funext k
  split <;> simp
noncomputable def rx_lsub (sy : rx_Y) (th : List rx_I) (pi : List Nat) (lc0 lc : rx_L) : Bool := rx_allR (fun q => match rx_lkR q.1 lc with
  | some v => rx_mV sy th pi [] q.2 v
  | none => false) lc0
/-- a state under another -/
noncomputable def rx_subB (T S : rx_T) (th : List rx_I) (pi : List Nat) : Bool := rx_lsub T.1 th pi S.2.2.2.2.1 T.2.2.2.2.1 && (rx_all2 (rx_mV T.1 th pi []) S.2.2.2.2.2 T.2.2.2.2.2 && (rx_mY T.1 th S.1 && (rx_mH T.1 th pi [] T.2.1 pi S.2.1 && rx_ndp pi)))
theorem rx_sub_ok {T S : rx_T} {th : List rx_I} {pi : List Nat} {b : (Nat → Option Nat) × List Int} (hb2 : b.2 = []) {D : va_G} {A : Nat → Prop} {g : List Int} {tys : List (ClassId × FieldType)} {ws : va_W} {lv : List (Nat × Value)} {ls : Array Slot} {nL : Nat} {st : List Value} {H : Heap} (hk : rx_subB T S th pi = true) (hG : rx_g T.1 g) (hH : rx_h b g tys T.2.1 ws) (hP : va_P D vwCl ws H) (hD : va_D A ws) (hl : rx_ls b (ws.map Prod.fst) g T.2.2.2.2.1 lv) (hv : lv_has ls nL lv) (hst : rx_vs b (ws.map Prod.fst) g T.2.2.2.2.2 st) :
    ∃ (g0 : List Int) (ws0 : va_W) (lv0 : List (Nat × Value)), rx_Th th g g0 ∧ rx_g S.1 g0 ∧ rx_h b g0 tys S.2.1 ws0 ∧ va_P D vwCl ws0 H ∧ va_D A ws0 ∧ rx_ls b (ws0.map Prod.fst) g0 S.2.2.2.2.1 lv0 ∧ lv_has ls nL lv0 ∧ rx_vs b (ws0.map Prod.fst) g0 S.2.2.2.2.2 st ∧ ∀ i j r : Nat, pi[i]? = some j → (ws.map Prod.fst)[j]? = some r → (ws0.map Prod.fst)[i]? = some r := by
  unfold rx_subB at hk
  simp only [Bool.and_eq_true] at hk
  obtain ⟨k1, k2, k3, k4, k5⟩ := hk
  obtain ⟨g0, hT, hG0⟩ := rx_mY_ok hG k3
  obtain ⟨hpl, hmh⟩ := rx_mH_ok k4
  have hin : ∀ i j : Nat, pi[i]? = some j → j < ws.length := by
    intro i j hij
    have hi : i < S.2.1.length := by rw [← hpl]; exact (List.getElem?_eq_some_iff.mp hij).1
    obtain ⟨j', c, h1, h2, -⟩ := hmh i _ (List.getElem?_eq_getElem hi)
    rw [hij] at h1
    cases h1
    rw [← hH.1]
    exact (List.getElem?_eq_some_iff.mp h2).1
  obtain ⟨ws0, hws0⟩ : ∃ ws0 : va_W, ws0 = pi.map (fun j => ws.getD j rx_dW) := ⟨_, rfl⟩
  have hw0 : ∀ i j : Nat, pi[i]? = some j → ws0[i]? = ws[j]? := by
    intro i j hij
    rw [hws0, List.getElem?_map, hij, rx_gtD (hin i j hij)]
    rfl
  have hw0l : ws0.length = pi.length := by rw [hws0, List.length_map]
  have hw1 : ∀ (i : Nat) (q : Nat × va_E), ws0[i]? = some q → ∃ j, pi[i]? = some j ∧ ws[j]? = some q := by
    intro i q hq
    have hi : i < pi.length := by rw [← hw0l]; exact (List.getElem?_eq_some_iff.mp hq).1
    refine ⟨pi[i], List.getElem?_eq_getElem hi, ?_⟩
    rw [← hw0 i _ (List.getElem?_eq_getElem hi)]
    exact hq
  have hA : ∀ (i j r : Nat), pi[i]? = some j → (ws.map Prod.fst)[j]? = some r → (ws0.map Prod.fst)[i]? = some r := by
    intro i j r hij hr
    rw [List.getElem?_map] at hr ⊢
    rw [hw0 i j hij]
    exact hr
  have hmv : ∀ v0 v w, rx_mV T.1 th pi [] v0 v = true → rx_v b (ws.map Prod.fst) g v w → rx_v b (ws0.map Prod.fst) g0 v0 w := by
    intro v0 v w h1 h2
    have := rx_mV_ok (b := b) hG hT hA h1 h2
    rw [rx_b0_nil] at this
    exact this
  have hby : ∀ (k : Nat) (q : Nat × va_E), ws0[k]? = some q → ws[pi.getD k 0]? = some q := by
    intro k q hq
    obtain ⟨j, h1, h2⟩ := hw1 k q hq
    rw [List.getD_eq_getElem?_getD, h1]
    exact h2
  have hinj : ∀ i j : Nat, i < ws0.length → j < ws0.length → pi.getD i 0 = pi.getD j 0 → i = j := by
    intro i j hi hj hij
    rw [hw0l] at hi hj
    rw [List.getD_eq_getElem?_getD, List.getD_eq_getElem?_getD, List.getElem?_eq_getElem hi, List.getElem?_eq_getElem hj] at hij
    have hij : pi[i] = pi[j] := hij
    exact rx_ndp_ok k5 i j pi[j] (by rw [List.getElem?_eq_getElem hi, hij]) (List.getElem?_eq_getElem hj)
  have hH0 : rx_h b g0 tys S.2.1 ws0 := by
    refine ⟨by rw [hw0l, hpl], fun i c0 hc0 => ?_, by rw [hb2]; exact fun i x hx => by simp at hx⟩
    obtain ⟨j, c, h1, h2, h3⟩ := hmh i c0 hc0
    obtain ⟨a, e, h4, h5⟩ := hH.2.1 j c h2
    refine ⟨a, e, by rw [hw0 i j h1]; exact h4, ?_⟩
    have := rx_mC_ok (b := b) hG hT hA h3 h5
    rw [rx_b0_nil] at this
    exact this
  have hls : ∃ lv0 : List (Nat × Value), rx_ls b (ws0.map Prod.fst) g0 S.2.2.2.2.1 lv0 ∧ ∀ q ∈ lv0, q ∈ lv := by
    have k1 := rx_allR_ok k1
    generalize S.2.2.2.2.1 = lc0 at k1
    induction lc0 with
    | nil => exact ⟨[], trivial, fun q hq => by cases hq⟩
    | cons q lc0 ih =>
      obtain ⟨lv1, h1, h2⟩ := ih (fun a ha => k1 a (List.mem_cons_of_mem _ ha))
      have h3 := k1 q List.mem_cons_self
      rw [rx_lkR_eq] at h3
      split at h3
      · rename_i v hv9
        obtain ⟨k, w, h4, h5⟩ := rx_lk_ok hl hv9
        refine ⟨(q.1, w) :: lv1, ⟨⟨rfl, hmv _ _ _ h3 h5⟩, h1⟩, fun a ha => ?_⟩
        rcases List.mem_cons.mp ha with rfl | ha
        · exact List.mem_of_getElem? h4
        · exact h2 a ha
      · cases h3
  obtain ⟨lv0, hl0, hlv⟩ := hls
  exact ⟨g0, ws0, lv0, hT, hG0, hH0, hP.by _ hby, hD.by _ hby hinj, hl0, ⟨hv.1, hv.2.1, fun q hq => hv.2.2 q (hlv q hq)⟩, rx_all2_ok hmv k2 hst, hA⟩
/-- the first names are their own -/
noncomputable def rx_idB (na : Nat) (pi : List Nat) : Bool := (List.range na).all (fun i => match rx_nth pi i with
  | some j => Nat.beq j i
  | none => false)
theorem rx_idB_ok {na : Nat} {pi : List Nat} (h : rx_idB na pi = true) {i : Nat} (hi : i < na) : pi[i]? = some i := by
  have h1 := List.all_eq_true.mp h i (List.mem_range.mpr hi)
  rw [rx_nth_eq] at h1
  split at h1
  · rename_i j hj
    rw [hj, Nat.eq_of_beq_eq_true h1]
  · cases h1
noncomputable def rx_idT (n0 : Nat) (th : List rx_I) : Bool := (List.range n0).all (fun i => match rx_nth th i with
  | some q => Nat.beq q.1 (i + 1) && rx_ieq q.2 0
  | none => false)
theorem rx_idT_ok {n0 : Nat} {th : List rx_I} (h : rx_idT n0 th = true) {i : Nat} (hi : i < n0) : th[i]? = some (i + 1, 0) := by
  have h1 := List.all_eq_true.mp h i (List.mem_range.mpr hi)
  rw [rx_nth_eq] at h1
  split at h1
  · rename_i q hq
    rw [Bool.and_eq_true] at h1
    rw [hq]
    obtain ⟨a, c⟩ := q
    have e1 : a = i + 1 := Nat.eq_of_beq_eq_true h1.1
    have e2 : c = 0 := rx_ieq_t h1.2
    rw [e1, e2]
  · cases h1
theorem rx_Th_id {n0 : Nat} {th : List rx_I} {g g0 gE : List Int} (hT : rx_Th th g g0) (h : rx_idT n0 th = true) (hE : rx_le gE g) (hl : gE.length = n0) : rx_le gE g0 := by
  intro i x hx
  have hi : i < n0 := by rw [← hl]; exact (List.getElem?_eq_some_iff.mp hx).1
  have h1 := rx_idT_ok h hi
  have h2 : i < g0.length := by rw [hT.1]; exact (List.getElem?_eq_some_iff.mp h1).1
  obtain ⟨r, h3, h4⟩ := hT.2 i _ (List.getElem?_eq_getElem h2)
  rw [h1] at h3
  cases h3
  obtain ⟨y, h5, h6⟩ := h4
  rw [hE i x hx] at h5
  cases h5
  rw [List.getElem?_eq_getElem h2, h6]
  congr 1
  omega
/-- a state at which runs are cut: where its cells (none: as they are) and symbols are found; a number that falls -/
abbrev rx_Cu : Type := rx_T × (List (Nat × Nat) × List (Nat × Nat)) × (List (Int × Nat) × Int)
noncomputable def rx_gT (T : rx_T) (pi : List Nat) (p : Nat × Nat) : Option rx_V := match p with
  | (0, a) => match Nat.ble 1000 a with
    | true => rx_nth T.2.2.2.2.2 (a - 1000)
    | false => rx_lkR a T.2.2.2.2.1
  | (i + 1, f) => match rx_nth pi i with
    | some j => rx_gc (rx_nth T.2.1 j) f
    | none => none
noncomputable def rx_gpT {β : Type} (T : rx_T) (ps : List (Nat × Nat)) : List Nat → (List Nat → Option β) → Option β := @List.rec (Nat × Nat) (fun _ => List Nat → (List Nat → Option β) → Option β) (fun acc k => k acc) (fun p _ ih acc k => match rx_gT T acc p with
  | some (.inr (.inr (.inl (some r)))) => rx_snocR acc r (fun acc => ih acc k)
  | _ => none) ps
theorem rx_gpT_ok {β : Type} {T : rx_T} {ps : List (Nat × Nat)} : ∀ {acc : List Nat} {k : List Nat → Option β} {x : β}, rx_gpT T ps acc k = some x → ∃ pi, k pi = some x := by
  induction ps with
  | nil => exact fun hh => ⟨_, hh⟩
  | cons p ps ih =>
    intro acc k x hh
    have e : rx_gpT T (p :: ps) acc k = (match rx_gT T acc p with | some (.inr (.inr (.inl (some r)))) => rx_snocR acc r (fun acc => rx_gpT T ps acc k) | _ => none) := rfl
    rw [e] at hh
    split at hh
    · rw [rx_snocR_eq] at hh
      exact ih hh
    · cases hh
noncomputable def rx_gp0 {β : Type} (T S : rx_T) (ps : List (Nat × Nat)) (k : List Nat → Option β) : Option β := match ps with
  | [] => rx_apR (rx_fp 0 (rx_lenR S.2.1)) [] k
  | _ :: _ => rx_gpT T ps [] k
theorem rx_gp0_ok {β : Type} {T S : rx_T} {ps : List (Nat × Nat)} {k : List Nat → Option β} {x : β} (h : rx_gp0 T S ps k = some x) : ∃ pi, k pi = some x := by
  cases ps with
  | nil =>
    have h : rx_apR (rx_fp 0 (rx_lenR S.2.1)) [] k = some x := h
    rw [rx_apR_eq] at h
    exact ⟨_, h⟩
  | cons a l =>
    have h : rx_gpT T (a :: l) [] k = some x := h
    exact rx_gpT_ok h
noncomputable def rx_gss {β : Type} (n0 : Nat) (T S : rx_T) (ps : List (Nat × Nat) × List (Nat × Nat)) (k : List rx_I → List Nat → Option β) : Option β := rx_gp0 T S ps.1 (fun pi => rx_gth (rx_gT T pi) ps.2 (S.1.1.drop n0) (fun tt => rx_apR (rx_fn 0 n0) tt (fun th => k th pi)))
theorem rx_gss_ok {β : Type} {n0 : Nat} {T S : rx_T} {ps : List (Nat × Nat) × List (Nat × Nat)} {k : List rx_I → List Nat → Option β} {x : β} (h : rx_gss n0 T S ps k = some x) : ∃ th pi, k th pi = some x := by
  obtain ⟨pi, h1⟩ := rx_gp0_ok h
  obtain ⟨tt, h2⟩ := rx_gth_ok h1
  rw [rx_apR_eq] at h2
  exact ⟨_, pi, h2⟩
/-- the number falls -/
noncomputable def rx_dec (sy : rx_Y) (th : List rx_I) (mS mJ : List (Int × Nat) × Int) : Bool := match rx_rT th mJ.1 with
  | some r => rx_pos sy none (mS.1 ++ rx_ngt r.1) (mS.2 - (r.2 + mJ.2) - 1)
  | none => false
theorem rx_dec_ok {sy : rx_Y} {th : List rx_I} {g g0 : List Int} (hG : rx_g sy g) (hT : rx_Th th g g0) {mS mJ : List (Int × Nat) × Int} (h : rx_dec sy th mS mJ = true) {z : Int} (hz : rx_lin g mS.1 z) : ∃ z0, rx_lin g0 mJ.1 z0 ∧ z0 + mJ.2 + 1 ≤ z + mS.2 := by
  unfold rx_dec at h
  split at h
  · rename_i r hr
    obtain ⟨z0, z1, h1, h2, h3⟩ := rx_rT_ok hT hr
    have := rx_pos_ok hG (G := none) (fun p hp => by cases hp) h (rx_lin.app (rx_ngt_ok h2) hz)
    exact ⟨z0, h1, by omega⟩
  · cases h
noncomputable def rx_toC (na n0 : Nat) (mS : List (Int × Nat) × Int) (T : rx_T) (J : rx_Cu) : Bool := match Nat.beq T.2.2.2.1 J.1.2.2.2.1 && (Nat.ble T.2.2.1.1 J.1.2.2.1.1 && Nat.ble T.2.2.1.2 J.1.2.2.1.2) with
  | false => false
  | true => (rx_gss n0 T J.1 J.2.1 (fun th pi => some (rx_subB T J.1 th pi && (rx_dec T.1 th mS J.2.2 && (rx_idB na pi && rx_idT n0 th))))).getD false
noncomputable def rx_toO (na n0 : Nat) (T : rx_T) (J : rx_T × (List (Nat × Nat) × List (Nat × Nat))) : Bool := match J.1.2.2.2.2.1 with
  | [] => (rx_gss n0 T J.1 J.2 (fun th pi => some (rx_subB T J.1 th pi && (rx_idB na pi && rx_idT n0 th)))).getD false
  | _ :: _ => false
theorem rx_gtd {β : Type} {f : β → Bool} {o : Option Bool} (h : o.getD false = true) : o = some true := by
  cases o with
  | none => cases h
  | some x => exact congrArg some h
/-- a cut's run: to the next cuts, to ends -/
noncomputable def rx_chkC (N : List (List rx_V)) (call : Nat → List rx_V → rx_Y → List rx_C → Option rx_O) (M : rx_Md) (fuel na n0 : Nat) (stops : List Nat) (cuts : List rx_Cu) (outs : List (rx_T × (List (Nat × Nat) × List (Nat × Nat)))) (J : rx_Cu) : Bool := match rx_by N call M (rx_go N call M stops fuel) (rx_look M J.1.2.2.2.1) J.1.1 J.1.2.1 J.1.2.2.1 J.1.2.2.2.2.1 J.1.2.2.2.2.2 with
  | none => false
  | some L => rx_ps0 J.1.1 J.2.2.1 J.2.2.2 && rx_allR (fun T => match rx_isin stops T.2.2.2.1 with
    | true => cuts.any (fun K => rx_toC na n0 J.2.2 T K)
    | false => (Nat.ble T.2.2.1.1 M.2.2.2.2.2.2.1 && Nat.ble T.2.2.1.2 M.2.2.2.2.2.2.2.1) && outs.any (fun o => rx_toO na n0 T o)) L
section RXU
variable {p : Program} {l : Launch} {e : Env} {R : Room} {s : State} {m : MethodId} {args : Array Value} {below : List Frame} {meth : Method} {c : Code} {b : (Nat → Option Nat) × List Int} {D : va_G} {nL : Nat} {cc : ByteArray} {own nm : String}
theorem rx_cuts_ok {N : List (List rx_V)} {MT : List rx_Md} {M : rx_Md} {Z : State → Heap → Prop} {sz0 fuel : Nat} {stops : List Nat} {call : Nat → List rx_V → rx_Y → List rx_C → Option rx_O} {gE : List Int} {tE : List (ClassId × FieldType)} {wsE : va_W} {cuts : List rx_Cu} {outs : List (rx_T × (List (Nat × Nat) × List (Nat × Nat)))} (hb2 : b.2 = []) (C : rx_Cx p s m args c cc own nL) (hcl : rx_Clok N) (hT : rx_Tok MT cc own nm M) (hmn : meth.name = nm) (hret : meth.sig.returnType = M.2.2.2.1) (hlocks : meth.locks = false) (hR : R.cells = M.2.2.2.2.2.2.1 ∧ R.slots = M.2.2.2.2.2.2.2.1 ∧ 1 ≤ R.frames ∧ 60 ≤ R.locals) (hnL : M.2.2.1 = nL) (hZ : rx_Zp b Z sz0) (hZs : Z s s.heap) (hsz : sz0 ≤ s.heap.size) (hA0 : ∀ q, va_A wsE s.heap.size q → sz0 ≤ q) (hcall : rx_Hc l b D Z sz0 MT R call)
    (hcu : ∀ J ∈ cuts, rx_chkC N call M fuel wsE.length gE.length stops cuts outs J = true) :
    ∀ (n : Nat) (J : rx_Cu), J ∈ cuts → ∀ (g : List Int) (tys : List (ClassId × FieldType)) (ws : va_W) (lv : List (Nat × Value)) (H : Heap) (locs : List Loc) (ls : Array Slot) (st : List Value) (z : Int), (rx_le gE g ∧ rx_le (wsE.map Prod.fst) (ws.map Prod.fst) ∧ ∀ q ∈ tE, q ∈ tys) → rx_g J.1.1 g → rx_h b g tys J.1.2.1 ws → va_K D vwCl tys s → va_P D vwCl ws H → va_D (va_A wsE s.heap.size) ws → va_S (va_A wsE s.heap.size) s.heap H locs → rx_ls b (ws.map Prod.fst) g J.1.2.2.2.2.1 lv → lv_has ls nL lv → rx_vs b (ws.map Prod.fst) g J.1.2.2.2.2.2 st → rx_lin g J.2.2.1 z → (z + J.2.2.2).toNat < n →
      W p l e R s m args below meth c H locs J.1.2.2.1.1 J.1.2.2.1.2 (MQ below (rx_Qc b D gE tE wsE s.heap.size (outs.map Prod.fst)) args s M.2.2.2.2.2.2.1 M.2.2.2.2.2.2.2.1 (va_A wsE s.heap.size)) (F0 m J.1.2.2.2.1 ls st) := by
  intro n
  induction n with
  | zero => exact fun J _ g tys ws lv H locs ls st z _ _ _ _ _ _ _ _ _ _ _ h => absurd h (Nat.not_lt_zero _)
  | succ n ihn =>
    intro J hJ g tys ws lv H locs ls st z hE hG hH hK hP hD hS hl hv hst hz hn
    have hJ1 := hcu J hJ
    unfold rx_chkC at hJ1
    split at hJ1
    · cases hJ1
    · rename_i L hL
      rw [Bool.and_eq_true] at hJ1
      obtain ⟨hps, hall⟩ := hJ1
      have hpos := rx_ps0_ok hG hps hz
      have hall := rx_allR_ok hall
      have hA : ∀ q, s.heap.size ≤ q → va_A wsE s.heap.size q := fun q h => Or.inr h
      have key := rx_by_ok (p := p) (e := e) (below := below) (A := va_A wsE s.heap.size) (g0 := g) (a0 := ws.map Prod.fst) (t0 := tys) (Q := MQ below (rx_Qc b D gE tE wsE s.heap.size (outs.map Prod.fst)) args s M.2.2.2.2.2.2.1 M.2.2.2.2.2.2.2.1 (va_A wsE s.heap.size)) C hcl hT hmn hR hnL hZ hZs hsz hA hA0 hcall (n := fuel) (fun sy h nn pc lc sa L h1 => rx_go_ok C hcl hT hmn hR hnL hZ hZs hsz hA hA0 hcall fuel sy h nn pc lc sa L h1) _ _ _ _ _ _ L hL
      refine key.2 (fun T hTL => ?_) H locs ls st ⟨g, tys, ws, lv, ⟨rx_le.rf, rx_le.rf, fun _ q => q⟩, hG, hH, hK, hP, hD, hS, hl, hv, hst⟩
      have hT1 := hall T hTL
      cases hin : rx_isin stops T.2.2.2.1 with
      | true =>
        rw [hin] at hT1
        obtain ⟨J2, hJ2, h1⟩ := List.any_eq_true.mp hT1
        unfold rx_toC at h1
        split at h1
        · cases h1
        · rename_i hpc
          simp only [Bool.and_eq_true] at hpc
          have e1 := Nat.eq_of_beq_eq_true hpc.1
          have e2 := Nat.le_of_ble_eq_true hpc.2.1
          have e3 := Nat.le_of_ble_eq_true hpc.2.2
          obtain ⟨th, pi, h2⟩ := rx_gss_ok (rx_gtd (f := fun x : Bool => x) h1)
          have h2 := Option.some.inj h2
          simp only [Bool.and_eq_true] at h2
          obtain ⟨hsub, hdec, hidB, hidT⟩ := h2
          intro H1 locs1 ls1 st1 hat
          obtain ⟨g1, tys1, ws1, lv1, hE1, hG1, hH1, hK1, hP1, hD1, hS1, hl1, hv1, hst1⟩ := hat
          obtain ⟨g2, ws2, lv2, hTh, hG2, hH2, hP2, hD2, hl2, hv2, hst2, hA2⟩ := rx_sub_ok hb2 hsub hG1 hH1 hP1 hD1 hl1 hv1 hst1
          obtain ⟨z2, hz2, hlt⟩ := rx_dec_ok hG1 hTh hdec (hz.mono hE1.1)
          have hps2 : rx_ps0 J2.1.1 J2.2.2.1 J2.2.2.2 = true := by
            have hJ3 := hcu J2 hJ2
            unfold rx_chkC at hJ3
            split at hJ3
            · cases hJ3
            · rw [Bool.and_eq_true] at hJ3
              exact hJ3.1
          have hpos2 := rx_ps0_ok hG2 hps2 hz2
          rw [e1]
          refine W.widen e2 e3 (ihn J2 hJ2 g2 tys1 ws2 lv2 H1 locs1 ls1 st1 z2 ⟨rx_Th_id hTh hidT (hE.1.tr hE1.1) rfl, fun i r hr => ?_, fun q hq => hE1.2.2 q (hE.2.2 q hq)⟩ hG2 hH2 hK1 hP2 hD2 hS1 hl2 hv2 hst2 hz2 (by omega))
          have hi : i < wsE.length := by
            have := (List.getElem?_eq_some_iff.mp hr).1
            rw [List.length_map] at this
            exact this
          exact hA2 i i r (rx_idB_ok hidB hi) ((hE.2.1.tr hE1.2.1) i r hr)
      | false =>
        rw [hin] at hT1
        rw [Bool.and_eq_true, Bool.and_eq_true] at hT1
        obtain ⟨⟨hc1, hc2⟩, hT2⟩ := hT1
        have hend : rx_ends M T = true := by
          rcases key.1 T hTL with q | q
          · rw [hin] at q; cases q
          · exact q
        obtain ⟨J2, hJ2, h1⟩ := List.any_eq_true.mp hT2
        unfold rx_toO at h1
        split at h1
        · rename_i hlc
          obtain ⟨th, pi, h2⟩ := rx_gss_ok (rx_gtd (f := fun x : Bool => x) h1)
          have h2 := Option.some.inj h2
          simp only [Bool.and_eq_true] at h2
          obtain ⟨hsub, hidB, hidT⟩ := h2
          refine rx_ret_go2 C hT hret hlocks hend (Nat.le_of_ble_eq_true hc1) (Nat.le_of_ble_eq_true hc2) fun g1 tys1 ws1 v H1 hE1 hG1 hH1 hv1 hP1 hD1 => ?_
          have hl1 : rx_ls b (ws1.map Prod.fst) g1 [] [] := trivial
          have hsub2 : rx_subB (T.1, T.2.1, T.2.2.1, T.2.2.2.1, [], T.2.2.2.2.2) J2.1 th pi = true := by
            unfold rx_subB at hsub ⊢
            rw [hlc] at hsub ⊢
            exact hsub
          obtain ⟨g2, ws2, lv2, hTh, hG2, hH2, hP2, hD2, -, -, hst2, hA2⟩ := rx_sub_ok (nL := nL) (ls := ls) hb2 hsub2 hG1 hH1 hP1 hD1 hl1 ⟨hv.1, hv.2.1, fun q hq => by cases hq⟩ hv1
          refine ⟨J2.1, List.mem_map.mpr ⟨J2, hJ2, rfl⟩, g2, ws2, ⟨rx_Th_id hTh hidT (hE.1.tr hE1.1) rfl, fun i r hr => ?_, fun q hq => hE1.2.2 q (hE.2.2 q hq)⟩, hG2, hH2, hst2, hP2, hD2⟩
          have hi : i < wsE.length := by
            have := (List.getElem?_eq_some_iff.mp hr).1
            rw [List.length_map] at this
            exact this
          exact hA2 i i r (rx_idB_ok hidB hi) ((hE.2.1.tr hE1.2.1) i r hr)
        · cases h1
end RXU
