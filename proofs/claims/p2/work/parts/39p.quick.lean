/-! ===== cuts and ends, walked side by side (the quick way of 38) ===== -/
noncomputable def rq_tt {β : Type} (n0 : Nat) (T S : rx_T) (ps : List (Nat × Nat)) (k : List rx_I → Option β) : Option β := rx_apR (rx_fp 0 (rx_lenR T.2.1)) [] (fun pi => rx_gth (rx_gT T pi) ps (S.1.1.drop n0) k)
theorem rq_tt_ok {β : Type} {n0 : Nat} {T S : rx_T} {ps : List (Nat × Nat)} {k : List rx_I → Option β} {x : β} (h : rq_tt n0 T S ps k = some x) : ∃ tt, k tt = some x := by
  unfold rq_tt at h
  rw [rx_apR_eq] at h
  exact rx_gth_ok h
noncomputable def rq_toC (na n0 : Nat) (mS : List (Int × Nat) × Int) (T : rx_T) (J : rx_Cu) : Bool := match Nat.beq T.2.2.2.1 J.1.2.2.2.1 && (Nat.ble T.2.2.1.1 J.1.2.2.1.1 && Nat.ble T.2.2.1.2 J.1.2.2.1.2) with
  | false => false
  | true => (rq_tt n0 T J.1 J.2.1.2 (fun tt => some (rx_subF n0 T J.1 tt && (rx_apR (rx_fn 0 n0) tt (fun th => rx_dec T.1 th mS J.2.2) && Nat.ble na (rx_lenR J.1.2.1))))).getD false
noncomputable def rq_toO (na n0 : Nat) (T : rx_T) (J : rx_T × (List (Nat × Nat) × List (Nat × Nat))) : Bool := match J.1.2.2.2.2.1 with
  | [] => (rq_tt n0 T J.1 J.2.2 (fun tt => some (rx_subF n0 T J.1 tt && Nat.ble na (rx_lenR J.1.2.1)))).getD false
  | _ :: _ => false
/-- a cut's run: to the next cuts, to ends -/
noncomputable def rq_chkC (N : List (List rx_V)) (call : Nat → List rx_V → rx_Y → List rx_C → Option rx_O) (M : rx_Md) (fuel na n0 : Nat) (stops : List Nat) (cuts : List rx_Cu) (outs : List (rx_T × (List (Nat × Nat) × List (Nat × Nat)))) (J : rx_Cu) : Bool := match rx_by N call M (rx_go N call M stops fuel) (rx_look M J.1.2.2.2.1) J.1.1 J.1.2.1 J.1.2.2.1 J.1.2.2.2.2.1 J.1.2.2.2.2.2 with
  | none => false
  | some L => rx_ps0 J.1.1 J.2.2.1 J.2.2.2 && rx_allR (fun T => match rx_isin stops T.2.2.2.1 with
    | true => cuts.any (fun K => rq_toC na n0 J.2.2 T K)
    | false => (Nat.ble T.2.2.1.1 M.2.2.2.2.2.2.1 && Nat.ble T.2.2.1.2 M.2.2.2.2.2.2.2.1) && outs.any (fun o => rq_toO na n0 T o)) L
section RQU
variable {p : Program} {l : Launch} {e : Env} {R : Room} {s : State} {m : MethodId} {args : Array Value} {below : List Frame} {meth : Method} {c : Code} {b : (Nat → Option Nat) × List Int} {D : va_G} {nL : Nat} {cc : ByteArray} {own nm : String}
theorem rq_cuts_ok {N : List (List rx_V)} {MT : List rx_Md} {M : rx_Md} {Z : State → Heap → Prop} {sz0 fuel : Nat} {stops : List Nat} {call : Nat → List rx_V → rx_Y → List rx_C → Option rx_O} {gE : List Int} {tE : List (ClassId × FieldType)} {wsE : va_W} {cuts : List rx_Cu} {outs : List (rx_T × (List (Nat × Nat) × List (Nat × Nat)))} (hb2 : b.2 = []) (C : rx_Cx p s m args c cc own nL) (hcl : rx_Clok N) (hT : rx_Tok MT cc own nm M) (hmn : meth.name = nm) (hret : meth.sig.returnType = M.2.2.2.1) (hlocks : meth.locks = false) (hR : R.cells = M.2.2.2.2.2.2.1 ∧ R.slots = M.2.2.2.2.2.2.2.1 ∧ 1 ≤ R.frames ∧ 60 ≤ R.locals) (hnL : M.2.2.1 = nL) (hZ : rx_Zp b Z sz0) (hZs : Z s s.heap) (hsz : sz0 ≤ s.heap.size) (hA0 : ∀ q, va_A wsE s.heap.size q → sz0 ≤ q) (hcall : rx_Hc l b D Z sz0 MT R call)
    (hcu : ∀ J ∈ cuts, rq_chkC N call M fuel wsE.length gE.length stops cuts outs J = true) :
    ∀ (n : Nat) (J : rx_Cu), J ∈ cuts → ∀ (g : List Int) (tys : List (ClassId × FieldType)) (ws : va_W) (lv : List (Nat × Value)) (H : Heap) (locs : List Loc) (ls : Array Slot) (st : List Value) (z : Int), (rx_le gE g ∧ rx_le (wsE.map Prod.fst) (ws.map Prod.fst) ∧ ∀ q ∈ tE, q ∈ tys) → rx_g J.1.1 g → rx_h b g tys J.1.2.1 ws → va_K D vwCl tys s → va_P D vwCl ws H → va_D (va_A wsE s.heap.size) ws → va_S (va_A wsE s.heap.size) s.heap H locs → rx_ls b (ws.map Prod.fst) g J.1.2.2.2.2.1 lv → lv_has ls nL lv → rx_vs b (ws.map Prod.fst) g J.1.2.2.2.2.2 st → rx_lin g J.2.2.1 z → (z + J.2.2.2).toNat < n →
      W p l e R s m args below meth c H locs J.1.2.2.1.1 J.1.2.2.1.2 (MQ below (rx_Qc b D gE tE wsE s.heap.size (outs.map Prod.fst)) args s M.2.2.2.2.2.2.1 M.2.2.2.2.2.2.2.1 (va_A wsE s.heap.size)) (F0 m J.1.2.2.2.1 ls st) := by
  intro n
  induction n with
  | zero => exact fun J _ g tys ws lv H locs ls st z _ _ _ _ _ _ _ _ _ _ _ h => absurd h (Nat.not_lt_zero _)
  | succ n ihn =>
    intro J hJ g tys ws lv H locs ls st z hE hG hH hK hP hD hS hl hv hst hz hn
    have hJ1 := hcu J hJ
    unfold rq_chkC at hJ1
    split at hJ1
    · cases hJ1
    · rename_i L hL
      rw [Bool.and_eq_true] at hJ1
      obtain ⟨hps, hall⟩ := hJ1
      have hpos := rx_ps0_ok hG hps hz
      have hall := rx_allR_ok hall
      have hA : ∀ q, s.heap.size ≤ q → va_A wsE s.heap.size q := fun q h => Or.inr h
      have key := rx_by_ok (p := p) (e := e) (below := below) (A := va_A wsE s.heap.size) (g0 := g) (a0 := ws.map Prod.fst) (t0 := tys) (Q := MQ below (rx_Qc b D gE tE wsE s.heap.size (outs.map Prod.fst)) args s M.2.2.2.2.2.2.1 M.2.2.2.2.2.2.2.1 (va_A wsE s.heap.size)) C hcl hT hmn hR hnL hZ hZs hsz hA hA0 hcall (n := fuel) (fun sy h nn pc lc sa L h1 => rx_go_ok C hcl hT hmn hR hnL hZ hZs hsz hA hA0 hcall fuel sy h nn pc lc sa L h1) _ _ _ _ _ _ L hL
      refine key.2 (fun T hTL => ?_) H locs ls st ⟨g, tys, ws, lv, ⟨rx_le.rf, rx_le.rf, fun _ q => q⟩, hG, hH, hK, hP, hD, hS, hl, hv, hst⟩
      have hT1 := hall T hTL
      cases hin : rx_isin stops T.2.2.2.1 with
      | true =>
        rw [hin] at hT1
        obtain ⟨J2, hJ2, h1⟩ := List.any_eq_true.mp hT1
        unfold rq_toC at h1
        split at h1
        · cases h1
        · rename_i hpc
          simp only [Bool.and_eq_true] at hpc
          have e1 := Nat.eq_of_beq_eq_true hpc.1
          have e2 := Nat.le_of_ble_eq_true hpc.2.1
          have e3 := Nat.le_of_ble_eq_true hpc.2.2
          obtain ⟨tt, h2⟩ := rq_tt_ok (rx_gtd (f := fun x : Bool => x) h1)
          have h2 := Option.some.inj h2
          simp only [Bool.and_eq_true] at h2
          obtain ⟨hsub, hdec, hna⟩ := h2
          have hna := Nat.le_of_ble_eq_true hna
          rw [rx_lenR_eq] at hna
          rw [rx_apR_eq] at hdec
          intro H1 locs1 ls1 st1 hat
          obtain ⟨g1, tys1, ws1, lv1, hE1, hG1, hH1, hK1, hP1, hD1, hS1, hl1, hv1, hst1⟩ := hat
          obtain ⟨g2, ws2, lv2, hTh, hG2, hH2, hP2, hD2, hl2, hv2, hst2, hA2⟩ := rx_subF_ok hb2 hsub hG1 hH1 hP1 hD1 hl1 hv1 hst1
          obtain ⟨z2, hz2, hlt⟩ := rx_dec_ok hG1 hTh hdec (hz.mono hE1.1)
          have hps2 : rx_ps0 J2.1.1 J2.2.2.1 J2.2.2.2 = true := by
            have hJ3 := hcu J2 hJ2
            unfold rq_chkC at hJ3
            split at hJ3
            · cases hJ3
            · rw [Bool.and_eq_true] at hJ3
              exact hJ3.1
          have hpos2 := rx_ps0_ok hG2 hps2 hz2
          rw [e1]
          refine W.widen e2 e3 (ihn J2 hJ2 g2 tys1 ws2 lv2 H1 locs1 ls1 st1 z2 ⟨rx_fn_le hTh (Nat.le_refl _) (hE.1.tr hE1.1) rfl, fun i r hr => ?_, fun q hq => hE1.2.2 q (hE.2.2 q hq)⟩ hG2 hH2 hK1 hP2 hD2 hS1 hl2 hv2 hst2 hz2 (by omega))
          have hi : i < wsE.length := by
            have := (List.getElem?_eq_some_iff.mp hr).1
            rw [List.length_map] at this
            exact this
          exact hA2 i r (Nat.lt_of_lt_of_le hi hna) ((hE.2.1.tr hE1.2.1) i r hr)
      | false =>
        rw [hin] at hT1
        rw [Bool.and_eq_true, Bool.and_eq_true] at hT1
        obtain ⟨⟨hc1, hc2⟩, hT2⟩ := hT1
        have hend : rx_ends M T = true := by
          rcases key.1 T hTL with q | q
          · rw [hin] at q; cases q
          · exact q
        obtain ⟨J2, hJ2, h1⟩ := List.any_eq_true.mp hT2
        unfold rq_toO at h1
        split at h1
        · rename_i hlc
          obtain ⟨tt, h2⟩ := rq_tt_ok (rx_gtd (f := fun x : Bool => x) h1)
          have h2 := Option.some.inj h2
          simp only [Bool.and_eq_true] at h2
          obtain ⟨hsub, hna⟩ := h2
          have hna := Nat.le_of_ble_eq_true hna
          rw [rx_lenR_eq] at hna
          refine rx_ret_go2 C hT hret hlocks hend (Nat.le_of_ble_eq_true hc1) (Nat.le_of_ble_eq_true hc2) fun g1 tys1 ws1 v H1 hE1 hG1 hH1 hv1 hP1 hD1 => ?_
          have hl1 : rx_ls b (ws1.map Prod.fst) g1 [] [] := trivial
          have hsub2 : rx_subF gE.length (T.1, T.2.1, T.2.2.1, T.2.2.2.1, [], T.2.2.2.2.2) J2.1 tt = true := by
            unfold rx_subF rx_subQ at hsub ⊢
            rw [hlc] at hsub ⊢
            exact hsub
          obtain ⟨g2, ws2, lv2, hTh, hG2, hH2, hP2, hD2, -, -, hst2, hA2⟩ := rx_subF_ok (nL := nL) (ls := ls) hb2 hsub2 hG1 hH1 hP1 hD1 hl1 ⟨hv.1, hv.2.1, fun q hq => by cases hq⟩ hv1
          refine ⟨J2.1, List.mem_map.mpr ⟨J2, hJ2, rfl⟩, g2, ws2, ⟨rx_fn_le hTh (Nat.le_refl _) (hE.1.tr hE1.1) rfl, fun i r hr => ?_, fun q hq => hE1.2.2 q (hE.2.2 q hq)⟩, hG2, hH2, hst2, hP2, hD2⟩
          have hi : i < wsE.length := by
            have := (List.getElem?_eq_some_iff.mp hr).1
            rw [List.length_map] at this
            exact this
          exact hA2 i r (Nat.lt_of_lt_of_le hi hna) ((hE.2.1.tr hE1.2.1) i r hr)
        · cases h1
end RQU
noncomputable def rq_vfy (KT : List rx_KE) (fuel : Nat) (K : rx_KE) (M : rx_Md) (m0 : List (Int × Nat) × Int) (rest : List rx_Cu) (outs : List (rx_T × (List (Nat × Nat) × List (Nat × Nat)))) : Bool :=
  (Nat.ble (rx_cats K.2.2.1.2.2) M.2.2.1 && rx_isS (rx_lbs K.2.2.1.1 m0.1)) && rx_allR (rq_chkC rx_NW (rx_fcall rx_NW rx_MT (rx_ext rx_MT KT) fuel K.1.2) M fuel (rx_lenR K.2.2.1.2.1) (rx_lenR K.2.2.1.1.1) (rest.map (fun J => J.1.2.2.2.1)) (rx_ent K m0 :: rest) outs) (rx_ent K m0 :: rest)
theorem rq_ok_of {KT : List rx_KE} {fuel : Nat} {K : rx_KE} {M0 : rx_Md} {fl : List Nat} {m0 : List (Int × Nat) × Int} {rest : List rx_Cu} {outs : List (rx_T × (List (Nat × Nat) × List (Nat × Nat)))} (hKT : ∀ K ∈ KT, rx_OK K) (hM : rx_MT[K.1.1]? = some M0) (ho : outs.map Prod.fst = K.2.2.2) (h : rq_vfy KT fuel K (rx_flag fl M0) m0 rest outs = true) : rx_OK K := by
  intro l D sz0 Zb hZC
  obtain ⟨hok, htab0⟩ := rx_mtok _ M0 hM
  refine ⟨M0, hM, hok, fun b hb2 => ?_⟩
  have htab : rx_Tok rx_MT M0.2.1 M0.1.cls M0.1.name (rx_flag fl M0) := rx_flag_tok fl htab0
  obtain ⟨f1, f2, f3, f4, f5, f6⟩ := rx_flag_eq fl M0
  generalize rx_flag fl M0 = M at h htab f1 f2 f3 f4 f5 f6
  unfold rq_vfy at h
  rw [Bool.and_eq_true, Bool.and_eq_true] at h
  obtain ⟨⟨hcats, hlb⟩, hall⟩ := h
  have hall := rx_allR_ok hall
  rw [rx_lenR_eq, rx_lenR_eq] at hall
  intro g tys ws vs sz hG hH hvs
  refine Met.ofW (cc := M0.2.1) (maxL := M0.2.2.1) (ret := M0.2.2.2.1) hok.2.2.2.2.1 rfl ?_
  intro p e s m args below meth c s₁ B hml hv
  obtain ⟨rfl, hsz, hP, hK, hD0, hsz0, hpr, hZs⟩ := hv
  subst hsz
  have hts : ∀ w ∈ rx_Gd, w.before vs.toArray s = true := fun w hw => atoms_spec (ws := rx_ws M0) B.pre w (List.mem_cons_of_mem _ hw)
  have C : rx_Cx p s m vs.toArray c M0.2.1 M0.1.cls M0.2.2.1 := ⟨B.exec, B.bytes, hml, findClass_of_methodNamed B.named, hts, hpr⟩
  have hmn : meth.name = M0.1.name := (name_of_methodNamed B.named B.method).1
  have hl := lv_entry vs (n := M0.2.2.1) (by rw [rx_cats_len hvs, ← f3]; exact Nat.le_of_ble_eq_true hcats)
  rw [lg_entry_eq]
  generalize (lg_sl vs ++ List.replicate (M0.2.2.1 - (lg_sl vs).length) Slot.unset).toArray = ls at hl ⊢
  have hA0 : ∀ q, va_A ws s.heap.size q → sz0 ≤ q := by
    intro q hq
    rcases hq with ⟨k, e', hk⟩ | hq
    · exact hD0.2 k _ hk
    · exact Nat.le_trans hsz0 hq
  have hcall : rx_Hc l b D (Zb b) sz0 rx_MT (headSpec (rx_ws M0) (rx_rm K.1.2 M0)).room (rx_fcall rx_NW rx_MT (rx_ext rx_MT KT) fuel K.1.2) := by
    intro mi' as' sy' h' r' hr'
    obtain ⟨d', hd', M', h1, h2, h3, h4⟩ := rx_fcall_ok rx_clok rx_mtok (hZC.2 b) (rx_ext_ok hZC.1 hb2 (fun K hk => hKT K hk l D sz0 Zb hZC)) K.1.2 mi' as' sy' h' r' hr'
    exact ⟨M', d', h1, h2, h3, ⟨(by show d' + 2 ≤ K.1.2 + 1; omega), (by show 100 * (d' + 2) ≤ 100 * (K.1.2 + 1); omega)⟩, h4⟩
  have hR : (headSpec (rx_ws M0) (rx_rm K.1.2 M0)).room.cells = M.2.2.2.2.2.2.1 ∧ (headSpec (rx_ws M0) (rx_rm K.1.2 M0)).room.slots = M.2.2.2.2.2.2.2.1 ∧ 1 ≤ (headSpec (rx_ws M0) (rx_rm K.1.2 M0)).room.frames ∧ 60 ≤ (headSpec (rx_ws M0) (rx_rm K.1.2 M0)).room.locals := ⟨f5.symm, f6.symm, Nat.succ_le_succ (Nat.zero_le _), by show 60 ≤ 100 * (K.1.2 + 1); omega⟩
  have hwl : K.2.2.1.2.1.length = ws.length := hH.1
  have hgl : K.2.2.1.1.1.length = g.length := hG.1.1.symm
  rw [hwl, hgl] at hall
  obtain ⟨z, hz⟩ : ∃ z, rx_lin g m0.1 z := by
    cases hq : rx_lbs K.2.2.1.1 m0.1 with
    | none => rw [hq] at hlb; cases hlb
    | some m1 => exact rx_lin_ex hG hq
  have key := rq_cuts_ok (p := p) (e := e) (below := below) (gE := g) (tE := tys) (wsE := ws) hb2 C rx_clok htab hmn (B.returns.trans f4.symm) B.notSynchronized hR f3 (hZC.2 b) hZs hsz0 hA0 hcall hall ((z + m0.2).toNat + 1) (rx_ent K m0) List.mem_cons_self g tys ws (lv_args 0 vs) s.heap [] ls [] z ⟨rx_le.rf, rx_le.rf, fun _ q => q⟩ hG hH hK hP hD0.self va_S.rf (rx_args_ok 0 hvs) hl trivial hz (Nat.lt_succ_self _)
  rw [ho, f5, f6] at key
  exact key
noncomputable def rq_chk2 (KT : List rx_KE) (fuel : Nat) (K : rx_KE) (M : rx_Md) (m0 : List (Int × Nat) × Int) (rest : List rx_Cu) (outs : List (rx_T × (List (Nat × Nat) × List (Nat × Nat)))) (l : List rx_Cu) : Bool :=
  rx_allR (rq_chkC rx_NW (rx_fcall rx_NW rx_MT (rx_ext rx_MT KT) fuel K.1.2) M fuel (rx_lenR K.2.2.1.2.1) (rx_lenR K.2.2.1.1.1) (rest.map (fun J => J.1.2.2.2.1)) (rx_ent K m0 :: rest) outs) l
theorem rq_vfy_of {KT : List rx_KE} {fuel : Nat} {K : rx_KE} {M : rx_Md} {m0 : List (Int × Nat) × Int} {rest : List rx_Cu} {outs : List (rx_T × (List (Nat × Nat) × List (Nat × Nat)))} {parts : List (List rx_Cu)} (hr : rest = parts.flatten) (h0 : (Nat.ble (rx_cats K.2.2.1.2.2) M.2.2.1 && rx_isS (rx_lbs K.2.2.1.1 m0.1)) = true) (h1 : rq_chk2 KT fuel K M m0 rest outs [rx_ent K m0] = true) (h2 : ∀ l ∈ parts, rq_chk2 KT fuel K M m0 rest outs l = true) : rq_vfy KT fuel K M m0 rest outs = true := by
  unfold rq_vfy
  rw [h0, Bool.true_and]
  refine rx_allR_of fun x hx => ?_
  rcases List.mem_cons.mp hx with rfl | hx
  · exact rx_allR_ok h1 _ List.mem_cons_self
  · rw [hr] at hx
    obtain ⟨l, hl, hx⟩ := List.mem_flatten.mp hx
    exact rx_allR_ok (h2 l hl) _ hx
