/-! ===== where values go one by one; contracts that hold ===== -/
def rx_fli (i : Instr) : Bool := match i with
  | .iload _ => true
  | .iload_n _ => true
  | .iaload => true
  | .baload => true
  | .laload => true
  | .iastore => true
  | .bastore => true
  | .lastore => true
  | .imul => true
  | _ => false
noncomputable def rx_fle (fl : List Nat) (i : rx_E) : rx_E := match rx_isin fl i.1 && rx_fli i.2.1 with
  | true => (i.1, i.2.1, i.2.2.1, 1, i.2.2.2.2)
  | false => i
noncomputable def rx_flag (fl : List Nat) (M : rx_Md) : rx_Md := match fl with
  | [] => M
  | _ :: _ => (M.1, M.2.1, M.2.2.1, M.2.2.2.1, M.2.2.2.2.1, M.2.2.2.2.2.1, M.2.2.2.2.2.2.1, M.2.2.2.2.2.2.2.1, M.2.2.2.2.2.2.2.2.map (fun l => l.map (rx_fle fl)))
theorem rx_flag_tok {MT : List rx_Md} {cc : ByteArray} {own nm : String} {M : rx_Md} (fl : List Nat) (h : rx_Tok MT cc own nm M) : rx_Tok MT cc own nm (rx_flag fl M) := by
  cases fl with
  | nil => exact h
  | cons a fl =>
    intro l hl i hi
    obtain ⟨l0, hl0, rfl⟩ := List.mem_map.mp hl
    obtain ⟨i0, hi0, rfl⟩ := List.mem_map.mp hi
    have h1 := h l0 hl0 i0 hi0
    unfold rx_fle
    split
    · rename_i hb
      rw [Bool.and_eq_true] at hb
      obtain ⟨pc, ins, len, u, w, x, z⟩ := i0
      refine ⟨h1.1, ?_⟩
      have h2 := hb.2
      dsimp only at h2 ⊢
      cases ins <;> first | (cases h2; done) | exact ⟨⟨trivial, trivial⟩, trivial, trivial⟩
    · exact h1
theorem rx_flag_eq (fl : List Nat) (M : rx_Md) : (rx_flag fl M).1 = M.1 ∧ (rx_flag fl M).2.1 = M.2.1 ∧ (rx_flag fl M).2.2.1 = M.2.2.1 ∧ (rx_flag fl M).2.2.2.1 = M.2.2.2.1 ∧ (rx_flag fl M).2.2.2.2.2.2.1 = M.2.2.2.2.2.2.1 ∧ (rx_flag fl M).2.2.2.2.2.2.2.1 = M.2.2.2.2.2.2.2.1 := by
  cases fl <;> exact ⟨rfl, rfl, rfl, rfl, rfl, rfl⟩
/-- what stays true of the start -/
def rx_ZC (sz0 : Nat) (Zb : (Nat → Option Nat) × List Int → State → Heap → Prop) : Prop := (∀ (b b0 : (Nat → Option Nat) × List Int) (U : State) (H : Heap), (∀ u, u < 100 → b0.1 u = b.1 u) → b0.2 = b.2 → Zb b U H → Zb b0 U H) ∧ ∀ b, rx_Zp b (Zb b) sz0
def rx_OK (K : rx_KE) : Prop := ∀ (l : Launch) (D : va_G) (sz0 : Nat) (Zb : (Nat → Option Nat) × List Int → State → Heap → Prop), rx_ZC sz0 Zb → rx_KV l D Zb sz0 rx_MT K
noncomputable def rx_vfy2 (KT : List rx_KE) (fuel : Nat) (K : rx_KE) (M : rx_Md) (m0 : List (Int × Nat) × Int) (rest : List rx_Cu) (outs : List (rx_T × (List (Nat × Nat) × List (Nat × Nat)))) : Bool :=
  (Nat.ble (rx_cats K.2.2.1.2.2) M.2.2.1 && rx_isS (rx_lbs K.2.2.1.1 m0.1)) && rx_allR (rx_chkC rx_NW (rx_fcall rx_NW rx_MT (rx_ext rx_MT KT) fuel K.1.2) M fuel (rx_lenR K.2.2.1.2.1) (rx_lenR K.2.2.1.1.1) (rest.map (fun J => J.1.2.2.2.1)) (rx_ent K m0 :: rest) outs) (rx_ent K m0 :: rest)
theorem rx_ok_of {KT : List rx_KE} {fuel : Nat} {K : rx_KE} {M0 : rx_Md} {fl : List Nat} {m0 : List (Int × Nat) × Int} {rest : List rx_Cu} {outs : List (rx_T × (List (Nat × Nat) × List (Nat × Nat)))} (hKT : ∀ K ∈ KT, rx_OK K) (hM : rx_MT[K.1.1]? = some M0) (ho : outs.map Prod.fst = K.2.2.2) (h : rx_vfy2 KT fuel K (rx_flag fl M0) m0 rest outs = true) : rx_OK K := by
  intro l D sz0 Zb hZC
  obtain ⟨hok, htab0⟩ := rx_mtok _ M0 hM
  refine ⟨M0, hM, hok, fun b hb2 => ?_⟩
  have htab : rx_Tok rx_MT M0.2.1 M0.1.cls M0.1.name (rx_flag fl M0) := rx_flag_tok fl htab0
  obtain ⟨f1, f2, f3, f4, f5, f6⟩ := rx_flag_eq fl M0
  generalize rx_flag fl M0 = M at h htab f1 f2 f3 f4 f5 f6
  unfold rx_vfy2 at h
  rw [Bool.and_eq_true, Bool.and_eq_true] at h
  obtain ⟨⟨hcats, hlb⟩, hall⟩ := h
  have hall := rx_allR_ok hall
  rw [rx_lenR_eq, rx_lenR_eq] at hall
  intro g tys ws vs sz hG hH hvs
  refine Met.ofW (cc := M0.2.1) (maxL := M0.2.2.1) (ret := M0.2.2.2.1) hok.2.2.2.2.1 rfl ?_
  intro p e s m args below meth c s₁ B hml hv
  obtain ⟨rfl, hsz, hP, hK, hD0, hsz0, hpr, hZs⟩ := hv
  subst hsz
  have hts : ∀ w ∈ rx_Gd, w.before vs.toArray s = true := fun w hw => atoms_spec (ws := rx_ws M0) B.pre w (List.mem_cons_of_mem _ hw)
  have C : rx_Cx p s m vs.toArray c M0.2.1 M0.1.cls M0.2.2.1 := ⟨B.exec, B.bytes, hml, findClass_of_methodNamed B.named, hts, hpr⟩
  have hmn : meth.name = M0.1.name := (name_of_methodNamed B.named B.method).1
  have hl := lv_entry vs (n := M0.2.2.1) (by rw [rx_cats_len hvs, ← f3]; exact Nat.le_of_ble_eq_true hcats)
  rw [lg_entry_eq]
  generalize (lg_sl vs ++ List.replicate (M0.2.2.1 - (lg_sl vs).length) Slot.unset).toArray = ls at hl ⊢
  have hA0 : ∀ q, va_A ws s.heap.size q → sz0 ≤ q := by
    intro q hq
    rcases hq with ⟨k, e', hk⟩ | hq
    · exact hD0.2 k _ hk
    · exact Nat.le_trans hsz0 hq
  have hcall : rx_Hc l b D (Zb b) sz0 rx_MT (headSpec (rx_ws M0) (rx_rm K.1.2 M0)).room (rx_fcall rx_NW rx_MT (rx_ext rx_MT KT) fuel K.1.2) := by
    intro mi' as' sy' h' r' hr'
    obtain ⟨d', hd', M', h1, h2, h3, h4⟩ := rx_fcall_ok rx_clok rx_mtok (hZC.2 b) (rx_ext_ok hZC.1 hb2 (fun K hk => hKT K hk l D sz0 Zb hZC)) K.1.2 mi' as' sy' h' r' hr'
    exact ⟨M', d', h1, h2, h3, ⟨(by show d' + 2 ≤ K.1.2 + 1; omega), (by show 100 * (d' + 2) ≤ 100 * (K.1.2 + 1); omega)⟩, h4⟩
  have hR : (headSpec (rx_ws M0) (rx_rm K.1.2 M0)).room.cells = M.2.2.2.2.2.2.1 ∧ (headSpec (rx_ws M0) (rx_rm K.1.2 M0)).room.slots = M.2.2.2.2.2.2.2.1 ∧ 1 ≤ (headSpec (rx_ws M0) (rx_rm K.1.2 M0)).room.frames ∧ 60 ≤ (headSpec (rx_ws M0) (rx_rm K.1.2 M0)).room.locals := ⟨f5.symm, f6.symm, Nat.succ_le_succ (Nat.zero_le _), by show 60 ≤ 100 * (K.1.2 + 1); omega⟩
  have hwl : K.2.2.1.2.1.length = ws.length := hH.1
  have hgl : K.2.2.1.1.1.length = g.length := hG.1.1.symm
  rw [hwl, hgl] at hall
  obtain ⟨z, hz⟩ : ∃ z, rx_lin g m0.1 z := by
    cases hq : rx_lbs K.2.2.1.1 m0.1 with
    | none => rw [hq] at hlb; cases hlb
    | some m1 => exact rx_lin_ex hG hq
  have key := rx_cuts_ok (p := p) (e := e) (below := below) (gE := g) (tE := tys) (wsE := ws) hb2 C rx_clok htab hmn (B.returns.trans f4.symm) B.notSynchronized hR f3 (hZC.2 b) hZs hsz0 hA0 hcall hall ((z + m0.2).toNat + 1) (rx_ent K m0) List.mem_cons_self g tys ws (lv_args 0 vs) s.heap [] ls [] z ⟨rx_le.rf, rx_le.rf, fun _ q => q⟩ hG hH hK hP hD0.self va_S.rf (rx_args_ok 0 hvs) hl trivial hz (Nat.lt_succ_self _)
  rw [ho, f5, f6] at key
  exact key
theorem rx_oknil : ∀ K ∈ ([] : List rx_KE), rx_OK K := fun K h => by cases h
theorem rx_okcons {K : rx_KE} {KT : List rx_KE} (h : rx_OK K) (t : ∀ K ∈ KT, rx_OK K) : ∀ J ∈ K :: KT, rx_OK J := List.forall_mem_cons.mpr ⟨h, t⟩
