/-! ===== a contract out of a check ===== -/
theorem rx_lin_ex {sy : rx_Y} {g : List Int} (hG : rx_g sy g) : ∀ {l : List (Int × Nat)} {m : Int}, rx_lbs sy l = some m → ∃ z, rx_lin g l z
  | [], _, _ => ⟨0, rfl⟩
  | t :: l, m, h => by
    unfold rx_lbs at h
    rw [rx_nth_eq] at h
    split at h
    · rename_i r hr
      split at h
      · rename_i m1 hm1
        obtain ⟨z, hz⟩ := rx_lin_ex hG hm1
        have hl : t.2 < g.length := by rw [hG.1.1]; exact (List.getElem?_eq_some_iff.mp hr).1
        exact ⟨t.1 * g[t.2] + z, g[t.2], z, List.getElem?_eq_getElem hl, hz, rfl⟩
      · cases h
    · cases h
def rx_isS {α : Type} (o : Option α) : Bool := match o with
  | some _ => true
  | none => false
noncomputable def rx_ent (K : rx_KE) (m0 : List (Int × Nat) × Int) : rx_Cu := ((K.2.2.1.1, K.2.2.1.2.1, (0, 0), 0, rx_args 0 K.2.2.1.2.2, []), ([], []), m0)
noncomputable def rx_vfy (N : List (List rx_V)) (MT : List rx_Md) (KT : List rx_KE) (fuel : Nat) (K : rx_KE) (M : rx_Md) (m0 : List (Int × Nat) × Int) (rest : List rx_Cu) (outs : List (rx_T × (List (Nat × Nat) × List (Nat × Nat)))) : Bool :=
  (Nat.ble (rx_cats K.2.2.1.2.2) M.2.2.1 && rx_isS (rx_lbs K.2.2.1.1 m0.1)) && rx_allR (rx_chkC N (rx_fcall N MT (rx_ext MT KT) fuel K.1.2) M fuel (rx_lenR K.2.2.1.2.1) (rx_lenR K.2.2.1.1.1) (rest.map (fun J => J.1.2.2.2.1)) (rx_ent K m0 :: rest) outs) (rx_ent K m0 :: rest)
theorem rx_verify {l : Launch} {D : va_G} {Zb : (Nat → Option Nat) × List Int → State → Heap → Prop} {sz0 : Nat} {N : List (List rx_V)} {MT : List rx_Md} {KT : List rx_KE} {fuel : Nat} {K : rx_KE} {M : rx_Md} {m0 : List (Int × Nat) × Int} {rest : List rx_Cu} {outs : List (rx_T × (List (Nat × Nat) × List (Nat × Nat)))} (hZb : ∀ (b b0 : (Nat → Option Nat) × List Int) (U : State) (H : Heap), (∀ u, u < 100 → b0.1 u = b.1 u) → b0.2 = b.2 → Zb b U H → Zb b0 U H) (hZp : ∀ b, rx_Zp b (Zb b) sz0) (hcl : rx_Clok N) (hMT : rx_MTok MT) (hKT : ∀ K ∈ KT, rx_KV l D Zb sz0 MT K) (hM : MT[K.1.1]? = some M) (ho : outs.map Prod.fst = K.2.2.2) (h : rx_vfy N MT KT fuel K M m0 rest outs = true) : rx_KV l D Zb sz0 MT K := by
  obtain ⟨hok, htab⟩ := hMT _ M hM
  refine ⟨M, hM, hok, fun b hb2 => ?_⟩
  unfold rx_vfy at h
  rw [Bool.and_eq_true, Bool.and_eq_true] at h
  obtain ⟨⟨hcats, hlb⟩, hall⟩ := h
  have hall := rx_allR_ok hall
  rw [rx_lenR_eq, rx_lenR_eq] at hall
  intro g tys ws vs sz hG hH hvs
  refine Met.ofW (cc := M.2.1) (maxL := M.2.2.1) (ret := M.2.2.2.1) hok.2.2.2.2.1 rfl ?_
  intro p e s m args below meth c s₁ B hml hv
  obtain ⟨rfl, hsz, hP, hK, hD0, hsz0, hpr, hZs⟩ := hv
  subst hsz
  have hts : ∀ w ∈ rx_Gd, w.before vs.toArray s = true := fun w hw => atoms_spec (ws := rx_ws M) B.pre w (List.mem_cons_of_mem _ hw)
  have C : rx_Cx p s m vs.toArray c M.2.1 M.1.cls M.2.2.1 := ⟨B.exec, B.bytes, hml, findClass_of_methodNamed B.named, hts, hpr⟩
  have hmn : meth.name = M.1.name := (name_of_methodNamed B.named B.method).1
  have hl := lv_entry vs (n := M.2.2.1) (by rw [rx_cats_len hvs]; exact Nat.le_of_ble_eq_true hcats)
  rw [lg_entry_eq]
  generalize (lg_sl vs ++ List.replicate (M.2.2.1 - (lg_sl vs).length) Slot.unset).toArray = ls at hl ⊢
  have hA0 : ∀ q, va_A ws s.heap.size q → sz0 ≤ q := by
    intro q hq
    rcases hq with ⟨k, e', hk⟩ | hq
    · exact hD0.2 k _ hk
    · exact Nat.le_trans hsz0 hq
  have hcall : rx_Hc l b D (Zb b) sz0 MT (headSpec (rx_ws M) (rx_rm K.1.2 M)).room (rx_fcall N MT (rx_ext MT KT) fuel K.1.2) := by
    intro mi' as' sy' h' r' hr'
    obtain ⟨d', hd', M', h1, h2, h3, h4⟩ := rx_fcall_ok hcl hMT (hZp b) (rx_ext_ok hZb hb2 hKT) K.1.2 mi' as' sy' h' r' hr'
    exact ⟨M', d', h1, h2, h3, ⟨(by show d' + 2 ≤ K.1.2 + 1; omega), (by show 100 * (d' + 2) ≤ 100 * (K.1.2 + 1); omega)⟩, h4⟩
  have hR : (headSpec (rx_ws M) (rx_rm K.1.2 M)).room.cells = M.2.2.2.2.2.2.1 ∧ (headSpec (rx_ws M) (rx_rm K.1.2 M)).room.slots = M.2.2.2.2.2.2.2.1 ∧ 1 ≤ (headSpec (rx_ws M) (rx_rm K.1.2 M)).room.frames ∧ 60 ≤ (headSpec (rx_ws M) (rx_rm K.1.2 M)).room.locals := ⟨rfl, rfl, Nat.succ_le_succ (Nat.zero_le _), by show 60 ≤ 100 * (K.1.2 + 1); omega⟩
  have hwl : K.2.2.1.2.1.length = ws.length := hH.1
  have hgl : K.2.2.1.1.1.length = g.length := hG.1.1.symm
  rw [hwl, hgl] at hall
  obtain ⟨z, hz⟩ : ∃ z, rx_lin g m0.1 z := by
    cases hq : rx_lbs K.2.2.1.1 m0.1 with
    | none => rw [hq] at hlb; cases hlb
    | some m1 => exact rx_lin_ex hG hq
  have key := rx_cuts_ok (p := p) (e := e) (below := below) (gE := g) (tE := tys) (wsE := ws) hb2 C hcl htab hmn B.returns B.notSynchronized hR rfl (hZp b) hZs hsz0 hA0 hcall hall ((z + m0.2).toNat + 1) (rx_ent K m0) List.mem_cons_self g tys ws (lv_args 0 vs) s.heap [] ls [] z ⟨rx_le.rf, rx_le.rf, fun _ q => q⟩ hG hH hK hP hD0.self va_S.rf (rx_args_ok 0 hvs) hl trivial hz (Nat.lt_succ_self _)
  rw [ho] at key
  exact key
