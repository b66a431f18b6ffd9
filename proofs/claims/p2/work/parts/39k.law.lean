/-! ===== the law's loop: what may be done with a goal, the script by hand ===== -/
/-- the law's table, with room for what one turn of its loop makes -/
def rx_mS : rx_Md := (rx_mL.1, rx_mL.2.1, rx_mL.2.2.1, rx_mL.2.2.2.1, rx_mL.2.2.2.2.1, rx_mL.2.2.2.2.2.1, 2, 12, rx_tL)
def rx_LR : Room := { frames := 2000, cells := 2, slots := 12, locals := 80000 }
theorem rx_tvS : rx_Tok rx_MT cL_law RL yL_law.name rx_mS := rx_tvL _
/-- rules: run on, other bounds, other names and order, the script's length, one of its ints -/
def rx_Rw (KT : List rx_KE) (d : Nat) (LE IS V0 N6 : Nat) (GG : rx_T → List Int → Prop) : Prop :=
  (∀ (stops : List Nat) (fuel : Nat) (T : rx_T) (g : List Int) (L : List rx_T), rx_run1 KT d rx_mS stops fuel T = some L → (∀ T' ∈ L, (rx_isin stops T'.2.2.2.1 = true ∨ rx_ends rx_mS T' = true) → ∀ g', rx_le g g' → rx_g T'.1 g' → GG T' g') → GG T g) ∧
  (∀ (T : rx_T) (g : List Int) (sy' : rx_Y), rx_g sy' g → GG (sy', T.2) g → GG T g) ∧
  (∀ (T S : rx_T) (th : List rx_I) (pi : List Nat) (g : List Int), T.2.2.2.1 = S.2.2.2.1 → T.2.2.1.1 ≤ S.2.2.1.1 → T.2.2.1.2 ≤ S.2.2.1.2 → ry_subG T S th pi = true → (∀ k, (k = LE ∨ k = IS ∨ (V0 ≤ k ∧ k < V0 + N6)) → th[k]? = some (k + 1, 0)) → (∀ g2, rx_Th th g g2 → rx_g S.1 g2 → GG S g2) → GG T g) ∧
  (∀ (T : rx_T) (g : List Int) (i : rx_E) (sa : List rx_V), rx_fe rx_tL T.2.2.2.1 = some i → i.2.1 = .arraylength → T.2.2.2.2.2 = .inr (.inr (.inr 50)) :: sa → LE < T.1.1.length → GG (T.1, T.2.1, T.2.2.1, T.2.2.2.1 + 1, T.2.2.2.2.1, .inl (LE + 1, 0) :: sa) g → GG T g) ∧
  (∀ (T : rx_T) (g : List Int) (i : rx_E) (k : Nat) (sa : List rx_V), rx_fe rx_tL T.2.2.2.1 = some i → i.2.1 = .iaload → k < N6 → T.2.2.2.2.2 = .inl (IS + 1, (k : Int)) :: .inr (.inr (.inr 50)) :: sa → IS < T.1.1.length → V0 + N6 ≤ T.1.1.length → GG (T.1, T.2.1, T.2.2.1, T.2.2.2.1 + 1, T.2.2.2.2.1, .inl (V0 + k + 1, 0) :: sa) g → GG T g)
section RXL
variable {p : Program} {l : Launch} {e : Env} {s : State} {m : MethodId} {args : Array Value} {below : List Frame} {meth : Method} {c : Code} {b : (Nat → Option Nat) × List Int} {D : va_G} {Q : State → Prop} {sz0 : Nat}
/-- a goal: from a state with these values the law comes to Q -/
def rx_GL (p : Program) (l : Launch) (e : Env) (s : State) (m : MethodId) (args : Array Value) (below : List Frame) (meth : Method) (c : Code) (b : (Nat → Option Nat) × List Int) (D : va_G) (sz0 : Nat) (Q : State → Prop) (P : List Int → Prop) (T : rx_T) (g : List Int) : Prop := P g → rx_g T.1 g → ∀ (a0 : List Nat) (t0 : List (ClassId × FieldType)), rx_Go p l e rx_LR s m args below meth c b D (fun q => sz0 ≤ q) g a0 t0 7 Q T
theorem rx_lawR {KT : List rx_KE} (hKT : ∀ K ∈ KT, rx_OK K) {d : Nat} (hd : d ≤ 300) (hb2 : b.2 = []) (C : rx_Cx p s m args c cL_law RL 7) (hmn : meth.name = yL_law.name) (hZs : rx_Zz b sz0 s s.heap) (hsz : sz0 ≤ s.heap.size) {a L : Nat} {xs : Nat → Int32} (ha : b.1 50 = some a) (hX : va_X a L xs s s.heap) (haz : a < sz0) {LE IS V0 i0 N6 : Nat} (hL31 : L < 2147483648) (hi0 : i0 + N6 ≤ L) :
    rx_Rw KT d LE IS V0 N6 (rx_GL p l e s m args below meth c b D sz0 Q (fun g => g[LE]? = some (L : Int) ∧ g[IS]? = some (i0 : Int) ∧ ∀ k, k < N6 → g[V0 + k]? = some (xs (i0 + k)).toInt)) := by
  have hA : ∀ q, s.heap.size ≤ q → sz0 ≤ q := fun q h => Nat.le_trans hsz h
  have hcall : ∀ fuel, rx_Hc l b D (rx_Zz b sz0) sz0 rx_MT rx_LR (rx_fcall rx_NW rx_MT (rx_ext rx_MT KT) fuel d) := by
    intro fuel mi' as' sy' h' r' hr'
    obtain ⟨d', hd', M', h1, h2, h3, h4⟩ := rx_fcall_ok rx_clok rx_mtok (rx_Zz_ok b sz0) (rx_ext_ok (Zb := fun b => rx_Zz b sz0) (rx_ZC_ok sz0).1 hb2 (fun K hk => hKT K hk l D sz0 _ (rx_ZC_ok sz0))) d mi' as' sy' h' r' hr'
    exact ⟨M', d', h1, h2, h3, ⟨(by show d' + 2 ≤ 2000; omega), (by show 100 * (d' + 2) ≤ 80000; omega)⟩, h4⟩
  have hR : rx_LR.cells = rx_mS.2.2.2.2.2.2.1 ∧ rx_LR.slots = rx_mS.2.2.2.2.2.2.2.1 ∧ 1 ≤ rx_LR.frames ∧ 60 ≤ rx_LR.locals := ⟨rfl, rfl, by decide, by decide⟩
  have mono : ∀ {g g' : List Int}, rx_le g g' → (g[LE]? = some (L : Int) ∧ g[IS]? = some (i0 : Int) ∧ ∀ k, k < N6 → g[V0 + k]? = some (xs (i0 + k)).toInt) → (g'[LE]? = some (L : Int) ∧ g'[IS]? = some (i0 : Int) ∧ ∀ k, k < N6 → g'[V0 + k]? = some (xs (i0 + k)).toInt) := fun h q => ⟨h _ _ q.1, h _ _ q.2.1, fun k hk => h _ _ (q.2.2 k hk)⟩
  have hbA : ¬ sz0 ≤ a := Nat.not_le.mpr haz
  have hbl : a < s.heap.size := Nat.lt_of_lt_of_le haz hsz
  refine ⟨?_, ?_, ?_, ?_, ?_⟩
  · intro stops fuel T g1 Lr hLr kk hPg hG1 a0 t0
    have key := rx_by_ok (p := p) (e := e) (below := below) (A := fun q => sz0 ≤ q) (g0 := g1) (a0 := a0) (t0 := t0) (Q := Q) C rx_clok rx_tvS hmn hR rfl (rx_Zz_ok b sz0) hZs hsz hA (fun q h => h) (hcall fuel) (n := fuel) (fun sy h nn pc lc sa L h1 => rx_go_ok C rx_clok rx_tvS hmn hR rfl (rx_Zz_ok b sz0) hZs hsz hA (fun q h => h) (hcall fuel) fuel sy h nn pc lc sa L h1) _ _ _ _ _ _ Lr hLr
    refine key.2 fun T' hT' => ?_
    intro H locs ls1 st hat
    obtain ⟨g', tys', ws', lv', hE', hG', hrest⟩ := hat
    exact kk T' hT' (key.1 T' hT') g' hE'.1 hG' (mono hE'.1 hPg) hG' (ws'.map Prod.fst) tys' H locs ls1 st ⟨g', tys', ws', lv', ⟨rx_le.rf, rx_le.rf, fun _ q => q⟩, hG', hrest⟩
  · intro T g1 sy' hsy kk hPg hG1 a0 t0 H locs ls1 st hat
    obtain ⟨g', tys', ws', lv', hE', hG', hrest⟩ := hat
    have e1 : g' = g1 := rx_le_eq hE'.1 (by rw [hG'.1.1, hG1.1.1])
    subst e1
    exact kk hPg hsy a0 t0 H locs ls1 st ⟨g', tys', ws', lv', hE', hsy, hrest⟩
  · intro T S th pi g1 hpc hc1 hc2 hsub hkeep kk hPg hG1 a0 t0 H locs ls1 st hat
    obtain ⟨g', tys', ws', lv', hE', hG', hH', hK', hP', hD', hS', hl', hv', hst'⟩ := hat
    have e1 : g' = g1 := rx_le_eq hE'.1 (by rw [hG'.1.1, hG1.1.1])
    subst e1
    obtain ⟨g2, ws2, lv2, hTh, hG2, hH2, hP2, hD2, hl2, hv2, hst2⟩ := ry_subG_ok hb2 hsub hG' hH' hP' hD' hl' hv' hst'
    have keep : ∀ k z, (k = LE ∨ k = IS ∨ (V0 ≤ k ∧ k < V0 + N6)) → g'[k]? = some z → g2[k]? = some z := by
      intro k z hk hz
      have h1 := hkeep k hk
      have h2 : k < g2.length := by rw [hTh.1]; exact (List.getElem?_eq_some_iff.mp h1).1
      obtain ⟨r, h3, h4⟩ := hTh.2 k _ (List.getElem?_eq_getElem h2)
      rw [h1] at h3
      cases h3
      obtain ⟨y, h5, h6⟩ := h4
      rw [hz] at h5
      cases h5
      rw [List.getElem?_eq_getElem h2, h6]
      congr 1
      omega
    rw [hpc]
    exact W.widen hc1 hc2 (kk g2 hTh hG2 ⟨keep _ _ (Or.inl rfl) hPg.1, keep _ _ (Or.inr (Or.inl rfl)) hPg.2.1, fun k hk => keep _ _ (Or.inr (Or.inr ⟨by omega, by omega⟩)) (hPg.2.2 k hk)⟩ hG2 (ws2.map Prod.fst) tys' H locs ls1 st ⟨g2, tys', ws2, lv2, ⟨rx_le.rf, rx_le.rf, fun _ q => q⟩, hG2, hH2, hK', hP2, hD2, hS', hl2, hv2, hst2⟩)
  · intro T g1 i sa hfe hin hsa hle kk hPg hG1 a0 t0 H locs ls1 st hat
    obtain ⟨⟨lt, hlt, hil⟩, hipc⟩ := rx_fe_ok hfe
    obtain ⟨hdc, -⟩ := rx_tvS lt hlt i hil
    obtain ⟨g', tys', ws', lv', hE', hG', hH', hK', hP', hD', hS', hl', hv', hst'⟩ := hat
    have e1 : g' = g1 := rx_le_eq hE'.1 (by rw [hG'.1.1, hG1.1.1])
    subst e1
    rw [hsa] at hst'
    obtain ⟨v1, w1, rfl, hv1, hst1⟩ := rx_vs_cons hst'
    have hv1 : v1 = va_rf (b.1 50) := hv1
    rw [ha] at hv1
    have hv1 : v1 = .ref a := hv1
    subst hv1
    obtain ⟨pc, ins, len, u, w', x', z⟩ := i
    dsimp only at hin hipc
    subst hin
    have hlen := rx_len hdc rfl
    subst hlen
    rw [← hipc]
    refine va_slen C.1 C.2.1 hX hbl hbA hS' hdc.1 ?_
    have fin := kk hPg hG1 a0 t0 H locs ls1 (.int (Int32.ofNat L) :: w1) ⟨g', tys', ws', lv', hE', hG', hH', hK', hP', hD', hS', hl', hv', ⟨⟨Int32.ofNat L, rfl, ⟨(L : Int), hPg.1, ?_⟩⟩, hst1⟩⟩
    · rw [← hipc] at fin
      exact fin
    · rw [Int.add_zero]
      exact Int32.toInt_ofNat_of_lt (by omega)
  · intro T g1 i k sa hfe hin hk6 hsa hle1 hle2 kk hPg hG1 a0 t0 H locs ls1 st hat
    obtain ⟨⟨lt, hlt, hil⟩, hipc⟩ := rx_fe_ok hfe
    obtain ⟨hdc, -⟩ := rx_tvS lt hlt i hil
    obtain ⟨g', tys', ws', lv', hE', hG', hH', hK', hP', hD', hS', hl', hv', hst'⟩ := hat
    have e1 : g' = g1 := rx_le_eq hE'.1 (by rw [hG'.1.1, hG1.1.1])
    subst e1
    rw [hsa] at hst'
    obtain ⟨v1, w1, rfl, ⟨iv, rfl, hiv⟩, hst1⟩ := rx_vs_cons hst'
    obtain ⟨v2, w2, rfl, hv2, hst2⟩ := rx_vs_cons hst1
    have hv2 : v2 = va_rf (b.1 50) := hv2
    rw [ha] at hv2
    have hv2 : v2 = .ref a := hv2
    subst hv2
    obtain ⟨y, hy1, hy2⟩ := hiv
    rw [hPg.2.1] at hy1
    cases hy1
    obtain ⟨pc, ins, len, u, w', x', z⟩ := i
    dsimp only at hin hipc
    subst hin
    have hlen := rx_len hdc rfl
    subst hlen
    rw [← hipc]
    have hnat : iv.toNatClampNeg = i0 + k := by
      show iv.toInt.toNat = i0 + k
      omega
    have hin9 : vp_in iv L := by
      intro q
      rcases q with q | q
      · have q1 : iv.toInt < (0 : Int32).toInt := Int32.lt_iff_toInt_lt.mp q
        have q2 : (0 : Int32).toInt = 0 := rfl
        omega
      · omega
    refine va_sld C.1 C.2.1 hX hbl hbA hS' hin9 hdc.1 ?_
    rw [hnat]
    have fin := kk hPg hG1 a0 t0 H locs ls1 (.int (xs (i0 + k)) :: w2) ⟨g', tys', ws', lv', hE', hG', hH', hK', hP', hD', hS', hl', hv', ⟨⟨xs (i0 + k), rfl, ⟨(xs (i0 + k)).toInt, hPg.2.2 k hk6, (Int.add_zero _).symm⟩⟩, hst2⟩⟩
    rw [← hipc] at fin
    exact fin
/-- a frame of the law seen from a later heap, and back -/
theorem rx_unbase {R R' : Room} {T t : State} {locs l2 : List Loc} {cells slots c2 n2 : Nat} (X : Stand p l e R s m args below meth c T locs cells slots) (Y : Stand p l e R' ((T.setVm s.vm).setFrames (.invoking m args :: below)) m args below meth c t l2 c2 n2) : Stand p l e R s m args below meth c t (locs ++ l2) (cells + c2) (slots + n2) := by
  refine ⟨X.admits, X.cas, X.clock, X.frames, X.room, X.hears, X.method, X.code, Y.here, Y.tail, ?_, ?_, ?_, ?_⟩
  · exact State.WarmedH.trans (show s.WarmedH ((T.setVm s.vm).setFrames (.invoking m args :: below)).vm from State.WarmedH.refl s) Y.warmed
  · have h := Y.limits
    rw [State.stackLimits_setFrames] at h
    exact h.trans X.limits
  · have h := Y.bytes
    rw [State.stackBytes_setFrames] at h
    exact h.trans X.bytes
  · obtain ⟨e1, e2⟩ := Y.same
    rw [State.setFrames_setFrames] at e1
    have h2 : (T.setVm s.vm).sameButNew (t.setVm s.vm) l2 c2 n2 := ⟨e1, e2⟩
    exact X.same.trans h2
end RXL
