section RXG
variable {p : Program} {l : Launch} {e : Env} {R : Room} {s : State} {m : MethodId} {args : Array Value} {below : List Frame} {meth : Method} {c : Code} {b : (Nat → Option Nat) × List Int} {D : va_G} {A : Nat → Prop} {g0 : List Int} {a0 : List Nat} {t0 : List (ClassId × FieldType)} {nL : Nat} {Q : State → Prop} {cc : ByteArray} {own nm : String}
theorem rx_do_go {N : List (List rx_V)} {M : rx_Md} {i : rx_E} {T : rx_T} {L : List rx_T} (C : rx_Cx p s m args c cc own nL) (hcl : rx_Clok N) (hd : rx_dc cc i) (hX : rx_Xf b A s s.heap) (hox : rx_okX own i) (hok : rx_okE own nm i) (hmn : meth.name = nm) (hR : R.cells = M.2.2.2.2.2.2.1 ∧ R.slots = M.2.2.2.2.2.2.2.1 ∧ 1 ≤ R.frames ∧ 60 ≤ R.locals) (hnL : M.2.2.1 = nL) (hA : ∀ q, s.heap.size ≤ q → A q) (hpc : T.2.2.2.1 = i.1) (h : rx_do N M i T = some (.inl L)) (K : ∀ T' ∈ L, rx_Go p l e R s m args below meth c b D A g0 a0 t0 nL Q T') : rx_Go p l e R s m args below meth c b D A g0 a0 t0 nL Q T := by
  unfold rx_do at h
  split at h
  · rename_i L' hg
    cases h
    exact rx_sA_ok C hd hpc hg K
  · split at h
    · rename_i L' hg
      cases h
      exact rx_sE_ok C hcl hd hok hmn hR hA hpc hg K
    · split at h
      · rename_i L' hg
        cases h
        exact rx_sD_ok C hd hpc hg K
      · split at h
        · rename_i L' hg
          cases h
          rw [hnL] at hg
          exact rx_sB_ok C hd hpc hg K
        · split at h
          · rename_i L' hg
            cases h
            exact rx_sC_ok C hd hpc hg K
          · split at h
            · rename_i L' hg
              cases h
              exact rx_sX_ok C hX hd hox hpc hg K
            · exfalso
              unfold rx_sF at h
              split at h
              · split at h
                · split at h
                  · split at h
                    · unfold rx_callB at h
                      split at h <;> cases h
                    · cases h
                  · cases h
                · split at h
                  · split at h
                    · unfold rx_callB at h
                      split at h <;> cases h
                    · cases h
                  · cases h
                · cases h
              · split at h
                · split at h
                  · split at h
                    · unfold rx_callB at h
                      split at h <;> cases h
                    · cases h
                  · cases h
                · cases h
              · split at h
                · unfold rx_callB at h
                  split at h <;> cases h
                · cases h
              · split at h <;> cases h
theorem rx_sl_go {N : List (List rx_V)} {M : rx_Md} {i : rx_E} {T : rx_T} {L : List rx_T} (C : rx_Cx p s m args c cc own nL) (hcl : rx_Clok N) (hd : rx_dc cc i) (hX : rx_Xf b A s s.heap) (hox : rx_okX own i) (hok : rx_okE own nm i) (hmn : meth.name = nm) (hR : R.cells = M.2.2.2.2.2.2.1 ∧ R.slots = M.2.2.2.2.2.2.2.1 ∧ 1 ≤ R.frames ∧ 60 ≤ R.locals) (hnL : M.2.2.1 = nL) (hA : ∀ q, s.heap.size ≤ q → A q) (hpc : T.2.2.2.1 = i.1) (h : rx_sl N M i T = some (.inl L)) (K : ∀ T' ∈ L, rx_Go p l e R s m args below meth c b D A g0 a0 t0 nL Q T') : rx_Go p l e R s m args below meth c b D A g0 a0 t0 nL Q T := by
  unfold rx_sl at h
  split at h
  · rename_i L0 h0
    cases h
    split at h0
    · rename_i k hk
      intro H locs ls st hat
      obtain ⟨g, tys, ws, lv, hE, hG, hH, hK, hP, hD, hS, hl, hv, hst⟩ := hat
      obtain ⟨sy', h1, h2⟩ := rx_sp_ok hG h0
      exact K (sy', T.2) (List.mem_map.mpr ⟨sy', h1, rfl⟩) H locs ls st ⟨g, tys, ws, lv, hE, h2, hH, hK, hP, hD, hS, hl, hv, hst⟩
    · cases h0
  · exact rx_do_go C hcl hd hX hox hok hmn hR hnL hA hpc h K
theorem rx_sp2_go {i : rx_E} {T : rx_T} {L : List rx_T} (h : rx_sp2 i T = some (.inl L)) (K : ∀ T' ∈ L, rx_Go p l e R s m args below meth c b D A g0 a0 t0 nL Q T') : rx_Go p l e R s m args below meth c b D A g0 a0 t0 nL Q T := by
  unfold rx_sp2 at h
  split at h
  · split at h
    · rename_i L0 h0
      cases h
      intro H locs ls st hat
      obtain ⟨g, tys, ws, lv, hE, hG, hH, hK, hP, hD, hS, hl, hv, hst⟩ := hat
      obtain ⟨sy', h1, h2⟩ := rx_sp_ok hG h0
      exact K (sy', T.2) (List.mem_map.mpr ⟨sy', h1, rfl⟩) H locs ls st ⟨g, tys, ws, lv, hE, h2, hH, hK, hP, hD, hS, hl, hv, hst⟩
    · cases h
  · cases h
theorem rx_sl3_go {N : List (List rx_V)} {M : rx_Md} {i : rx_E} {T : rx_T} {L : List rx_T} (C : rx_Cx p s m args c cc own nL) (hcl : rx_Clok N) (hd : rx_dc cc i) (hX : rx_Xf b A s s.heap) (hox : rx_okX own i) (hok : rx_okE own nm i) (hokN : rx_okN own i) (hmn : meth.name = nm) (hR : R.cells = M.2.2.2.2.2.2.1 ∧ R.slots = M.2.2.2.2.2.2.2.1 ∧ 1 ≤ R.frames ∧ 60 ≤ R.locals) (hnL : M.2.2.1 = nL) (hA : ∀ q, s.heap.size ≤ q → A q) (hpc : T.2.2.2.1 = i.1) (h : rx_sl3 N M i T = some (.inl L)) (K : ∀ T' ∈ L, rx_Go p l e R s m args below meth c b D A g0 a0 t0 nL Q T') : rx_Go p l e R s m args below meth c b D A g0 a0 t0 nL Q T := by
  unfold rx_sl3 at h
  split at h
  · rename_i L' hg
    cases h
    exact rx_sN_ok C hX hd hox hokN hR hpc hg K
  · split at h
    · rename_i r hg
      cases h
      exact rx_do_go C hcl hd hX hox hok hmn hR hnL hA hpc hg K
    · exact rx_sp2_go h K
theorem rx_sl2_go {N : List (List rx_V)} {M : rx_Md} {i : rx_E} {T : rx_T} {L : List rx_T} (C : rx_Cx p s m args c cc own nL) (hcl : rx_Clok N) (hd : rx_dc cc i) (hX : rx_Xf b A s s.heap) (hox : rx_okX own i) (hok : rx_okE own nm i) (hokN : rx_okN own i) (hmn : meth.name = nm) (hR : R.cells = M.2.2.2.2.2.2.1 ∧ R.slots = M.2.2.2.2.2.2.2.1 ∧ 1 ≤ R.frames ∧ 60 ≤ R.locals) (hnL : M.2.2.1 = nL) (hA : ∀ q, s.heap.size ≤ q → A q) (hpc : T.2.2.2.1 = i.1) (h : rx_sl2 N M i T = some (.inl L)) (K : ∀ T' ∈ L, rx_Go p l e R s m args below meth c b D A g0 a0 t0 nL Q T') : rx_Go p l e R s m args below meth c b D A g0 a0 t0 nL Q T := by
  unfold rx_sl2 at h
  split at h
  · split at h
    · rename_i r hg
      cases h
      exact rx_sp2_go hg K
    · exact rx_sl3_go C hcl hd hX hox hok hokN hmn hR hnL hA hpc h K
  · exact rx_sl3_go C hcl hd hX hox hok hokN hmn hR hnL hA hpc h K
theorem rx_all_ok {f : rx_T → Option (List rx_T)} : ∀ {L0 L : List rx_T}, rx_all f L0 = some L → (∀ T ∈ L0, ∃ Lt, f T = some Lt ∧ ∀ x ∈ Lt, x ∈ L) ∧ (∀ x ∈ L, ∃ T ∈ L0, ∃ Lt, f T = some Lt ∧ x ∈ Lt)
  | [], L, h => by
    cases h
    exact ⟨fun T hT => (by cases hT), fun x hx => (by cases hx)⟩
  | T :: L0, L, h => by
    unfold rx_all at h
    split at h
    · rename_i a ha
      split at h
      · rename_i d hd
        cases h
        obtain ⟨h1, h2⟩ := rx_all_ok hd
        refine ⟨fun T' hT' => ?_, fun x hx => ?_⟩
        · rcases List.mem_cons.mp hT' with rfl | hT'
          · exact ⟨a, ha, fun x hx => List.mem_append_left _ hx⟩
          · obtain ⟨Lt, h3, h4⟩ := h1 T' hT'
            exact ⟨Lt, h3, fun x hx => List.mem_append_right _ (h4 x hx)⟩
        · rcases List.mem_append.mp hx with hx | hx
          · exact ⟨T, List.mem_cons_self, a, ha, hx⟩
          · obtain ⟨T', h3, Lt, h4, h5⟩ := h2 x hx
            exact ⟨T', List.mem_cons_of_mem _ h3, Lt, h4, h5⟩
      · cases h
    · cases h
theorem rx_each_ok {ih : rx_H} {L0 L : List rx_T} (h : rx_each ih L0 = some L) : (∀ T ∈ L0, ∃ Lt, ih T.1 T.2.1 T.2.2.1 T.2.2.2.1 T.2.2.2.2.1 T.2.2.2.2.2 = some Lt ∧ ∀ x ∈ Lt, x ∈ L) ∧ (∀ x ∈ L, ∃ T ∈ L0, ∃ Lt, ih T.1 T.2.1 T.2.2.1 T.2.2.2.1 T.2.2.2.2.1 T.2.2.2.2.2 = some Lt ∧ x ∈ Lt) := by
  unfold rx_each at h
  split at h
  · cases h
    exact ⟨fun T hT => (by cases hT), fun x hx => (by cases hx)⟩
  · rename_i T l0
    split at h
    · refine ⟨fun T' hT' => ?_, fun x hx => ⟨T, List.mem_singleton.mpr rfl, L, h, hx⟩⟩
      cases List.mem_singleton.mp hT'
      exact ⟨L, h, fun _ hx => hx⟩
    · exact rx_all_ok h
/-- what is known of the methods that are called -/
def rx_Hc (l : Launch) (b : (Nat → Option Nat) × List Int) (D : va_G) (Z : State → Heap → Prop) (sz0 : Nat) (MT : List rx_Md) (R : Room) (call : Nat → List rx_V → rx_Y → List rx_C → Option rx_O) : Prop := ∀ (mi : Nat) (as : List rx_V) (sy : rx_Y) (h : List rx_C) (r : rx_O), call mi as sy h = some r → ∃ (M : rx_Md) (d : Nat), MT[mi]? = some M ∧ rx_okM M ∧ (r.1 = M.2.2.2.2.2.2.1 ∧ r.2.1 = M.2.2.2.2.2.2.2.1) ∧ (d + 2 ≤ R.frames ∧ 100 * (d + 2) ≤ R.locals) ∧ rx_Ct l b D Z sz0 d M as sy h r.2.2
def rx_Tok (MT : List rx_Md) (cc : ByteArray) (own nm : String) (M : rx_Md) : Prop := ∀ l ∈ M.2.2.2.2.2.2.2.2, ∀ i ∈ l, rx_dc cc i ∧ (rx_okE own nm i ∧ rx_okC MT own i) ∧ (rx_okX own i ∧ rx_okN own i)
theorem rx_cmp2_ok {N : List (List rx_V)} {M : rx_Md} {i : rx_E} {f : rx_K} (hf : (match Nat.beq i.2.2.2.1 1 with
    | true => some rx_kslow
    | false => rx_cmp M i) = some f) : rx_Kok N M i f := by
  split at hf
  · cases hf
    intro ih sl cl sy h nn lc sa r hr
    exact Or.inl hr
  · exact rx_cmp_ok hf
theorem rx_by_ok {N : List (List rx_V)} {MT : List rx_Md} {M : rx_Md} {Z : State → Heap → Prop} {sz0 : Nat} {stop : List Nat} {call : Nat → List rx_V → rx_Y → List rx_C → Option rx_O} (C : rx_Cx p s m args c cc own nL) (hcl : rx_Clok N) (hT : rx_Tok MT cc own nm M) (hmn : meth.name = nm) (hR : R.cells = M.2.2.2.2.2.2.1 ∧ R.slots = M.2.2.2.2.2.2.2.1 ∧ 1 ≤ R.frames ∧ 60 ≤ R.locals) (hnL : M.2.2.1 = nL) (hZ : rx_Zp b Z sz0) (hZs : Z s s.heap) (hsz : sz0 ≤ s.heap.size) (hA : ∀ q, s.heap.size ≤ q → A q) (hA0 : ∀ q, A q → sz0 ≤ q) (hcall : rx_Hc l b D Z sz0 MT R call)  {n : Nat} (ih : ∀ (sy : rx_Y) (h : List rx_C) (nn : Nat × Nat) (pc : Nat) (lc : rx_L) (sa : List rx_V) (L : List rx_T), rx_go N call M stop n sy h nn pc lc sa = some L → (∀ T ∈ L, rx_isin stop T.2.2.2.1 = true ∨ rx_ends M T = true) ∧ ((∀ T ∈ L, rx_Go p l e R s m args below meth c b D A g0 a0 t0 nL Q T) → rx_Go p l e R s m args below meth c b D A g0 a0 t0 nL Q (sy, h, nn, pc, lc, sa))) (sy : rx_Y) (h : List rx_C) (nn : Nat × Nat) (pc : Nat) (lc : rx_L) (sa : List rx_V) (L : List rx_T) (hgo : rx_by N call M (rx_go N call M stop n) (rx_look M pc) sy h nn lc sa = some L) : (∀ T ∈ L, rx_isin stop T.2.2.2.1 = true ∨ rx_ends M T = true) ∧ ((∀ T ∈ L, rx_Go p l e R s m args below meth c b D A g0 a0 t0 nL Q T) → rx_Go p l e R s m args below meth c b D A g0 a0 t0 nL Q (sy, h, nn, pc, lc, sa)) := by
  cases hlook : rx_look M pc with
  | none => rw [hlook] at hgo; cases hgo
  | some pf =>
    rw [hlook] at hgo
    obtain ⟨i, f⟩ := pf
    change f (rx_go N call M stop n) (rx_slow N call M i (rx_go N call M stop n)) (rx_doc call M i (rx_go N call M stop n)) sy h nn lc sa = some L at hgo
    unfold rx_look at hlook
    split at hlook
    · rename_i i' hfe
      split at hlook
      · rename_i f' hcm
        cases hlook
        obtain ⟨⟨lt, hlt, hil⟩, hipc⟩ := rx_fe_ok hfe
        subst hipc
        obtain ⟨hdc, ⟨hoe, hoc⟩, hox, hoN⟩ := hT lt hlt i hil
        have hends : rx_retB M.2.2.2.1 i (sy, h, nn, i.1, lc, sa) = true → rx_ends M (sy, h, nn, i.1, lc, sa) = true := by
          intro hs
          unfold rx_ends
          dsimp only
          rw [hfe]
          exact hs
        -- a row of states
        have hrow : ∀ L0 : List rx_T, ((∀ T' ∈ L0, rx_Go p l e R s m args below meth c b D A g0 a0 t0 nL Q T') → rx_Go p l e R s m args below meth c b D A g0 a0 t0 nL Q (sy, h, nn, i.1, lc, sa)) → (∀ T ∈ L0, ∃ Lt, rx_go N call M stop n T.1 T.2.1 T.2.2.1 T.2.2.2.1 T.2.2.2.2.1 T.2.2.2.2.2 = some Lt ∧ ∀ x ∈ Lt, x ∈ L) → (∀ T ∈ L, rx_Go p l e R s m args below meth c b D A g0 a0 t0 nL Q T) → rx_Go p l e R s m args below meth c b D A g0 a0 t0 nL Q (sy, h, nn, i.1, lc, sa) := by
          intro L0 hs h1 K
          refine hs fun T' hT' => ?_
          obtain ⟨Lt, h3, h4⟩ := h1 T' hT'
          exact (ih _ _ _ _ _ _ Lt h3).2 fun x hx => K x (h4 x hx)
        have hXf := hZ.2.2.2 s A hZs hA0
        -- a call
        have hcl2 : ∀ mi as rs, rx_sF M.2.2.2.1 i (sy, h, nn, i.1, lc, sa) = some (.inr (.inr (mi, as, rs))) → rx_doc call M i (rx_go N call M stop n) mi as rs sy h nn lc = some L → (∀ T ∈ L, rx_isin stop T.2.2.2.1 = true ∨ rx_ends M T = true) ∧ ((∀ T ∈ L, rx_Go p l e R s m args below meth c b D A g0 a0 t0 nL Q T) → rx_Go p l e R s m args below meth c b D A g0 a0 t0 nL Q (sy, h, nn, i.1, lc, sa)) := by
          intro mi as rs hs hdo
          unfold rx_doc at hdo
          split at hdo
          · cases hdo
          · rename_i mc ms outs hca
            rw [rx_zn_eq, rx_zn_eq] at hdo
            split at hdo
            · rename_i hle
              rw [Bool.and_eq_true] at hle
              rw [rx_zn_eq] at hdo
              obtain ⟨h1, h2⟩ := rx_each_ok hdo
              obtain ⟨M', d, hM', hokM, ⟨e1, e2⟩, hR2, hCt⟩ := hcall mi as sy h _ hca
              dsimp only at e1 e2 hCt
              subst e1
              subst e2
              refine ⟨fun T hT' => ?_, fun K => ?_⟩
              · obtain ⟨T0, hT0, Lt, h3, h4⟩ := h2 T hT'
                exact (ih _ _ _ _ _ _ Lt h3).1 T h4
              · refine rx_call_go (T := (sy, h, nn, i.1, lc, sa)) C hdc hoc hZ hZs hsz hA hA0 hR2 rfl hs hM' hokM hCt (by rw [hR.1]; exact Nat.le_of_ble_eq_true hle.1) (by rw [hR.2.1]; exact Nat.le_of_ble_eq_true hle.2) fun o ho => ?_
                obtain ⟨Lt, h3, h4⟩ := h1 _ (List.mem_map.mpr ⟨o, ho, rfl⟩)
                exact (ih _ _ _ _ _ _ Lt h3).2 fun x hx => K x (h4 x hx)
            · cases hdo
        rcases rx_cmp2_ok (N := N) hcm _ _ _ _ _ _ _ _ _ hgo with q | ⟨T', q1, q2⟩ | ⟨q1, rfl⟩ | ⟨mi, as, rs, q1, q2⟩
        · unfold rx_slow at q
          split at q
          · cases q
          · rename_i L0 hs
            obtain ⟨h1, h2⟩ := rx_each_ok q
            refine ⟨fun T hT' => ?_, hrow L0 (rx_sl2_go C hcl hdc hXf hox hoe hoN hmn hR hnL hA rfl hs) h1⟩
            obtain ⟨T0, hT0, Lt, h3, h4⟩ := h2 T hT'
            exact (ih _ _ _ _ _ _ Lt h3).1 T h4
          · rename_i hs
            cases q
            exact ⟨fun T hT' => Or.inr (by cases List.mem_singleton.mp hT'; exact hends (rx_do_ret (rx_sl2_do hs))), fun K => K _ (List.mem_singleton.mpr rfl)⟩
          · rename_i mi as rs hs
            exact hcl2 mi as rs (rx_do_call (rx_sl2_do hs)) q
        · refine ⟨(ih _ _ _ _ _ _ L q2).1, hrow [T'] (rx_sl_go C hcl hdc hXf hox hoe hmn hR hnL hA rfl q1) fun T0 hT0 => ?_⟩
          cases List.mem_singleton.mp hT0
          exact ⟨L, q2, fun _ hx => hx⟩
        · exact ⟨fun T hT' => Or.inr (by cases List.mem_singleton.mp hT'; exact hends (rx_sl_ret q1)), fun K => K _ (List.mem_singleton.mpr rfl)⟩
        · exact hcl2 mi as rs (rx_sl_call q1) q2
      · cases hlook
    · cases hlook
theorem rx_go_ok {N : List (List rx_V)} {MT : List rx_Md} {M : rx_Md} {Z : State → Heap → Prop} {sz0 : Nat} {stop : List Nat} {call : Nat → List rx_V → rx_Y → List rx_C → Option rx_O} (C : rx_Cx p s m args c cc own nL) (hcl : rx_Clok N) (hT : rx_Tok MT cc own nm M) (hmn : meth.name = nm) (hR : R.cells = M.2.2.2.2.2.2.1 ∧ R.slots = M.2.2.2.2.2.2.2.1 ∧ 1 ≤ R.frames ∧ 60 ≤ R.locals) (hnL : M.2.2.1 = nL) (hZ : rx_Zp b Z sz0) (hZs : Z s s.heap) (hsz : sz0 ≤ s.heap.size) (hA : ∀ q, s.heap.size ≤ q → A q) (hA0 : ∀ q, A q → sz0 ≤ q) (hcall : rx_Hc l b D Z sz0 MT R call) :
    ∀ (n : Nat) (sy : rx_Y) (h : List rx_C) (nn : Nat × Nat) (pc : Nat) (lc : rx_L) (sa : List rx_V) (L : List rx_T), rx_go N call M stop n sy h nn pc lc sa = some L → (∀ T ∈ L, rx_isin stop T.2.2.2.1 = true ∨ rx_ends M T = true) ∧ ((∀ T ∈ L, rx_Go p l e R s m args below meth c b D A g0 a0 t0 nL Q T) → rx_Go p l e R s m args below meth c b D A g0 a0 t0 nL Q (sy, h, nn, pc, lc, sa)) := by
  intro n
  induction n with
  | zero =>
    intro sy h nn pc lc sa L hgo
    cases hgo
  | succ n ih =>
    intro sy h nn pc lc sa L hgo
    change @Bool.rec (fun _ => Option (List rx_T)) (rx_by N call M (rx_go N call M stop n) (rx_look M pc) sy h nn lc sa) (some [(sy, h, nn, pc, lc, sa)]) (rx_isin stop pc) = some L at hgo
    cases hb : rx_isin stop pc with
    | true =>
      rw [hb] at hgo
      cases hgo
      exact ⟨fun T hT' => Or.inl (by cases List.mem_singleton.mp hT'; exact hb), fun K => K _ (List.mem_singleton.mpr rfl)⟩
    | false =>
      rw [hb] at hgo
      exact rx_by_ok C hcl hT hmn hR hnL hZ hZs hsz hA hA0 hcall ih sy h nn pc lc sa L hgo
end RXG
