/-! ===== a turn's ends: the loop's head, the law's end ===== -/
def rx_isP (th : List rx_I) (k : Nat) (q : rx_I) : Bool := match th[k]? with
  | some r => Nat.beq r.1 q.1 && rx_ieq r.2 q.2
  | none => false
theorem rx_isP_ok {th : List rx_I} {k : Nat} {q : rx_I} (h : rx_isP th k q = true) : th[k]? = some q := by
  unfold rx_isP at h
  split at h
  · rename_i r hr
    rw [Bool.and_eq_true] at h
    rw [hr, Prod.ext (Nat.eq_of_beq_eq_true h.1) (rx_ieq_t h.2)]
  · cases h
noncomputable def rx_hdB (S : rx_T) (cps sps : List (Nat × Nat)) (LE IS : Nat) (T : rx_T) : Bool := match Nat.beq T.2.2.2.1 23 && (Nat.ble T.2.2.1.1 1 && (Nat.ble T.2.2.1.2 6 && T.2.2.2.2.2.isEmpty)) with
  | false => false
  | true => (rx_gpT T cps [] (fun pi => rx_gth (rx_gT T pi) sps S.1.1 (fun tt => rx_apR tt [(LE + 1, 0)] (fun th => some ((rx_isP th IS (IS + 1, 6) && rx_isP th LE (LE + 1, 0)) && ry_subG T S th pi))))).getD false
theorem rx_hdB_ok {S : rx_T} {cps sps : List (Nat × Nat)} {LE IS : Nat} {T : rx_T} (h : rx_hdB S cps sps LE IS T = true) : (T.2.2.2.1 = 23 ∧ T.2.2.1.1 ≤ 1 ∧ T.2.2.1.2 ≤ 6 ∧ T.2.2.2.2.2 = []) ∧ ∃ th pi, th[IS]? = some (IS + 1, 6) ∧ th[LE]? = some (LE + 1, 0) ∧ ry_subG T S th pi = true := by
  unfold rx_hdB at h
  split at h
  · cases h
  · rename_i hb
    simp only [Bool.and_eq_true] at hb
    refine ⟨⟨Nat.eq_of_beq_eq_true hb.1, Nat.le_of_ble_eq_true hb.2.1, Nat.le_of_ble_eq_true hb.2.2.1, List.isEmpty_iff.mp hb.2.2.2⟩, ?_⟩
    obtain ⟨pi, h1⟩ := rx_gpT_ok (rx_gtd (f := fun x : Bool => x) h)
    obtain ⟨tt, h2⟩ := rx_gth_ok h1
    rw [rx_apR_eq] at h2
    have h2 := Option.some.inj h2
    simp only [Bool.and_eq_true] at h2
    exact ⟨_, pi, rx_isP_ok h2.1.1, rx_isP_ok h2.1.2, h2.2⟩
def rx_enB (T : rx_T) : Bool := match T.2.2.2.2.2 with
  | [.inl (0, z)] => rx_ieq z 1 && (Nat.beq T.2.2.2.1 1356 && (Nat.ble T.2.2.1.1 1 && Nat.ble T.2.2.1.2 6))
  | _ => false
section RXO2
variable {p : Program} {l : Launch} {e : Env} {s : State} {m : MethodId} {args : Array Value} {below : List Frame} {meth : Method} {c : Code} {bb : (Nat → Option Nat) × List Int} {D : va_G} {sz0 L i0 : Nat} {xs : Nat → Int32} {LE IS V0 N6 : Nat} {S : rx_T}
def rx_Ps (L i0 : Nat) (xs : Nat → Int32) (LE IS V0 N6 : Nat) : List Int → Prop := fun g => g[LE]? = some (L : Int) ∧ g[IS]? = some (i0 : Int) ∧ ∀ k, k < N6 → g[V0 + k]? = some (xs (i0 + k)).toInt
theorem rx_head (hb2 : bb.2 = []) {cps sps : List (Nat × Nat)} {T : rx_T} (h : rx_hdB S cps sps LE IS T = true) (hstk : S.2.2.2.2.2 = []) (hi : i0 + 6 ≤ L) (g : List Int) : rx_GL p l e s m args below meth c bb D sz0 (rx_Q1 p l e s m args below meth c bb D sz0 S LE IS L (i0 + 6)) (rx_Ps L i0 xs LE IS V0 N6) T g := by
  obtain ⟨⟨hpc, hc1, hc2, hst0⟩, th, pi, hIS, hLE, hsub⟩ := rx_hdB_ok h
  intro hPg hG1 a0 t0 H locs ls1 st hat
  obtain ⟨g', tys', ws', lv', hE', hG', hH', hK', hP', hD', hS', hl', hv', hst'⟩ := hat
  have e1 : g' = g := rx_le_eq hE'.1 (by rw [hG'.1.1, hG1.1.1])
  subst e1
  rw [hst0] at hst'
  obtain ⟨g2, ws2, lv2, hTh, hG2, hH2, hP2, hD2, hl2, hv2, hst2⟩ := ry_subG_ok hb2 hsub hG' hH' hP' hD' hl' hv' (by rw [hst0]; exact hst')
  rw [hstk] at hst2
  have val : ∀ (k j : Nat) (d z : Int), th[k]? = some (j + 1, d) → g'[j]? = some z → g2[k]? = some (z + d) := by
    intro k j d z h1 hz
    have h2 : k < g2.length := by rw [hTh.1]; exact (List.getElem?_eq_some_iff.mp h1).1
    obtain ⟨r, h3, h4⟩ := hTh.2 k _ (List.getElem?_eq_getElem h2)
    rw [h1] at h3
    cases h3
    obtain ⟨y, h5, h6⟩ := h4
    rw [hz] at h5
    cases h5
    rw [List.getElem?_eq_getElem h2, h6]
  cases st with
  | cons v w => exact hst2.elim
  | nil =>
    rw [hpc]
    intro T1 hT1 X
    refine ⟨T1.setTop (F0 m 23 ls1 []), Steps.refl _, T1, ls1, locs, _, _, X, ⟨hc1, hc2⟩, by rw [hT1]; exact hS', Or.inl ⟨rfl, hi, g2, tys', ws2, lv2, hG2, ⟨?_, ?_⟩, hH2, hK', by rw [hT1]; exact hP2, hD2, hl2, hv2⟩⟩
    · have := val LE LE 0 (L : Int) hLE hPg.1
      rw [this, Int.add_zero]
    · have := val IS IS 6 (i0 : Int) hIS hPg.2.1
      rw [this]
      rfl
theorem rx_end {i1 : Nat} {P : List Int → Prop} {T : rx_T} (h : rx_enB T = true) (g : List Int) : rx_GL p l e s m args below meth c bb D sz0 (rx_Q1 p l e s m args below meth c bb D sz0 S LE IS L i1) P T g := by
  unfold rx_enB at h
  split at h
  · rename_i z hsa
    simp only [Bool.and_eq_true] at h
    obtain ⟨h1, h2, h3, h4⟩ := h
    intro hPg hG1 a0 t0 H locs ls st hat
    obtain ⟨g', tys, ws, lv, hE, hG, hH, hK, hP, hD, hS, hl, hv, hst⟩ := hat
    rw [hsa] at hst
    obtain ⟨v0, w0, rfl, ⟨y, rfl, hy⟩, hst2⟩ := rx_vs_cons hst
    cases w0 with
    | cons v1 w1 => exact hst2.elim
    | nil =>
      have hz : z = 1 := rx_ieq_t h1
      have hy1 : y.toInt = 1 := by
        have h5 : y.toInt = z := hy
        rw [h5, hz]
      have hy2 : y = 1 := Int32.toInt_inj.1 (by rw [hy1]; rfl)
      subst hy2
      rw [Nat.eq_of_beq_eq_true h2]
      intro T1 hT1 X
      exact ⟨T1.setTop (F0 m 1356 ls [.int 1]), Steps.refl _, T1, ls, locs, _, _, X, ⟨Nat.le_of_ble_eq_true h3, Nat.le_of_ble_eq_true h4⟩, by rw [hT1]; exact hS, Or.inr rfl⟩
  · cases h
end RXO2
