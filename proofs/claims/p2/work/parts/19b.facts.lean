/-! ===== sums of symbols, facts under other names ===== -/
/-- a sum by other names: the new sum, a number more -/
noncomputable def rx_rT (th : List rx_I) : List (Int × Nat) → Option (List (Int × Nat) × Int)
  | [] => some ([], 0)
  | t :: l => match rx_nth th t.2 with
    | some (0, c) => match rx_rT th l with
      | some r => rx_z (r.2 + t.1 * c) (fun z => some (r.1, z))
      | none => none
    | some (k + 1, c) => match rx_rT th l with
      | some r => rx_z (r.2 + t.1 * c) (fun z => some ((t.1, k) :: r.1, z))
      | none => none
    | none => none
theorem rx_rT_ok {th : List rx_I} {g g0 : List Int} (hT : rx_Th th g g0) : ∀ {l : List (Int × Nat)} {r : List (Int × Nat) × Int}, rx_rT th l = some r → ∃ z0 z, rx_lin g0 l z0 ∧ rx_lin g r.1 z ∧ z0 = z + r.2
  | [], r, h => by
    cases h
    exact ⟨0, 0, rfl, rfl, rfl⟩
  | t :: l, r, h => by
    unfold rx_rT at h
    rw [rx_nth_eq] at h
    split at h
    · rename_i c hc
      split at h
      · rename_i r1 hr1
        rw [rx_z_eq] at h
        cases h
        obtain ⟨z0, z, h1, h2, h3⟩ := rx_rT_ok hT hr1
        have hl : t.2 < g0.length := by rw [hT.1]; exact (List.getElem?_eq_some_iff.mp hc).1
        have h4 : g0[t.2]? = some g0[t.2] := List.getElem?_eq_getElem hl
        obtain ⟨q, h5, h6⟩ := hT.2 _ _ h4
        rw [hc] at h5
        cases h5
        have h6 : g0[t.2] = c := h6
        refine ⟨t.1 * g0[t.2] + z0, z, ⟨_, z0, h4, h1, rfl⟩, h2, ?_⟩
        dsimp only
        rw [h6, h3]
        omega
      · cases h
    · rename_i k c hc
      split at h
      · rename_i r1 hr1
        rw [rx_z_eq] at h
        cases h
        obtain ⟨z0, z, h1, h2, h3⟩ := rx_rT_ok hT hr1
        have hl : t.2 < g0.length := by rw [hT.1]; exact (List.getElem?_eq_some_iff.mp hc).1
        have h4 : g0[t.2]? = some g0[t.2] := List.getElem?_eq_getElem hl
        obtain ⟨q, h5, h6⟩ := hT.2 _ _ h4
        rw [hc] at h5
        cases h5
        obtain ⟨y, h7, h8⟩ := h6
        refine ⟨t.1 * g0[t.2] + z0, t.1 * y + z, ⟨_, z0, h4, h1, rfl⟩, ⟨y, z, h7, h2, rfl⟩, ?_⟩
        dsimp only
        rw [h8, h3, Int.mul_add]
        omega
      · cases h
    · cases h
/-- a fact that is asked for -/
noncomputable def rx_fOK (sy : rx_Y) (th : List rx_I) (f : rx_F) : Bool := match rx_rT th f.2.1 with
  | none => false
  | some r => match f.1 with
    | [] => rx_pos sy none r.1 (r.2 + f.2.2)
    | q :: l => match l with
      | [] => match rx_nth th q.1 with
        | some (0, c) => match rx_ile c q.2 with
          | true => rx_pos sy none r.1 (r.2 + f.2.2)
          | false => true
        | some (k + 1, c) => match rx_ile (rx_iv sy (k + 1, c)).1 q.2 with
          | true => rx_pos sy (some (k, q.2 - c)) r.1 (r.2 + f.2.2)
          | false => true
        | none => false
      | _ :: _ => false
theorem rx_fOK_ok {sy : rx_Y} {th : List rx_I} {g g0 : List Int} (hG : rx_g sy g) (hT : rx_Th th g g0) {f : rx_F} (h : rx_fOK sy th f = true) : rx_f g0 f := by
  intro hq
  unfold rx_fOK at h
  split at h
  · cases h
  · rename_i r hr
    obtain ⟨z0, z, h1, h2, h3⟩ := rx_rT_ok hT hr
    refine ⟨z0, h1, ?_⟩
    have nn : ∀ p : Nat × Int, (none : Option (Nat × Int)) = some p → ∀ y, g[p.1]? = some y → y ≤ p.2 := fun p hp => by cases hp
    split at h
    · have := rx_pos_ok hG nn h h2
      omega
    · rename_i q l he
      split at h
      · have hq1 := hq q (by rw [he]; exact List.mem_singleton.mpr rfl)
        rw [rx_nth_eq] at h
        split at h
        · rename_i c hc
          have hl : q.1 < g0.length := by rw [hT.1]; exact (List.getElem?_eq_some_iff.mp hc).1
          have h4 : g0[q.1]? = some g0[q.1] := List.getElem?_eq_getElem hl
          obtain ⟨q', h5, h6⟩ := hT.2 _ _ h4
          rw [hc] at h5
          cases h5
          have h6 : g0[q.1] = c := h6
          have h7 := hq1 _ h4
          split at h
          · have := rx_pos_ok hG nn h h2
            omega
          · rename_i hb
            have := rx_ile_f hb
            omega
        · rename_i k c hc
          have hl : q.1 < g0.length := by rw [hT.1]; exact (List.getElem?_eq_some_iff.mp hc).1
          have h4 : g0[q.1]? = some g0[q.1] := List.getElem?_eq_getElem hl
          obtain ⟨q', h5, h6⟩ := hT.2 _ _ h4
          rw [hc] at h5
          cases h5
          have h7 := hq1 _ h4
          have h9 : (rx_iv sy (k + 1, c)).1 ≤ g0[q.1] ∧ g0[q.1] ≤ (rx_iv sy (k + 1, c)).2 := rx_iv_ok hG h6
          obtain ⟨y, h10, h11⟩ := h6
          split at h
          · have := rx_pos_ok hG (G := some (k, q.2 - c)) (fun p hp y' hy' => by
              cases hp
              dsimp only at hy' ⊢
              rw [h10] at hy'
              cases hy'
              omega) h h2
            omega
          · rename_i hb
            have := rx_ile_f hb
            omega
        · cases h
      · cases h
/-- the bounds that are asked for -/
noncomputable def rx_bnd (sy : rx_Y) (th : List rx_I) : List (Int × Int) → Bool := @List.rec rx_I (fun _ => List (Int × Int) → Bool) (fun l => match l with
  | [] => true
  | _ :: _ => false) (fun q _ ih l => match l with
  | [] => false
  | r :: t => (Nat.ble q.1 (rx_lenR sy.1) && rx_inr sy q r.1 r.2) && ih t) th
theorem rx_bnd_ok {sy : rx_Y} {g : List Int} (hG : rx_g sy g) {th : List rx_I} : ∀ {l : List (Int × Int)}, rx_bnd sy th l = true → ∃ g0, rx_Th th g g0 ∧ rx_g1 l g0 := by
  induction th with
  | nil =>
    intro l h
    cases l with
    | nil => exact ⟨[], ⟨rfl, fun j z h => by simp at h⟩, rfl, fun j z q h => by simp at h⟩
    | cons r l => cases h
  | cons q th ih =>
    intro l h
    cases l with
    | nil => cases h
    | cons r l =>
      have h : ((Nat.ble q.1 (rx_lenR sy.1) && rx_inr sy q r.1 r.2) && rx_bnd sy th l) = true := h
      rw [Bool.and_eq_true, Bool.and_eq_true, rx_lenR_eq] at h
      obtain ⟨⟨h1, h2⟩, h4⟩ := h
      obtain ⟨g0, h5, h6⟩ := ih h4
      obtain ⟨z, hz⟩ := rx_ev_ex hG (Nat.le_of_ble_eq_true h1)
      have i1 := rx_inr_ok hG h2 hz
      refine ⟨z :: g0, ⟨by rw [List.length_cons, List.length_cons, h5.1], fun j y hj => ?_⟩, by rw [List.length_cons, List.length_cons, h6.1], fun j y r' hj hr => ?_⟩
      · cases j with
        | zero =>
          rw [List.getElem?_cons_zero] at hj
          cases hj
          exact ⟨q, rfl, hz⟩
        | succ j =>
          rw [List.getElem?_cons_succ] at hj
          obtain ⟨r1, h7, h8⟩ := h5.2 j y hj
          exact ⟨r1, by rw [List.getElem?_cons_succ]; exact h7, h8⟩
      · cases j with
        | zero =>
          rw [List.getElem?_cons_zero] at hj hr
          cases hj
          cases hr
          exact ⟨by omega, by omega⟩
        | succ j =>
          rw [List.getElem?_cons_succ] at hj hr
          exact h6.2 j y r' hj hr
/-- symbols -/
noncomputable def rx_mY (sy : rx_Y) (th : List rx_I) (sy0 : rx_Y) : Bool := rx_bnd sy th sy0.1 && rx_allR (rx_fOK sy th) sy0.2
theorem rx_mY_ok {sy : rx_Y} {g : List Int} (hG : rx_g sy g) {th : List rx_I} {sy0 : rx_Y} (h : rx_mY sy th sy0 = true) : ∃ g0, rx_Th th g g0 ∧ rx_g sy0 g0 := by
  unfold rx_mY at h
  rw [Bool.and_eq_true] at h
  obtain ⟨g0, h1, h2⟩ := rx_bnd_ok hG h.1
  exact ⟨g0, h1, h2, fun f hf => rx_fOK_ok hG h1 (rx_allR_ok h.2 f hf)⟩
/-- cells -/
noncomputable def rx_mH (sy : rx_Y) (th : List rx_I) (pi : List Nat) (xi : List rx_V) (h : List rx_C) (ps : List Nat) : List rx_C → Bool := @List.rec Nat (fun _ => List rx_C → Bool) (fun l => match l with
  | [] => true
  | _ :: _ => false) (fun j _ ih l => match l with
  | [] => false
  | c0 :: t => (match rx_nth h j with
    | some c => rx_mC sy th pi xi c0 c
    | none => false) && ih t) ps
theorem rx_mH_ok {sy : rx_Y} {th : List rx_I} {pi : List Nat} {xi : List rx_V} {h : List rx_C} {ps : List Nat} : ∀ {h0 : List rx_C}, rx_mH sy th pi xi h ps h0 = true → ps.length = h0.length ∧ ∀ (i : Nat) (c0 : rx_C), h0[i]? = some c0 → ∃ j c, ps[i]? = some j ∧ h[j]? = some c ∧ rx_mC sy th pi xi c0 c = true := by
  induction ps with
  | nil =>
    intro h0 hh
    cases h0 with
    | nil => exact ⟨rfl, fun i c0 hc => by simp at hc⟩
    | cons c h0 => cases hh
  | cons j ps ih =>
    intro h0 hh
    cases h0 with
    | nil => cases hh
    | cons c0 h0 =>
      have hh : ((match rx_nth h j with | some c => rx_mC sy th pi xi c0 c | none => false) && rx_mH sy th pi xi h ps h0) = true := hh
      rw [Bool.and_eq_true] at hh
      obtain ⟨h1, h2⟩ := ih hh.2
      refine ⟨by rw [List.length_cons, List.length_cons, h1], fun i c1 hc => ?_⟩
      cases i with
      | zero =>
        rw [List.getElem?_cons_zero] at hc
        cases hc
        have h3 := hh.1
        rw [rx_nth_eq] at h3
        split at h3
        · rename_i c hj
          exact ⟨j, c, rfl, hj, h3⟩
        · cases h3
      | succ i =>
        rw [List.getElem?_cons_succ] at hc
        obtain ⟨j', c, h3, h4, h5⟩ := h2 i c1 hc
        exact ⟨j', c, by rw [List.getElem?_cons_succ]; exact h3, h4, h5⟩
