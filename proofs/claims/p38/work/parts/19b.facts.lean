/-! ===== sums of symbols, facts under other names ===== -/
def rx_add1 (t : Int × Nat) : List (Int × Nat) → List (Int × Nat)
  | [] => [t]
  | u :: l => match Nat.beq u.2 t.2 with
    | true => (u.1 + t.1, u.2) :: l
    | false => u :: rx_add1 t l
theorem rx_add1_ok {g : List Int} {t : Int × Nat} : ∀ {l : List (Int × Nat)} {z : Int}, rx_lin g (t :: l) z → rx_lin g (rx_add1 t l) z
  | [], _, h => h
  | u :: l, z, ⟨y, z1, h1, ⟨y2, z2, h2, h3, h4⟩, h5⟩ => by
    unfold rx_add1
    cases hb : Nat.beq u.2 t.2 with
    | true =>
      have e := Nat.eq_of_beq_eq_true hb
      rw [e, h1] at h2
      cases h2
      refine ⟨y, z2, by dsimp only; rw [e]; exact h1, h3, ?_⟩
      dsimp only
      rw [h5, h4, Int.add_mul]
      omega
    | false =>
      refine ⟨y2, t.1 * y + z2, h2, rx_add1_ok ⟨y, z2, h1, h3, rfl⟩, ?_⟩
      rw [h5, h4]
      omega
def rx_nrm : List (Int × Nat) → List (Int × Nat)
  | [] => []
  | t :: l => rx_add1 t (rx_nrm l)
theorem rx_nrm_ok {g : List Int} : ∀ {l : List (Int × Nat)} {z : Int}, rx_lin g l z → rx_lin g (rx_nrm l) z
  | [], _, h => h
  | _ :: _, _, ⟨y, z1, h1, h2, h3⟩ => rx_add1_ok ⟨y, z1, h1, rx_nrm_ok h2, h3⟩
/-- the least that a sum can be -/
noncomputable def rx_lbs (sy : rx_Y) : List (Int × Nat) → Option Int
  | [] => some 0
  | t :: l => match rx_nth sy.1 t.2 with
    | some r => match rx_lbs sy l with
      | some m => match rx_ile 0 t.1 with
        | true => rx_z (m + t.1 * r.1) some
        | false => rx_z (m + t.1 * r.2) some
      | none => none
    | none => none
theorem rx_lbs_ok {sy : rx_Y} {g : List Int} (hG : rx_g sy g) : ∀ {l : List (Int × Nat)} {z m : Int}, rx_lin g l z → rx_lbs sy l = some m → m ≤ z
  | [], z, m, h, hm => by
    have h : z = 0 := h
    cases hm
    omega
  | t :: l, z, m, ⟨y, z1, h1, h2, h3⟩, hm => by
    unfold rx_lbs at hm
    rw [rx_nth_eq] at hm
    obtain ⟨r, h4, h5, h6⟩ := hG.get h1
    rw [h4] at hm
    dsimp only at hm
    cases hl : rx_lbs sy l with
    | none => rw [hl] at hm; cases hm
    | some m1 =>
      rw [hl] at hm
      dsimp only at hm
      have h7 := rx_lbs_ok hG h2 hl
      cases hb : rx_ile 0 t.1 with
      | true =>
        rw [hb] at hm
        dsimp only at hm
        rw [rx_z_eq] at hm
        cases hm
        have := Int.mul_le_mul_of_nonneg_left h5 ((rx_ile_iff _ _).mp hb)
        omega
      | false =>
        rw [hb] at hm
        dsimp only at hm
        rw [rx_z_eq] at hm
        cases hm
        have := Int.mul_le_mul_of_nonpos_left (show t.1 ≤ 0 by have := rx_ile_f hb; omega) h6
        omega
theorem rx_lin.app {g : List Int} {l' : List (Int × Nat)} {z' : Int} (h' : rx_lin g l' z') : ∀ {l : List (Int × Nat)} {z : Int}, rx_lin g l z → rx_lin g (l ++ l') (z + z')
  | [], z, h => by
    have h : z = 0 := h
    rw [h, Int.zero_add]
    exact h'
  | _ :: _, _, ⟨y, z1, h1, h2, h3⟩ => ⟨y, z1 + z', h1, rx_lin.app h' h2, by omega⟩
def rx_ngt (l : List (Int × Nat)) : List (Int × Nat) := l.map (fun t => (-t.1, t.2))
theorem rx_ngt_ok {g : List Int} : ∀ {l : List (Int × Nat)} {z : Int}, rx_lin g l z → rx_lin g (rx_ngt l) (-z)
  | [], z, h => by
    have h : z = 0 := h
    subst h
    rfl
  | t :: l, z, ⟨y, z1, h1, h2, h3⟩ => ⟨y, -z1, h1, rx_ngt_ok h2, by dsimp only; rw [h3, Int.neg_mul]; omega⟩
/-- a sum by other names: the new sum, a number more -/
noncomputable def rx_rT (th : List rx_I) : List (Int × Nat) → Option (List (Int × Nat) × Int)
  | [] => some ([], 0)
  | t :: l => match rx_nth th t.2 with
    | some (0, c) => match rx_rT th l with
      | some r => rx_z (r.2 + t.1 * c) (fun z => some (r.1, z))
      | none => none
    | some (k + 1, c) => match rx_rT th l with
      | some r => rx_z (r.2 + t.1 * c) (fun z => some ((t.1, k) :: r.1, z))
      | none => none
    | none => none
theorem rx_rT_ok {th : List rx_I} {g g0 : List Int} (hT : rx_Th th g g0) : ∀ {l : List (Int × Nat)} {r : List (Int × Nat) × Int}, rx_rT th l = some r → ∃ z0 z, rx_lin g0 l z0 ∧ rx_lin g r.1 z ∧ z0 = z + r.2
  | [], r, h => by
    cases h
    exact ⟨0, 0, rfl, rfl, rfl⟩
  | t :: l, r, h => by
    unfold rx_rT at h
    rw [rx_nth_eq] at h
    split at h
    · rename_i c hc
      split at h
      · rename_i r1 hr1
        rw [rx_z_eq] at h
        cases h
        obtain ⟨z0, z, h1, h2, h3⟩ := rx_rT_ok hT hr1
        have hl : t.2 < g0.length := by rw [hT.1]; exact (List.getElem?_eq_some_iff.mp hc).1
        have h4 : g0[t.2]? = some g0[t.2] := List.getElem?_eq_getElem hl
        obtain ⟨q, h5, h6⟩ := hT.2 _ _ h4
        rw [hc] at h5
        cases h5
        have h6 : g0[t.2] = c := h6
        refine ⟨t.1 * g0[t.2] + z0, z, ⟨_, z0, h4, h1, rfl⟩, h2, ?_⟩
        dsimp only
        rw [h6, h3]
        omega
      · cases h
    · rename_i k c hc
      split at h
      · rename_i r1 hr1
        rw [rx_z_eq] at h
        cases h
        obtain ⟨z0, z, h1, h2, h3⟩ := rx_rT_ok hT hr1
        have hl : t.2 < g0.length := by rw [hT.1]; exact (List.getElem?_eq_some_iff.mp hc).1
        have h4 : g0[t.2]? = some g0[t.2] := List.getElem?_eq_getElem hl
        obtain ⟨q, h5, h6⟩ := hT.2 _ _ h4
        rw [hc] at h5
        cases h5
        obtain ⟨y, h7, h8⟩ := h6
        refine ⟨t.1 * g0[t.2] + z0, t.1 * y + z, ⟨_, z0, h4, h1, rfl⟩, ⟨y, z, h7, h2, rfl⟩, ?_⟩
        dsimp only
        rw [h8, h3, Int.mul_add]
        omega
      · cases h
    · cases h
/-- does a fact hold where the guard G does -/
noncomputable def rx_ap (sy : rx_Y) (G : Option (Nat × Int)) (F : rx_F) : Bool := match F.1 with
  | [] => true
  | q :: l => match l with
    | [] => match (match rx_nth sy.1 q.1 with
        | some r => rx_ile r.2 q.2
        | none => false) with
      | true => true
      | false => match G with
        | some p => Nat.beq q.1 p.1 && rx_ile p.2 q.2
        | none => false
    | _ :: _ => false
theorem rx_ap_ok {sy : rx_Y} {g : List Int} (hG : rx_g sy g) {G : Option (Nat × Int)} (hg : ∀ p, G = some p → ∀ y, g[p.1]? = some y → y ≤ p.2) {F : rx_F} (h : rx_ap sy G F = true) (hF : rx_f g F) : ∃ z, rx_lin g F.2.1 z ∧ 0 ≤ z + F.2.2 := by
  refine hF fun q hq y hy => ?_
  unfold rx_ap at h
  split at h
  · rename_i he
    rw [he] at hq
    cases hq
  · rename_i q1 l he
    split at h
    · rw [he] at hq
      cases List.mem_singleton.mp hq
      split at h
      · rename_i hb
        split at hb
        · rename_i r hr
          rw [rx_nth_eq] at hr
          obtain ⟨r', h1, h2, h3⟩ := hG.get hy
          rw [hr] at h1
          cases h1
          have := (rx_ile_iff _ _).mp hb
          omega
        · cases hb
      · split at h
        · rename_i p
          rw [Bool.and_eq_true] at h
          have e := Nat.eq_of_beq_eq_true h.1
          have e2 := (rx_ile_iff _ _).mp h.2
          have := hg p rfl y (by rw [← e]; exact hy)
          omega
        · cases h
    · cases h
/-- a sum and a number are at least 0 -/
noncomputable def rx_ps0 (sy : rx_Y) (l : List (Int × Nat)) (c : Int) : Bool := match rx_lbs sy (rx_nrm l) with
  | some m => rx_ile 0 (m + c)
  | none => false
theorem rx_ps0_ok {sy : rx_Y} {g : List Int} (hG : rx_g sy g) {l : List (Int × Nat)} {c z : Int} (h : rx_ps0 sy l c = true) (hz : rx_lin g l z) : 0 ≤ z + c := by
  unfold rx_ps0 at h
  split at h
  · rename_i m hm
    have h1 := rx_lbs_ok hG (rx_nrm_ok hz) hm
    have := (rx_ile_iff _ _).mp h
    omega
  · cases h
noncomputable def rx_pos (sy : rx_Y) (G : Option (Nat × Int)) (l : List (Int × Nat)) (c : Int) : Bool := match rx_ps0 sy l c with
  | true => true
  | false => match sy.2.any (fun F => rx_ap sy G F && rx_ps0 sy (l ++ rx_ngt F.2.1) (c - F.2.2)) with
    | true => true
    | false => sy.2.any (fun F => rx_ap sy G F && sy.2.any (fun E => rx_ap sy G E && rx_ps0 sy ((l ++ rx_ngt F.2.1) ++ rx_ngt E.2.1) (c - F.2.2 - E.2.2)))
theorem rx_pos_ok {sy : rx_Y} {g : List Int} (hG : rx_g sy g) {G : Option (Nat × Int)} (hg : ∀ p, G = some p → ∀ y, g[p.1]? = some y → y ≤ p.2) {l : List (Int × Nat)} {c z : Int} (h : rx_pos sy G l c = true) (hz : rx_lin g l z) : 0 ≤ z + c := by
  unfold rx_pos at h
  split at h
  · rename_i h1
    exact rx_ps0_ok hG h1 hz
  · split at h
    · rename_i h1
      obtain ⟨F, hF, h2⟩ := List.any_eq_true.mp h1
      rw [Bool.and_eq_true] at h2
      obtain ⟨zf, h3, h4⟩ := rx_ap_ok hG hg h2.1 (hG.2 F hF)
      have := rx_ps0_ok hG h2.2 (rx_lin.app (rx_ngt_ok h3) hz)
      omega
    · obtain ⟨F, hF, h2⟩ := List.any_eq_true.mp h
      rw [Bool.and_eq_true] at h2
      obtain ⟨E, hE, h5⟩ := List.any_eq_true.mp h2.2
      rw [Bool.and_eq_true] at h5
      obtain ⟨zf, h3, h4⟩ := rx_ap_ok hG hg h2.1 (hG.2 F hF)
      obtain ⟨ze, h6, h7⟩ := rx_ap_ok hG hg h5.1 (hG.2 E hE)
      have := rx_ps0_ok hG h5.2 (rx_lin.app (rx_ngt_ok h6) (rx_lin.app (rx_ngt_ok h3) hz))
      omega
/-- a fact that is asked for -/
noncomputable def rx_fOK (sy : rx_Y) (th : List rx_I) (f : rx_F) : Bool := match rx_rT th f.2.1 with
  | none => false
  | some r => match f.1 with
    | [] => rx_pos sy none r.1 (r.2 + f.2.2)
    | q :: l => match l with
      | [] => match rx_nth th q.1 with
        | some (0, c) => match rx_ile c q.2 with
          | true => rx_pos sy none r.1 (r.2 + f.2.2)
          | false => true
        | some (k + 1, c) => match rx_ile (rx_iv sy (k + 1, c)).1 q.2 with
          | true => rx_pos sy (some (k, q.2 - c)) r.1 (r.2 + f.2.2)
          | false => true
        | none => false
      | _ :: _ => false
theorem rx_fOK_ok {sy : rx_Y} {th : List rx_I} {g g0 : List Int} (hG : rx_g sy g) (hT : rx_Th th g g0) {f : rx_F} (h : rx_fOK sy th f = true) : rx_f g0 f := by
  intro hq
  unfold rx_fOK at h
  split at h
  · cases h
  · rename_i r hr
    obtain ⟨z0, z, h1, h2, h3⟩ := rx_rT_ok hT hr
    refine ⟨z0, h1, ?_⟩
    have nn : ∀ p : Nat × Int, (none : Option (Nat × Int)) = some p → ∀ y, g[p.1]? = some y → y ≤ p.2 := fun p hp => by cases hp
    split at h
    · have := rx_pos_ok hG nn h h2
      omega
    · rename_i q l he
      split at h
      · have hq1 := hq q (by rw [he]; exact List.mem_singleton.mpr rfl)
        rw [rx_nth_eq] at h
        split at h
        · rename_i c hc
          have hl : q.1 < g0.length := by rw [hT.1]; exact (List.getElem?_eq_some_iff.mp hc).1
          have h4 : g0[q.1]? = some g0[q.1] := List.getElem?_eq_getElem hl
          obtain ⟨q', h5, h6⟩ := hT.2 _ _ h4
          rw [hc] at h5
          cases h5
          have h6 : g0[q.1] = c := h6
          have h7 := hq1 _ h4
          split at h
          · have := rx_pos_ok hG nn h h2
            omega
          · rename_i hb
            have := rx_ile_f hb
            omega
        · rename_i k c hc
          have hl : q.1 < g0.length := by rw [hT.1]; exact (List.getElem?_eq_some_iff.mp hc).1
          have h4 : g0[q.1]? = some g0[q.1] := List.getElem?_eq_getElem hl
          obtain ⟨q', h5, h6⟩ := hT.2 _ _ h4
          rw [hc] at h5
          cases h5
          have h7 := hq1 _ h4
          have h9 : (rx_iv sy (k + 1, c)).1 ≤ g0[q.1] ∧ g0[q.1] ≤ (rx_iv sy (k + 1, c)).2 := rx_iv_ok hG h6
          obtain ⟨y, h10, h11⟩ := h6
          split at h
          · have := rx_pos_ok hG (G := some (k, q.2 - c)) (fun p hp y' hy' => by
              cases hp
              dsimp only at hy' ⊢
              rw [h10] at hy'
              cases hy'
              omega) h h2
            omega
          · rename_i hb
            have := rx_ile_f hb
            omega
        · cases h
      · cases h
/-- the bounds that are asked for -/
noncomputable def rx_bnd (sy : rx_Y) (th : List rx_I) : List (Int × Int) → Bool := @List.rec rx_I (fun _ => List (Int × Int) → Bool) (fun l => match l with
  | [] => true
  | _ :: _ => false) (fun q _ ih l => match l with
  | [] => false
  | r :: t => (Nat.ble q.1 (rx_lenR sy.1) && (rx_ile r.1 (rx_iv sy q).1 && rx_ile (rx_iv sy q).2 r.2)) && ih t) th
theorem rx_bnd_ok {sy : rx_Y} {g : List Int} (hG : rx_g sy g) {th : List rx_I} : ∀ {l : List (Int × Int)}, rx_bnd sy th l = true → ∃ g0, rx_Th th g g0 ∧ rx_g1 l g0 := by
  induction th with
  | nil =>
    intro l h
    cases l with
    | nil => exact ⟨[], ⟨rfl, fun j z h => by simp at h⟩, rfl, fun j z q h => by simp at h⟩
    | cons r l => cases h
  | cons q th ih =>
    intro l h
    cases l with
    | nil => cases h
    | cons r l =>
      have h : ((Nat.ble q.1 (rx_lenR sy.1) && (rx_ile r.1 (rx_iv sy q).1 && rx_ile (rx_iv sy q).2 r.2)) && rx_bnd sy th l) = true := h
      rw [Bool.and_eq_true, Bool.and_eq_true, Bool.and_eq_true, rx_lenR_eq] at h
      obtain ⟨⟨h1, h2, h3⟩, h4⟩ := h
      obtain ⟨g0, h5, h6⟩ := ih h4
      obtain ⟨z, hz⟩ := rx_ev_ex hG (Nat.le_of_ble_eq_true h1)
      have i1 := rx_iv_ok hG hz
      have i2 := (rx_ile_iff _ _).mp h2
      have i3 := (rx_ile_iff _ _).mp h3
      refine ⟨z :: g0, ⟨by rw [List.length_cons, List.length_cons, h5.1], fun j y hj => ?_⟩, by rw [List.length_cons, List.length_cons, h6.1], fun j y r' hj hr => ?_⟩
      · cases j with
        | zero =>
          rw [List.getElem?_cons_zero] at hj
          cases hj
          exact ⟨q, rfl, hz⟩
        | succ j =>
          rw [List.getElem?_cons_succ] at hj
          obtain ⟨r1, h7, h8⟩ := h5.2 j y hj
          exact ⟨r1, by rw [List.getElem?_cons_succ]; exact h7, h8⟩
      · cases j with
        | zero =>
          rw [List.getElem?_cons_zero] at hj hr
          cases hj
          cases hr
          exact ⟨by omega, by omega⟩
        | succ j =>
          rw [List.getElem?_cons_succ] at hj hr
          exact h6.2 j y r' hj hr
/-- symbols -/
noncomputable def rx_mY (sy : rx_Y) (th : List rx_I) (sy0 : rx_Y) : Bool := rx_bnd sy th sy0.1 && rx_allR (rx_fOK sy th) sy0.2
theorem rx_mY_ok {sy : rx_Y} {g : List Int} (hG : rx_g sy g) {th : List rx_I} {sy0 : rx_Y} (h : rx_mY sy th sy0 = true) : ∃ g0, rx_Th th g g0 ∧ rx_g sy0 g0 := by
  unfold rx_mY at h
  rw [Bool.and_eq_true] at h
  obtain ⟨g0, h1, h2⟩ := rx_bnd_ok hG h.1
  exact ⟨g0, h1, h2, fun f hf => rx_fOK_ok hG h1 (rx_allR_ok h.2 f hf)⟩
/-- cells -/
noncomputable def rx_mH (sy : rx_Y) (th : List rx_I) (pi : List Nat) (xi : List rx_V) (h : List rx_C) (ps : List Nat) : List rx_C → Bool := @List.rec Nat (fun _ => List rx_C → Bool) (fun l => match l with
  | [] => true
  | _ :: _ => false) (fun j _ ih l => match l with
  | [] => false
  | c0 :: t => (match rx_nth h j with
    | some c => rx_mC sy th pi xi c0 c
    | none => false) && ih t) ps
theorem rx_mH_ok {sy : rx_Y} {th : List rx_I} {pi : List Nat} {xi : List rx_V} {h : List rx_C} {ps : List Nat} : ∀ {h0 : List rx_C}, rx_mH sy th pi xi h ps h0 = true → ps.length = h0.length ∧ ∀ (i : Nat) (c0 : rx_C), h0[i]? = some c0 → ∃ j c, ps[i]? = some j ∧ h[j]? = some c ∧ rx_mC sy th pi xi c0 c = true := by
  induction ps with
  | nil =>
    intro h0 hh
    cases h0 with
    | nil => exact ⟨rfl, fun i c0 hc => by simp at hc⟩
    | cons c h0 => cases hh
  | cons j ps ih =>
    intro h0 hh
    cases h0 with
    | nil => cases hh
    | cons c0 h0 =>
      have hh : ((match rx_nth h j with | some c => rx_mC sy th pi xi c0 c | none => false) && rx_mH sy th pi xi h ps h0) = true := hh
      rw [Bool.and_eq_true] at hh
      obtain ⟨h1, h2⟩ := ih hh.2
      refine ⟨by rw [List.length_cons, List.length_cons, h1], fun i c1 hc => ?_⟩
      cases i with
      | zero =>
        rw [List.getElem?_cons_zero] at hc
        cases hc
        have h3 := hh.1
        rw [rx_nth_eq] at h3
        split at h3
        · rename_i c hj
          exact ⟨j, c, rfl, hj, h3⟩
        · cases h3
      | succ i =>
        rw [List.getElem?_cons_succ] at hc
        obtain ⟨j', c, h3, h4, h5⟩ := h2 i c1 hc
        exact ⟨j', c, by rw [List.getElem?_cons_succ]; exact h3, h4, h5⟩
