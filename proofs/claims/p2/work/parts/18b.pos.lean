/-! ===== sums of symbols; a bound by a fact ===== -/
def rx_add1 (t : Int × Nat) : List (Int × Nat) → List (Int × Nat)
  | [] => [t]
  | u :: l => match Nat.beq u.2 t.2 with
    | true => (u.1 + t.1, u.2) :: l
    | false => u :: rx_add1 t l
theorem rx_add1_ok {g : List Int} {t : Int × Nat} : ∀ {l : List (Int × Nat)} {z : Int}, rx_lin g (t :: l) z → rx_lin g (rx_add1 t l) z
  | [], _, h => h
  | u :: l, z, ⟨y, z1, h1, ⟨y2, z2, h2, h3, h4⟩, h5⟩ => by
    unfold rx_add1
    cases hb : Nat.beq u.2 t.2 with
    | true =>
      have e := Nat.eq_of_beq_eq_true hb
      rw [e, h1] at h2
      cases h2
      refine ⟨y, z2, by dsimp only; rw [e]; exact h1, h3, ?_⟩
      dsimp only
      rw [h5, h4, Int.add_mul]
      omega
    | false =>
      refine ⟨y2, t.1 * y + z2, h2, rx_add1_ok ⟨y, z2, h1, h3, rfl⟩, ?_⟩
      rw [h5, h4]
      omega
def rx_nrm : List (Int × Nat) → List (Int × Nat)
  | [] => []
  | t :: l => rx_add1 t (rx_nrm l)
theorem rx_nrm_ok {g : List Int} : ∀ {l : List (Int × Nat)} {z : Int}, rx_lin g l z → rx_lin g (rx_nrm l) z
  | [], _, h => h
  | _ :: _, _, ⟨y, z1, h1, h2, h3⟩ => rx_add1_ok ⟨y, z1, h1, rx_nrm_ok h2, h3⟩
/-- the least that a sum can be -/
noncomputable def rx_lbs (sy : rx_Y) : List (Int × Nat) → Option Int
  | [] => some 0
  | t :: l => match rx_nth sy.1 t.2 with
    | some r => match rx_lbs sy l with
      | some m => match rx_ile 0 t.1 with
        | true => rx_z (m + t.1 * r.1) some
        | false => rx_z (m + t.1 * r.2) some
      | none => none
    | none => none
theorem rx_lbs_ok {sy : rx_Y} {g : List Int} (hG : rx_g sy g) : ∀ {l : List (Int × Nat)} {z m : Int}, rx_lin g l z → rx_lbs sy l = some m → m ≤ z
  | [], z, m, h, hm => by
    have h : z = 0 := h
    cases hm
    omega
  | t :: l, z, m, ⟨y, z1, h1, h2, h3⟩, hm => by
    unfold rx_lbs at hm
    rw [rx_nth_eq] at hm
    obtain ⟨r, h4, h5, h6⟩ := hG.get h1
    rw [h4] at hm
    dsimp only at hm
    cases hl : rx_lbs sy l with
    | none => rw [hl] at hm; cases hm
    | some m1 =>
      rw [hl] at hm
      dsimp only at hm
      have h7 := rx_lbs_ok hG h2 hl
      cases hb : rx_ile 0 t.1 with
      | true =>
        rw [hb] at hm
        dsimp only at hm
        rw [rx_z_eq] at hm
        cases hm
        have := Int.mul_le_mul_of_nonneg_left h5 ((rx_ile_iff _ _).mp hb)
        omega
      | false =>
        rw [hb] at hm
        dsimp only at hm
        rw [rx_z_eq] at hm
        cases hm
        have := Int.mul_le_mul_of_nonpos_left (show t.1 ≤ 0 by have := rx_ile_f hb; omega) h6
        omega
theorem rx_lin.app {g : List Int} {l' : List (Int × Nat)} {z' : Int} (h' : rx_lin g l' z') : ∀ {l : List (Int × Nat)} {z : Int}, rx_lin g l z → rx_lin g (l ++ l') (z + z')
  | [], z, h => by
    have h : z = 0 := h
    rw [h, Int.zero_add]
    exact h'
  | _ :: _, _, ⟨y, z1, h1, h2, h3⟩ => ⟨y, z1 + z', h1, rx_lin.app h' h2, by omega⟩
def rx_ngt (l : List (Int × Nat)) : List (Int × Nat) := l.map (fun t => (-t.1, t.2))
theorem rx_ngt_ok {g : List Int} : ∀ {l : List (Int × Nat)} {z : Int}, rx_lin g l z → rx_lin g (rx_ngt l) (-z)
  | [], z, h => by
    have h : z = 0 := h
    subst h
    rfl
  | t :: l, z, ⟨y, z1, h1, h2, h3⟩ => ⟨y, -z1, h1, rx_ngt_ok h2, by dsimp only; rw [h3, Int.neg_mul]; omega⟩
/-- does a fact hold where the guard G does -/
noncomputable def rx_ap (sy : rx_Y) (G : Option (Nat × Int)) (F : rx_F) : Bool := match F.1 with
  | [] => true
  | q :: l => match l with
    | [] => match (match rx_nth sy.1 q.1 with
        | some r => rx_ile r.2 q.2
        | none => false) with
      | true => true
      | false => match G with
        | some p => Nat.beq q.1 p.1 && rx_ile p.2 q.2
        | none => false
    | _ :: _ => false
theorem rx_ap_ok {sy : rx_Y} {g : List Int} (hG : rx_g sy g) {G : Option (Nat × Int)} (hg : ∀ p, G = some p → ∀ y, g[p.1]? = some y → y ≤ p.2) {F : rx_F} (h : rx_ap sy G F = true) (hF : rx_f g F) : ∃ z, rx_lin g F.2.1 z ∧ 0 ≤ z + F.2.2 := by
  refine hF fun q hq y hy => ?_
  unfold rx_ap at h
  split at h
  · rename_i he
    rw [he] at hq
    cases hq
  · rename_i q1 l he
    split at h
    · rw [he] at hq
      cases List.mem_singleton.mp hq
      split at h
      · rename_i hb
        split at hb
        · rename_i r hr
          rw [rx_nth_eq] at hr
          obtain ⟨r', h1, h2, h3⟩ := hG.get hy
          rw [hr] at h1
          cases h1
          have := (rx_ile_iff _ _).mp hb
          omega
        · cases hb
      · split at h
        · rename_i p
          rw [Bool.and_eq_true] at h
          have e := Nat.eq_of_beq_eq_true h.1
          have e2 := (rx_ile_iff _ _).mp h.2
          have := hg p rfl y (by rw [← e]; exact hy)
          omega
        · cases h
    · cases h
/-- a sum and a number are at least 0 -/
noncomputable def rx_ps0 (sy : rx_Y) (l : List (Int × Nat)) (c : Int) : Bool := match rx_lbs sy (rx_nrm l) with
  | some m => rx_ile 0 (m + c)
  | none => false
theorem rx_ps0_ok {sy : rx_Y} {g : List Int} (hG : rx_g sy g) {l : List (Int × Nat)} {c z : Int} (h : rx_ps0 sy l c = true) (hz : rx_lin g l z) : 0 ≤ z + c := by
  unfold rx_ps0 at h
  split at h
  · rename_i m hm
    have h1 := rx_lbs_ok hG (rx_nrm_ok hz) hm
    have := (rx_ile_iff _ _).mp h
    omega
  · cases h
noncomputable def rx_pos (sy : rx_Y) (G : Option (Nat × Int)) (l : List (Int × Nat)) (c : Int) : Bool := match rx_ps0 sy l c with
  | true => true
  | false => match sy.2.any (fun F => rx_ap sy G F && rx_ps0 sy (l ++ rx_ngt F.2.1) (c - F.2.2)) with
    | true => true
    | false => sy.2.any (fun F => rx_ap sy G F && sy.2.any (fun E => rx_ap sy G E && rx_ps0 sy ((l ++ rx_ngt F.2.1) ++ rx_ngt E.2.1) (c - F.2.2 - E.2.2)))
theorem rx_pos_ok {sy : rx_Y} {g : List Int} (hG : rx_g sy g) {G : Option (Nat × Int)} (hg : ∀ p, G = some p → ∀ y, g[p.1]? = some y → y ≤ p.2) {l : List (Int × Nat)} {c z : Int} (h : rx_pos sy G l c = true) (hz : rx_lin g l z) : 0 ≤ z + c := by
  unfold rx_pos at h
  split at h
  · rename_i h1
    exact rx_ps0_ok hG h1 hz
  · split at h
    · rename_i h1
      obtain ⟨F, hF, h2⟩ := List.any_eq_true.mp h1
      rw [Bool.and_eq_true] at h2
      obtain ⟨zf, h3, h4⟩ := rx_ap_ok hG hg h2.1 (hG.2 F hF)
      have := rx_ps0_ok hG h2.2 (rx_lin.app (rx_ngt_ok h3) hz)
      omega
    · obtain ⟨F, hF, h2⟩ := List.any_eq_true.mp h
      rw [Bool.and_eq_true] at h2
      obtain ⟨E, hE, h5⟩ := List.any_eq_true.mp h2.2
      rw [Bool.and_eq_true] at h5
      obtain ⟨zf, h3, h4⟩ := rx_ap_ok hG hg h2.1 (hG.2 F hF)
      obtain ⟨ze, h6, h7⟩ := rx_ap_ok hG hg h5.1 (hG.2 E hE)
      have := rx_ps0_ok hG h5.2 (rx_lin.app (rx_ngt_ok h6) (rx_lin.app (rx_ngt_ok h3) hz))
      omega
/-- how often a symbol stands in a sum -/
def rx_cf (k : Nat) : List (Int × Nat) → Int
  | [] => 1
  | t :: l => match Nat.beq t.2 k with
    | true => match rx_ile 1 t.1 with
      | true => t.1
      | false => match rx_ile t.1 (-1) with
        | true => -t.1
        | false => 1
    | false => rx_cf k l
theorem rx_cf_ok (k : Nat) : ∀ l : List (Int × Nat), 1 ≤ rx_cf k l
  | [] => by unfold rx_cf; omega
  | t :: l => by
    unfold rx_cf
    split
    · split
      · rename_i h; exact (rx_ile_iff _ _).mp h
      · split
        · rename_i h; have := (rx_ile_iff _ _).mp h; omega
        · omega
    · exact rx_cf_ok k l
/-- at least 0 by one fact, taken once, the sum as often as the fact has the symbol -/
noncomputable def rx_pos1 (sy : rx_Y) (k : Nat) (e : Int) (c : Int) : Bool := sy.2.any (fun F => rx_ap sy none F && rx_z (rx_cf k F.2.1) (fun m => rx_ps0 sy ((m * e, k) :: rx_ngt F.2.1) (m * c + (m - 1) - F.2.2)))
theorem rx_pos1_ok {sy : rx_Y} {g : List Int} (hG : rx_g sy g) {k : Nat} {e c y : Int} (h : rx_pos1 sy k e c = true) (hy : g[k]? = some y) : 0 ≤ e * y + c := by
  unfold rx_pos1 at h
  obtain ⟨F, hF, h2⟩ := List.any_eq_true.mp h
  rw [Bool.and_eq_true, rx_z_eq] at h2
  obtain ⟨zf, h3, h4⟩ := rx_ap_ok hG (fun p hp => by cases hp) h2.1 (hG.2 F hF)
  have hm := rx_cf_ok k F.2.1
  have h5 := rx_ps0_ok hG h2.2 (z := rx_cf k F.2.1 * e * y + -zf) ⟨y, -zf, hy, rx_ngt_ok h3, rfl⟩
  generalize rx_cf k F.2.1 = m at hm h5
  rcases Int.lt_or_le (e * y + c) 0 with h6 | h6
  · have h7 : m * (e * y + c) ≤ m * (-1) := Int.mul_le_mul_of_nonneg_left (by omega) (by omega)
    rw [Int.mul_add, ← Int.mul_assoc] at h7
    omega
  · exact h6
noncomputable def rx_pos2 (sy : rx_Y) (q : rx_I) (e c : Int) : Bool := match q.1 with
  | 0 => false
  | k + 1 => rx_pos1 sy k e c
/-- a value between two numbers: by its bounds, or by a fact -/
noncomputable def rx_inr (sy : rx_Y) (q : rx_I) (lo hi : Int) : Bool := (match rx_ile lo (rx_iv sy q).1 with
  | true => true
  | false => rx_pos2 sy q 1 (q.2 - lo)) && (match rx_ile (rx_iv sy q).2 hi with
  | true => true
  | false => rx_pos2 sy q (-1) (hi - q.2))
theorem rx_pos2_ok {sy : rx_Y} {g : List Int} (hG : rx_g sy g) {q : rx_I} {e c z : Int} (h : rx_pos2 sy q e c = true) (hz : rx_ev g q z) : 0 ≤ e * (z - q.2) + c := by
  obtain ⟨k, d⟩ := q
  cases k with
  | zero => cases h
  | succ k =>
    obtain ⟨y, h1, h2⟩ := hz
    have h3 := rx_pos1_ok hG h h1
    have e1 : z - d = y := by omega
    dsimp only
    rw [e1]
    exact h3
theorem rx_inr_ok {sy : rx_Y} {g : List Int} (hG : rx_g sy g) {q : rx_I} {lo hi z : Int} (h : rx_inr sy q lo hi = true) (hz : rx_ev g q z) : lo ≤ z ∧ z ≤ hi := by
  unfold rx_inr at h
  rw [Bool.and_eq_true] at h
  have i1 := rx_iv_ok hG hz
  obtain ⟨h1, h2⟩ := h
  constructor
  · split at h1
    · rename_i hb
      have := (rx_ile_iff _ _).mp hb
      omega
    · have := rx_pos2_ok hG h1 hz
      omega
  · split at h2
    · rename_i hb
      have := (rx_ile_iff _ _).mp hb
      omega
    · have := rx_pos2_ok hG h2 hz
      omega
