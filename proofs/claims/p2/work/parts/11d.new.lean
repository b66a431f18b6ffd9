/-! ===== instructions by bounds ===== -/
def rx_min (a b : Int) : Int := match rx_ile a b with
  | true => a
  | false => b
def rx_max (a b : Int) : Int := match rx_ile a b with
  | true => b
  | false => a
theorem rx_min_ok (a b : Int) : rx_min a b ≤ a ∧ rx_min a b ≤ b := by
  unfold rx_min
  cases h : rx_ile a b with
  | true => have := (rx_ile_iff a b).mp h; exact ⟨Int.le_refl _, this⟩
  | false => have := rx_ile_f h; dsimp only; omega
theorem rx_max_ok (a b : Int) : a ≤ rx_max a b ∧ b ≤ rx_max a b := by
  unfold rx_max
  cases h : rx_ile a b with
  | true => have := (rx_ile_iff a b).mp h; exact ⟨this, Int.le_refl _⟩
  | false => have := rx_ile_f h; dsimp only; omega
def rx_w32 (r : Int × Int) : Option (Int × Int) := match rx_ile (-2147483648) r.1 && rx_ile r.2 2147483647 with
  | true => some r
  | false => none
def rx_radd (x y : Int × Int) : Option (Int × Int) := rx_w32 (x.1 + y.1, x.2 + y.2)
def rx_rsub (x y : Int × Int) : Option (Int × Int) := rx_w32 (x.1 - y.2, x.2 - y.1)
def rx_rmul (x y : Int × Int) : Option (Int × Int) := match rx_ile 0 x.1 && rx_ile 0 y.1 with
  | true => rx_w32 (x.1 * y.1, x.2 * y.2)
  | false => none
def rx_rand (x y : Int × Int) : Option (Int × Int) := match rx_ile 0 x.1 with
  | true => match rx_ile 0 y.1 with
    | true => some (0, rx_min x.2 y.2)
    | false => some (0, x.2)
  | false => match rx_ile 0 y.1 with
    | true => some (0, y.2)
    | false => none
def rx_pws : List (Nat × Int) := [(1, 1), (2, 3), (3, 7), (4, 15), (5, 31), (6, 63), (7, 127), (8, 255), (9, 511), (10, 1023), (16, 65535), (31, 2147483647)]
def rx_ror (x y : Int × Int) : Option (Int × Int) := match rx_ile 0 x.1 && rx_ile 0 y.1 with
  | true => match rx_pws.find? (fun q => rx_ile (rx_max x.2 y.2) q.2) with
    | some q => some (0, q.2)
    | none => none
  | false => none
def rx_rshl (x y : Int × Int) : Option (Int × Int) := match rx_ile 0 x.1 && (rx_ile 0 y.1 && rx_ile y.2 30) with
  | true => match rx_ile (x.2 * 2 ^ y.2.toNat) 2147483647 with
    | true => some (x.1 * 2 ^ y.1.toNat, x.2 * 2 ^ y.2.toNat)
    | false => none
  | false => none
def rx_rshr (x _y : Int × Int) : Option (Int × Int) := some (rx_min x.1 0, rx_max x.2 (-1))
def rx_rdiv (x y : Int × Int) : Option (Int × Int) := match rx_ile 1 y.1 with
  | true => match rx_ile 0 x.1 with
    | true => some (x.1 / y.2, x.2 / y.1)
    | false => some (x.1, rx_max x.2 0)
  | false => none
def rx_rrem (x y : Int × Int) : Option (Int × Int) := match rx_ile 1 y.1 with
  | true => match rx_ile 0 x.1 with
    | true => some (0, rx_min x.2 (y.2 - 1))
    | false => some (1 - y.2, y.2 - 1)
  | false => none
/-- the bounds of what an instruction makes -/
def rx_Rok (f : Int × Int → Int × Int → Option (Int × Int)) (op : Int32 → Int32 → Int32) : Prop := ∀ (x y r : Int × Int) (xv yv : Int32), f x y = some r → x.1 ≤ xv.toInt ∧ xv.toInt ≤ x.2 → y.1 ≤ yv.toInt ∧ yv.toInt ≤ y.2 → r.1 ≤ (op xv yv).toInt ∧ (op xv yv).toInt ≤ r.2
theorem rx_w32_ok {r q : Int × Int} (h : rx_w32 r = some q) : q = r ∧ -2147483648 ≤ r.1 ∧ r.2 ≤ 2147483647 := by
  unfold rx_w32 at h
  split at h
  · rename_i hb
    cases h
    rw [Bool.and_eq_true] at hb
    exact ⟨rfl, (rx_ile_iff _ _).mp hb.1, (rx_ile_iff _ _).mp hb.2⟩
  · cases h
theorem rx_radd_ok : rx_Rok rx_radd (fun x y => x + y) := by
  intro x y r xv yv h hx hy
  obtain ⟨rfl, h1, h2⟩ := rx_w32_ok h
  dsimp only at h1 h2 ⊢
  rw [fb_addI (by omega) (by omega)]
  omega
theorem rx_rsub_ok : rx_Rok rx_rsub (fun x y => x - y) := by
  intro x y r xv yv h hx hy
  obtain ⟨rfl, h1, h2⟩ := rx_w32_ok h
  dsimp only at h1 h2 ⊢
  rw [fb_subI (by omega) (by omega)]
  omega
theorem rx_rmul_ok : rx_Rok rx_rmul (fun x y => x * y) := by
  intro x y r xv yv h hx hy
  unfold rx_rmul at h
  split at h
  · rename_i hb
    rw [Bool.and_eq_true] at hb
    have r1 := (rx_ile_iff _ _).mp hb.1
    have r2 := (rx_ile_iff _ _).mp hb.2
    obtain ⟨rfl, h1, h2⟩ := rx_w32_ok h
    dsimp only at h1 h2 ⊢
    have m1 : x.1 * y.1 ≤ xv.toInt * yv.toInt := Int.mul_le_mul hx.1 hy.1 r2 (by omega)
    have m2 : xv.toInt * yv.toInt ≤ x.2 * y.2 := Int.mul_le_mul hx.2 hy.2 (by omega) (by omega)
    have m3 : 0 ≤ x.1 * y.1 := Int.mul_nonneg r1 r2
    rw [Int32.toInt_mul, fb_bmod (by omega) (by omega)]
    exact ⟨m1, m2⟩
  · cases h
theorem rx_rand_ok : rx_Rok rx_rand (fun x y => x &&& y) := by
  intro x y r xv yv h hx hy
  unfold rx_rand at h
  split at h
  · rename_i hb
    have r1 := (rx_ile_iff _ _).mp hb
    have q1 := rn_andL (x := xv) (y := yv) (by omega)
    split at h
    · rename_i hb2
      have r2 := (rx_ile_iff _ _).mp hb2
      have q2 := rn_andR (x := xv) (y := yv) (by omega)
      cases h
      refine ⟨q1.1, ?_⟩
      dsimp only
      unfold rx_min
      split <;> omega
    · cases h
      exact ⟨q1.1, by dsimp only; omega⟩
  · split at h
    · rename_i hb2
      have r2 := (rx_ile_iff _ _).mp hb2
      have q2 := rn_andR (x := xv) (y := yv) (by omega)
      cases h
      exact ⟨q2.1, by dsimp only; omega⟩
    · cases h
theorem rx_pws_ok : ∀ q ∈ rx_pws, q.1 ≤ 31 ∧ q.2 + 1 = 2 ^ q.1 := by decide
theorem rx_ror_eq {x y r : Int × Int} (h : rx_ror x y = some r) : 0 ≤ x.1 ∧ 0 ≤ y.1 ∧ r.1 = 0 ∧ ∃ k : Nat, k ≤ 31 ∧ r.2 + 1 = 2 ^ k ∧ x.2 ≤ r.2 ∧ y.2 ≤ r.2 := by
  unfold rx_ror at h
  split at h
  · rename_i hb
    rw [Bool.and_eq_true] at hb
    have r1 := (rx_ile_iff _ _).mp hb.1
    have r2 := (rx_ile_iff _ _).mp hb.2
    split at h
    · rename_i q hq
      cases h
      have h1 := List.find?_some hq
      have h2 := rx_pws_ok q (List.mem_of_find?_eq_some hq)
      have h3 := (rx_ile_iff _ _).mp h1
      have h4 := rx_max_ok x.2 y.2
      exact ⟨r1, r2, rfl, q.1, h2.1, h2.2, by dsimp only; omega, by dsimp only; omega⟩
    · cases h
  · cases h
theorem rx_ror_ok : rx_Rok rx_ror (fun x y => x ||| y) := by
  intro x y r xv yv h hx hy
  obtain ⟨h1, h2, h3, k, h4, h5, h6, h7⟩ := rx_ror_eq h
  have q := rn_or (x := xv) (y := yv) (by omega) (by omega) h4 (by omega) (by omega)
  dsimp only
  omega
theorem rx_rxor_ok : rx_Rok rx_ror (fun x y => x ^^^ y) := by
  intro x y r xv yv h hx hy
  obtain ⟨h1, h2, h3, k, h4, h5, h6, h7⟩ := rx_ror_eq h
  have q := rn_xor (x := xv) (y := yv) (by omega) (by omega) h4 (by omega) (by omega)
  dsimp only
  omega
/-- two that can't be alike: not 0 -/
def rx_rxr (x y : Int × Int) : Option (Int × Int) := match rx_ror x y with
  | some r => match rx_ile (x.2 + 1) y.1 || rx_ile (y.2 + 1) x.1 with
    | true => some (1, r.2)
    | false => some r
  | none => none
theorem rx_xor0 {x y : Int32} (h : (x ^^^ y).toInt = 0) : x = y := by
  have h1 : x ^^^ y = 0 := Int32.toInt_inj.mp (by rw [h]; rfl)
  have h2 : (x ^^^ y) ^^^ y = 0 ^^^ y := by rw [h1]
  rw [Int32.xor_assoc, Int32.xor_self, Int32.xor_zero, Int32.zero_xor] at h2
  exact h2
theorem rx_rxr_ok : rx_Rok rx_rxr (fun x y => x ^^^ y) := by
  intro x y r xv yv h hx hy
  unfold rx_rxr at h
  split at h
  · rename_i r0 hr
    have q := rx_rxor_ok x y r0 xv yv hr hx hy
    dsimp only at q ⊢
    split at h
    · rename_i hb
      cases h
      obtain ⟨h1, h2, h3, k, h4, h5, h6, h7⟩ := rx_ror_eq hr
      have hne : ¬ (xv ^^^ yv).toInt = 0 := fun he => by
        have := rx_xor0 he
        subst this
        rw [Bool.or_eq_true] at hb
        rcases hb with hb | hb
        · have := (rx_ile_iff _ _).mp hb
          omega
        · have := (rx_ile_iff _ _).mp hb
          omega
      have q0 := rn_xor (x := xv) (y := yv) (by omega) (by omega) h4 (by omega) (by omega)
      exact ⟨by dsimp only; omega, q.2⟩
    · cases h
      exact q
  · cases h
theorem rx_rshl_ok : rx_Rok rx_rshl (fun x y => x <<< (y &&& 31)) := by
  intro x y r xv yv h hx hy
  unfold rx_rshl at h
  split at h
  · rename_i hb
    rw [Bool.and_eq_true, Bool.and_eq_true] at hb
    split at h
    · rename_i hc
      cases h
      exact rn_shl hx hy ((rx_ile_iff _ _).mp hb.1) ((rx_ile_iff _ _).mp hb.2.1) ((rx_ile_iff _ _).mp hb.2.2) ((rx_ile_iff _ _).mp hc)
    · cases h
  · cases h
theorem rx_rshr_ok : rx_Rok rx_rshr (fun x y => x >>> (y &&& 31)) := by
  intro x y r xv yv h hx hy
  cases h
  have h1 := rn_shr xv yv
  have h2 := rx_min_ok x.1 0
  have h3 := rx_max_ok x.2 (-1)
  dsimp only
  rcases (show 0 ≤ xv.toInt ∨ xv.toInt < 0 by omega) with q | q
  · have := h1.1 q; omega
  · have := h1.2 q; omega
theorem rx_rdiv_ok : rx_Rok rx_rdiv (fun x y => x / y) := by
  intro x y r xv yv h hx hy
  unfold rx_rdiv at h
  split at h
  · rename_i hb
    have r1 := (rx_ile_iff _ _).mp hb
    dsimp only
    rw [rn_div (by omega)]
    split at h
    · rename_i hb2
      have r2 := (rx_ile_iff _ _).mp hb2
      cases h
      rw [Int.tdiv_eq_ediv_of_nonneg (by omega)]
      dsimp only
      obtain ⟨a, ha⟩ := Int.eq_ofNat_of_zero_le (show 0 ≤ xv.toInt by omega)
      obtain ⟨d, hd⟩ := Int.eq_ofNat_of_zero_le (show 0 ≤ yv.toInt by omega)
      obtain ⟨x1, hx1⟩ := Int.eq_ofNat_of_zero_le (show 0 ≤ x.1 by omega)
      obtain ⟨x2, hx2⟩ := Int.eq_ofNat_of_zero_le (show 0 ≤ x.2 by omega)
      obtain ⟨y1, hy1⟩ := Int.eq_ofNat_of_zero_le (show 0 ≤ y.1 by omega)
      obtain ⟨y2, hy2⟩ := Int.eq_ofNat_of_zero_le (show 0 ≤ y.2 by omega)
      rw [ha, hd, hx1, hx2, hy1, hy2]
      rw [ha, hx1, hx2] at hx
      rw [hd, hy1, hy2] at hy
      have k1 : x1 / y2 ≤ a / d := Nat.div_le_div (by omega) (by omega) (by omega)
      have k2 : a / d ≤ x2 / y1 := Nat.div_le_div (by omega) (by omega) (by omega)
      exact ⟨Int.ofNat_le.mpr k1, Int.ofNat_le.mpr k2⟩
    · rename_i hb2
      have r2 := rx_ile_f hb2
      cases h
      have k1 : (xv.toInt.tdiv yv.toInt).natAbs ≤ xv.toInt.natAbs := by
        rw [Int.natAbs_tdiv]
        exact Nat.div_le_self _ _
      have k2 := rx_max_ok x.2 0
      dsimp only
      rcases (show 0 ≤ xv.toInt ∨ xv.toInt < 0 by omega) with q | q
      · have := Int.tdiv_nonneg q (show 0 ≤ yv.toInt by omega)
        omega
      · have e1 : xv.toInt.tdiv yv.toInt = -((-xv.toInt).tdiv yv.toInt) := by rw [Int.neg_tdiv]; omega
        have e2 := Int.tdiv_nonneg (show 0 ≤ -xv.toInt by omega) (show 0 ≤ yv.toInt by omega)
        omega
  · cases h
theorem rx_rrem_ok : rx_Rok rx_rrem (fun x y => x - x / y * y) := by
  intro x y r xv yv h hx hy
  unfold rx_rrem at h
  split at h
  · rename_i hb
    have r1 := (rx_ile_iff _ _).mp hb
    dsimp only
    rw [rn_rem (by omega)]
    have h3 := Int.tmod_lt_of_pos xv.toInt (show 0 < yv.toInt by omega)
    have h4 := Int.lt_tmod_of_pos xv.toInt (show 0 < yv.toInt by omega)
    split at h
    · rename_i hb2
      have r2 := (rx_ile_iff _ _).mp hb2
      cases h
      have q1 := Int.tmod_nonneg yv.toInt (show 0 ≤ xv.toInt by omega)
      have q2 : 0 ≤ xv.toInt.tdiv yv.toInt * yv.toInt := Int.mul_nonneg (Int.tdiv_nonneg (by omega) (by omega)) (by omega)
      have q3 := Int.tdiv_mul_add_tmod xv.toInt yv.toInt
      dsimp only
      unfold rx_min
      split <;> omega
    · cases h
      dsimp only
      omega
  · cases h
/-- two ints, of which not both are known -/
noncomputable def rx_kn (sy : rx_Y) (q : rx_I) : Bool := match rx_cs sy q with
  | some _ => true
  | none => false
noncomputable def rx_rb (i : rx_E) (T : rx_T) (f : Int × Int → Int × Int → Option (Int × Int)) (g : Bool → Bool → Bool) : Option (List rx_T) := match T.2.2.2.2.2 with
  | .inl y :: .inl x :: sa => match g (rx_kn T.1 x) (rx_kn T.1 y) with
    | true => none
    | false => match f (rx_iv T.1 x) (rx_iv T.1 y) with
      | some r => rx_z r.1 (fun lo => rx_z r.2 (fun hi => rx_fr T.1 lo hi (fun s q => rx_out i T sa s (.inl q))))
      | none => none
  | _ => none
/-- what is one symbol less itself -/
noncomputable def rx_sub0 (i : rx_E) (T : rx_T) : Option (List rx_T) := match T.2.2.2.2.2 with
  | .inl (k + 1, c) :: .inl (j + 1, d) :: sa => match Nat.beq k j && (rx_ile (-2147483648) (d - c) && rx_ile (d - c) 2147483647) with
    | true => rx_z (d - c) (fun z => rx_out i T sa T.1 (.inl (0, z)))
    | false => none
  | _ => none
/-- a new long -/
noncomputable def rx_frL (i : rx_E) (T : rx_T) (sa : List rx_V) (lo hi : Int) : Option (List rx_T) := rx_fr T.1 lo hi (fun s q => rx_out i T sa s (.inr (.inl q)))
noncomputable def rx_lany (i : rx_E) (T : rx_T) (f : Int64 → Int64 → Int64) : Option (List rx_T) := match T.2.2.2.2.2 with
  | .inr (.inl (0, y)) :: .inr (.inl (0, x)) :: sa => rx_z (f (Int64.ofInt x) (Int64.ofInt y)).toInt (fun z => rx_out i T sa T.1 (.inr (.inl (0, z))))
  | .inr (.inl _) :: .inr (.inl _) :: sa => rx_frL i T sa (-9223372036854775808) 9223372036854775807
  | _ => none
/-- a long by a known int above 0 -/
noncomputable def rx_ldv (i : rx_E) (T : rx_T) : Option (List rx_T) := match T.2.2.2.2.2 with
  | .inr (.inl (0, y)) :: .inr (.inl x) :: sa => match rx_ile 1 y && rx_ile y 2147483647 with
    | true => match rx_ile 0 (rx_iv T.1 x).1 && rx_ile (rx_iv T.1 x).2 9223372036854775807 with
      | true => rx_z ((rx_iv T.1 x).1 / y) (fun lo => rx_z ((rx_iv T.1 x).2 / y) (fun hi => rx_frL i T sa lo hi))
      | false => rx_frL i T sa (-9223372036854775808) 9223372036854775807
    | false => none
  | _ => none
noncomputable def rx_lrm (i : rx_E) (T : rx_T) : Option (List rx_T) := match T.2.2.2.2.2 with
  | .inr (.inl (0, y)) :: .inr (.inl x) :: sa => match rx_ile 1 y && rx_ile y 2147483647 with
    | true => match rx_cs T.1 x with
      | some a => rx_z (a.tmod y) (fun z => rx_out i T sa T.1 (.inr (.inl (0, z))))
      | none => rx_z (1 - y) (fun lo => rx_z (y - 1) (fun hi => rx_frL i T sa lo hi))
    | false => none
  | _ => none
noncomputable def rx_lsh (i : rx_E) (T : rx_T) : Option (List rx_T) := match T.2.2.2.2.2 with
  | .inl _ :: .inr (.inl _) :: sa => rx_frL i T sa (-9223372036854775808) 9223372036854775807
  | _ => none
noncomputable def rx_lcp (i : rx_E) (T : rx_T) : Option (List rx_T) := match T.2.2.2.2.2 with
  | .inr (.inl y) :: .inr (.inl x) :: sa => some (rx_to T (i.1 + i.2.2.1) (.inl (0, -1) :: sa) (rx_br .lt T.1 x y) ++ (rx_to T (i.1 + i.2.2.1) (.inl (0, 0) :: sa) (rx_br .eq T.1 x y) ++ rx_to T (i.1 + i.2.2.1) (.inl (0, 1) :: sa) (rx_br .gt T.1 x y)))
  | _ => none
noncomputable def rx_l2 (i : rx_E) (T : rx_T) : Option (List rx_T) := match T.2.2.2.2.2 with
  | .inr (.inl x) :: sa => match rx_ile (-2147483648) (rx_iv T.1 x).1 && rx_ile (rx_iv T.1 x).2 2147483647 with
    | true => some [rx_nx i T (.inl x :: sa)]
    | false => rx_any i T sa
  | _ => none
noncomputable def rx_ng (i : rx_E) (T : rx_T) : Option (List rx_T) := match T.2.2.2.2.2 with
  | .inl x :: sa => match rx_ile (-2147483647) (rx_iv T.1 x).1 with
    | true => match rx_cs T.1 x with
      | some a => rx_z (-a) (fun z => rx_out i T sa T.1 (.inl (0, z)))
      | none => rx_z (-(rx_iv T.1 x).2) (fun lo => rx_z (-(rx_iv T.1 x).1) (fun hi => rx_fr T.1 lo hi (fun s q => rx_out i T sa s (.inl q))))
    | false => rx_any i T sa
  | _ => none
/-! rows with bounds -/
noncomputable def rx_evb (sy : rx_Y) (v : rx_V) : Int × Int := match v with
  | .inl q => rx_iv sy q
  | .inr (.inl (w, lo)) => (lo, lo + Int.ofNat w)
  | _ => (0, -1)
theorem rx_evb_ok {sy : rx_Y} {g : List Int} (hG : rx_g sy g) {v : rx_V} {z : Int} (h : rx_rv g v z) : (rx_evb sy v).1 ≤ z ∧ z ≤ (rx_evb sy v).2 := by
  rcases v with q | ⟨w, lo⟩ | _ | _
  · exact rx_iv_ok hG h
  · exact h
  · exact h.elim
  · exact h.elim
noncomputable def rx_hul {β : Type} (sy : rx_Y) (L : List rx_V) : (Option (Int × Int) → β) → β := @List.rec rx_V (fun _ => (Option (Int × Int) → β) → β) (fun k => k none) (fun v _ ih k => ih (fun r => match r with
  | none => rx_z (rx_evb sy v).1 (fun a => rx_z (rx_evb sy v).2 (fun b => k (some (a, b))))
  | some r => rx_z (rx_min (rx_evb sy v).1 r.1) (fun a => rx_z (rx_max (rx_evb sy v).2 r.2) (fun b => k (some (a, b)))))) L
theorem rx_hul_ok {β : Type} (sy : rx_Y) (L : List rx_V) : ∀ k : Option (Int × Int) → β, ∃ o, rx_hul sy L k = k o ∧ ∀ v ∈ L, ∃ r, o = some r ∧ r.1 ≤ (rx_evb sy v).1 ∧ (rx_evb sy v).2 ≤ r.2 := by
  induction L with
  | nil => exact fun k => ⟨none, rfl, fun v h => absurd h List.not_mem_nil⟩
  | cons v L ih =>
    intro k
    obtain ⟨o, h1, h2⟩ := ih (fun r => match r with
      | none => rx_z (rx_evb sy v).1 (fun a => rx_z (rx_evb sy v).2 (fun b => k (some (a, b))))
      | some r => rx_z (rx_min (rx_evb sy v).1 r.1) (fun a => rx_z (rx_max (rx_evb sy v).2 r.2) (fun b => k (some (a, b)))))
    have h3 : rx_hul sy (v :: L) k = _ := h1
    rw [h3]
    cases o with
    | none =>
      dsimp only
      rw [rx_z_eq, rx_z_eq]
      refine ⟨_, rfl, fun u hu => ⟨_, rfl, ?_⟩⟩
      rcases List.mem_cons.mp hu with rfl | hu
      · exact ⟨Int.le_refl _, Int.le_refl _⟩
      · obtain ⟨r, hr, -⟩ := h2 u hu
        cases hr
    | some r =>
      dsimp only
      rw [rx_z_eq, rx_z_eq]
      refine ⟨_, rfl, fun u hu => ⟨_, rfl, ?_⟩⟩
      have m1 := rx_min_ok (rx_evb sy v).1 r.1
      have m2 := rx_max_ok (rx_evb sy v).2 r.2
      rcases List.mem_cons.mp hu with rfl | hu
      · exact ⟨m1.1, m2.1⟩
      · obtain ⟨r', hr, q1, q2⟩ := h2 u hu
        cases hr
        dsimp only
        omega
/-- the values from lo to hi -/
noncomputable def rx_win (ex : List rx_V) (df : rx_V) (lo hi : Nat) : List rx_V := match Nat.ble (rx_lenR ex) hi with
  | true => df :: (ex.drop lo).take (hi + 1 - lo)
  | false => (ex.drop lo).take (hi + 1 - lo)
theorem rx_win_ok {ex : List rx_V} {df : rx_V} {lo hi j : Nat} (h1 : lo ≤ j) (h2 : j ≤ hi) : rx_el ex df j ∈ rx_win ex df lo hi := by
  unfold rx_win
  rw [rx_lenR_eq]
  have key : ∀ a, ex[j]? = some a → a ∈ (ex.drop lo).take (hi + 1 - lo) := by
    intro a ha
    refine List.mem_of_getElem? (i := j - lo) ?_
    rw [List.getElem?_take_of_lt (by omega), List.getElem?_drop]
    rw [show lo + (j - lo) = j by omega]
    exact ha
  unfold rx_el
  cases hj : ex[j]? with
  | some a =>
    dsimp only
    split
    · exact List.mem_cons_of_mem _ (key a hj)
    · exact key a hj
  | none =>
    have hl : ex.length ≤ j := List.getElem?_eq_none_iff.mp hj
    have hb : Nat.ble ex.length hi = true := Nat.ble_eq_true_of_le (by omega)
    rw [hb]
    exact List.mem_cons_self
/-- an index within bounds -/
noncomputable def rx_idx (sy : rx_Y) (q : rx_I) (n : Nat) : Option (Nat × Nat) := match (rx_iv sy q).1 with
  | .ofNat lo => match (rx_iv sy q).2 with
    | .ofNat hi => match Nat.ble (hi + 1) n with
      | true => some (lo, hi)
      | false => none
    | .negSucc _ => none
  | .negSucc _ => none
theorem rx_idx_ok {sy : rx_Y} {g : List Int} (hG : rx_g sy g) {q : rx_I} {x : Int32} (hq : rx_ev g q x.toInt) {n lo hi : Nat} (h : rx_idx sy q n = some (lo, hi)) : lo ≤ x.toNatClampNeg ∧ x.toNatClampNeg ≤ hi ∧ x.toNatClampNeg < n ∧ x.toInt = (x.toNatClampNeg : Int) ∧ vp_in x n := by
  have hi1 := rx_iv_ok hG hq
  unfold rx_idx at h
  split at h
  · rename_i a ha
    split at h
    · rename_i c hc
      split at h
      · rename_i hb
        cases h
        have hb := Nat.le_of_ble_eq_true hb
        rw [ha, hc] at hi1
        have e1 : Int.ofNat lo = (lo : Int) := rfl
        have e2 : Int.ofNat hi = (hi : Int) := rfl
        have e3 : x.toNatClampNeg = x.toInt.toNat := rfl
        rw [e1, e2] at hi1
        refine ⟨by omega, by omega, by omega, by omega, vp_in_iff.mpr ⟨by omega, by omega⟩⟩
      · cases h
    · cases h
  · cases h
noncomputable def rx_wr (t : Nat) (q : rx_I) : rx_V := match Nat.beq t 3 with
  | true => .inr (.inl q)
  | false => .inl q
def rx_bz (a : rx_B) (j : Nat) : Int := match a with
  | .inl f => (f j).toInt
  | .inr (.inl f) => (f j).toInt
  | _ => 0
def rx_bv (a : rx_B) (j : Nat) : Value := match a with
  | .inl f => .int (f j)
  | .inr (.inl f) => .long (f j)
  | _ => .null
theorem rx_aR_at {g : List Int} {t n : Nat} {ex : List rx_V} {df : rx_V} {a : rx_B} (h : rx_aR g t n ex df a) {j : Nat} (hj : j < n) : rx_rv g (rx_el ex df j) (rx_bz a j) := by
  rcases a with f | f | f | f | f
  · exact h.2 j hj
  · exact h.2 j hj
  · exact h.elim
  · exact h.elim
  · exact h.elim
theorem rx_wr_ok {b : (Nat → Option Nat) × List Int} {as : List Nat} {g g' : List Int} {t n : Nat} {ex : List rx_V} {df : rx_V} {a : rx_B} (h : rx_aR g t n ex df a) {q : rx_I} {j : Nat} (hq : rx_ev g' q (rx_bz a j)) : rx_v b as g' (rx_wr t q) (rx_bv a j) := by
  rcases a with f | f | f | f | f
  · have h1 := h.1
    unfold rx_wr
    have e : Nat.beq t 3 = false := by
      cases hb : Nat.beq t 3 with
      | false => rfl
      | true => have := Nat.eq_of_beq_eq_true hb; omega
    rw [e]
    exact ⟨f j, rfl, hq⟩
  · have h1 : t = 3 := h.1
    subst h1
    exact ⟨f j, rfl, hq⟩
  · exact h.elim
  · exact h.elim
  · exact h.elim
/-- a value of a row with bounds is loaded -/
noncomputable def rx_ldR (i : rx_E) (T : rx_T) (k : Nat → Bool) : Option (List rx_T) := match T.2.2.2.2.2 with
  | .inl q :: .inr (.inr (.inl (some r))) :: sa => match rx_nth T.2.1 r with
    | some (.inr (t, n, ex, df)) => match Nat.ble 1000 t && k (t - 1000) with
      | true => match rx_idx T.1 q n with
        | some (lo, hi) => match Nat.beq lo hi with
          | true => match rx_el ex df lo with
            | .inl v => some [rx_nx i T (rx_wr (t - 1000) v :: sa)]
            | v => rx_z (rx_evb T.1 v).1 (fun a => rx_z (rx_evb T.1 v).2 (fun c => rx_fr T.1 a c (fun s p => rx_ups df ex lo (.inl p) (fun ex => rx_setR T.2.1 r (.inr (t, n, ex, df)) (fun h => some [(s, h, T.2.2.1, i.1 + i.2.2.1, T.2.2.2.2.1, rx_wr (t - 1000) p :: sa)])))))
          | false => rx_hul T.1 (rx_win ex df lo hi) (fun o => match o with
            | some r => rx_fr T.1 r.1 r.2 (fun s p => rx_out i T sa s (rx_wr (t - 1000) p))
            | none => none)
        | none => none
      | false => none
    | _ => none
  | _ => none
/-- a value joined with bounds -/
noncomputable def rx_jn {β : Type} (sy : rx_Y) (c : Int × Int) (v : rx_V) (k : rx_V → β) : β := rx_z (rx_min (rx_evb sy v).1 c.1) (fun lo => rx_z (rx_max (rx_evb sy v).2 c.2) (fun hi => rx_zn (hi - lo).toNat (fun w => k (.inr (.inl (w, lo))))))
def rx_jnv (lo hi : Int) : rx_V := .inr (.inl ((hi - lo).toNat, lo))
theorem rx_jn_eq {β : Type} (sy : rx_Y) (c : Int × Int) (v : rx_V) (k : rx_V → β) : rx_jn sy c v k = k (rx_jnv (rx_min (rx_evb sy v).1 c.1) (rx_max (rx_evb sy v).2 c.2)) := by
  unfold rx_jn
  rw [rx_z_eq, rx_z_eq, rx_zn_eq]
  rfl
theorem rx_jnv_ok {g : List Int} {lo hi z : Int} (h1 : lo ≤ z) (h2 : z ≤ hi) : rx_rv g (rx_jnv lo hi) z := by
  refine ⟨h1, ?_⟩
  show z ≤ lo + ((hi - lo).toNat : Int)
  omega
noncomputable def rx_jw {β : Type} (sy : rx_Y) (c : Int × Int) (lo hi : Nat) (ex : List rx_V) : Nat → (List rx_V → β) → β := @List.rec rx_V (fun _ => Nat → (List rx_V → β) → β) (fun _ k => k []) (fun v _ ih j k => @Bool.rec (fun _ => β) (rx_zn (j + 1) (fun j => ih j (fun l => k (v :: l)))) (rx_jn sy c v (fun v => rx_zn (j + 1) (fun j => ih j (fun l => k (v :: l))))) (Nat.ble lo j && Nat.ble j hi)) ex
theorem rx_jw_ok {β : Type} (sy : rx_Y) (c : Int × Int) (lo hi : Nat) (ex : List rx_V) : ∀ (j : Nat) (k : List rx_V → β), ∃ ex', rx_jw sy c lo hi ex j k = k ex' ∧ ex'.length = ex.length ∧ ∀ (i : Nat) (v : rx_V), ex[i]? = some v → ∃ v', ex'[i]? = some v' ∧ ((v' = v ∧ ¬ (lo ≤ j + i ∧ j + i ≤ hi)) ∨ v' = rx_jnv (rx_min (rx_evb sy v).1 c.1) (rx_max (rx_evb sy v).2 c.2)) := by
  induction ex with
  | nil => exact fun j k => ⟨[], rfl, rfl, fun i v h => by simp at h⟩
  | cons v ex ih =>
    intro j k
    cases hb : (Nat.ble lo j && Nat.ble j hi) with
    | false =>
      obtain ⟨ex', h1, h2, h3⟩ := ih (j + 1) (fun l => k (v :: l))
      refine ⟨v :: ex', ?_, by rw [List.length_cons, List.length_cons, h2], fun i u hu => ?_⟩
      · show @Bool.rec (fun _ => β) (rx_zn (j + 1) (fun j => rx_jw sy c lo hi ex j (fun l => k (v :: l)))) (rx_jn sy c v (fun v => rx_zn (j + 1) (fun j => rx_jw sy c lo hi ex j (fun l => k (v :: l))))) (Nat.ble lo j && Nat.ble j hi) = _
        rw [hb]
        dsimp only
        rw [rx_zn_eq, h1]
      · cases i with
        | zero =>
          rw [List.getElem?_cons_zero] at hu
          cases hu
          refine ⟨v, rfl, Or.inl ⟨rfl, fun hc => ?_⟩⟩
          rw [Nat.ble_eq_true_of_le (show lo ≤ j by omega), Nat.ble_eq_true_of_le (show j ≤ hi by omega)] at hb
          cases hb
        | succ i =>
          rw [List.getElem?_cons_succ] at hu
          obtain ⟨v', q1, q2⟩ := h3 i u hu
          refine ⟨v', by rw [List.getElem?_cons_succ]; exact q1, ?_⟩
          rw [show j + (i + 1) = j + 1 + i by omega]
          exact q2
    | true =>
      obtain ⟨ex', h1, h2, h3⟩ := ih (j + 1) (fun l => k (rx_jnv (rx_min (rx_evb sy v).1 c.1) (rx_max (rx_evb sy v).2 c.2) :: l))
      refine ⟨rx_jnv (rx_min (rx_evb sy v).1 c.1) (rx_max (rx_evb sy v).2 c.2) :: ex', ?_, by rw [List.length_cons, List.length_cons, h2], fun i u hu => ?_⟩
      · show @Bool.rec (fun _ => β) (rx_zn (j + 1) (fun j => rx_jw sy c lo hi ex j (fun l => k (v :: l)))) (rx_jn sy c v (fun v => rx_zn (j + 1) (fun j => rx_jw sy c lo hi ex j (fun l => k (v :: l))))) (Nat.ble lo j && Nat.ble j hi) = _
        rw [hb]
        dsimp only
        rw [rx_jn_eq, rx_zn_eq, h1]
      · cases i with
        | zero =>
          rw [List.getElem?_cons_zero] at hu
          cases hu
          exact ⟨_, rfl, Or.inr rfl⟩
        | succ i =>
          rw [List.getElem?_cons_succ] at hu
          obtain ⟨v', q1, q2⟩ := h3 i u hu
          refine ⟨v', by rw [List.getElem?_cons_succ]; exact q1, ?_⟩
          rw [show j + (i + 1) = j + 1 + i by omega]
          exact q2
/-- the value that is stored -/
noncomputable def rx_un (a : rx_V) : Option rx_I := match a with
  | .inl q => some q
  | .inr (.inl q) => some q
  | _ => none
noncomputable def rx_stR (i : rx_E) (T : rx_T) (k : Nat → Bool) : Option (List rx_T) := match T.2.2.2.2.2 with
  | a :: .inl q :: .inr (.inr (.inl (some r))) :: sa => match rx_nth T.2.1 r with
    | some (.inr (t, n, ex, df)) => match Nat.ble 1000 t && (k (t - 1000) && rx_fit (t - 1000) T.1 a) with
      | true => match rx_idx T.1 q n with
        | some (lo, hi) => match rx_un a with
          | some v => match Nat.beq lo hi with
            | true => rx_ups df ex lo (.inl v) (fun ex => rx_setR T.2.1 r (.inr (t, n, ex, df)) (fun h => some [(T.1, h, T.2.2.1, i.1 + i.2.2.1, T.2.2.2.2.1, sa)]))
            | false => rx_z (rx_iv T.1 v).1 (fun c1 => rx_z (rx_iv T.1 v).2 (fun c2 => rx_jw T.1 (c1, c2) lo hi ex 0 (fun ex' => match Nat.ble (rx_lenR ex) hi with
              | true => rx_jn T.1 (c1, c2) df (fun df => rx_setR T.2.1 r (.inr (t, n, ex', df)) (fun h => some [(T.1, h, T.2.2.1, i.1 + i.2.2.1, T.2.2.2.2.1, sa)]))
              | false => rx_setR T.2.1 r (.inr (t, n, ex', df)) (fun h => some [(T.1, h, T.2.2.1, i.1 + i.2.2.1, T.2.2.2.2.1, sa)]))))
          | none => none
        | none => none
      | false => none
    | _ => none
  | _ => none
/-- Math.max (5), Math.abs (6) -/
noncomputable def rx_mth (mc ms : Nat) (i : rx_E) (T : rx_T) : Option (List rx_T) := match Nat.beq i.2.2.2.2.2.1 5 with
  | true => match T.2.2.2.2.2 with
    | .inl y :: .inl x :: sa => match Nat.ble (rx_cats sa) 8 && (Nat.ble T.2.2.1.1 mc && Nat.ble T.2.2.1.2 ms) with
      | true => some (rx_to T (i.1 + i.2.2.1) (.inl y :: sa) (rx_br .lt T.1 x y) ++ rx_to T (i.1 + i.2.2.1) (.inl x :: sa) (rx_br .ge T.1 x y))
      | false => none
    | _ => none
  | false => match Nat.beq i.2.2.2.2.2.1 6 with
    | true => match T.2.2.2.2.2 with
      | .inl x :: sa => match Nat.ble (rx_cats sa) 8 && (Nat.ble T.2.2.1.1 mc && Nat.ble T.2.2.1.2 ms) with
        | true => match rx_ile (-2147483647) (rx_iv T.1 x).1 with
          | true => match rx_cs T.1 x with
            | some a => rx_z (rx_max a (-a)) (fun z => rx_out i T sa T.1 (.inl (0, z)))
            | none => match rx_ile 0 (rx_iv T.1 x).1 with
              | true => some [rx_nx i T (.inl x :: sa)]
              | false => rx_z (rx_max (rx_iv T.1 x).2 (-(rx_iv T.1 x).1)) (fun hi => rx_fr T.1 0 hi (fun s q => rx_out i T sa s (.inl q)))
          | false => rx_any i T sa
        | false => none
      | _ => none
    | false => none
/-- System.arraycopy of rows with bounds -/
noncomputable def rx_cpy (i : rx_E) (T : rx_T) : Option (List rx_T) := match T.2.2.2.2.2 with
  | .inl n :: .inl d :: .inr (.inr (.inl (some r))) :: .inl f :: .inr (.inr (.inl (some o))) :: sa => match rx_cs T.1 n with
    | some (.ofNat nn) => match rx_cs T.1 d with
      | some (.ofNat 0) => match rx_cs T.1 f with
        | some (.ofNat 0) => match rx_nth T.2.1 o with
          | some (.inr (t, n0, ex0, df0)) => match rx_nth T.2.1 r with
            | some (.inr (t1, n1, _, _)) => match (Nat.ble 1000 t && (Nat.beq t t1 && (Nat.beq (t - 1000) 0 || Nat.beq (t - 1000) 3))) && (Nat.beq n0 nn && (Nat.beq n1 nn && (Nat.ble nn 1000000 && Nat.ble (rx_cats sa) 8))) with
              | true => rx_setR T.2.1 r (.inr (t, n1, ex0, df0)) (fun h => some [(T.1, h, T.2.2.1, i.1 + i.2.2.1, T.2.2.2.2.1, sa)])
              | false => none
            | _ => none
          | _ => none
        | _ => none
      | _ => none
    | _ => none
  | _ => none
/-- a local counted on past what an int holds: any int -/
noncomputable def rx_inc0 (i : rx_E) (T : rx_T) (k : Nat) (n : Int) : Option (List rx_T) := match rx_lk k T.2.2.2.2.1 with
  | some (.inl q) => match rx_ile (-2147483648) ((rx_iv T.1 q).1 + n) && rx_ile ((rx_iv T.1 q).2 + n) 2147483647 with
    | true => none
    | false => rx_f1 k T.2.2.2.2.1 (fun lc => rx_fr T.1 (-2147483648) 2147483647 (fun s q' => some [(s, T.2.1, T.2.2.1, i.1 + i.2.2.1, (k, .inl q') :: lc, T.2.2.2.2.2)]))
  | _ => none
noncomputable def rx_sN (mc ms : Nat) (i : rx_E) (T : rx_T) : Option (List rx_T) := match i.2.1 with
  | .iinc k n => rx_inc0 i T k n
  | .iadd => rx_rb i T rx_radd (fun a b => a || b)
  | .isub => match rx_sub0 i T with
    | some L => some L
    | none => rx_rb i T rx_rsub (fun _ b => b)
  | .imul => rx_rb i T rx_rmul (fun a b => a && b)
  | .iand => rx_rb i T rx_rand (fun a b => a && b)
  | .ior => rx_rb i T rx_ror (fun a b => a && b)
  | .ixor => rx_rb i T rx_rxr (fun a b => a && b)
  | .ishl => rx_rb i T rx_rshl (fun a b => a && b)
  | .ishr => rx_rb i T rx_rshr (fun a b => a && b)
  | .idiv => rx_rb i T rx_rdiv (fun a b => a && b)
  | .irem => rx_rb i T rx_rrem (fun a b => a && b)
  | .ineg => rx_ng i T
  | .ladd => rx_lany i T (fun x y => x + y)
  | .lsub => rx_lany i T (fun x y => x - y)
  | .lmul => rx_lany i T (fun x y => x * y)
  | .lor => rx_lany i T (fun x y => x ||| y)
  | .ldiv => rx_ldv i T
  | .lrem => rx_lrm i T
  | .lshl => match rx_sX i T with
    | some L => some L
    | none => rx_lsh i T
  | .lshr => rx_lsh i T
  | .lcmp => rx_lcp i T
  | .l2i => rx_l2 i T
  | .iaload => rx_ldR i T (fun t => Nat.beq t 0)
  | .baload => rx_ldR i T (fun t => Nat.beq t 1 || Nat.beq t 2)
  | .laload => rx_ldR i T (fun t => Nat.beq t 3)
  | .iastore => rx_stR i T (fun t => Nat.beq t 0)
  | .bastore => rx_stR i T (fun t => Nat.beq t 1 || Nat.beq t 2)
  | .lastore => rx_stR i T (fun t => Nat.beq t 3)
  | .invokestatic _ => match Nat.beq i.2.2.2.2.2.1 2 with
    | true => rx_cpy i T
    | false => rx_mth mc ms i T
  | .ldc_w _ => match i.2.2.2.2.2.1 with
    | 1 => some [rx_nx i T (.inl (0, i.2.2.2.2.2.2) :: T.2.2.2.2.2)]
    | _ => none
  | _ => none
/-- what these need of the tables -/
def rx_okN (own : String) (i : rx_E) : Prop := match i.2.1 with
  | .ldc_w idx => i.2.2.2.2.2.1 = 1 → Cond.constant own idx (Int32.ofInt i.2.2.2.2.2.2) ∈ rx_Gd ∧ -2147483648 ≤ i.2.2.2.2.2.2 ∧ i.2.2.2.2.2.2 < 2147483648
  | .invokestatic idx => (i.2.2.2.2.2.1 = 2 → Cond.methodLink own idx arraycopyName ∈ rx_Gd ∧ Cond.native arraycopyName ∈ rx_Gd ∧ Cond.static arraycopyName ∈ rx_Gd ∧ Cond.initialized "java/lang/System" ∈ rx_Gd) ∧ (i.2.2.2.2.2.1 = 5 → Cond.methodLink own idx Lib.Math.max.name ∈ rx_Gd ∧ Cond.static Lib.Math.max.name ∈ rx_Gd ∧ Cond.initialized "java/lang/Math" ∈ rx_Gd ∧ Cond.code Lib.Math.max.name Lib.Math.max.code 2 (some .int) ∈ rx_Gd) ∧ (i.2.2.2.2.2.1 = 6 → Cond.methodLink own idx Lib.Math.abs.name ∈ rx_Gd ∧ Cond.static Lib.Math.abs.name ∈ rx_Gd ∧ Cond.initialized "java/lang/Math" ∈ rx_Gd ∧ Cond.code Lib.Math.abs.name Lib.Math.abs.code 1 (some .int) ∈ rx_Gd)
  | _ => True
