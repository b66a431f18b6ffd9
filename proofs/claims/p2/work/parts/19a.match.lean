/-! ===== a state under another's: symbols and cells by other names ===== -/
/-- the number by its other name -/
def rx_Rn (th : List rx_I) (q q' : rx_I) : Prop := match q with
  | (0, c) => q' = (0, c)
  | (j + 1, c) => ∃ r, th[j]? = some r ∧ q' = (r.1, r.2 + c)
noncomputable def rx_rI {β : Type} (th : List rx_I) (q : rx_I) (k : rx_I → Option β) : Option β := match q with
  | (0, c) => k (0, c)
  | (j + 1, c) => match rx_nth th j with
    | some r => rx_z (r.2 + c) (fun z => rx_zn r.1 (fun n => k (n, z)))
    | none => none
theorem rx_rI_ok {β : Type} {th : List rx_I} {q : rx_I} {k : rx_I → Option β} {x : β} (h : rx_rI th q k = some x) : ∃ q', rx_Rn th q q' ∧ k q' = some x := by
  obtain ⟨j, c⟩ := q
  cases j with
  | zero => exact ⟨(0, c), rfl, h⟩
  | succ j =>
    change (match rx_nth th j with | some r => rx_z (r.2 + c) (fun z => rx_zn r.1 (fun n => k (n, z))) | none => none) = some x at h
    rw [rx_nth_eq] at h
    split at h
    · rename_i r hr
      rw [rx_z_eq, rx_zn_eq] at h
      exact ⟨(r.1, r.2 + c), ⟨r, hr, rfl⟩, h⟩
    · cases h
def rx_Th (th : List rx_I) (g g0 : List Int) : Prop := g0.length = th.length ∧ ∀ (j : Nat) (z : Int), g0[j]? = some z → ∃ r, th[j]? = some r ∧ rx_ev g r z
theorem rx_ev_add {g : List Int} {r : rx_I} {y c : Int} (h : rx_ev g r y) : rx_ev g (r.1, r.2 + c) (y + c) := by
  obtain ⟨k, d⟩ := r
  cases k with
  | zero => have h : y = d := h; show y + c = d + c; rw [h]
  | succ k =>
    obtain ⟨a, h1, h2⟩ := h
    exact ⟨a, h1, by dsimp only; omega⟩
theorem rx_ev_one {g : List Int} {r : rx_I} {y z : Int} (h : rx_ev g r y) (h' : rx_ev g r z) : y = z := by
  obtain ⟨k, d⟩ := r
  cases k with
  | zero => exact Eq.trans (show y = d from h) (show z = d from h').symm
  | succ k =>
    obtain ⟨a, h1, h2⟩ := h
    obtain ⟨a', h3, h4⟩ := h'
    rw [h1] at h3
    cases h3
    rw [h2, h4]
theorem rx_Rn_ev {th : List rx_I} {g g0 : List Int} (hT : rx_Th th g g0) {q q' : rx_I} (hR : rx_Rn th q q') {z : Int} : rx_ev g0 q z ↔ rx_ev g q' z := by
  obtain ⟨j, c⟩ := q
  cases j with
  | zero =>
    have e : q' = (0, c) := hR
    subst e
    exact Iff.rfl
  | succ j =>
    obtain ⟨r, hr, rfl⟩ := hR
    constructor
    · rintro ⟨y, h1, h2⟩
      obtain ⟨r', h3, h4⟩ := hT.2 j y h1
      rw [hr] at h3
      cases h3
      rw [h2]
      exact rx_ev_add h4
    · intro h
      have hl : j < g0.length := by rw [hT.1]; exact (List.getElem?_eq_some_iff.mp hr).1
      have h1 : g0[j]? = some g0[j] := List.getElem?_eq_getElem hl
      obtain ⟨r', h3, h4⟩ := hT.2 j _ h1
      rw [hr] at h3
      cases h3
      exact ⟨g0[j], h1, rx_ev_one h (rx_ev_add h4)⟩
/-- the same number -/
noncomputable def rx_same (sy : rx_Y) (a q : rx_I) : Bool := match Nat.beq a.1 q.1 && rx_ieq a.2 q.2 with
  | true => true
  | false => match rx_cs sy a with
    | some x => match rx_cs sy q with
      | some y => rx_ieq x y
      | none => false
    | none => false
theorem rx_ev_ex {sy : rx_Y} {g : List Int} (hG : rx_g sy g) {q : rx_I} (h : q.1 ≤ sy.1.length) : ∃ z, rx_ev g q z := by
  obtain ⟨k, c⟩ := q
  cases k with
  | zero => exact ⟨c, rfl⟩
  | succ k =>
    have hl : k < g.length := by rw [hG.1.1]; exact h
    exact ⟨g[k] + c, g[k], List.getElem?_eq_getElem hl, rfl⟩
theorem rx_cs_in {sy : rx_Y} {q : rx_I} {a : Int} (h : rx_cs sy q = some a) : q.1 ≤ sy.1.length := by
  obtain ⟨k, c⟩ := q
  cases k with
  | zero => exact Nat.zero_le _
  | succ k =>
    change (match rx_nth sy.1 k with | some r => (match rx_ieq r.1 r.2 with | true => rx_z (r.1 + c) some | false => none) | none => none) = some a at h
    rw [rx_nth_eq] at h
    split at h
    · rename_i r hr
      exact (List.getElem?_eq_some_iff.mp hr).1
    · cases h
theorem rx_same_ok {sy : rx_Y} {g : List Int} (hG : rx_g sy g) {a q : rx_I} (h : rx_same sy a q = true) {z : Int} (hz : rx_ev g q z) : rx_ev g a z := by
  unfold rx_same at h
  split at h
  · rename_i hb
    rw [Bool.and_eq_true] at hb
    have e1 := Nat.eq_of_beq_eq_true hb.1
    have e2 := rx_ieq_t hb.2
    obtain ⟨a1, a2⟩ := a
    obtain ⟨q1, q2⟩ := q
    dsimp only at e1 e2
    subst e1 e2
    exact hz
  · split at h
    · rename_i x hx
      split at h
      · rename_i y hy
        have e := rx_ieq_t h
        subst e
        obtain ⟨w, hw⟩ := rx_ev_ex hG (rx_cs_in hx)
        have e1 := rx_cs_ok hG hw hx
        have e2 := rx_cs_ok hG hz hy
        rw [e2, ← e1]
        exact hw
      · cases h
    · cases h
/-- cells outside that a contract leaves open: from 100 on -/
def rx_wa (b : (Nat → Option Nat) × List Int) (as : List Nat) (v : rx_V) : Option Nat := match v with
  | .inr (.inr (.inl (some r))) => as[r]?
  | .inr (.inr (.inr k)) => b.1 k
  | _ => none
def rx_b0 (b : (Nat → Option Nat) × List Int) (as : List Nat) (xi : List rx_V) : (Nat → Option Nat) × List Int := (fun k => match Nat.ble 100 k with
  | true => match xi[k - 100]? with
    | some v => rx_wa b as v
    | none => b.1 k
  | false => b.1 k, b.2)
theorem rx_b0_lo {b : (Nat → Option Nat) × List Int} {as : List Nat} {xi : List rx_V} {k : Nat} (h : k < 100) : (rx_b0 b as xi).1 k = b.1 k := by
  unfold rx_b0
  dsimp only
  cases hb : Nat.ble 100 k with
  | true => have := Nat.le_of_ble_eq_true hb; omega
  | false => rfl
/-- the same cell, null, cell outside -/
def rx_req (a v : rx_V) : Bool := match a, v with
  | .inr (.inr (.inl none)), .inr (.inr (.inl none)) => true
  | .inr (.inr (.inl (some i))), .inr (.inr (.inl (some j))) => Nat.beq i j
  | .inr (.inr (.inr i)), .inr (.inr (.inr j)) => Nat.beq i j
  | _, _ => false
theorem rx_req_t {a v : rx_V} (h : rx_req a v = true) : a = v ∧ ((∃ o, a = .inr (.inr (.inl o))) ∨ ∃ k, a = .inr (.inr (.inr k))) := by
  unfold rx_req at h
  split at h
  · exact ⟨rfl, Or.inl ⟨_, rfl⟩⟩
  · rw [Nat.eq_of_beq_eq_true h]; exact ⟨rfl, Or.inl ⟨_, rfl⟩⟩
  · rw [Nat.eq_of_beq_eq_true h]; exact ⟨rfl, Or.inr ⟨_, rfl⟩⟩
  · cases h
/-- a value under the one that is asked for -/
noncomputable def rx_mV (sy : rx_Y) (th : List rx_I) (pi : List Nat) (xi : List rx_V) (v0 v : rx_V) : Bool := match v0 with
  | .inl q0 => match v with
    | .inl q => (rx_rI th q0 (fun q' => some (rx_same sy q' q))).getD false
    | _ => false
  | .inr (.inl q0) => match v with
    | .inr (.inl q) => (rx_rI th q0 (fun q' => some (rx_same sy q' q))).getD false
    | _ => false
  | .inr (.inr (.inl none)) => match v with
    | .inr (.inr (.inl none)) => true
    | _ => false
  | .inr (.inr (.inl (some i))) => match v with
    | .inr (.inr (.inl (some r))) => match rx_nth pi i with
      | some j => Nat.beq j r
      | none => false
    | _ => false
  | .inr (.inr (.inr k)) => match Nat.ble 100 k with
    | true => match rx_nth xi (k - 100) with
      | some w => rx_req w v
      | none => match v with
        | .inr (.inr (.inr j)) => Nat.beq j k
        | _ => false
    | false => match v with
      | .inr (.inr (.inr j)) => Nat.beq j k
      | _ => false
theorem rx_rIb {th : List rx_I} {q0 : rx_I} {f : rx_I → Bool} (h : (rx_rI th q0 (fun q' => some (f q'))).getD false = true) : ∃ q', rx_Rn th q0 q' ∧ f q' = true := by
  cases hr : rx_rI th q0 (fun q' => some (f q')) with
  | none => rw [hr] at h; cases h
  | some x =>
    rw [hr] at h
    obtain ⟨q', h1, h2⟩ := rx_rI_ok hr
    refine ⟨q', h1, ?_⟩
    have h3 : x = true := h
    rw [h3] at h2
    exact Option.some.inj h2
theorem rx_mV_ok {sy : rx_Y} {th : List rx_I} {pi : List Nat} {xi : List rx_V} {b : (Nat → Option Nat) × List Int} {as as0 : List Nat} {g g0 : List Int} (hG : rx_g sy g) (hT : rx_Th th g g0) (hA : ∀ (i j r : Nat), pi[i]? = some j → as[j]? = some r → as0[i]? = some r) {v0 v : rx_V} {w : Value} (h : rx_mV sy th pi xi v0 v = true) (hv : rx_v b as g v w) : rx_v (rx_b0 b as xi) as0 g0 v0 w := by
  have out : ∀ k, (match v with | .inr (.inr (.inr j)) => Nat.beq j k | _ => false) = true → (rx_b0 b as xi).1 k = b.1 k → rx_v (rx_b0 b as xi) as0 g0 (.inr (.inr (.inr k))) w := by
    intro k hk hb
    split at hk
    · rename_i j
      have e := Nat.eq_of_beq_eq_true hk
      subst e
      have hv : w = va_rf (b.1 j) := hv
      show w = va_rf ((rx_b0 b as xi).1 j)
      rw [hb]
      exact hv
    · cases hk
  unfold rx_mV at h
  split at h
  · split at h
    · obtain ⟨q', h1, h2⟩ := rx_rIb h
      obtain ⟨x, rfl, hx⟩ := hv
      exact ⟨x, rfl, (rx_Rn_ev hT h1).mpr (rx_same_ok hG h2 hx)⟩
    · cases h
  · split at h
    · obtain ⟨q', h1, h2⟩ := rx_rIb h
      obtain ⟨x, rfl, hx⟩ := hv
      exact ⟨x, rfl, (rx_Rn_ev hT h1).mpr (rx_same_ok hG h2 hx)⟩
    · cases h
  · split at h
    · exact hv
    · cases h
  · split at h
    · rw [rx_nth_eq] at h
      split at h
      · rename_i j hj
        have e := Nat.eq_of_beq_eq_true h
        subst e
        obtain ⟨r, h1, h2⟩ := hv
        exact ⟨r, hA _ _ _ hj h1, h2⟩
      · cases h
    · cases h
  · rename_i k
    split at h
    · rename_i hk
      rw [rx_nth_eq] at h
      split at h
      · rename_i u hu
        obtain ⟨rfl, h2⟩ := rx_req_t h
        show w = va_rf ((rx_b0 b as xi).1 k)
        have e : (rx_b0 b as xi).1 k = rx_wa b as u := by
          unfold rx_b0
          dsimp only
          rw [hk, hu]
        rw [e]
        rcases h2 with ⟨o, rfl⟩ | ⟨j, rfl⟩
        · cases o with
          | none => exact hv
          | some r =>
            obtain ⟨a, h3, h4⟩ := hv
            show w = va_rf (as[r]?)
            rw [h3]
            exact h4
        · exact hv
      · rename_i hu
        refine out k h ?_
        unfold rx_b0
        dsimp only
        rw [hk, hu]
    · rename_i hk
      refine out k h (rx_b0_lo ?_)
      rcases Nat.lt_or_ge k 100 with q | q
      · exact q
      · rw [Nat.ble_eq_true_of_le q] at hk; cases hk
/-- two rows of values -/
noncomputable def rx_all2 (p : rx_V → rx_V → Bool) (l0 : List rx_V) : List rx_V → Bool := @List.rec rx_V (fun _ => List rx_V → Bool) (fun l => match l with
  | [] => true
  | _ :: _ => false) (fun a _ ih l => match l with
  | [] => false
  | c :: t => p a c && ih t) l0
theorem rx_all2_ok {p : rx_V → rx_V → Bool} {b b0 : (Nat → Option Nat) × List Int} {as as0 : List Nat} {g g0 : List Int} (hp : ∀ v0 v w, p v0 v = true → rx_v b as g v w → rx_v b0 as0 g0 v0 w) {l0 : List rx_V} : ∀ {l : List rx_V} {ws : List Value}, rx_all2 p l0 l = true → rx_vs b as g l ws → rx_vs b0 as0 g0 l0 ws := by
  induction l0 with
  | nil =>
    intro l ws h hv
    cases l with
    | nil =>
      cases ws with
      | nil => exact trivial
      | cons w ws => exact hv.elim
    | cons a l => cases h
  | cons a l0 ih =>
    intro l ws h hv
    cases l with
    | nil => cases h
    | cons c l =>
      cases ws with
      | nil => exact hv.elim
      | cons w ws =>
        have h : (p a c && rx_all2 p l0 l) = true := h
        rw [Bool.and_eq_true] at h
        exact ⟨hp a c w h.1 hv.1, ih h.2 hv.2⟩
/-- two rows with what stands behind them -/
noncomputable def rx_zip2 (p : rx_V → rx_V → Bool) (df0 df : rx_V) (ex0 : List rx_V) : List rx_V → Bool := @List.rec rx_V (fun _ => List rx_V → Bool) (fun ex => rx_allR (fun e => p df0 e) ex && p df0 df) (fun e0 _ ih ex => match ex with
  | [] => p e0 df && ih []
  | e :: t => p e0 e && ih t) ex0
theorem rx_zip2_ok {p : rx_V → rx_V → Bool} {df0 df : rx_V} {ex0 : List rx_V} : ∀ {ex : List rx_V}, rx_zip2 p df0 df ex0 ex = true → ∀ j, p (rx_el ex0 df0 j) (rx_el ex df j) = true := by
  induction ex0 with
  | nil =>
    intro ex h j
    have h : (rx_allR (fun e => p df0 e) ex && p df0 df) = true := h
    rw [Bool.and_eq_true] at h
    have e : rx_el [] df0 j = df0 := by simp [rx_el]
    rw [e]
    unfold rx_el
    cases hj : ex[j]? with
    | none => exact h.2
    | some a => exact rx_allR_ok h.1 a (List.mem_of_getElem? hj)
  | cons e0 ex0 ih =>
    intro ex h j
    cases ex with
    | nil =>
      have h : (p e0 df && rx_zip2 p df0 df ex0 []) = true := h
      rw [Bool.and_eq_true] at h
      cases j with
      | zero => exact h.1
      | succ j =>
        have := ih h.2 j
        simpa [rx_el] using this
    | cons e ex =>
      have h : (p e0 e && rx_zip2 p df0 df ex0 ex) = true := h
      rw [Bool.and_eq_true] at h
      cases j with
      | zero => exact h.1
      | succ j =>
        have := ih h.2 j
        simpa [rx_el] using this
/-- a row's value, as those with bounds have it -/
def rx_nE (hi : Bool) (e : rx_V) : rx_V := match hi with
  | true => e
  | false => match e with
    | .inl q => .inl q
    | .inr (.inl q) => .inl q
    | _ => .inr (.inr (.inl none))
noncomputable def rx_mE (sy : rx_Y) (th : List rx_I) (e0 e : rx_V) : Bool := match e0 with
  | .inl q0 => match e with
    | .inl q => (rx_rI th q0 (fun q' => some (rx_same sy q' q))).getD false
    | _ => false
  | .inr (.inl (w, lo)) => match e with
    | .inl q => rx_inr sy q lo (lo + Int.ofNat w)
    | .inr (.inl (w1, lo1)) => rx_ile lo lo1 && rx_ile (lo1 + Int.ofNat w1) (lo + Int.ofNat w)
    | _ => false
  | _ => false
theorem rx_mE_ok {sy : rx_Y} {th : List rx_I} {g g0 : List Int} (hG : rx_g sy g) (hT : rx_Th th g g0) {e0 e : rx_V} {z : Int} (h : rx_mE sy th e0 e = true) (hz : rx_rv g e z) : rx_rv g0 e0 z := by
  unfold rx_mE at h
  split at h
  · split at h
    · obtain ⟨q', h1, h2⟩ := rx_rIb h
      exact (rx_Rn_ev hT h1).mpr (rx_same_ok hG h2 hz)
    · cases h
  · split at h
    · exact rx_inr_ok hG h hz
    · rw [Bool.and_eq_true] at h
      have r1 := (rx_ile_iff _ _).mp h.1
      have r2 := (rx_ile_iff _ _).mp h.2
      have r3 := hz.1
      have r4 := hz.2
      exact ⟨by omega, by omega⟩
    · cases h
  · cases h
/-- a cell under the one that is asked for -/
noncomputable def rx_mC (sy : rx_Y) (th : List rx_I) (pi : List Nat) (xi : List rx_V) (c0 c : rx_C) : Bool := match c0 with
  | .inl (ci0, fs0) => match c with
    | .inl (ci, fs) => Nat.beq ci0 ci && (Nat.ble ci0 998 && rx_all2 (rx_mV sy th pi xi) fs0 fs)
    | .inr _ => false
  | .inr (t0, n0, ex0, df0) => match c with
    | .inl _ => false
    | .inr (t, n, ex, df) => Nat.beq n0 n && (match Nat.ble 1000 t0 with
      | true => match Nat.ble 1000 t with
        | true => Nat.beq t t0 && rx_zip2 (fun e0 e => rx_mE sy th e0 e) df0 df ex0 ex
        | false => (Nat.beq (t + 1000) t0 && Nat.ble t 3) && rx_zip2 (fun e0 e => rx_mE sy th e0 (rx_nE false e)) df0 df ex0 ex
      | false => Nat.beq t t0 && rx_zip2 (rx_mV sy th pi xi) df0 df ex0 ex)
theorem rx_mC_ok {sy : rx_Y} {th : List rx_I} {pi : List Nat} {xi : List rx_V} {b : (Nat → Option Nat) × List Int} {as as0 : List Nat} {g g0 : List Int} {tys : List (ClassId × FieldType)} (hG : rx_g sy g) (hT : rx_Th th g g0) (hA : ∀ (i j r : Nat), pi[i]? = some j → as[j]? = some r → as0[i]? = some r) {c0 c : rx_C} {e : va_E} (h : rx_mC sy th pi xi c0 c = true) (hc : rx_c b as g tys c e) : rx_c (rx_b0 b as xi) as0 g0 tys c0 e := by
  unfold rx_mC at h
  split at h
  · rename_i ci0 fs0
    split at h
    · rename_i ci fs
      rw [Bool.and_eq_true, Bool.and_eq_true] at h
      have e1 := Nat.eq_of_beq_eq_true h.1
      have e2 := Nat.le_of_ble_eq_true h.2.1
      subst e1
      have hb : Nat.beq ci0 999 = false := by
        cases q : Nat.beq ci0 999 with
        | false => rfl
        | true => have := Nat.eq_of_beq_eq_true q; omega
      unfold rx_c at hc
      dsimp only at hc
      rw [hb] at hc
      rcases e with ⟨cA, n', x⟩ | ⟨cj, vs⟩
      · exact hc.elim
      · obtain ⟨rfl, h3⟩ := hc
        exact rx_c_obj (rx_all2_ok (fun v0 v w => rx_mV_ok hG hT hA) h.2.2 h3)
    · cases h
  · rename_i t0 n0 ex0 df0
    split at h
    · cases h
    · rename_i t n ex df
      rw [Bool.and_eq_true] at h
      obtain ⟨h0, h2⟩ := h
      have e1 := Nat.eq_of_beq_eq_true h0
      subst e1
      clear h0
      rcases e with ⟨cA, n', x⟩ | ⟨cj, vs⟩
      · obtain ⟨rfl, hty, hx⟩ := hc
        split at h2
        · rename_i ht0
          have ht0 := Nat.le_of_ble_eq_true ht0
          split at h2
          · rename_i ht
            rw [Bool.and_eq_true] at h2
            have e2 := Nat.eq_of_beq_eq_true h2.1
            subst e2
            refine ⟨rfl, hty, ?_⟩
            rw [rx_a_hi ht0] at hx ⊢
            have key : ∀ j, j < n' → rx_rv g0 (rx_el ex0 df0 j) (rx_bz x j) := fun j hj => rx_mE_ok hG hT (rx_zip2_ok h2.2 j) (rx_aR_at hx hj)
            rcases x with f | f | f | f | f
            · exact ⟨hx.1, key⟩
            · exact ⟨hx.1, key⟩
            · exact hx.elim
            · exact hx.elim
            · exact hx.elim
          · rename_i ht
            rw [Bool.and_eq_true, Bool.and_eq_true] at h2
            have e2 := Nat.eq_of_beq_eq_true h2.1.1
            have e3 := Nat.le_of_ble_eq_true h2.1.2
            subst e2
            refine ⟨rfl, by rw [rx_ty_hi, ← rx_ty_lo (by omega)]; exact hty, ?_⟩
            rw [rx_a_lo (by omega)] at hx
            rw [rx_a_hi ht0, Nat.add_sub_cancel]
            rcases x with f | f | f | f | f
            · refine ⟨hx.1, fun j hj => rx_mE_ok hG hT (rx_zip2_ok h2.2 j) ?_⟩
              have h5 := hx.2 j hj
              generalize rx_el ex df j = v at h5
              rcases v with q | q | (_ | q) | q
              · obtain ⟨y, h6, h7⟩ := h5
                cases h6
                exact h7
              · obtain ⟨y, h6, h7⟩ := h5
                cases h6
              · cases h5
              · obtain ⟨y, h6, h7⟩ := h5
                cases h7
              · have h5 : Value.int (f j) = va_rf (b.1 q) := h5
                cases hb : b.1 q <;> rw [hb] at h5 <;> cases h5
            · refine ⟨hx.1, fun j hj => rx_mE_ok hG hT (rx_zip2_ok h2.2 j) ?_⟩
              have h5 := hx.2 j hj
              generalize rx_el ex df j = v at h5
              rcases v with q | q | (_ | q) | q
              · obtain ⟨y, h6, h7⟩ := h5
                cases h6
              · obtain ⟨y, h6, h7⟩ := h5
                cases h6
                exact h7
              · cases h5
              · obtain ⟨y, h6, h7⟩ := h5
                cases h7
              · have h5 : Value.long (f j) = va_rf (b.1 q) := h5
                cases hb : b.1 q <;> rw [hb] at h5 <;> cases h5
            · exact hx.elim
            · exact hx.elim
            · have := hx.1; omega
        · rename_i ht0
          rw [Bool.and_eq_true] at h2
          have e2 := Nat.eq_of_beq_eq_true h2.1
          subst e2
          have ht9 : t < 1000 := by
            rcases Nat.lt_or_ge t 1000 with q | q
            · exact q
            · rw [Nat.ble_eq_true_of_le q] at ht0; cases ht0
          refine ⟨rfl, hty, ?_⟩
          rw [rx_a_lo ht9] at hx ⊢
          have key : ∀ j w, rx_v b as g (rx_el ex df j) w → rx_v (rx_b0 b as xi) as0 g0 (rx_el ex0 df0 j) w := fun j w hw => rx_mV_ok hG hT hA (rx_zip2_ok h2.2 j) hw
          rcases x with f | f | f | f | f
          · exact ⟨hx.1, fun j hj => key j _ (hx.2 j hj)⟩
          · exact ⟨hx.1, fun j hj => key j _ (hx.2 j hj)⟩
          · exact hx
          · exact hx
          · exact ⟨hx.1, fun j hj => key j _ (hx.2 j hj)⟩
      · exact hc.elim
