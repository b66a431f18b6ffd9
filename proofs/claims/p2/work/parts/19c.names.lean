/-! ===== values, cells by their other names ===== -/
noncomputable def rx_rV {β : Type} (th : List rx_I) (pi : List Nat) (xi : List rx_V) (v : rx_V) (k : rx_V → Option β) : Option β := match v with
  | .inl q => rx_rI th q (fun q => k (.inl q))
  | .inr (.inl q) => rx_rI th q (fun q => k (.inr (.inl q)))
  | .inr (.inr (.inl none)) => k (.inr (.inr (.inl none)))
  | .inr (.inr (.inl (some i))) => match rx_nth pi i with
    | some j => rx_zn j (fun j => k (.inr (.inr (.inl (some j)))))
    | none => none
  | .inr (.inr (.inr u)) => match Nat.ble 100 u with
    | true => match rx_nth xi (u - 100) with
      | some w => k w
      | none => k (.inr (.inr (.inr u)))
    | false => k (.inr (.inr (.inr u)))
/-- what makes a state's names another's -/
def rx_Nm (th : List rx_I) (pi : List Nat) (xi : List rx_V) (b b0 : (Nat → Option Nat) × List Int) (as as0 : List Nat) (g g0 : List Int) : Prop := rx_Th th g g0 ∧ (∀ (i j r : Nat), pi[i]? = some j → as0[i]? = some r → as[j]? = some r) ∧ (∀ u, u < 100 → b0.1 u = b.1 u) ∧ (∀ u, 100 ≤ u → xi[u - 100]? = none → b0.1 u = b.1 u) ∧ ∀ u v, 100 ≤ u → xi[u - 100]? = some v → rx_v b as g v (va_rf (b0.1 u))
theorem rx_rV_ok {β : Type} {th : List rx_I} {pi : List Nat} {xi : List rx_V} {v : rx_V} {k : rx_V → Option β} {x : β} (h : rx_rV th pi xi v k = some x) : ∃ v', k v' = some x ∧ ∀ {b b0 : (Nat → Option Nat) × List Int} {as as0 : List Nat} {g g0 : List Int} {w : Value}, rx_Nm th pi xi b b0 as as0 g g0 → rx_v b0 as0 g0 v w → rx_v b as g v' w := by
  unfold rx_rV at h
  split at h
  · obtain ⟨q', h1, h2⟩ := rx_rI_ok h
    refine ⟨_, h2, fun hN hv => ?_⟩
    obtain ⟨y, rfl, hy⟩ := hv
    exact ⟨y, rfl, (rx_Rn_ev hN.1 h1).mp hy⟩
  · obtain ⟨q', h1, h2⟩ := rx_rI_ok h
    refine ⟨_, h2, fun hN hv => ?_⟩
    obtain ⟨y, rfl, hy⟩ := hv
    exact ⟨y, rfl, (rx_Rn_ev hN.1 h1).mp hy⟩
  · exact ⟨_, h, fun hN hv => hv⟩
  · rename_i i
    rw [rx_nth_eq] at h
    split at h
    · rename_i j hj
      rw [rx_zn_eq] at h
      refine ⟨_, h, fun hN hv => ?_⟩
      obtain ⟨r, h1, h2⟩ := hv
      exact ⟨r, hN.2.1 _ _ _ hj h1, h2⟩
    · cases h
  · rename_i u
    split at h
    · rename_i hu
      have hu := Nat.le_of_ble_eq_true hu
      rw [rx_nth_eq] at h
      split at h
      · rename_i w hw
        refine ⟨w, h, fun hN hv => ?_⟩
        have hv : _ = va_rf _ := hv
        rw [hv]
        exact hN.2.2.2.2 u w hu hw
      · rename_i hw
        refine ⟨_, h, fun {b b0 as as0 g g0 w} hN hv => ?_⟩
        have hv : w = va_rf (b0.1 u) := hv
        show w = va_rf (b.1 u)
        rw [hv, hN.2.2.2.1 u hu hw]
    · rename_i hu
      refine ⟨_, h, fun {b b0 as as0 g g0 w} hN hv => ?_⟩
      have hv : w = va_rf (b0.1 u) := hv
      show w = va_rf (b.1 u)
      rw [hv, hN.2.2.1 u ?_]
      rcases Nat.lt_or_ge u 100 with q | q
      · exact q
      · rw [Nat.ble_eq_true_of_le q] at hu; cases hu
noncomputable def rx_rE {β : Type} (th : List rx_I) (v : rx_V) (k : rx_V → Option β) : Option β := match v with
  | .inl q => rx_rI th q (fun q => k (.inl q))
  | .inr (.inl r) => k (.inr (.inl r))
  | _ => none
theorem rx_rE_ok {β : Type} {th : List rx_I} {v : rx_V} {k : rx_V → Option β} {x : β} (h : rx_rE th v k = some x) : ∃ v', k v' = some x ∧ ∀ {g g0 : List Int} {z : Int}, rx_Th th g g0 → rx_rv g0 v z → rx_rv g v' z := by
  unfold rx_rE at h
  split at h
  · obtain ⟨q', h1, h2⟩ := rx_rI_ok h
    exact ⟨_, h2, fun hT hz => (rx_Rn_ev hT h1).mp hz⟩
  · exact ⟨_, h, fun hT hz => hz⟩
  · cases h
/-- a row of values, each by itself -/
noncomputable def rx_rL {β : Type} (f : rx_V → (rx_V → Option β) → Option β) (l : List rx_V) : (List rx_V → Option β) → Option β := @List.rec rx_V (fun _ => (List rx_V → Option β) → Option β) (fun k => k []) (fun v _ ih k => f v (fun v' => ih (fun t => k (v' :: t)))) l
theorem rx_rL_ok {β : Type} {f : rx_V → (rx_V → Option β) → Option β} {P : rx_V → rx_V → Prop} (hf : ∀ v k x, f v k = some x → ∃ v', k v' = some x ∧ P v v') {l : List rx_V} : ∀ {k : List rx_V → Option β} {x : β}, rx_rL f l k = some x → ∃ l', k l' = some x ∧ l'.length = l.length ∧ ∀ (i : Nat) (v : rx_V), l[i]? = some v → ∃ v', l'[i]? = some v' ∧ P v v' := by
  induction l with
  | nil => exact fun h => ⟨[], h, rfl, fun i v h => by simp at h⟩
  | cons a l ih =>
    intro k x h
    obtain ⟨a', h1, h2⟩ := hf a _ x h
    obtain ⟨l', h3, h4, h5⟩ := ih h1
    refine ⟨a' :: l', h3, by rw [List.length_cons, List.length_cons, h4], fun i v hv => ?_⟩
    cases i with
    | zero =>
      rw [List.getElem?_cons_zero] at hv
      cases hv
      exact ⟨a', rfl, h2⟩
    | succ i =>
      rw [List.getElem?_cons_succ] at hv
      obtain ⟨v', h6, h7⟩ := h5 i v hv
      exact ⟨v', by rw [List.getElem?_cons_succ]; exact h6, h7⟩
theorem rx_rL_el {P : rx_V → rx_V → Prop} {ex ex' : List rx_V} {df df' : rx_V} (hl : ex'.length = ex.length) (h : ∀ (i : Nat) (v : rx_V), ex[i]? = some v → ∃ v', ex'[i]? = some v' ∧ P v v') (hd : P df df') (j : Nat) : P (rx_el ex df j) (rx_el ex' df' j) := by
  unfold rx_el
  cases hj : ex[j]? with
  | some v =>
    obtain ⟨v', h1, h2⟩ := h j v hj
    rw [h1]
    exact h2
  | none =>
    have : ex'[j]? = none := by
      rw [List.getElem?_eq_none_iff, hl]
      exact List.getElem?_eq_none_iff.mp hj
    rw [this]
    exact hd
theorem rx_vs_of {b : (Nat → Option Nat) × List Int} {as : List Nat} {g : List Int} : ∀ {l : List rx_V} {ws : List Value}, l.length = ws.length → (∀ (i : Nat) (v : rx_V) (w : Value), l[i]? = some v → ws[i]? = some w → rx_v b as g v w) → rx_vs b as g l ws
  | [], [], _, _ => trivial
  | v :: l, w :: ws, hl, h => ⟨h 0 v w rfl rfl, rx_vs_of (Nat.succ.inj hl) fun i v' w' hv hw => h (i + 1) v' w' (by rw [List.getElem?_cons_succ]; exact hv) (by rw [List.getElem?_cons_succ]; exact hw)⟩
  | [], _ :: _, hl, _ => by cases hl
  | _ :: _, [], hl, _ => by cases hl
theorem rx_vs_map {b b0 : (Nat → Option Nat) × List Int} {as as0 : List Nat} {g g0 : List Int} {l l' : List rx_V} {ws : List Value} (hv : rx_vs b0 as0 g0 l ws) (hl : l'.length = l.length) (h : ∀ (i : Nat) (v : rx_V), l[i]? = some v → ∃ v', l'[i]? = some v' ∧ ∀ w, rx_v b0 as0 g0 v w → rx_v b as g v' w) : rx_vs b as g l' ws := by
  refine rx_vs_of (by rw [hl, hv.len]) fun i v' w hv' hw => ?_
  have hi : i < l.length := by rw [hv.len]; exact (List.getElem?_eq_some_iff.mp hw).1
  obtain ⟨v2, h1, h2⟩ := h i _ (List.getElem?_eq_getElem hi)
  rw [hv'] at h1
  cases h1
  obtain ⟨w', h3, h4⟩ := hv.at i _ (List.getElem?_eq_getElem hi)
  rw [hw] at h3
  cases h3
  exact h2 w h4
noncomputable def rx_rC {β : Type} (th : List rx_I) (pi : List Nat) (xi : List rx_V) (c : rx_C) (k : rx_C → Option β) : Option β := match c with
  | .inl (ci, fs) => match Nat.ble ci 998 with
    | true => rx_rL (rx_rV th pi xi) fs (fun fs => k (.inl (ci, fs)))
    | false => none
  | .inr (t, n, ex, df) => match Nat.ble 1000 t with
    | true => rx_rL (rx_rE th) ex (fun ex => rx_rE th df (fun df => k (.inr (t, n, ex, df))))
    | false => rx_rL (rx_rV th pi xi) ex (fun ex => rx_rV th pi xi df (fun df => k (.inr (t, n, ex, df))))
theorem rx_rC_ok {β : Type} {th : List rx_I} {pi : List Nat} {xi : List rx_V} {c : rx_C} {k : rx_C → Option β} {x : β} (h : rx_rC th pi xi c k = some x) : ∃ c', k c' = some x ∧ ∀ {b b0 : (Nat → Option Nat) × List Int} {as as0 : List Nat} {g g0 : List Int} {tys : List (ClassId × FieldType)} {e : va_E}, rx_Nm th pi xi b b0 as as0 g g0 → rx_c b0 as0 g0 tys c e → rx_c b as g tys c' e := by
  unfold rx_rC at h
  split at h
  · rename_i ci fs
    split at h
    · rename_i hci
      have hci := Nat.le_of_ble_eq_true hci
      obtain ⟨fs', h1, h2, h3⟩ := rx_rL_ok (P := fun v v' => ∀ {b b0 : (Nat → Option Nat) × List Int} {as as0 : List Nat} {g g0 : List Int} {w : Value}, rx_Nm th pi xi b b0 as as0 g g0 → rx_v b0 as0 g0 v w → rx_v b as g v' w) (fun v k x hv => rx_rV_ok hv) h
      refine ⟨_, h1, fun {b b0 as as0 g g0 tys e} hN hc => ?_⟩
      have hb : Nat.beq ci 999 = false := by
        cases q : Nat.beq ci 999 with
        | false => rfl
        | true => have := Nat.eq_of_beq_eq_true q; omega
      unfold rx_c at hc
      dsimp only at hc
      rw [hb] at hc
      rcases e with ⟨cA, n', x⟩ | ⟨cj, vs⟩
      · exact hc.elim
      · obtain ⟨rfl, h4⟩ := hc
        refine rx_c_obj (rx_vs_map h4 h2 fun i v hv => ?_)
        obtain ⟨v', h5, h6⟩ := h3 i v hv
        exact ⟨v', h5, fun w hw => h6 hN hw⟩
    · cases h
  · rename_i t n ex df
    split at h
    · rename_i ht
      have ht := Nat.le_of_ble_eq_true ht
      obtain ⟨ex', h1, h2, h3⟩ := rx_rL_ok (P := fun v v' => ∀ {g g0 : List Int} {z : Int}, rx_Th th g g0 → rx_rv g0 v z → rx_rv g v' z) (fun v k x hv => rx_rE_ok hv) h
      obtain ⟨df', h4, h5⟩ := rx_rE_ok h1
      refine ⟨_, h4, fun {b b0 as as0 g g0 tys e} hN hc => ?_⟩
      rcases e with ⟨cA, n', x⟩ | ⟨cj, vs⟩
      · obtain ⟨rfl, hty, hx⟩ := hc
        refine ⟨rfl, hty, ?_⟩
        rw [rx_a_hi ht] at hx ⊢
        have key : ∀ j, j < n' → rx_rv g (rx_el ex' df' j) (rx_bz x j) := fun j hj => (rx_rL_el (P := fun v v' => ∀ {g g0 : List Int} {z : Int}, rx_Th th g g0 → rx_rv g0 v z → rx_rv g v' z) h2 h3 h5 j) hN.1 (rx_aR_at hx hj)
        rcases x with f | f | f | f | f
        · exact ⟨hx.1, key⟩
        · exact ⟨hx.1, key⟩
        · exact hx.elim
        · exact hx.elim
        · exact hx.elim
      · exact hc.elim
    · rename_i ht
      have ht9 : t < 1000 := by
        rcases Nat.lt_or_ge t 1000 with q | q
        · exact q
        · rw [Nat.ble_eq_true_of_le q] at ht; cases ht
      obtain ⟨ex', h1, h2, h3⟩ := rx_rL_ok (P := fun v v' => ∀ {b b0 : (Nat → Option Nat) × List Int} {as as0 : List Nat} {g g0 : List Int} {w : Value}, rx_Nm th pi xi b b0 as as0 g g0 → rx_v b0 as0 g0 v w → rx_v b as g v' w) (fun v k x hv => rx_rV_ok hv) h
      obtain ⟨df', h4, h5⟩ := rx_rV_ok h1
      refine ⟨_, h4, fun {b b0 as as0 g g0 tys e} hN hc => ?_⟩
      rcases e with ⟨cA, n', x⟩ | ⟨cj, vs⟩
      · obtain ⟨rfl, hty, hx⟩ := hc
        refine ⟨rfl, hty, ?_⟩
        rw [rx_a_lo ht9] at hx ⊢
        have key : ∀ j w, rx_v b0 as0 g0 (rx_el ex df j) w → rx_v b as g (rx_el ex' df' j) w := fun j w hw => (rx_rL_el (P := fun v v' => ∀ {b b0 : (Nat → Option Nat) × List Int} {as as0 : List Nat} {g g0 : List Int} {w : Value}, rx_Nm th pi xi b b0 as as0 g g0 → rx_v b0 as0 g0 v w → rx_v b as g v' w) h2 h3 h5 j) hN hw
        rcases x with f | f | f | f | f
        · exact ⟨hx.1, fun j hj => key j _ (hx.2 j hj)⟩
        · exact ⟨hx.1, fun j hj => key j _ (hx.2 j hj)⟩
        · exact hx
        · exact hx
        · exact ⟨hx.1, fun j hj => key j _ (hx.2 j hj)⟩
      · exact hc.elim
/-- where a place stands in a row -/
noncomputable def rx_fnd (k : Nat) (pi : List Nat) : Nat → Option Nat := @List.rec Nat (fun _ => Nat → Option Nat) (fun _ => none) (fun a _ ih j => @Bool.rec (fun _ => Option Nat) (ih (j + 1)) (some j) (Nat.beq a k)) pi
theorem rx_fnd_ok {k : Nat} {pi : List Nat} : ∀ {j : Nat}, (∀ i, rx_fnd k pi j = some i → j ≤ i ∧ pi[i - j]? = some k) ∧ (rx_fnd k pi j = none → ∀ i : Nat, pi[i]? ≠ some k) := by
  induction pi with
  | nil => exact fun {j} => ⟨(fun i h => by cases h), (fun _ i h => by simp at h)⟩
  | cons a pi ih =>
    intro j
    have e : rx_fnd k (a :: pi) j = @Bool.rec (fun _ => Option Nat) (rx_fnd k pi (j + 1)) (some j) (Nat.beq a k) := rfl
    rw [e]
    cases hb : Nat.beq a k with
    | true =>
      have ea := Nat.eq_of_beq_eq_true hb
      refine ⟨fun i h => ?_, fun h => by cases h⟩
      have h : some j = some i := h
      cases h
      exact ⟨Nat.le_refl _, by rw [Nat.sub_self, List.getElem?_cons_zero, ea]⟩
    | false =>
      refine ⟨fun i h => ?_, fun h i hi => ?_⟩
      · obtain ⟨h1, h2⟩ := ih.1 i h
        refine ⟨by omega, ?_⟩
        rw [show i - j = (i - (j + 1)) + 1 by omega, List.getElem?_cons_succ]
        exact h2
      · cases i with
        | zero =>
          rw [List.getElem?_cons_zero] at hi
          cases hi
          rw [Nat.beq_refl] at hb
          cases hb
        | succ i =>
          rw [List.getElem?_cons_succ] at hi
          exact ih.2 h i hi
/-- the cells behind a call: those that the callee had, by their names -/
noncomputable def rx_bkH {β : Type} (th : List rx_I) (pi : List Nat) (xi : List rx_V) (oh : List rx_C) (h : List rx_C) : Nat → (List rx_C → Option β) → Option β := @List.rec rx_C (fun _ => Nat → (List rx_C → Option β) → Option β) (fun _ k => k []) (fun c _ ih j k => match rx_fnd j pi 0 with
  | some i => match rx_nth oh i with
    | some c0 => rx_rC th pi xi c0 (fun c' => rx_zn (j + 1) (fun j => ih j (fun t => k (c' :: t))))
    | none => none
  | none => rx_zn (j + 1) (fun j => ih j (fun t => k (c :: t)))) h
def rx_CR (th : List rx_I) (pi : List Nat) (xi : List rx_V) (c c' : rx_C) : Prop := ∀ {b b0 : (Nat → Option Nat) × List Int} {as as0 : List Nat} {g g0 : List Int} {tys : List (ClassId × FieldType)} {e : va_E}, rx_Nm th pi xi b b0 as as0 g g0 → rx_c b0 as0 g0 tys c e → rx_c b as g tys c' e
theorem rx_bkH_ok {β : Type} {th : List rx_I} {pi : List Nat} {xi : List rx_V} {oh h : List rx_C} : ∀ {j : Nat} {k : List rx_C → Option β} {x : β}, rx_bkH th pi xi oh h j k = some x → ∃ h', k h' = some x ∧ h'.length = h.length ∧ ∀ (i : Nat) (c' : rx_C), h'[i]? = some c' → (∃ (p : Nat) (c0 : rx_C), pi[p]? = some (j + i) ∧ oh[p]? = some c0 ∧ rx_CR th pi xi c0 c') ∨ ((∀ p : Nat, pi[p]? ≠ some (j + i)) ∧ h[i]? = some c') := by
  induction h with
  | nil => exact fun hh => ⟨[], hh, rfl, fun i c' hc => by simp at hc⟩
  | cons c h ih =>
    intro j k x hh
    have e : rx_bkH th pi xi oh (c :: h) j k = (match rx_fnd j pi 0 with
      | some i => match rx_nth oh i with
        | some c0 => rx_rC th pi xi c0 (fun c' => rx_zn (j + 1) (fun j => rx_bkH th pi xi oh h j (fun t => k (c' :: t))))
        | none => none
      | none => rx_zn (j + 1) (fun j => rx_bkH th pi xi oh h j (fun t => k (c :: t)))) := rfl
    rw [e] at hh
    have fin : ∀ (c1 : rx_C) (h' : List rx_C), h'.length = h.length → (∀ (i : Nat) (c' : rx_C), h'[i]? = some c' → (∃ (p : Nat) (c0 : rx_C), pi[p]? = some (j + 1 + i) ∧ oh[p]? = some c0 ∧ rx_CR th pi xi c0 c') ∨ ((∀ p : Nat, pi[p]? ≠ some (j + 1 + i)) ∧ h[i]? = some c')) → ((∃ (p : Nat) (c0 : rx_C), pi[p]? = some j ∧ oh[p]? = some c0 ∧ rx_CR th pi xi c0 c1) ∨ ((∀ p : Nat, pi[p]? ≠ some j) ∧ c1 = c)) → (c1 :: h').length = (c :: h).length ∧ ∀ (i : Nat) (c' : rx_C), (c1 :: h')[i]? = some c' → (∃ (p : Nat) (c0 : rx_C), pi[p]? = some (j + i) ∧ oh[p]? = some c0 ∧ rx_CR th pi xi c0 c') ∨ ((∀ p : Nat, pi[p]? ≠ some (j + i)) ∧ (c :: h)[i]? = some c') := by
      intro c1 h' hl hi h1
      refine ⟨by rw [List.length_cons, List.length_cons, hl], fun i c' hc => ?_⟩
      cases i with
      | zero =>
        rw [List.getElem?_cons_zero] at hc
        cases hc
        rcases h1 with ⟨p, c0, q1, q2, q3⟩ | ⟨q1, rfl⟩
        · exact Or.inl ⟨p, c0, q1, q2, q3⟩
        · exact Or.inr ⟨q1, rfl⟩
      | succ i =>
        rw [List.getElem?_cons_succ] at hc
        rw [List.getElem?_cons_succ, show j + (i + 1) = j + 1 + i by omega]
        exact hi i c' hc
    split at hh
    · rename_i p hp
      rw [rx_nth_eq] at hh
      split at hh
      · rename_i c0 hc0
        obtain ⟨c1, h1, h2⟩ := rx_rC_ok hh
        rw [rx_zn_eq] at h1
        obtain ⟨h', h3, h4, h5⟩ := ih h1
        have hp2 := (rx_fnd_ok (k := j) (pi := pi) (j := 0)).1 p hp
        exact ⟨c1 :: h', h3, fin c1 h' h4 h5 (Or.inl ⟨p, c0, by simpa using hp2.2, hc0, h2⟩)⟩
      · cases hh
    · rename_i hp
      rw [rx_zn_eq] at hh
      obtain ⟨h', h3, h4, h5⟩ := ih hh
      exact ⟨c :: h', h3, fin c h' h4 h5 (Or.inr ⟨(rx_fnd_ok (k := j) (pi := pi) (j := 0)).2 hp, rfl⟩)⟩
/-- a row of cells, each by itself -/
noncomputable def rx_rCs {β : Type} (th : List rx_I) (pi : List Nat) (xi : List rx_V) (l : List rx_C) : (List rx_C → Option β) → Option β := @List.rec rx_C (fun _ => (List rx_C → Option β) → Option β) (fun k => k []) (fun c _ ih k => rx_rC th pi xi c (fun c' => ih (fun t => k (c' :: t)))) l
theorem rx_rCs_ok {β : Type} {th : List rx_I} {pi : List Nat} {xi : List rx_V} {l : List rx_C} : ∀ {k : List rx_C → Option β} {x : β}, rx_rCs th pi xi l k = some x → ∃ l', k l' = some x ∧ l'.length = l.length ∧ ∀ (i : Nat) (c : rx_C), l[i]? = some c → ∃ c', l'[i]? = some c' ∧ rx_CR th pi xi c c' := by
  induction l with
  | nil => exact fun h => ⟨[], h, rfl, fun i v h => by simp at h⟩
  | cons a l ih =>
    intro k x h
    have h : rx_rC th pi xi a (fun c' => rx_rCs th pi xi l (fun t => k (c' :: t))) = some x := h
    obtain ⟨a', h1, h2⟩ := rx_rC_ok h
    obtain ⟨l', h3, h4, h5⟩ := ih h1
    refine ⟨a' :: l', h3, by rw [List.length_cons, List.length_cons, h4], fun i v hv => ?_⟩
    cases i with
    | zero =>
      rw [List.getElem?_cons_zero] at hv
      cases hv
      exact ⟨a', rfl, h2⟩
    | succ i =>
      rw [List.getElem?_cons_succ] at hv
      obtain ⟨v', h6, h7⟩ := h5 i v hv
      exact ⟨v', by rw [List.getElem?_cons_succ]; exact h6, h7⟩
