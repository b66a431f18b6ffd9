/-! ===== cells, worlds ===== -/
def rx_Gd : List Cond := lw_tbl.filter goodWord
def rx_isN (w : Cond) : Bool := match w with
  | .methodLinkNest _ _ _ _ => true
  | .fieldLinkNest _ _ _ _ _ _ => true
  | _ => false
def rx_Ns : List Cond := lw_tbl.filter rx_isN
def rx_ty0 (t : Nat) : FieldType := match t with
  | 0 => .int
  | 1 => .byte
  | 2 => .boolean
  | 3 => .long
  | k + 4 => .object ((vwCl[k]?.map (fun r => r.1)).getD "")
/-- from 1000 on: rows of which the values, or bounds of them, are known -/
def rx_ty (t : Nat) : FieldType := match Nat.ble 1000 t with
  | true => rx_ty0 (t - 1000)
  | false => rx_ty0 t
def rx_el (ex : List rx_V) (df : rx_V) (j : Nat) : rx_V := match ex[j]? with
  | some a => a
  | none => df
abbrev rx_B : Type := (Nat → Int32) ⊕ (Nat → Int64) ⊕ (Nat → UInt32) ⊕ (Nat → UInt64) ⊕ (Nat → Option Nat)
def rx_aO (b : (Nat → Option Nat) × List Int) (as : List Nat) (g : List Int) (t n : Nat) (ex : List rx_V) (df : rx_V) (a : rx_B) : Prop := match a with
  | .inl f => t < 3 ∧ ∀ j, j < n → rx_v b as g (rx_el ex df j) (.int (f j))
  | .inr (.inl f) => t = 3 ∧ ∀ j, j < n → rx_v b as g (rx_el ex df j) (.long (f j))
  | .inr (.inr (.inr (.inr f))) => 4 ≤ t ∧ ∀ j, j < n → rx_v b as g (rx_el ex df j) (va_rf (f j))
  | _ => False
/-- a value of a row: a number (.inl), or bounds (.inr (.inl (w, lo))): from lo to lo and w -/
def rx_rv (g : List Int) (v : rx_V) (z : Int) : Prop := match v with
  | .inl q => rx_ev g q z
  | .inr (.inl (w, lo)) => lo ≤ z ∧ z ≤ lo + Int.ofNat w
  | _ => False
theorem rx_rv.mono {g g' : List Int} {v : rx_V} {z : Int} (hg : rx_le g g') (h : rx_rv g v z) : rx_rv g' v z := by
  rcases v with q | ⟨w, lo⟩ | _ | _
  · exact rx_ev.mono hg h
  · exact h
  · exact h
  · exact h
def rx_aR (g : List Int) (t n : Nat) (ex : List rx_V) (df : rx_V) (a : rx_B) : Prop := match a with
  | .inl f => t < 3 ∧ ∀ j, j < n → rx_rv g (rx_el ex df j) (f j).toInt
  | .inr (.inl f) => t = 3 ∧ ∀ j, j < n → rx_rv g (rx_el ex df j) (f j).toInt
  | _ => False
def rx_a (b : (Nat → Option Nat) × List Int) (as : List Nat) (g : List Int) (t n : Nat) (ex : List rx_V) (df : rx_V) (a : rx_B) : Prop := match Nat.ble 1000 t with
  | true => rx_aR g (t - 1000) n ex df a
  | false => rx_aO b as g t n ex df a
/-- an object of the class 999: a cell of which nothing is known -/
def rx_c (b : (Nat → Option Nat) × List Int) (as : List Nat) (g : List Int) (tys : List (ClassId × FieldType)) (c : rx_C) (e : va_E) : Prop := match c with
  | .inl (ci, fs) => match Nat.beq ci 999 with
    | true => True
    | false => match e with
      | .inr (cj, vs) => cj = ci ∧ rx_vs b as g fs vs
      | .inl _ => False
  | .inr (t, n, ex, df) => match e with
    | .inl (cA, n', a) => n' = n ∧ (cA, rx_ty t) ∈ tys ∧ rx_a b as g t n ex df a
    | .inr _ => False
theorem rx_tlo {t : Nat} (h : t < 1000) : Nat.ble 1000 t = false := by
  cases q : Nat.ble 1000 t with
  | false => rfl
  | true => have := Nat.le_of_ble_eq_true q; omega
theorem rx_thi {t : Nat} (h : 1000 ≤ t) : Nat.ble 1000 t = true := by
  cases q : Nat.ble 1000 t with
  | true => rfl
  | false =>
    have : ¬ 1000 ≤ t := fun h1 => by
      rw [Nat.ble_eq_true_of_le h1] at q
      cases q
    omega
theorem rx_a_lo {b : (Nat → Option Nat) × List Int} {as : List Nat} {g : List Int} {t n : Nat} {ex : List rx_V} {df : rx_V} {a : rx_B} (ht : t < 1000) : rx_a b as g t n ex df a = rx_aO b as g t n ex df a := by
  unfold rx_a
  rw [rx_tlo ht]
theorem rx_a_hi {b : (Nat → Option Nat) × List Int} {as : List Nat} {g : List Int} {t n : Nat} {ex : List rx_V} {df : rx_V} {a : rx_B} (ht : 1000 ≤ t) : rx_a b as g t n ex df a = rx_aR g (t - 1000) n ex df a := by
  unfold rx_a
  rw [rx_thi ht]
theorem rx_ty_lo {t : Nat} (ht : t < 1000) : rx_ty t = rx_ty0 t := by
  unfold rx_ty
  rw [rx_tlo ht]
theorem rx_ty_hi {t : Nat} : rx_ty (t + 1000) = rx_ty0 t := by
  unfold rx_ty
  rw [rx_thi (by omega)]
  show rx_ty0 (t + 1000 - 1000) = _
  rw [Nat.add_sub_cancel]
theorem rx_aO.mono {b : (Nat → Option Nat) × List Int} {as as' : List Nat} {g g' : List Int} {t n : Nat} {ex : List rx_V} {df : rx_V} {a : rx_B} (ha : rx_le as as') (hg : rx_le g g') (h : rx_aO b as g t n ex df a) : rx_aO b as' g' t n ex df a := by
  rcases a with f | f | f | f | f
  · exact ⟨h.1, fun j hj => (h.2 j hj).mono ha hg⟩
  · exact ⟨h.1, fun j hj => (h.2 j hj).mono ha hg⟩
  · exact h
  · exact h
  · exact ⟨h.1, fun j hj => (h.2 j hj).mono ha hg⟩
theorem rx_aR.mono {g g' : List Int} {t n : Nat} {ex : List rx_V} {df : rx_V} {a : rx_B} (hg : rx_le g g') (h : rx_aR g t n ex df a) : rx_aR g' t n ex df a := by
  rcases a with f | f | f | f | f
  · exact ⟨h.1, fun j hj => (h.2 j hj).mono hg⟩
  · exact ⟨h.1, fun j hj => (h.2 j hj).mono hg⟩
  · exact h
  · exact h
  · exact h
theorem rx_a.mono {b : (Nat → Option Nat) × List Int} {as as' : List Nat} {g g' : List Int} {t n : Nat} {ex : List rx_V} {df : rx_V} {a : rx_B} (ha : rx_le as as') (hg : rx_le g g') (h : rx_a b as g t n ex df a) : rx_a b as' g' t n ex df a := by
  rcases Nat.lt_or_ge t 1000 with q | q
  · rw [rx_a_lo q] at h ⊢
    exact rx_aO.mono ha hg h
  · rw [rx_a_hi q] at h ⊢
    exact rx_aR.mono hg h
theorem rx_c.mono {b : (Nat → Option Nat) × List Int} {as as' : List Nat} {g g' : List Int} {tys tys' : List (ClassId × FieldType)} {c : rx_C} {e : va_E} (ha : rx_le as as') (hg : rx_le g g') (ht : ∀ q ∈ tys, q ∈ tys') (h : rx_c b as g tys c e) : rx_c b as' g' tys' c e := by
  rcases c with ⟨ci, fs⟩ | ⟨t, n, ex, df⟩
  · unfold rx_c at h ⊢
    dsimp only at h ⊢
    cases hb : Nat.beq ci 999 with
    | true => trivial
    | false =>
      rw [hb] at h
      rcases e with ⟨cA, n', a⟩ | ⟨cj, vs⟩
      · exact h
      · exact ⟨h.1, h.2.mono ha hg⟩
  · rcases e with ⟨cA, n', a⟩ | ⟨cj, vs⟩
    · exact ⟨h.1, ht _ h.2.1, h.2.2.mono ha hg⟩
    · exact h
/-- an object that is known -/
theorem rx_c_obj {b : (Nat → Option Nat) × List Int} {as : List Nat} {g : List Int} {tys : List (ClassId × FieldType)} {ci : Nat} {fs : List rx_V} {vs : List Value} (h : rx_vs b as g fs vs) : rx_c b as g tys (.inl (ci, fs)) (.inr (ci, vs)) := by
  unfold rx_c
  dsimp only
  cases hb : Nat.beq ci 999 with
  | true => trivial
  | false => exact ⟨rfl, h⟩
def rx_h (b : (Nat → Option Nat) × List Int) (g : List Int) (tys : List (ClassId × FieldType)) (h : List rx_C) (ws : va_W) : Prop := h.length = ws.length ∧ (∀ (i : Nat) (c : rx_C), h[i]? = some c → ∃ (a : Nat) (e : va_E), ws[i]? = some (a, e) ∧ rx_c b (ws.map Prod.fst) g tys c e) ∧ rx_le b.2 g
theorem rx_h.mono {b : (Nat → Option Nat) × List Int} {g g' : List Int} {tys tys' : List (ClassId × FieldType)} {h : List rx_C} {ws : va_W} (hg : rx_le g g') (ht : ∀ q ∈ tys, q ∈ tys') (hH : rx_h b g tys h ws) : rx_h b g' tys' h ws :=
  ⟨hH.1, fun i c hi => (by
    obtain ⟨a, e, h1, h2⟩ := hH.2.1 i c hi
    exact ⟨a, e, h1, h2.mono rx_le.rf hg ht⟩), hH.2.2.tr hg⟩
theorem rx_h.set {b : (Nat → Option Nat) × List Int} {g : List Int} {tys : List (ClassId × FieldType)} {h : List rx_C} {ws : va_W} (hH : rx_h b g tys h ws) {i a : Nat} {e0 e : va_E} {c : rx_C} (hi : ws[i]? = some (a, e0)) (hc : rx_c b (ws.map Prod.fst) g tys c e) : rx_h b g tys (h.set i c) (ws.set i (a, e)) := by
  have hl := (List.getElem?_eq_some_iff.mp hi).1
  refine ⟨by rw [List.length_set, List.length_set]; exact hH.1, fun j c' hj => ?_, hH.2.2⟩
  rw [rx_fst_set hi]
  by_cases hji : j = i
  · subst hji
    rw [List.getElem?_set_self (by rw [hH.1]; exact hl)] at hj
    cases hj
    exact ⟨a, e, List.getElem?_set_self hl, hc⟩
  · rw [List.getElem?_set_ne (Ne.symm hji)] at hj
    rw [List.getElem?_set_ne (Ne.symm hji)]
    exact hH.2.1 j c' hj
theorem rx_h.push {b : (Nat → Option Nat) × List Int} {g : List Int} {tys tys' : List (ClassId × FieldType)} {h : List rx_C} {ws : va_W} (hH : rx_h b g tys h ws) (ht : ∀ q ∈ tys, q ∈ tys') {a : Nat} {e : va_E} {c : rx_C} (hc : rx_c b ((ws ++ [(a, e)]).map Prod.fst) g tys' c e) : rx_h b g tys' (h ++ [c]) (ws ++ [(a, e)]) := by
  refine ⟨by rw [List.length_append, List.length_append, hH.1]; rfl, fun j c' hj => ?_, hH.2.2⟩
  by_cases hl : j < h.length
  · rw [List.getElem?_append_left hl] at hj
    obtain ⟨a', e', h1, h2⟩ := hH.2.1 j c' hj
    refine ⟨a', e', by rw [List.getElem?_append_left (by rw [← hH.1]; exact hl)]; exact h1, h2.mono ?_ rx_le.rf ht⟩
    rw [List.map_append]
    exact rx_le.app _
  · have hj' : j = h.length := by
      have := (List.getElem?_eq_some_iff.mp hj).1
      rw [List.length_append] at this
      simp at this
      omega
    subst hj'
    rw [List.getElem?_append_right (Nat.le_refl _), Nat.sub_self] at hj
    cases hj
    refine ⟨a, e, ?_, hc⟩
    rw [hH.1, List.getElem?_append_right (Nat.le_refl _), Nat.sub_self]
    rfl
theorem rx_app_le {ws : va_W} {x : Nat × va_E} : rx_le (ws.map Prod.fst) ((ws ++ [x]).map Prod.fst) := by
  rw [List.map_append]
  exact rx_le.app _
theorem rx_app_get {ws : va_W} {a : Nat} {e : va_E} : ((ws ++ [(a, e)]).map Prod.fst)[ws.length]? = some a := by
  rw [List.map_append, List.getElem?_append_right (by rw [List.length_map]; exact Nat.le_refl _), List.length_map, Nat.sub_self]
  rfl
/-- an object, an array by its place -/
theorem rx_h.obj {b : (Nat → Option Nat) × List Int} {g : List Int} {tys : List (ClassId × FieldType)} {h : List rx_C} {ws : va_W} (hH : rx_h b g tys h ws) {i ci r : Nat} {fs : List rx_V} (h9 : ci ≠ 999) (hi : h[i]? = some (.inl (ci, fs))) (hr : (ws.map Prod.fst)[i]? = some r) : ∃ vs, ws[i]? = some (r, .inr (ci, vs)) ∧ rx_vs b (ws.map Prod.fst) g fs vs := by
  obtain ⟨a, e, h1, h2⟩ := hH.2.1 i _ hi
  rw [rx_fst_get h1] at hr
  cases hr
  have hb : Nat.beq ci 999 = false := by
    cases q : Nat.beq ci 999 with
    | false => rfl
    | true => exact absurd (Nat.eq_of_beq_eq_true q) h9
  unfold rx_c at h2
  dsimp only at h2
  rw [hb] at h2
  rcases e with ⟨cA, n', x⟩ | ⟨cj, vs⟩
  · exact h2.elim
  · obtain ⟨rfl, h3⟩ := h2
    exact ⟨vs, h1, h3⟩
theorem rx_h.arr {b : (Nat → Option Nat) × List Int} {g : List Int} {tys : List (ClassId × FieldType)} {h : List rx_C} {ws : va_W} (hH : rx_h b g tys h ws) {i t n r : Nat} {ex : List rx_V} {df : rx_V} (hi : h[i]? = some (.inr (t, n, ex, df))) (hr : (ws.map Prod.fst)[i]? = some r) : ∃ (cA : ClassId) (x : rx_B) (t0 : Nat), ws[i]? = some (r, .inl (cA, n, x)) ∧ tys[t0]? = some (cA, rx_ty t) ∧ rx_a b (ws.map Prod.fst) g t n ex df x := by
  obtain ⟨a, e, h1, h2⟩ := hH.2.1 i _ hi
  rw [rx_fst_get h1] at hr
  cases hr
  rcases e with ⟨cA, n', x⟩ | ⟨cj, vs⟩
  · obtain ⟨rfl, h3, h4⟩ := h2
    obtain ⟨t0, h5⟩ := List.getElem?_of_mem h3
    exact ⟨cA, x, t0, h1, h5, h4⟩
  · exact h2.elim
/-- an array with one place changed -/
def rx_pad {β : Type} (df : rx_V) : Nat → rx_V → (List rx_V → β) → β
  | 0, v, k => k [v]
  | j + 1, v, k => rx_pad df j v (fun l => k (df :: l))
def rx_ups {β : Type} (df : rx_V) : List rx_V → Nat → rx_V → (List rx_V → β) → β
  | [], j, v, k => rx_pad df j v k
  | _ :: l, 0, v, k => k (v :: l)
  | a :: l, j + 1, v, k => rx_ups df l j v (fun l => k (a :: l))
theorem rx_pad_ok {β : Type} (df : rx_V) : ∀ (j : Nat) (v : rx_V) (k : List rx_V → β), ∃ l, rx_pad df j v k = k l ∧ ∀ i, rx_el l df i = if i = j then v else df
  | 0, v, k => ⟨[v], rfl, fun i => by cases i with | zero => rfl | succ i => simp [rx_el]⟩
  | j + 1, v, k => by
    obtain ⟨l, h1, h2⟩ := rx_pad_ok df j v (fun l => k (df :: l))
    refine ⟨df :: l, h1, fun i => ?_⟩
    cases i with
    | zero => simp [rx_el]
    | succ i =>
      have := h2 i
      simp only [rx_el, List.getElem?_cons_succ] at this ⊢
      rw [this]
      by_cases hij : i = j
      · subst hij; simp
      · rw [if_neg hij, if_neg (by omega)]
theorem rx_ups_ok {β : Type} (df : rx_V) : ∀ (ex : List rx_V) (j : Nat) (v : rx_V) (k : List rx_V → β), ∃ l, rx_ups df ex j v k = k l ∧ ∀ i, rx_el l df i = if i = j then v else rx_el ex df i
  | [], j, v, k => by
    obtain ⟨l, h1, h2⟩ := rx_pad_ok df j v k
    exact ⟨l, h1, fun i => by rw [h2 i]; simp [rx_el]⟩
  | a :: l, 0, v, k => ⟨v :: l, rfl, fun i => by cases i with | zero => rfl | succ i => simp [rx_el]⟩
  | a :: l, j + 1, v, k => by
    obtain ⟨l', h1, h2⟩ := rx_ups_ok df l j v (fun l => k (a :: l))
    refine ⟨a :: l', h1, fun i => ?_⟩
    cases i with
    | zero => simp [rx_el]
    | succ i =>
      have := h2 i
      simp only [rx_el, List.getElem?_cons_succ] at this ⊢
      rw [this]
      by_cases hij : i = j
      · subst hij; simp
      · rw [if_neg hij, if_neg (by omega)]
/-- the same known value -/
def rx_veq (a c : rx_V) : Bool := match a, c with
  | .inl (0, x), .inl (0, y) => rx_ieq x y
  | .inr (.inl (0, x)), .inr (.inl (0, y)) => rx_ieq x y
  | .inr (.inr (.inl none)), .inr (.inr (.inl none)) => true
  | _, _ => false
theorem rx_veq_t {a c : rx_V} (h : rx_veq a c = true) : a = c := by
  unfold rx_veq at h
  split at h
  · rw [rx_ieq_t h]
  · rw [rx_ieq_t h]
  · rfl
  · cases h
def rx_long {β : Type} : List rx_V → Nat → (Unit → β) → (Unit → β) → β
  | [], _, y, _ => y ()
  | _ :: _, 0, _, n => n ()
  | _ :: l, j + 1, y, n => rx_long l j y n
theorem rx_long_ok {β : Type} (y n : Unit → β) : ∀ (l : List rx_V) (j : Nat), (rx_long l j y n = y () ∧ l[j]? = none) ∨ rx_long l j y n = n ()
  | [], _ => Or.inl ⟨rfl, rfl⟩
  | _ :: _, 0 => Or.inr rfl
  | _ :: l, j + 1 => by
    rcases rx_long_ok y n l j with ⟨h1, h2⟩ | h
    · exact Or.inl ⟨h1, by rw [List.getElem?_cons_succ]; exact h2⟩
    · exact Or.inr h
def rx_asg {β : Type} (df : rx_V) (ex : List rx_V) (j : Nat) (v : rx_V) (k : List rx_V → β) : β := match rx_veq v df with
  | true => rx_long ex j (fun _ => k ex) (fun _ => rx_ups df ex j v k)
  | false => rx_ups df ex j v k
theorem rx_asg_ok {β : Type} (df : rx_V) (ex : List rx_V) (j : Nat) (v : rx_V) (k : List rx_V → β) : ∃ l, rx_asg df ex j v k = k l ∧ ∀ i, rx_el l df i = if i = j then v else rx_el ex df i := by
  unfold rx_asg
  cases h : rx_veq v df with
  | false => exact rx_ups_ok df ex j v k
  | true =>
    have e := rx_veq_t h
    subst e
    dsimp only
    rcases rx_long_ok (fun _ => k ex) (fun _ => rx_ups v ex j v k) ex j with ⟨h1, h2⟩ | h1
    · refine ⟨ex, h1, fun i => ?_⟩
      by_cases hij : i = j
      · subst hij
        rw [if_pos rfl]
        simp [rx_el, h2]
      · rw [if_neg hij]
    · rw [h1]
      exact rx_ups_ok v ex j v k
