/-! ===== symbols and their bounds ===== -/
def rx_g (sy : rx_Y) (g : List Int) : Prop := g.length = sy.length ∧ ∀ (k : Nat) (z : Int) (q : Int × Int), g[k]? = some z → sy[k]? = some q → q.1 ≤ z ∧ z ≤ q.2
theorem rx_g.get {sy : rx_Y} {g : List Int} (h : rx_g sy g) {k : Nat} {z : Int} (hk : g[k]? = some z) : ∃ q, sy[k]? = some q ∧ q.1 ≤ z ∧ z ≤ q.2 := by
  have hl := (List.getElem?_eq_some_iff.mp hk).1
  rw [h.1] at hl
  exact ⟨sy[k], List.getElem?_eq_getElem hl, h.2 k z _ hk (List.getElem?_eq_getElem hl)⟩
theorem rx_g.set {sy : rx_Y} {g : List Int} (h : rx_g sy g) {k : Nat} {z : Int} (hk : g[k]? = some z) {q : Int × Int} (h1 : q.1 ≤ z) (h2 : z ≤ q.2) : rx_g (sy.set k q) g := by
  refine ⟨by rw [List.length_set]; exact h.1, fun j y r hj hr => ?_⟩
  by_cases hjk : j = k
  · subst hjk
    have hl : j < sy.length := by rw [← h.1]; exact (List.getElem?_eq_some_iff.mp hk).1
    rw [List.getElem?_set_self hl] at hr
    cases hr
    rw [hk] at hj
    cases hj
    exact ⟨h1, h2⟩
  · rw [List.getElem?_set_ne (Ne.symm hjk)] at hr
    exact h.2 j y r hj hr
theorem rx_g.push {sy : rx_Y} {g : List Int} (h : rx_g sy g) {z : Int} {q : Int × Int} (h1 : q.1 ≤ z) (h2 : z ≤ q.2) : rx_g (sy ++ [q]) (g ++ [z]) := by
  refine ⟨by simp [h.1], fun j y r hj hr => ?_⟩
  by_cases hl : j < g.length
  · rw [List.getElem?_append_left hl] at hj
    rw [List.getElem?_append_left (by rw [← h.1]; exact hl)] at hr
    exact h.2 j y r hj hr
  · have hj' : j = g.length := by
      have := (List.getElem?_eq_some_iff.mp hj).1
      rw [List.length_append] at this
      simp at this
      omega
    subst hj'
    rw [List.getElem?_append_right (Nat.le_refl _), Nat.sub_self] at hj
    rw [h.1, List.getElem?_append_right (Nat.le_refl _), Nat.sub_self] at hr
    cases hj; cases hr
    exact ⟨h1, h2⟩
theorem rx_snocg (g : List Int) (z : Int) : (g ++ [z])[g.length]? = some z := by
  rw [List.getElem?_append_right (Nat.le_refl _), Nat.sub_self]; rfl
/-- the bounds of a number -/
def rx_iv (sy : rx_Y) (q : rx_I) : Int × Int := match q with
  | (0, c) => (c, c)
  | (k + 1, c) => match sy[k]? with
    | some r => (r.1 + c, r.2 + c)
    | none => (0, -1)
theorem rx_iv_ok {sy : rx_Y} {g : List Int} (h : rx_g sy g) {q : rx_I} {z : Int} (hq : rx_ev g q z) : (rx_iv sy q).1 ≤ z ∧ z ≤ (rx_iv sy q).2 := by
  obtain ⟨k, c⟩ := q
  cases k with
  | zero =>
    have : z = c := hq
    subst this
    exact ⟨Int.le_refl _, Int.le_refl _⟩
  | succ k =>
    obtain ⟨y, h1, h2⟩ := hq
    obtain ⟨r, h3, h4, h5⟩ := h.get h1
    show (match sy[k]? with | some r => (r.1 + c, r.2 + c) | none => (0, -1)).1 ≤ z ∧ z ≤ (match sy[k]? with | some r => (r.1 + c, r.2 + c) | none => (0, -1)).2
    rw [h3]
    dsimp only
    omega
/-- a number that is known -/
def rx_cs (sy : rx_Y) (q : rx_I) : Option Int := match q with
  | (0, c) => some c
  | (k + 1, c) => match sy[k]? with
    | some r => match rx_ieq r.1 r.2 with
      | true => rx_z (r.1 + c) some
      | false => none
    | none => none
theorem rx_cs_ok {sy : rx_Y} {g : List Int} (h : rx_g sy g) {q : rx_I} {z a : Int} (hq : rx_ev g q z) (hc : rx_cs sy q = some a) : z = a := by
  obtain ⟨k, c⟩ := q
  cases k with
  | zero =>
    have h1 : z = c := hq
    have h2 : some c = some a := hc
    cases h2
    exact h1
  | succ k =>
    obtain ⟨y, h1, h2⟩ := hq
    obtain ⟨r, h3, h4, h5⟩ := h.get h1
    change (match sy[k]? with | some r => (match rx_ieq r.1 r.2 with | true => rx_z (r.1 + c) some | false => none) | none => none) = some a at hc
    rw [h3] at hc
    dsimp only at hc
    cases he : rx_ieq r.1 r.2 with
    | true =>
      rw [he] at hc
      dsimp only at hc
      rw [rx_z_eq] at hc
      cases hc
      have := rx_ieq_t he
      omega
    | false => rw [he] at hc; cases hc
/-- the symbol is at most v; at least v; v -/
def rx_hi (sy : rx_Y) (k : Nat) (v : Int) : List rx_Y := match sy[k]? with
  | some r => match rx_ile r.1 v with
    | true => match rx_ile r.2 v with
      | true => [sy]
      | false => rx_z v (fun v => rx_set sy k (r.1, v) (fun s => [s]))
    | false => []
  | none => [sy]
def rx_lo (sy : rx_Y) (k : Nat) (v : Int) : List rx_Y := match sy[k]? with
  | some r => match rx_ile v r.2 with
    | true => match rx_ile v r.1 with
      | true => [sy]
      | false => rx_z v (fun v => rx_set sy k (v, r.2) (fun s => [s]))
    | false => []
  | none => [sy]
def rx_at (sy : rx_Y) (k : Nat) (v : Int) : List rx_Y := match sy[k]? with
  | some r => match rx_ile v r.2 && rx_ile r.1 v with
    | true => rx_z v (fun v => rx_set sy k (v, v) (fun s => [s]))
    | false => []
  | none => [sy]
theorem rx_hi_ok {sy : rx_Y} {g : List Int} (h : rx_g sy g) {k : Nat} {z v : Int} (hk : g[k]? = some z) (hv : z ≤ v) : ∃ s ∈ rx_hi sy k v, rx_g s g := by
  obtain ⟨r, h3, h4, h5⟩ := h.get hk
  unfold rx_hi
  rw [h3]
  dsimp only
  cases h6 : rx_ile r.1 v with
  | true =>
    dsimp only
    cases h7 : rx_ile r.2 v with
    | true => exact ⟨sy, List.mem_singleton.mpr rfl, h⟩
    | false =>
      dsimp only
      rw [rx_z_eq, rx_set_eq]
      exact ⟨_, List.mem_singleton.mpr rfl, h.set hk h4 hv⟩
  | false =>
    have := rx_ile_f h6
    omega
theorem rx_lo_ok {sy : rx_Y} {g : List Int} (h : rx_g sy g) {k : Nat} {z v : Int} (hk : g[k]? = some z) (hv : v ≤ z) : ∃ s ∈ rx_lo sy k v, rx_g s g := by
  obtain ⟨r, h3, h4, h5⟩ := h.get hk
  unfold rx_lo
  rw [h3]
  dsimp only
  cases h6 : rx_ile v r.2 with
  | true =>
    dsimp only
    cases h7 : rx_ile v r.1 with
    | true => exact ⟨sy, List.mem_singleton.mpr rfl, h⟩
    | false =>
      dsimp only
      rw [rx_z_eq, rx_set_eq]
      exact ⟨_, List.mem_singleton.mpr rfl, h.set hk hv h5⟩
  | false =>
    have := rx_ile_f h6
    omega
theorem rx_at_ok {sy : rx_Y} {g : List Int} (h : rx_g sy g) {k : Nat} {z v : Int} (hk : g[k]? = some z) (hv : z = v) : ∃ s ∈ rx_at sy k v, rx_g s g := by
  subst hv
  obtain ⟨r, h3, h4, h5⟩ := h.get hk
  unfold rx_at
  rw [h3]
  dsimp only
  rw [(rx_ile_iff z r.2).mpr h5, (rx_ile_iff r.1 z).mpr h4]
  show ∃ s ∈ rx_z z (fun v => rx_set sy k (v, v) (fun s => [s])), rx_g s g
  rw [rx_z_eq, rx_set_eq]
  exact ⟨_, List.mem_singleton.mpr rfl, h.set hk (Int.le_refl _) (Int.le_refl _)⟩
/-! ===== conditions ===== -/
def rx_hd (d : Jvm.ClassFile.Cond) (a b : Int) : Bool := match d with
  | .eq => rx_ieq a b
  | .ne => !rx_ieq a b
  | .lt => !rx_ile b a
  | .ge => rx_ile b a
  | .gt => !rx_ile a b
  | .le => rx_ile a b
def rx_hp (d : Jvm.ClassFile.Cond) (a b : Int) : Prop := match d with
  | .eq => a = b
  | .ne => ¬ a = b
  | .lt => a < b
  | .ge => b ≤ a
  | .gt => b < a
  | .le => a ≤ b
theorem rx_hd_iff (d : Jvm.ClassFile.Cond) (a b : Int) : rx_hp d a b → rx_hd d a b = true := by
  cases d with
  | eq =>
    intro h
    cases q : rx_ieq a b with
    | true => exact q
    | false => exact absurd h (rx_ieq_f q)
  | ne =>
    intro h
    show (!rx_ieq a b) = true
    cases q : rx_ieq a b with
    | true => exact absurd (rx_ieq_t q) h
    | false => rfl
  | lt =>
    intro h
    show (!rx_ile b a) = true
    cases q : rx_ile b a with
    | true => have := (rx_ile_iff b a).mp q; have h : a < b := h; omega
    | false => rfl
  | ge => exact fun h => (rx_ile_iff b a).mpr h
  | gt =>
    intro h
    show (!rx_ile a b) = true
    cases q : rx_ile a b with
    | true => have := (rx_ile_iff a b).mp q; have h : b < a := h; omega
    | false => rfl
  | le => exact fun h => (rx_ile_iff a b).mpr h
/-- the symbol k stands so to v -/
def rx_sv (d : Jvm.ClassFile.Cond) (sy : rx_Y) (k : Nat) (v : Int) : List rx_Y := match d with
  | .eq => rx_at sy k v
  | .ne => rx_hi sy k (v - 1) ++ rx_lo sy k (v + 1)
  | .lt => rx_hi sy k (v - 1)
  | .ge => rx_lo sy k v
  | .gt => rx_lo sy k (v + 1)
  | .le => rx_hi sy k v
theorem rx_sv_ok (d : Jvm.ClassFile.Cond) {sy : rx_Y} {g : List Int} (h : rx_g sy g) {k : Nat} {z v : Int} (hk : g[k]? = some z) (hv : rx_hp d z v) : ∃ s ∈ rx_sv d sy k v, rx_g s g := by
  cases d with
  | eq => exact rx_at_ok h hk hv
  | ne =>
    have hv : ¬ z = v := hv
    rcases Int.lt_or_gt_of_ne hv with q | q
    · obtain ⟨s, h1, h2⟩ := rx_hi_ok (v := v - 1) h hk (by omega)
      exact ⟨s, List.mem_append_left _ h1, h2⟩
    · obtain ⟨s, h1, h2⟩ := rx_lo_ok (v := v + 1) h hk (by omega)
      exact ⟨s, List.mem_append_right _ h1, h2⟩
  | lt => have hv : z < v := hv; exact rx_hi_ok h hk (by omega)
  | ge => exact rx_lo_ok h hk hv
  | gt => have hv : v < z := hv; exact rx_lo_ok h hk (by omega)
  | le => exact rx_hi_ok h hk hv
def rx_sw (d : Jvm.ClassFile.Cond) : Jvm.ClassFile.Cond := match d with
  | .eq => .eq
  | .ne => .ne
  | .lt => .gt
  | .ge => .le
  | .gt => .lt
  | .le => .ge
def rx_neg (d : Jvm.ClassFile.Cond) : Jvm.ClassFile.Cond := match d with
  | .eq => .ne
  | .ne => .eq
  | .lt => .ge
  | .ge => .lt
  | .gt => .le
  | .le => .gt
theorem rx_neg_ok (d : Jvm.ClassFile.Cond) {a b : Int} (h : ¬ rx_hp d a b) : rx_hp (rx_neg d) a b := by
  cases d with
  | eq => exact h
  | ne =>
    have h : ¬ ¬ a = b := h
    show a = b
    omega
  | lt => have h : ¬ a < b := h; show b ≤ a; omega
  | ge => have h : ¬ b ≤ a := h; show a < b; omega
  | gt => have h : ¬ b < a := h; show a ≤ b; omega
  | le => have h : ¬ a ≤ b := h; show b < a; omega
/-- which bounds the symbols have where x stands so to y -/
def rx_br (d : Jvm.ClassFile.Cond) (sy : rx_Y) (x y : rx_I) : List rx_Y := match rx_cs sy x with
  | some a => match rx_cs sy y with
    | some b => match rx_hd d a b with
      | true => [sy]
      | false => []
    | none => match y with
      | (0, _) => [sy]
      | (k + 1, c) => rx_sv (rx_sw d) sy k (a - c)
  | none => match rx_cs sy y with
    | some b => match x with
      | (0, _) => [sy]
      | (k + 1, c) => rx_sv d sy k (b - c)
    | none => match Nat.beq x.1 y.1 with
      | true => match rx_hd d x.2 y.2 with
        | true => [sy]
        | false => []
      | false => [sy]
theorem rx_br_ok (d : Jvm.ClassFile.Cond) {sy : rx_Y} {g : List Int} (h : rx_g sy g) {x y : rx_I} {a b : Int} (hx : rx_ev g x a) (hy : rx_ev g y b) (hv : rx_hp d a b) : ∃ s ∈ rx_br d sy x y, rx_g s g := by
  have one : ∃ s ∈ [sy], rx_g s g := ⟨sy, List.mem_singleton.mpr rfl, h⟩
  unfold rx_br
  cases h1 : rx_cs sy x with
  | some a' =>
    have ea := rx_cs_ok h hx h1
    subst ea
    dsimp only
    cases h2 : rx_cs sy y with
    | some b' =>
      have eb := rx_cs_ok h hy h2
      subst eb
      dsimp only
      rw [rx_hd_iff d _ _ hv]
      exact one
    | none =>
      dsimp only
      obtain ⟨k, c⟩ := y
      cases k with
      | zero => exact one
      | succ k =>
        obtain ⟨z, h3, h4⟩ := hy
        refine rx_sv_ok (rx_sw d) h h3 ?_
        cases d <;> simp only [rx_hp, rx_sw] at hv ⊢ <;> omega
  | none =>
    dsimp only
    cases h2 : rx_cs sy y with
    | some b' =>
      have eb := rx_cs_ok h hy h2
      subst eb
      dsimp only
      obtain ⟨k, c⟩ := x
      cases k with
      | zero => exact one
      | succ k =>
        obtain ⟨z, h3, h4⟩ := hx
        refine rx_sv_ok d h h3 ?_
        cases d <;> simp only [rx_hp] at hv ⊢ <;> omega
    | none =>
      dsimp only
      cases h3 : Nat.beq x.1 y.1 with
      | false => exact one
      | true =>
        have e := Nat.eq_of_beq_eq_true h3
        dsimp only
        obtain ⟨k, c⟩ := x
        obtain ⟨k', c'⟩ := y
        dsimp only at e
        subst e
        have hv2 : rx_hp d c c' := by
          cases k with
          | zero =>
            have e1 : a = c := hx
            have e2 : b = c' := hy
            rw [← e1, ← e2]
            exact hv
          | succ k =>
            obtain ⟨z, h4, h5⟩ := hx
            obtain ⟨z', h6, h7⟩ := hy
            rw [h4] at h6
            cases h6
            cases d <;> simp only [rx_hp] at hv ⊢ <;> omega
        rw [rx_hd_iff d _ _ hv2]
        exact one
/-- each value of a symbol by itself, where they are few -/
def rx_sp (sy : rx_Y) (k : Nat) : Option (List rx_Y) := match sy[k]? with
  | some r => match rx_ile r.2 (r.1 + 63) with
    | true => some ((List.range ((r.2 - r.1).toNat + 1)).map (fun j : Nat => rx_z (r.1 + Int.ofNat j) (fun v => rx_set sy k (v, v) (fun s => s))))
    | false => none
  | none => none
theorem rx_sp_ok {sy : rx_Y} {g : List Int} (h : rx_g sy g) {k : Nat} {L : List rx_Y} (hL : rx_sp sy k = some L) : ∃ s ∈ L, rx_g s g := by
  unfold rx_sp at hL
  cases h3 : sy[k]? with
  | none => rw [h3] at hL; cases hL
  | some r =>
    rw [h3] at hL
    dsimp only at hL
    have hl : k < g.length := by rw [h.1]; exact (List.getElem?_eq_some_iff.mp h3).1
    have hk : g[k]? = some g[k] := List.getElem?_eq_getElem hl
    have hb := h.2 k _ r hk h3
    cases h4 : rx_ile r.2 (r.1 + 63) with
    | false => rw [h4] at hL; cases hL
    | true =>
      rw [h4] at hL
      cases hL
      refine ⟨_, List.mem_map.mpr ⟨(g[k] - r.1).toNat, List.mem_range.mpr (by omega), rfl⟩, ?_⟩
      rw [rx_z_eq, rx_set_eq]
      have e : Int.ofNat (g[k] - r.1).toNat = ((g[k] - r.1).toNat : Int) := rfl
      exact h.set hk (by dsimp only; omega) (by dsimp only; omega)
