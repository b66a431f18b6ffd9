/-! ===== symbols, their bounds, facts ===== -/
def rx_lin (g : List Int) : List (Int × Nat) → Int → Prop
  | [], z => z = 0
  | t :: l, z => ∃ y z', g[t.2]? = some y ∧ rx_lin g l z' ∧ z = t.1 * y + z'
theorem rx_lin.mono {g g' : List Int} (hg : rx_le g g') : ∀ {l : List (Int × Nat)} {z : Int}, rx_lin g l z → rx_lin g' l z
  | [], _, h => h
  | _ :: _, _, ⟨y, z', h1, h2, h3⟩ => ⟨y, z', hg _ y h1, rx_lin.mono hg h2, h3⟩
theorem rx_lin.one {g : List Int} : ∀ {l : List (Int × Nat)} {z z' : Int}, rx_lin g l z → rx_lin g l z' → z = z'
  | [], _, _, h, h' => h.trans h'.symm
  | _ :: _, _, _, ⟨y, a, h1, h2, h3⟩, ⟨y', a', h1', h2', h3'⟩ => by
    rw [h1] at h1'
    cases h1'
    rw [h3, h3', rx_lin.one h2 h2']
def rx_f (g : List Int) (f : rx_F) : Prop := (∀ q ∈ f.1, ∀ y, g[q.1]? = some y → y ≤ q.2) → ∃ z, rx_lin g f.2.1 z ∧ 0 ≤ z + f.2.2
theorem rx_f.mono {g g' : List Int} {f : rx_F} (hg : rx_le g g') (h : rx_f g f) : rx_f g' f := by
  intro hq
  obtain ⟨z, h1, h2⟩ := h (fun q hq1 y hy => hq q hq1 y (hg _ _ hy))
  exact ⟨z, h1.mono hg, h2⟩
def rx_g1 (sy : List (Int × Int)) (g : List Int) : Prop := g.length = sy.length ∧ ∀ (k : Nat) (z : Int) (q : Int × Int), g[k]? = some z → sy[k]? = some q → q.1 ≤ z ∧ z ≤ q.2
def rx_g (sy : rx_Y) (g : List Int) : Prop := rx_g1 sy.1 g ∧ ∀ f ∈ sy.2, rx_f g f
theorem rx_g.get {sy : rx_Y} {g : List Int} (h : rx_g sy g) {k : Nat} {z : Int} (hk : g[k]? = some z) : ∃ q, sy.1[k]? = some q ∧ q.1 ≤ z ∧ z ≤ q.2 := by
  have hl := (List.getElem?_eq_some_iff.mp hk).1
  rw [h.1.1] at hl
  exact ⟨sy.1[k], List.getElem?_eq_getElem hl, h.1.2 k z _ hk (List.getElem?_eq_getElem hl)⟩
theorem rx_g.set {sy : rx_Y} {g : List Int} (h : rx_g sy g) {k : Nat} {z : Int} (hk : g[k]? = some z) {q : Int × Int} (h1 : q.1 ≤ z) (h2 : z ≤ q.2) : rx_g (sy.1.set k q, sy.2) g := by
  refine ⟨⟨by rw [List.length_set]; exact h.1.1, fun j y r hj hr => ?_⟩, h.2⟩
  by_cases hjk : j = k
  · subst hjk
    have hl : j < sy.1.length := by rw [← h.1.1]; exact (List.getElem?_eq_some_iff.mp hk).1
    dsimp only at hr
    rw [List.getElem?_set_self hl] at hr
    cases hr
    rw [hk] at hj
    cases hj
    exact ⟨h1, h2⟩
  · dsimp only at hr
    rw [List.getElem?_set_ne (Ne.symm hjk)] at hr
    exact h.1.2 j y r hj hr
theorem rx_g.push {sy : rx_Y} {g : List Int} (h : rx_g sy g) {z : Int} {q : Int × Int} (h1 : q.1 ≤ z) (h2 : z ≤ q.2) : rx_g (sy.1 ++ [q], sy.2) (g ++ [z]) := by
  refine ⟨⟨by simp [h.1.1], fun j y r hj hr => ?_⟩, fun f hf => (h.2 f hf).mono (rx_le.app _)⟩
  dsimp only at hr
  by_cases hl : j < g.length
  · rw [List.getElem?_append_left hl] at hj
    rw [List.getElem?_append_left (by rw [← h.1.1]; exact hl)] at hr
    exact h.1.2 j y r hj hr
  · have hj' : j = g.length := by
      have := (List.getElem?_eq_some_iff.mp hj).1
      rw [List.length_append] at this
      simp at this
      omega
    subst hj'
    rw [List.getElem?_append_right (Nat.le_refl _), Nat.sub_self] at hj
    rw [h.1.1, List.getElem?_append_right (Nat.le_refl _), Nat.sub_self] at hr
    cases hj; cases hr
    exact ⟨h1, h2⟩
theorem rx_g.fact {sy : rx_Y} {g : List Int} (h : rx_g sy g) {f : rx_F} (hf : rx_f g f) : rx_g (sy.1, f :: sy.2) g :=
  ⟨h.1, fun q hq => by
    rcases List.mem_cons.mp hq with rfl | hq
    · exact hf
    · exact h.2 q hq⟩
theorem rx_snocg (g : List Int) (z : Int) : (g ++ [z])[g.length]? = some z := by
  rw [List.getElem?_append_right (Nat.le_refl _), Nat.sub_self]; rfl
/-- the bounds of a number -/
noncomputable def rx_iv (sy : rx_Y) (q : rx_I) : Int × Int := match q with
  | (0, c) => (c, c)
  | (k + 1, c) => match rx_nth sy.1 k with
    | some r => (r.1 + c, r.2 + c)
    | none => (0, -1)
theorem rx_iv_ok {sy : rx_Y} {g : List Int} (h : rx_g sy g) {q : rx_I} {z : Int} (hq : rx_ev g q z) : (rx_iv sy q).1 ≤ z ∧ z ≤ (rx_iv sy q).2 := by
  obtain ⟨k, c⟩ := q
  cases k with
  | zero =>
    have : z = c := hq
    subst this
    exact ⟨Int.le_refl _, Int.le_refl _⟩
  | succ k =>
    obtain ⟨y, h1, h2⟩ := hq
    obtain ⟨r, h3, h4, h5⟩ := h.get h1
    show (match rx_nth sy.1 k with | some r => (r.1 + c, r.2 + c) | none => (0, -1)).1 ≤ z ∧ z ≤ (match rx_nth sy.1 k with | some r => (r.1 + c, r.2 + c) | none => (0, -1)).2
    rw [rx_nth_eq, h3]
    dsimp only
    omega
/-- a number that is known -/
noncomputable def rx_cs (sy : rx_Y) (q : rx_I) : Option Int := match q with
  | (0, c) => some c
  | (k + 1, c) => match rx_nth sy.1 k with
    | some r => match rx_ieq r.1 r.2 with
      | true => rx_z (r.1 + c) some
      | false => none
    | none => none
theorem rx_cs_ok {sy : rx_Y} {g : List Int} (h : rx_g sy g) {q : rx_I} {z a : Int} (hq : rx_ev g q z) (hc : rx_cs sy q = some a) : z = a := by
  obtain ⟨k, c⟩ := q
  cases k with
  | zero =>
    have h1 : z = c := hq
    have h2 : some c = some a := hc
    cases h2
    exact h1
  | succ k =>
    obtain ⟨y, h1, h2⟩ := hq
    obtain ⟨r, h3, h4, h5⟩ := h.get h1
    change (match rx_nth sy.1 k with | some r => (match rx_ieq r.1 r.2 with | true => rx_z (r.1 + c) some | false => none) | none => none) = some a at hc
    rw [rx_nth_eq, h3] at hc
    dsimp only at hc
    cases he : rx_ieq r.1 r.2 with
    | true =>
      rw [he] at hc
      dsimp only at hc
      rw [rx_z_eq] at hc
      cases hc
      have := rx_ieq_t he
      omega
    | false => rw [he] at hc; cases hc
/-- the symbol is at most v; at least v; v -/
noncomputable def rx_hi (sy : rx_Y) (k : Nat) (v : Int) : List rx_Y := match rx_nth sy.1 k with
  | some r => match rx_ile r.1 v with
    | true => match rx_ile r.2 v with
      | true => [sy]
      | false => rx_z v (fun v => rx_setR sy.1 k (r.1, v) (fun s => [(s, sy.2)]))
    | false => []
  | none => [sy]
noncomputable def rx_lo (sy : rx_Y) (k : Nat) (v : Int) : List rx_Y := match rx_nth sy.1 k with
  | some r => match rx_ile v r.2 with
    | true => match rx_ile v r.1 with
      | true => [sy]
      | false => rx_z v (fun v => rx_setR sy.1 k (v, r.2) (fun s => [(s, sy.2)]))
    | false => []
  | none => [sy]
noncomputable def rx_at (sy : rx_Y) (k : Nat) (v : Int) : List rx_Y := match rx_nth sy.1 k with
  | some r => match rx_ile v r.2 && rx_ile r.1 v with
    | true => rx_z v (fun v => rx_setR sy.1 k (v, v) (fun s => [(s, sy.2)]))
    | false => []
  | none => [sy]
theorem rx_hi_ok {sy : rx_Y} {g : List Int} (h : rx_g sy g) {k : Nat} {z v : Int} (hk : g[k]? = some z) (hv : z ≤ v) : ∃ s ∈ rx_hi sy k v, rx_g s g := by
  obtain ⟨r, h3, h4, h5⟩ := h.get hk
  unfold rx_hi
  rw [rx_nth_eq, h3]
  dsimp only
  cases h6 : rx_ile r.1 v with
  | true =>
    dsimp only
    cases h7 : rx_ile r.2 v with
    | true => exact ⟨sy, List.mem_singleton.mpr rfl, h⟩
    | false =>
      dsimp only
      rw [rx_z_eq, rx_setR_eq]
      exact ⟨_, List.mem_singleton.mpr rfl, h.set hk h4 hv⟩
  | false =>
    have := rx_ile_f h6
    omega
theorem rx_lo_ok {sy : rx_Y} {g : List Int} (h : rx_g sy g) {k : Nat} {z v : Int} (hk : g[k]? = some z) (hv : v ≤ z) : ∃ s ∈ rx_lo sy k v, rx_g s g := by
  obtain ⟨r, h3, h4, h5⟩ := h.get hk
  unfold rx_lo
  rw [rx_nth_eq, h3]
  dsimp only
  cases h6 : rx_ile v r.2 with
  | true =>
    dsimp only
    cases h7 : rx_ile v r.1 with
    | true => exact ⟨sy, List.mem_singleton.mpr rfl, h⟩
    | false =>
      dsimp only
      rw [rx_z_eq, rx_setR_eq]
      exact ⟨_, List.mem_singleton.mpr rfl, h.set hk hv h5⟩
  | false =>
    have := rx_ile_f h6
    omega
theorem rx_at_ok {sy : rx_Y} {g : List Int} (h : rx_g sy g) {k : Nat} {z v : Int} (hk : g[k]? = some z) (hv : z = v) : ∃ s ∈ rx_at sy k v, rx_g s g := by
  subst hv
  obtain ⟨r, h3, h4, h5⟩ := h.get hk
  unfold rx_at
  rw [rx_nth_eq, h3]
  dsimp only
  rw [(rx_ile_iff z r.2).mpr h5, (rx_ile_iff r.1 z).mpr h4]
  show ∃ s ∈ rx_z z (fun v => rx_setR sy.1 k (v, v) (fun s => [(s, sy.2)])), rx_g s g
  rw [rx_z_eq, rx_setR_eq]
  exact ⟨_, List.mem_singleton.mpr rfl, h.set hk (Int.le_refl _) (Int.le_refl _)⟩
/-! ===== conditions ===== -/
def rx_hd (d : Jvm.ClassFile.Cond) (a b : Int) : Bool := match d with
  | .eq => rx_ieq a b
  | .ne => !rx_ieq a b
  | .lt => !rx_ile b a
  | .ge => rx_ile b a
  | .gt => !rx_ile a b
  | .le => rx_ile a b
def rx_hp (d : Jvm.ClassFile.Cond) (a b : Int) : Prop := match d with
  | .eq => a = b
  | .ne => ¬ a = b
  | .lt => a < b
  | .ge => b ≤ a
  | .gt => b < a
  | .le => a ≤ b
theorem rx_hd_iff (d : Jvm.ClassFile.Cond) (a b : Int) : rx_hp d a b → rx_hd d a b = true := by
  cases d with
  | eq =>
    intro h
    cases q : rx_ieq a b with
    | true => exact q
    | false => exact absurd h (rx_ieq_f q)
  | ne =>
    intro h
    show (!rx_ieq a b) = true
    cases q : rx_ieq a b with
    | true => exact absurd (rx_ieq_t q) h
    | false => rfl
  | lt =>
    intro h
    show (!rx_ile b a) = true
    cases q : rx_ile b a with
    | true => have := (rx_ile_iff b a).mp q; have h : a < b := h; omega
    | false => rfl
  | ge => exact fun h => (rx_ile_iff b a).mpr h
  | gt =>
    intro h
    show (!rx_ile a b) = true
    cases q : rx_ile a b with
    | true => have := (rx_ile_iff a b).mp q; have h : b < a := h; omega
    | false => rfl
  | le => exact fun h => (rx_ile_iff a b).mpr h
/-- the symbol k stands so to v -/
noncomputable def rx_sv (d : Jvm.ClassFile.Cond) (sy : rx_Y) (k : Nat) (v : Int) : List rx_Y := match d with
  | .eq => rx_at sy k v
  | .ne => rx_hi sy k (v - 1) ++ rx_lo sy k (v + 1)
  | .lt => rx_hi sy k (v - 1)
  | .ge => rx_lo sy k v
  | .gt => rx_lo sy k (v + 1)
  | .le => rx_hi sy k v
theorem rx_sv_ok (d : Jvm.ClassFile.Cond) {sy : rx_Y} {g : List Int} (h : rx_g sy g) {k : Nat} {z v : Int} (hk : g[k]? = some z) (hv : rx_hp d z v) : ∃ s ∈ rx_sv d sy k v, rx_g s g := by
  cases d with
  | eq => exact rx_at_ok h hk hv
  | ne =>
    have hv : ¬ z = v := hv
    rcases Int.lt_or_gt_of_ne hv with q | q
    · obtain ⟨s, h1, h2⟩ := rx_hi_ok (v := v - 1) h hk (by omega)
      exact ⟨s, List.mem_append_left _ h1, h2⟩
    · obtain ⟨s, h1, h2⟩ := rx_lo_ok (v := v + 1) h hk (by omega)
      exact ⟨s, List.mem_append_right _ h1, h2⟩
  | lt => have hv : z < v := hv; exact rx_hi_ok h hk (by omega)
  | ge => exact rx_lo_ok h hk hv
  | gt => have hv : v < z := hv; exact rx_lo_ok h hk (by omega)
  | le => exact rx_hi_ok h hk hv
def rx_sw (d : Jvm.ClassFile.Cond) : Jvm.ClassFile.Cond := match d with
  | .eq => .eq
  | .ne => .ne
  | .lt => .gt
  | .ge => .le
  | .gt => .lt
  | .le => .ge
def rx_neg (d : Jvm.ClassFile.Cond) : Jvm.ClassFile.Cond := match d with
  | .eq => .ne
  | .ne => .eq
  | .lt => .ge
  | .ge => .lt
  | .gt => .le
  | .le => .gt
theorem rx_neg_ok (d : Jvm.ClassFile.Cond) {a b : Int} (h : ¬ rx_hp d a b) : rx_hp (rx_neg d) a b := by
  cases d with
  | eq => exact h
  | ne =>
    have h : ¬ ¬ a = b := h
    show a = b
    omega
  | lt => have h : ¬ a < b := h; show b ≤ a; omega
  | ge => have h : ¬ b ≤ a := h; show a < b; omega
  | gt => have h : ¬ b < a := h; show a ≤ b; omega
  | le => have h : ¬ a ≤ b := h; show b < a; omega
/-- two numbers of two symbols: x and e at most y -/
noncomputable def rx_le2 (sy : rx_Y) (x y : rx_I) (kx ky : Nat) (e : Int) : List rx_Y := (rx_hi sy kx ((rx_iv sy y).2 - e - x.2)).flatMap (fun s => (rx_lo s ky ((rx_iv sy x).1 + e - y.2)).map (fun s => (s.1, ([], [(1, ky), (-1, kx)], y.2 - x.2 - e) :: s.2)))
theorem rx_le2_ok {sy : rx_Y} {g : List Int} (h : rx_g sy g) {kx ky : Nat} {cx cy e a b : Int} (hx : rx_ev g (kx + 1, cx) a) (hy : rx_ev g (ky + 1, cy) b) (hv : a + e ≤ b) : ∃ s ∈ rx_le2 sy (kx + 1, cx) (ky + 1, cy) kx ky e, rx_g s g := by
  have ix := rx_iv_ok h hx
  have iy := rx_iv_ok h hy
  obtain ⟨zx, h1, h2⟩ := hx
  obtain ⟨zy, h3, h4⟩ := hy
  obtain ⟨s1, q1, q2⟩ := rx_hi_ok (v := (rx_iv sy (ky + 1, cy)).2 - e - cx) h h1 (by omega)
  obtain ⟨s2, q3, q4⟩ := rx_lo_ok (v := (rx_iv sy (kx + 1, cx)).1 + e - cy) q2 h3 (by omega)
  refine ⟨_, List.mem_flatMap.mpr ⟨s1, q1, List.mem_map.mpr ⟨s2, q3, rfl⟩⟩, q4.fact (fun _ => ⟨1 * zy + ((-1) * zx + 0), ⟨zy, _, h3, ⟨zx, 0, h1, rfl, rfl⟩, rfl⟩, ?_⟩)⟩
  dsimp only
  omega
noncomputable def rx_s2 (d : Jvm.ClassFile.Cond) (sy : rx_Y) (x y : rx_I) (kx ky : Nat) : List rx_Y := match d with
  | .eq => (rx_le2 sy x y kx ky 0).flatMap (fun s => rx_le2 s y x ky kx 0)
  | .ne => [sy]
  | .lt => rx_le2 sy x y kx ky 1
  | .ge => rx_le2 sy y x ky kx 0
  | .gt => rx_le2 sy y x ky kx 1
  | .le => rx_le2 sy x y kx ky 0
theorem rx_s2_ok (d : Jvm.ClassFile.Cond) {sy : rx_Y} {g : List Int} (h : rx_g sy g) {kx ky : Nat} {cx cy a b : Int} (hx : rx_ev g (kx + 1, cx) a) (hy : rx_ev g (ky + 1, cy) b) (hv : rx_hp d a b) : ∃ s ∈ rx_s2 d sy (kx + 1, cx) (ky + 1, cy) kx ky, rx_g s g := by
  cases d with
  | eq =>
    have hv : a = b := hv
    obtain ⟨s1, q1, q2⟩ := rx_le2_ok (e := 0) h hx hy (by omega)
    obtain ⟨s2, q3, q4⟩ := rx_le2_ok (e := 0) q2 hy hx (by omega)
    exact ⟨s2, List.mem_flatMap.mpr ⟨s1, q1, q3⟩, q4⟩
  | ne => exact ⟨sy, List.mem_singleton.mpr rfl, h⟩
  | lt => have hv : a < b := hv; exact rx_le2_ok h hx hy (by omega)
  | ge => have hv : b ≤ a := hv; exact rx_le2_ok h hy hx (by omega)
  | gt => have hv : b < a := hv; exact rx_le2_ok h hy hx (by omega)
  | le => have hv : a ≤ b := hv; exact rx_le2_ok h hx hy (by omega)
/-- which bounds the symbols have where x stands so to y -/
noncomputable def rx_br (d : Jvm.ClassFile.Cond) (sy : rx_Y) (x y : rx_I) : List rx_Y := match rx_cs sy x with
  | some a => match rx_cs sy y with
    | some b => match rx_hd d a b with
      | true => [sy]
      | false => []
    | none => match y with
      | (0, _) => [sy]
      | (k + 1, c) => rx_sv (rx_sw d) sy k (a - c)
  | none => match rx_cs sy y with
    | some b => match x with
      | (0, _) => [sy]
      | (k + 1, c) => rx_sv d sy k (b - c)
    | none => match Nat.beq x.1 y.1 with
      | true => match rx_hd d x.2 y.2 with
        | true => [sy]
        | false => []
      | false => match x, y with
        | (kx + 1, cx), (ky + 1, cy) => rx_s2 d sy (kx + 1, cx) (ky + 1, cy) kx ky
        | _, _ => [sy]
theorem rx_br_ok (d : Jvm.ClassFile.Cond) {sy : rx_Y} {g : List Int} (h : rx_g sy g) {x y : rx_I} {a b : Int} (hx : rx_ev g x a) (hy : rx_ev g y b) (hv : rx_hp d a b) : ∃ s ∈ rx_br d sy x y, rx_g s g := by
  have one : ∃ s ∈ [sy], rx_g s g := ⟨sy, List.mem_singleton.mpr rfl, h⟩
  unfold rx_br
  cases h1 : rx_cs sy x with
  | some a' =>
    have ea := rx_cs_ok h hx h1
    subst ea
    dsimp only
    cases h2 : rx_cs sy y with
    | some b' =>
      have eb := rx_cs_ok h hy h2
      subst eb
      dsimp only
      rw [rx_hd_iff d _ _ hv]
      exact one
    | none =>
      dsimp only
      obtain ⟨k, c⟩ := y
      cases k with
      | zero => exact one
      | succ k =>
        obtain ⟨z, h3, h4⟩ := hy
        refine rx_sv_ok (rx_sw d) h h3 ?_
        cases d <;> simp only [rx_hp, rx_sw] at hv ⊢ <;> omega
  | none =>
    dsimp only
    cases h2 : rx_cs sy y with
    | some b' =>
      have eb := rx_cs_ok h hy h2
      subst eb
      dsimp only
      obtain ⟨k, c⟩ := x
      cases k with
      | zero => exact one
      | succ k =>
        obtain ⟨z, h3, h4⟩ := hx
        refine rx_sv_ok d h h3 ?_
        cases d <;> simp only [rx_hp] at hv ⊢ <;> omega
    | none =>
      dsimp only
      cases h3 : Nat.beq x.1 y.1 with
      | false =>
        dsimp only
        split
        · exact rx_s2_ok d h hx hy hv
        · exact one
      | true =>
        have e := Nat.eq_of_beq_eq_true h3
        dsimp only
        obtain ⟨k, c⟩ := x
        obtain ⟨k', c'⟩ := y
        dsimp only at e
        subst e
        have hv2 : rx_hp d c c' := by
          cases k with
          | zero =>
            have e1 : a = c := hx
            have e2 : b = c' := hy
            rw [← e1, ← e2]
            exact hv
          | succ k =>
            obtain ⟨z, h4, h5⟩ := hx
            obtain ⟨z', h6, h7⟩ := hy
            rw [h4] at h6
            cases h6
            cases d <;> simp only [rx_hp] at hv ⊢ <;> omega
        rw [rx_hd_iff d _ _ hv2]
        exact one
/-- each value of a symbol by itself, where they are few -/
noncomputable def rx_sp (sy : rx_Y) (k : Nat) : Option (List rx_Y) := match rx_nth sy.1 k with
  | some r => match rx_ile r.2 (r.1 + 255) with
    | true => some ((List.range ((r.2 - r.1).toNat + 1)).map (fun j : Nat => rx_z (r.1 + Int.ofNat j) (fun v => rx_setR sy.1 k (v, v) (fun s => (s, sy.2)))))
    | false => none
  | none => none
theorem rx_sp_ok {sy : rx_Y} {g : List Int} (h : rx_g sy g) {k : Nat} {L : List rx_Y} (hL : rx_sp sy k = some L) : ∃ s ∈ L, rx_g s g := by
  unfold rx_sp at hL
  rw [rx_nth_eq] at hL
  cases h3 : sy.1[k]? with
  | none => rw [h3] at hL; cases hL
  | some r =>
    rw [h3] at hL
    dsimp only at hL
    have hl : k < g.length := by rw [h.1.1]; exact (List.getElem?_eq_some_iff.mp h3).1
    have hk : g[k]? = some g[k] := List.getElem?_eq_getElem hl
    have hb := h.1.2 k _ r hk h3
    cases h4 : rx_ile r.2 (r.1 + 255) with
    | false => rw [h4] at hL; cases hL
    | true =>
      rw [h4] at hL
      cases hL
      refine ⟨_, List.mem_map.mpr ⟨(g[k] - r.1).toNat, List.mem_range.mpr (by omega), rfl⟩, ?_⟩
      rw [rx_z_eq, rx_setR_eq]
      have e : Int.ofNat (g[k] - r.1).toNat = ((g[k] - r.1).toNat : Int) := rfl
      exact h.set hk (by dsimp only; omega) (by dsimp only; omega)
