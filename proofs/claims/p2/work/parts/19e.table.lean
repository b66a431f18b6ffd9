/-! ===== contracts of a table ===== -/
/-- method, depth; where its cells, symbols, open cells are found; symbols, cells, arguments; ends -/
abbrev rx_KE : Type := (Nat × Nat) × (List (Nat × Nat) × List (Nat × Nat) × List (Nat × Nat)) × (rx_Y × List rx_C × List rx_V) × List rx_T
noncomputable def rx_gc (c : Option rx_C) (f : Nat) : Option rx_V := match c with
  | some (.inl (_, fs)) => rx_nth fs f
  | some (.inr (_, _, ex, df)) => match rx_nth ex f with
    | some v => some v
    | none => some df
  | none => none
/-- a value by its place: an argument, a field or an element of a cell -/
noncomputable def rx_gv (as : List rx_V) (h : List rx_C) (pi : List Nat) (p : Nat × Nat) : Option rx_V := match p with
  | (0, a) => rx_nth as a
  | (i + 1, f) => match rx_nth pi i with
    | some j => rx_gc (rx_nth h j) f
    | none => none
noncomputable def rx_gpi {β : Type} (as : List rx_V) (h : List rx_C) (ps : List (Nat × Nat)) : List Nat → (List Nat → Option β) → Option β := @List.rec (Nat × Nat) (fun _ => List Nat → (List Nat → Option β) → Option β) (fun acc k => k acc) (fun p _ ih acc k => match rx_gv as h acc p with
  | some (.inr (.inr (.inl (some r)))) => rx_snocR acc r (fun acc => ih acc k)
  | _ => none) ps
theorem rx_gpi_ok {β : Type} {as : List rx_V} {h : List rx_C} {ps : List (Nat × Nat)} : ∀ {acc : List Nat} {k : List Nat → Option β} {x : β}, rx_gpi as h ps acc k = some x → ∃ pi, k pi = some x := by
  induction ps with
  | nil => exact fun hh => ⟨_, hh⟩
  | cons p ps ih =>
    intro acc k x hh
    have e : rx_gpi as h (p :: ps) acc k = (match rx_gv as h acc p with | some (.inr (.inr (.inl (some r)))) => rx_snocR acc r (fun acc => rx_gpi as h ps acc k) | _ => none) := rfl
    rw [e] at hh
    split at hh
    · rw [rx_snocR_eq] at hh
      exact ih hh
    · cases hh
/-- a symbol's number; one that has no place is at its least -/
noncomputable def rx_gs (v : Option rx_V) (lo : Int) : rx_I := match v with
  | some (.inl q) => q
  | some (.inr (.inl q)) => q
  | _ => (0, lo)
noncomputable def rx_gth {β : Type} (f : Nat × Nat → Option rx_V) (ps : List (Nat × Nat)) : List (Int × Int) → (List rx_I → Option β) → Option β := @List.rec (Nat × Nat) (fun _ => List (Int × Int) → (List rx_I → Option β) → Option β) (fun _ k => k []) (fun p _ ih l k => match l with
  | [] => none
  | r :: t => match rx_gs (f p) r.1 with
    | (n, c) => ih t (fun th => k ((n, c) :: th))) ps
theorem rx_gth_ok {β : Type} {f : Nat × Nat → Option rx_V} {ps : List (Nat × Nat)} : ∀ {l : List (Int × Int)} {k : List rx_I → Option β} {x : β}, rx_gth f ps l k = some x → ∃ th, k th = some x := by
  induction ps with
  | nil => exact fun hh => ⟨_, hh⟩
  | cons p ps ih =>
    intro l k x hh
    cases l with
    | nil => cases hh
    | cons r l =>
      have e : rx_gth f (p :: ps) (r :: l) k = rx_gth f ps l (fun th => k (rx_gs (f p) r.1 :: th)) := rfl
      rw [e] at hh
      obtain ⟨th, h1⟩ := ih hh
      exact ⟨_, h1⟩
noncomputable def rx_gxi {β : Type} (as : List rx_V) (h : List rx_C) (pi : List Nat) (ps : List (Nat × Nat)) : (List rx_V → Option β) → Option β := @List.rec (Nat × Nat) (fun _ => (List rx_V → Option β) → Option β) (fun k => k []) (fun p _ ih k => match rx_gv as h pi p with
  | some v => ih (fun xi => k (v :: xi))
  | none => none) ps
theorem rx_gxi_ok {β : Type} {as : List rx_V} {h : List rx_C} {pi : List Nat} {ps : List (Nat × Nat)} : ∀ {k : List rx_V → Option β} {x : β}, rx_gxi as h pi ps k = some x → ∃ xi, k xi = some x := by
  induction ps with
  | nil => exact fun hh => ⟨_, hh⟩
  | cons p ps ih =>
    intro k x hh
    have e : rx_gxi as h pi (p :: ps) k = (match rx_gv as h pi p with | some v => rx_gxi as h pi ps (fun xi => k (v :: xi)) | none => none) := rfl
    rw [e] at hh
    split at hh
    · obtain ⟨xi, h1⟩ := ih hh
      exact ⟨_, h1⟩
    · cases hh
/-- a known argument that is another: no -/
noncomputable def rx_qA (sy : rx_Y) (as0 : List rx_V) : List rx_V → Bool := @List.rec rx_V (fun _ => List rx_V → Bool) (fun _ => true) (fun a0 _ ih l => match l with
  | [] => true
  | a :: t => match a0 with
    | .inl (0, c) => match a with
      | .inl q => match rx_cs sy q with
        | some z => match rx_ieq z c with
          | true => ih t
          | false => false
        | none => false
      | _ => false
    | _ => ih t) as0
noncomputable def rx_try (K : rx_KE) (as : List rx_V) (sy : rx_Y) (h : List rx_C) : Option (List rx_T) := match rx_qA sy K.2.2.1.2.2 as with
  | false => none
  | true => rx_gpi as h K.2.1.1 [] (fun pi => rx_gth (rx_gv as h pi) K.2.1.2.1 K.2.2.1.1.1 (fun th => rx_gxi as h pi K.2.1.2.2 (fun xi => match rx_chkI sy h as th pi xi K.2.2.1.1 K.2.2.1.2.1 K.2.2.1.2.2 with
    | true => rx_mkOs sy h th pi xi K.2.2.2
    | false => none)))
theorem rx_try_ok {K : rx_KE} {as : List rx_V} {sy : rx_Y} {h : List rx_C} {L : List rx_T} (hh : rx_try K as sy h = some L) : ∃ th pi xi, rx_chkI sy h as th pi xi K.2.2.1.1 K.2.2.1.2.1 K.2.2.1.2.2 = true ∧ rx_mkOs sy h th pi xi K.2.2.2 = some L := by
  unfold rx_try at hh
  split at hh
  · cases hh
  · obtain ⟨pi, h1⟩ := rx_gpi_ok hh
    obtain ⟨th, h2⟩ := rx_gth_ok h1
    obtain ⟨xi, h3⟩ := rx_gxi_ok h2
    split at h3
    · rename_i hc
      exact ⟨th, pi, xi, hc, h3⟩
    · cases h3
noncomputable def rx_ext1 (M : rx_Md) (d mi : Nat) (as : List rx_V) (sy : rx_Y) (h : List rx_C) (KT : List rx_KE) : Option rx_O := @List.rec rx_KE (fun _ => Option rx_O) none (fun K _ ih => match Nat.beq K.1.1 mi && Nat.ble K.1.2 d with
  | true => match rx_try K as sy h with
    | some L => some (M.2.2.2.2.2.2.1, M.2.2.2.2.2.2.2.1, L)
    | none => ih
  | false => ih) KT
noncomputable def rx_ext (MT : List rx_Md) (KT : List rx_KE) (d mi : Nat) (as : List rx_V) (sy : rx_Y) (h : List rx_C) : Option rx_O := match rx_nth MT mi with
  | some M => rx_ext1 M d mi as sy h KT
  | none => none
/-- a contract that holds -/
def rx_KV (l : Launch) (D : va_G) (Zb : (Nat → Option Nat) × List Int → State → Heap → Prop) (sz0 : Nat) (MT : List rx_Md) (K : rx_KE) : Prop := ∃ M : rx_Md, MT[K.1.1]? = some M ∧ rx_okM M ∧ ∀ b : (Nat → Option Nat) × List Int, b.2 = [] → rx_Ct l b D (Zb b) sz0 K.1.2 M K.2.2.1.2.2 K.2.2.1.1 K.2.2.1.2.1 K.2.2.2
theorem rx_ext_ok {l : Launch} {D : va_G} {Zb : (Nat → Option Nat) × List Int → State → Heap → Prop} {sz0 : Nat} {MT : List rx_Md} {KT : List rx_KE} (hZb : ∀ (b b0 : (Nat → Option Nat) × List Int) (U : State) (H : Heap), (∀ u, u < 100 → b0.1 u = b.1 u) → b0.2 = b.2 → Zb b U H → Zb b0 U H) {b : (Nat → Option Nat) × List Int} (hb2 : b.2 = []) (hK : ∀ K ∈ KT, rx_KV l D Zb sz0 MT K) : rx_Eok l b D (Zb b) sz0 MT (rx_ext MT KT) := by
  intro d mi as sy h r hr
  unfold rx_ext at hr
  rw [rx_nth_eq] at hr
  split at hr
  · rename_i M hM
    have key : ∀ KT : List rx_KE, (∀ K ∈ KT, rx_KV l D Zb sz0 MT K) → rx_ext1 M d mi as sy h KT = some r → ∃ d', d' ≤ d ∧ ∃ M : rx_Md, MT[mi]? = some M ∧ rx_okM M ∧ (r.1 = M.2.2.2.2.2.2.1 ∧ r.2.1 = M.2.2.2.2.2.2.2.1) ∧ rx_Ct l b D (Zb b) sz0 d' M as sy h r.2.2 := by
      intro KT
      induction KT with
      | nil => exact fun _ hh => by cases hh
      | cons K KT ih =>
        intro hK hh
        have e : rx_ext1 M d mi as sy h (K :: KT) = (match Nat.beq K.1.1 mi && Nat.ble K.1.2 d with | true => (match rx_try K as sy h with | some L => some (M.2.2.2.2.2.2.1, M.2.2.2.2.2.2.2.1, L) | none => rx_ext1 M d mi as sy h KT) | false => rx_ext1 M d mi as sy h KT) := rfl
        rw [e] at hh
        have hr9 := fun K hk => hK K (List.mem_cons_of_mem _ hk)
        split at hh
        · rename_i hb
          rw [Bool.and_eq_true] at hb
          have e1 := Nat.eq_of_beq_eq_true hb.1
          have e2 := Nat.le_of_ble_eq_true hb.2
          split at hh
          · rename_i L hL
            cases hh
            obtain ⟨th, pi, xi, h1, h2⟩ := rx_try_ok hL
            obtain ⟨M', h3, h4, h5⟩ := hK K List.mem_cons_self
            rw [e1, hM] at h3
            cases h3
            exact ⟨K.1.2, e2, M, hM, h4, ⟨rfl, rfl⟩, rx_inst_ok hZb hb2 h5 h1 h2⟩
          · exact ih hr9 hh
        · exact ih hr9 hh
    exact key KT hK hr
  · cases hr
