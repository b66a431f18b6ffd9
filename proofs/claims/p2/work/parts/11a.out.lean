/-! ===== cells outside the world: the script, String constants, their bytes, static arrays ===== -/
/-- a String (its bytes' number); an array of ints (0) or bytes (1); the script (the symbol that is its length) -/
abbrev rx_XO : Type := Nat ⊕ (Nat × List Int) ⊕ Nat
def rx_wb : List Int := [114, 111, 111, 109, 32, 108, 111, 99, 107, 32, 109, 97, 110, 32, 107, 101, 121, 32, 102, 105, 101, 108, 100, 32, 115, 108, 111, 119, 32, 111, 112, 101, 110, 32, 100, 114, 111, 112, 115, 32, 112, 105, 99, 107, 115, 32, 116, 114, 105, 101, 115, 32, 119, 97, 108, 107, 115, 32, 100, 97, 121, 32, 111, 114, 32, 97, 110, 100, 32, 110, 111, 116, 32, 108, 121, 105, 110, 103, 32, 111, 102, 32, 104, 97, 100, 32, 102, 105, 116, 115, 32, 110, 101, 97, 114, 32, 119, 97, 114, 100, 32, 108, 97, 105, 110, 32, 116, 117, 114, 110, 101, 100, 32, 110, 117, 109, 98, 101, 114, 32]
def rx_tx : String := "room lock man key field slow open drops picks tries walks day or and not lying of had fits near ward lain turned number "
def rx_w1 : List Int := [32, 104, 97, 100, 32, 98, 121, 32]
def rx_w2 : List Int := [32, 108, 105, 101, 115, 32, 97, 116, 32]
def rx_w3 : List Int := [32, 102, 105, 116, 115, 32]
def rx_w4 : List Int := [6, 6, 5, 8]
/-- 0 the words of a TAPE, 1 their bytes; 2 to 7 those of a TAG; 8 the most of each sort; 9, of which nothing is known, is the static that checkIndex hands on -/
def rx_XT : List rx_XO := [.inl 1, .inr (.inl (1, rx_wb)), .inl 3, .inr (.inl (1, rx_w1)), .inl 5, .inr (.inl (1, rx_w2)), .inl 7, .inr (.inl (1, rx_w3)), .inr (.inl (0, rx_w4))]
/-- String constants: class, entry, text, number -/
def rx_SR : List (String × Nat × String × Nat) := [("LostKeys$Tape", 19, rx_tx, 0), ("LostKeys$Tag", 29, " had by ", 2), ("LostKeys$Tag", 35, " lies at ", 4), ("LostKeys$Tag", 59, " fits ", 6)]
/-- statics: class, name, type, value: an int, a cell outside -/
def rx_ST : List (String × String × String × (Int ⊕ Nat)) := [("java/lang/String", "COMPACT_STRINGS", "Z", .inl 1), ("jdk/internal/util/Preconditions", "SIOOBE_FORMATTER", "Ljava/util/function/BiFunction;", .inr 9), ("LostKeys", "MOST_OF_SORT", "[I", .inr 8)]
def rx_sval (b : (Nat → Option Nat) × List Int) (v : Int ⊕ Nat) : Value := match v with
  | .inl z => .int (Int32.ofInt z)
  | .inr k => va_rf (b.1 k)
def rx_xof (b : (Nat → Option Nat) × List Int) (A : Nat → Prop) (U : State) (H : Heap) (k : Nat) (o : rx_XO) : Prop := match o with
  | .inl vid => ∃ a, b.1 k = some a ∧ ∃ v, b.1 vid = some v ∧ va_O "java/lang/String" a A U H ∧ va_OF "java/lang/String" "coder" "B" (.int 0) a A U H ∧ va_OF "java/lang/String" "value" "[B" (.ref v) a A U H
  | .inr (.inl (t, xs)) => ∃ a, b.1 k = some a ∧ (t = 0 ∨ t = 1) ∧ xs.length < 1000000 ∧ va_T (rx_ty t) a xs.length (fun j => .int (Int32.ofInt (xs.getD j 0))) A U H ∧ ∀ x ∈ xs, -2147483648 ≤ x ∧ x < 2147483648
  | .inr (.inr n) => ∃ a, b.1 k = some a ∧ n < 1000000 ∧ ¬ A a ∧ ∃ (L : Nat) (xs : Nat → Int32), va_X a L xs U H ∧ b.2[n]? = some (L : Int) ∧ L ≤ n ∧ ∀ j : Nat, j < n → b.2[j]? = some (xs j).toInt
def rx_Xf (b : (Nat → Option Nat) × List Int) (A : Nat → Prop) (U : State) (H : Heap) : Prop := (∀ (k : Nat) (o : rx_XO), rx_XT[k]? = some o → rx_xof b A U H k o) ∧ (∀ q ∈ rx_SR, ∃ a, b.1 q.2.2.2 = some a ∧ vk_R q.1 q.2.1 q.2.2.1 a U) ∧ ∀ q ∈ rx_ST, va_Z q.1 q.2.1 q.2.2.1 (rx_sval b q.2.2.2) A U H
theorem rx_Xf.narrow {b : (Nat → Option Nat) × List Int} {A B : Nat → Prop} {U : State} {H : Heap} (h : rx_Xf b A U H) (hAB : ∀ q, B q → A q) : rx_Xf b B U H := by
  refine ⟨fun k o hk => ?_, h.2.1, fun q hq => (h.2.2 q hq).narrow hAB⟩
  have h1 := h.1 k o hk
  rcases o with vid | ⟨t, xs⟩ | n
  · obtain ⟨a, e1, v, e2, h2, h3, h4⟩ := h1
    exact ⟨a, e1, v, e2, h2.narrow hAB, h3.narrow hAB, h4.narrow hAB⟩
  · obtain ⟨a, e1, h2, h3, h4, h5⟩ := h1
    exact ⟨a, e1, h2, h3, h4.narrow hAB, h5⟩
  · obtain ⟨a, e1, h3, h4, h5⟩ := h1
    exact ⟨a, e1, h3, fun q => h4 (hAB a q), h5⟩
theorem rx_Xf.kept {b : (Nat → Option Nat) × List Int} {A : Nat → Prop} {U : State} {H H1 : Heap} (h : rx_Xf b A U H) (hq : ∀ a : Nat, a < H.size → ¬ A a → H1[a]? = H[a]?) : rx_Xf b A U H1 := by
  refine ⟨fun k o hk => ?_, h.2.1, fun q hq1 => (h.2.2 q hq1).kept hq⟩
  have h1 := h.1 k o hk
  rcases o with vid | ⟨t, xs⟩ | n
  · obtain ⟨a, e1, v, e2, h2, h3, h4⟩ := h1
    exact ⟨a, e1, v, e2, h2.kept hq, h3.kept hq, h4.kept hq⟩
  · obtain ⟨a, e1, h2, h3, h4, h5⟩ := h1
    exact ⟨a, e1, h2, h3, h4.kept hq, h5⟩
  · obtain ⟨a, e1, h3, h4, L, xs, h5, h6⟩ := h1
    exact ⟨a, e1, h3, h4, L, xs, h5.kept (hq a (by obtain ⟨scr, h7, -⟩ := h5; exact (Array.getElem?_eq_some_iff.mp h7).1) h4), h6⟩
theorem rx_Xf.moved {b : (Nat → Option Nat) × List Int} {A : Nat → Prop} {u U : State} {H : Heap} (hvm : u.vm.Alike U.vm) (hr : ∀ (own tx : String) (k a : Nat), vk_R own k tx a u → vk_R own k tx a U) (h : rx_Xf b A u H) : rx_Xf b A U H := by
  refine ⟨fun k o hk => ?_, fun q hq => ?_, fun q hq => va_Z.moved hvm (h.2.2 q hq)⟩
  · have h1 := h.1 k o hk
    rcases o with vid | ⟨t, xs⟩ | n
    · obtain ⟨a, e1, v, e2, h2, h3, h4⟩ := h1
      exact ⟨a, e1, v, e2, va_O.moved hvm h2, va_OF.moved hvm h3, va_OF.moved hvm h4⟩
    · obtain ⟨a, e1, h2, h3, h4, h5⟩ := h1
      exact ⟨a, e1, h2, h3, va_T.moved hvm h4, h5⟩
    · obtain ⟨a, e1, h3, h4, L, xs, h5, h6⟩ := h1
      exact ⟨a, e1, h3, h4, L, xs, va_X.moved hvm h5, h6⟩
  · obtain ⟨a, e1, h1⟩ := h.2.1 q hq
    exact ⟨a, e1, hr _ _ _ _ h1⟩
/-- longs, chars, and what lies outside -/
def rx_lbin (i : rx_E) (T : rx_T) (f : Int64 → Int64 → Int64) : Option (List rx_T) := match T.2.2.2.2.2 with
  | .inr (.inl (0, y)) :: .inr (.inl (0, x)) :: sa => rx_z (f (Int64.ofInt x) (Int64.ofInt y)).toInt (fun z => rx_out i T sa T.1 (.inr (.inl (0, z))))
  | _ => none
noncomputable def rx_sX (i : rx_E) (T : rx_T) : Option (List rx_T) := match i.2.1 with
  | .getfield _ => match T.2.2.2.2.2 with
    | .inr (.inr (.inr k)) :: sa => match Nat.beq i.2.2.2.1 99 with
      | true => match rx_XT[k]? with
        | some (.inl vid) => match i.2.2.2.2.1 with
          | 0 => some [rx_nx i T (.inr (.inr (.inr vid)) :: sa)]
          | 1 => some [rx_nx i T (.inl (0, 0) :: sa)]
          | _ => none
        | _ => none
      | false => none
    | _ => none
  | .arraylength => match T.2.2.2.2.2 with
    | .inr (.inr (.inr k)) :: sa => match rx_XT[k]? with
      | some (.inr (.inl (_, xs))) => some [rx_nx i T (.inl (0, Int.ofNat xs.length) :: sa)]
      | some (.inr (.inr n)) => some [rx_nx i T (.inl (n + 1, 0) :: sa)]
      | _ => none
    | _ => none
  | .baload => match T.2.2.2.2.2 with
    | .inl q :: .inr (.inr (.inr k)) :: sa => match rx_XT[k]? with
      | some (.inr (.inl (1, xs))) => match rx_ix T.1 q xs.length with
        | some j => some [rx_nx i T (.inl (0, xs.getD j 0) :: sa)]
        | none => none
      | _ => none
    | _ => none
  | .iaload => match T.2.2.2.2.2 with
    | .inl q :: .inr (.inr (.inr k)) :: sa => match rx_XT[k]? with
      | some (.inr (.inl (0, xs))) => match rx_ix T.1 q xs.length with
        | some j => some [rx_nx i T (.inl (0, xs.getD j 0) :: sa)]
        | none => none
      | some (.inr (.inr n)) => match T.1.1[n]? with
        | some (.ofNat lo, _) => match rx_ix T.1 q lo with
          | some j => some [rx_nx i T (.inl (j + 1, 0) :: sa)]
          | none => none
        | _ => none
      | _ => none
    | _ => none
  | .ldc _ => match i.2.2.2.2.2.1 with
    | 1 => some [rx_nx i T (.inl (0, i.2.2.2.2.2.2) :: T.2.2.2.2.2)]
    | 2 => some [rx_nx i T (.inr (.inr (.inr i.2.2.2.1)) :: T.2.2.2.2.2)]
    | _ => none
  | .ldc2_w _ => match i.2.2.2.2.2.1 with
    | 1 => some [rx_nx i T (.inr (.inl (0, i.2.2.2.2.2.2)) :: T.2.2.2.2.2)]
    | _ => none
  | .getstatic _ => match i.2.2.2.2.2.1 with
    | 1 => some [rx_nx i T (.inl (0, i.2.2.2.2.2.2) :: T.2.2.2.2.2)]
    | 2 => some [rx_nx i T (.inr (.inr (.inr i.2.2.2.1)) :: T.2.2.2.2.2)]
    | _ => none
  | .i2c => match T.2.2.2.2.2 with
    | .inl x :: sa => match rx_cs T.1 x with
      | some a => rx_z ((Int32.ofInt a).toUInt32 % 65536).toInt32.toInt (fun z => rx_out i T sa T.1 (.inl (0, z)))
      | none => rx_any i T sa
    | _ => none
  | .lor => rx_lbin i T (fun x y => x ||| y)
  | .lshl => match T.2.2.2.2.2 with
    | .inl (0, y) :: .inr (.inl (0, x)) :: sa => rx_z (Int64.ofInt x <<< ((Int32.ofInt y).toInt64 &&& 63)).toInt (fun z => rx_out i T sa T.1 (.inr (.inl (0, z))))
    | _ => none
  | _ => none
/-- what these need of the tables -/
def rx_okX (own : String) (i : rx_E) : Prop := match i.2.1 with
  | .getfield idx => i.2.2.2.1 = 99 → (i.2.2.2.2.1 = 0 → Cond.fieldLink own idx "java/lang/String" "value" "[B" ∈ rx_Gd) ∧ (i.2.2.2.2.1 = 1 → Cond.fieldLink own idx "java/lang/String" "coder" "B" ∈ rx_Gd)
  | .ldc idx => (i.2.2.2.2.2.1 = 1 → Cond.constant own idx (Int32.ofInt i.2.2.2.2.2.2) ∈ rx_Gd ∧ -2147483648 ≤ i.2.2.2.2.2.2 ∧ i.2.2.2.2.2.2 < 2147483648) ∧ (i.2.2.2.2.2.1 = 2 → ∃ tx, (own, idx, tx, i.2.2.2.1) ∈ rx_SR)
  | .ldc2_w idx => i.2.2.2.2.2.1 = 1 → Cond.constantLong own idx (Int64.ofInt i.2.2.2.2.2.2) ∈ rx_Gd ∧ (Int64.ofInt i.2.2.2.2.2.2).toInt = i.2.2.2.2.2.2
  | .getstatic idx => (i.2.2.2.2.2.1 = 1 → ∃ C n d, (C, n, d, Sum.inl i.2.2.2.2.2.2) ∈ rx_ST ∧ Cond.fieldLink own idx C n d ∈ rx_Gd ∧ -2147483648 ≤ i.2.2.2.2.2.2 ∧ i.2.2.2.2.2.2 < 2147483648) ∧ (i.2.2.2.2.2.1 = 2 → ∃ C n d, (C, n, d, Sum.inr i.2.2.2.1) ∈ rx_ST ∧ (Cond.fieldLink own idx C n d ∈ rx_Gd ∨ ∃ host, Cond.fieldLinkNest own idx C n d host ∈ rx_Ns))
  | _ => True
