/-! ===== cells outside the world: the script, String constants, their bytes, static arrays ===== -/
/-- a String (its bytes' number); an array of ints (0) or bytes (1); the script -/
abbrev rx_XO : Type := Nat ⊕ (Nat × List Int) ⊕ Nat
def rx_bytes (s : String) : List Int := s.toList.map (fun c => Int.ofNat c.toNat)
def rx_XT : List rx_XO := [.inr (.inr 6), .inl 5, .inl 6, .inl 7, .inl 8,
  .inr (.inl (1, [114, 111, 111, 109, 32])), .inr (.inl (1, [])), .inr (.inl (1, [])), .inr (.inl (1, [])), .inr (.inl (0, [6, 6, 5, 8]))]
/-- String constants: class, entry, text, number -/
def rx_SR : List (String × Nat × String × Nat) := []
/-- statics: class, name, type, value: an int, a cell outside -/
def rx_ST : List (String × String × String × (Int ⊕ Nat)) := [("java/lang/String", "COMPACT_STRINGS", "Z", .inl 1)]
def rx_sval (b : (Nat → Nat) × List Int) (v : Int ⊕ Nat) : Value := match v with
  | .inl z => .int (Int32.ofInt z)
  | .inr k => .ref (b.1 k)
def rx_xof (b : (Nat → Nat) × List Int) (A : Nat → Prop) (s : State) (k : Nat) (o : rx_XO) : Prop := match o with
  | .inl vid => va_O "java/lang/String" (b.1 k) A s s.heap ∧ va_OF "java/lang/String" "coder" "B" (.int 0) (b.1 k) A s s.heap ∧ va_OF "java/lang/String" "value" "[B" (.ref (b.1 vid)) (b.1 k) A s s.heap
  | .inr (.inl (t, xs)) => (t = 0 ∨ t = 1) ∧ xs.length < 1000000 ∧ va_T (rx_ty t) (b.1 k) xs.length (fun j => .int (Int32.ofInt (xs.getD j 0))) A s s.heap ∧ ∀ x ∈ xs, -2147483648 ≤ x ∧ x < 2147483648
  | .inr (.inr n) => b.2.length = n ∧ n < 1000000 ∧ b.1 k < s.heap.size ∧ ¬ A (b.1 k) ∧ ∃ xs : Nat → Int32, va_X (b.1 k) n xs s s.heap ∧ ∀ (j : Nat) (z : Int), b.2[j]? = some z → (xs j).toInt = z
def rx_Xf (b : (Nat → Nat) × List Int) (A : Nat → Prop) (s : State) : Prop := (∀ (k : Nat) (o : rx_XO), rx_XT[k]? = some o → rx_xof b A s k o) ∧ (∀ q ∈ rx_SR, vk_R q.1 q.2.1 q.2.2.1 (b.1 q.2.2.2) s) ∧ ∀ q ∈ rx_ST, va_Z q.1 q.2.1 q.2.2.1 (rx_sval b q.2.2.2) A s s.heap
/-- longs, chars, and what lies outside -/
def rx_lbin (i : rx_E) (T : rx_T) (f : Int64 → Int64 → Int64) : Option (List rx_T) := match T.2.2.2.2.2 with
  | .inr (.inl (0, y)) :: .inr (.inl (0, x)) :: sa => rx_z (f (Int64.ofInt x) (Int64.ofInt y)).toInt (fun z => rx_out i T sa T.1 (.inr (.inl (0, z))))
  | _ => none
def rx_sX (i : rx_E) (T : rx_T) : Option (List rx_T) := match i.2.1 with
  | .getfield _ => match T.2.2.2.2.2 with
    | .inr (.inr (.inr k)) :: sa => match Nat.beq i.2.2.2.1 99 with
      | true => match rx_XT[k]? with
        | some (.inl vid) => match i.2.2.2.2.1 with
          | 0 => some [rx_nx i T (.inr (.inr (.inr vid)) :: sa)]
          | 1 => some [rx_nx i T (.inl (0, 0) :: sa)]
          | _ => none
        | _ => none
      | false => none
    | _ => none
  | .arraylength => match T.2.2.2.2.2 with
    | .inr (.inr (.inr k)) :: sa => match rx_XT[k]? with
      | some (.inr (.inl (_, xs))) => some [rx_nx i T (.inl (0, Int.ofNat xs.length) :: sa)]
      | some (.inr (.inr n)) => some [rx_nx i T (.inl (0, Int.ofNat n) :: sa)]
      | _ => none
    | _ => none
  | .baload => match T.2.2.2.2.2 with
    | .inl q :: .inr (.inr (.inr k)) :: sa => match rx_XT[k]? with
      | some (.inr (.inl (1, xs))) => match rx_ix T.1 q xs.length with
        | some j => some [rx_nx i T (.inl (0, xs.getD j 0) :: sa)]
        | none => none
      | _ => none
    | _ => none
  | .iaload => match T.2.2.2.2.2 with
    | .inl q :: .inr (.inr (.inr k)) :: sa => match rx_XT[k]? with
      | some (.inr (.inl (0, xs))) => match rx_ix T.1 q xs.length with
        | some j => some [rx_nx i T (.inl (0, xs.getD j 0) :: sa)]
        | none => none
      | some (.inr (.inr n)) => match rx_ix T.1 q n with
        | some j => some [rx_nx i T (.inl (j + 1, 0) :: sa)]
        | none => none
      | _ => none
    | _ => none
  | .ldc _ => match i.2.2.2.1 with
    | 0 => some [rx_nx i T (.inl (0, i.2.2.2.2.2.2) :: T.2.2.2.2.2)]
    | k + 1 => some [rx_nx i T (.inr (.inr (.inr k)) :: T.2.2.2.2.2)]
  | .ldc2_w _ => some [rx_nx i T (.inr (.inl (0, i.2.2.2.2.2.2)) :: T.2.2.2.2.2)]
  | .getstatic _ => match i.2.2.2.1 with
    | 0 => some [rx_nx i T (.inl (0, i.2.2.2.2.2.2) :: T.2.2.2.2.2)]
    | k + 1 => some [rx_nx i T (.inr (.inr (.inr k)) :: T.2.2.2.2.2)]
  | .i2c => match T.2.2.2.2.2 with
    | .inl x :: sa => match rx_cs T.1 x with
      | some a => rx_z ((Int32.ofInt a).toUInt32 % 65536).toInt32.toInt (fun z => rx_out i T sa T.1 (.inl (0, z)))
      | none => rx_any i T sa
    | _ => none
  | .lor => rx_lbin i T (fun x y => x ||| y)
  | .lshl => match T.2.2.2.2.2 with
    | .inl (0, y) :: .inr (.inl (0, x)) :: sa => rx_z (Int64.ofInt x <<< ((Int32.ofInt y).toInt64 &&& 63)).toInt (fun z => rx_out i T sa T.1 (.inr (.inl (0, z))))
    | _ => none
  | _ => none
/-- what these need of the tables -/
def rx_okX (own : String) (i : rx_E) : Prop := match i.2.1 with
  | .getfield idx => i.2.2.2.1 = 99 → (i.2.2.2.2.1 = 0 → Cond.fieldLink own idx "java/lang/String" "value" "[B" ∈ rx_Gd) ∧ (i.2.2.2.2.1 = 1 → Cond.fieldLink own idx "java/lang/String" "coder" "B" ∈ rx_Gd)
  | .ldc idx => (i.2.2.2.1 = 0 → Cond.constant own idx (Int32.ofInt i.2.2.2.2.2.2) ∈ rx_Gd ∧ -2147483648 ≤ i.2.2.2.2.2.2 ∧ i.2.2.2.2.2.2 < 2147483648) ∧ ∀ k, i.2.2.2.1 = k + 1 → ∃ tx, (own, idx, tx, k) ∈ rx_SR
  | .ldc2_w idx => Cond.constantLong own idx (Int64.ofInt i.2.2.2.2.2.2) ∈ rx_Gd ∧ (Int64.ofInt i.2.2.2.2.2.2).toInt = i.2.2.2.2.2.2
  | .getstatic idx => (i.2.2.2.1 = 0 → ∃ C n d, (C, n, d, Sum.inl i.2.2.2.2.2.2) ∈ rx_ST ∧ Cond.fieldLink own idx C n d ∈ rx_Gd ∧ -2147483648 ≤ i.2.2.2.2.2.2 ∧ i.2.2.2.2.2.2 < 2147483648) ∧ ∀ k, i.2.2.2.1 = k + 1 → ∃ C n d, (C, n, d, Sum.inr k) ∈ rx_ST ∧ Cond.fieldLink own idx C n d ∈ rx_Gd
  | _ => True
