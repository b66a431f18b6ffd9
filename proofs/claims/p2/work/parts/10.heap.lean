/-! ===== fields, arrays, new cells ===== -/
def rx_tyt (ty : FieldType) : Nat := match ty with
  | .int => 0
  | .byte => 1
  | .boolean => 2
  | .long => 3
  | .object _ => 4
  | .array _ => 4
  | _ => 5
/-- the value fits a field, an array of that type -/
noncomputable def rx_fit (t : Nat) (sy : rx_Y) (a : rx_V) : Bool := match t, a with
  | 0, .inl _ => true
  | 1, .inl q => rx_ile (-128) (rx_iv sy q).1 && rx_ile (rx_iv sy q).2 127
  | 2, .inl q => rx_ile 0 (rx_iv sy q).1 && rx_ile (rx_iv sy q).2 1
  | 3, .inr (.inl _) => true
  | 4, .inr (.inr (.inl _)) => true
  | _, _ => false
def rx_cats : List rx_V → Nat
  | [] => 0
  | a :: l => match rx_c2 a with
    | true => rx_cats l + 2
    | false => rx_cats l + 1
/-- a known index within -/
noncomputable def rx_ix (sy : rx_Y) (q : rx_I) (n : Nat) : Option Nat := match rx_cs sy q with
  | some (.ofNat j) => match Nat.ble (j + 1) n with
    | true => some j
    | false => none
  | _ => none
def rx_kd (t : ArrayType) : Option Nat := match t with
  | .int => some 0
  | .byte => some 1
  | .boolean => some 2
  | .long => some 3
  | _ => none
def rx_zero (t : Nat) : rx_V := match t with
  | 3 => .inr (.inl (0, 0))
  | _ => .inl (0, 0)
/-- an array's value is loaded -/
noncomputable def rx_ald (i : rx_E) (T : rx_T) (k : Nat → Bool) : Option (List rx_T) := match T.2.2.2.2.2 with
  | .inl q :: .inr (.inr (.inl (some r))) :: sa => match T.2.1[r]? with
    | some (.inr (t, n, ex, df)) => match k t with
      | true => match rx_ix T.1 q n with
        | some j => some [rx_nx i T (rx_el ex df j :: sa)]
        | none => none
      | false => none
    | _ => none
  | _ => none
noncomputable def rx_ast (i : rx_E) (T : rx_T) (k : Nat → Bool) : Option (List rx_T) := match T.2.2.2.2.2 with
  | a :: .inl q :: .inr (.inr (.inl (some r))) :: sa => match T.2.1[r]? with
    | some (.inr (t, n, ex, df)) => match k t && rx_fit t T.1 a with
      | true => match rx_ix T.1 q n with
        | some j => rx_asg df ex j a (fun ex => rx_set T.2.1 r (.inr (t, n, ex, df)) (fun h => some [(T.1, h, T.2.2.1, i.1 + i.2.2.1, T.2.2.2.2.1, sa)]))
        | none => none
      | false => none
    | _ => none
  | _ => none
/-- a cell of some slots is made -/
def rx_mk (mc ms : Nat) (i : rx_E) (T : rx_T) (c : rx_C) (n : Nat) (sa : List rx_V) : Option (List rx_T) := match Nat.ble (T.2.2.1.1 + 1) mc && Nat.ble (T.2.2.1.2 + n) ms with
  | true => rx_snoc T.2.1 c (fun h => rx_zn T.2.1.length (fun r => rx_zn (T.2.2.1.1 + 1) (fun nc => rx_zn (T.2.2.1.2 + n) (fun ns => some [(T.1, h, (nc, ns), i.1 + i.2.2.1, T.2.2.2.2.1, .inr (.inr (.inl (some r))) :: sa)]))))
  | false => none
/-- the fields of a new object -/
def rx_new (N : List (List rx_V)) (ci : Nat) : List rx_V := match N[ci]? with
  | some l => l
  | none => []
noncomputable def rx_sE (N : List (List rx_V)) (mc ms : Nat) (i : rx_E) (T : rx_T) : Option (List rx_T) := match i.2.1 with
  | .getfield _ => match T.2.2.2.2.2 with
    | .inr (.inr (.inl (some r))) :: sa => match T.2.1[r]? with
      | some (.inl (ci, fs)) => match Nat.beq ci i.2.2.2.1 with
        | true => match fs[i.2.2.2.2.1]? with
          | some a => some [rx_nx i T (a :: sa)]
          | none => none
        | false => none
      | _ => none
    | _ => none
  | .putfield _ => match T.2.2.2.2.2 with
    | a :: .inr (.inr (.inl (some r))) :: sa => match T.2.1[r]? with
      | some (.inl (ci, fs)) => match Nat.beq ci i.2.2.2.1 && (rx_fit i.2.2.2.2.2.1 T.1 a && Nat.ble (i.2.2.2.2.1 + 1) fs.length) with
        | true => rx_set fs i.2.2.2.2.1 a (fun fs => rx_set T.2.1 r (.inl (ci, fs)) (fun h => some [(T.1, h, T.2.2.1, i.1 + i.2.2.1, T.2.2.2.2.1, sa)]))
        | false => none
      | _ => none
    | _ => none
  | .arraylength => match T.2.2.2.2.2 with
    | .inr (.inr (.inl (some r))) :: sa => match T.2.1[r]? with
      | some (.inr (_, n, _, _)) => match Nat.ble n 1000000 with
        | true => some [rx_nx i T (.inl (0, Int.ofNat n) :: sa)]
        | false => none
      | _ => none
    | _ => none
  | .iaload => rx_ald i T (fun t => Nat.beq t 0)
  | .baload => rx_ald i T (fun t => Nat.beq t 1 || Nat.beq t 2)
  | .laload => rx_ald i T (fun t => Nat.beq t 3)
  | .iastore => rx_ast i T (fun t => Nat.beq t 0)
  | .bastore => rx_ast i T (fun t => Nat.beq t 1 || Nat.beq t 2)
  | .lastore => rx_ast i T (fun t => Nat.beq t 3)
  | .aaload => match T.2.2.2.2.2 with
    | .inl q :: .inr (.inr (.inl (some r))) :: sa => match T.2.1[r]? with
      | some (.inr (k + 4, n, ex, df)) => match Nat.ble (k + 4) 999 with
        | true => match rx_ix T.1 q n with
          | some j => match rx_el ex df j with
            | .inr (.inr (.inl o)) => some [rx_nx i T (.inr (.inr (.inl o)) :: sa)]
            | _ => none
          | none => none
        | false => none
      | _ => none
    | _ => none
  | .aastore => match T.2.2.2.2.2 with
    | .inr (.inr (.inl (some o))) :: .inl q :: .inr (.inr (.inl (some r))) :: sa => match T.2.1[r]? with
      | some (.inr (k + 4, n, ex, df)) => match T.2.1[o]? with
        | some (.inl (ci, _)) => match Nat.beq ci k && Nat.ble (k + 4) 999 with
          | true => match rx_ix T.1 q n with
            | some j => rx_asg df ex j (.inr (.inr (.inl (some o)))) (fun ex => rx_set T.2.1 r (.inr (k + 4, n, ex, df)) (fun h => some [(T.1, h, T.2.2.1, i.1 + i.2.2.1, T.2.2.2.2.1, sa)]))
            | none => none
          | false => none
        | _ => none
      | _ => none
    | _ => none
  | .new _ => rx_mk mc ms i T (.inl (i.2.2.2.1, rx_new N i.2.2.2.1)) (rx_new N i.2.2.2.1).length T.2.2.2.2.2
  | .newarray t => match T.2.2.2.2.2 with
    | .inl q :: sa => match rx_kd t with
      | some k => match rx_ix T.1 q 1000001 with
        | some n => rx_mk mc ms i T (.inr (k, n, [], rx_zero k)) n sa
        | none => none
      | none => none
    | _ => none
  | .anewarray _ => match T.2.2.2.2.2 with
    | .inl q :: sa => match rx_ix T.1 q 1000001 with
      | some n => rx_mk mc ms i T (.inr (i.2.2.2.1 + 4, n, [], .inr (.inr (.inl none)))) n sa
      | none => none
    | _ => none
  | .invokespecial _ => match Nat.beq i.2.2.2.2.2.1 1 with
    | true => match T.2.2.2.2.2 with
      | .inr (.inr (.inl (some _))) :: sa => match Nat.ble (rx_cats sa) 8 with
        | true => some [rx_nx i T sa]
        | false => none
      | _ => none
    | false => none
  | .invokestatic _ => match Nat.beq i.2.2.2.2.2.1 2 with
    | true => match T.2.2.2.2.2 with
      | .inl n :: .inl d :: .inr (.inr (.inl (some r))) :: .inl f :: .inr (.inr (.inl (some o))) :: sa => match rx_cs T.1 n with
        | some (.ofNat nn) => match rx_cs T.1 d with
          | some (.ofNat 0) => match rx_cs T.1 f with
            | some (.ofNat 0) => match T.2.1[o]? with
              | some (.inr (t, n0, ex0, df0)) => match T.2.1[r]? with
                | some (.inr (t1, n1, _, _)) => match Nat.beq t t1 && ((Nat.beq t 0 || Nat.beq t 3) && (Nat.beq n0 nn && (Nat.beq n1 nn && (Nat.ble nn 1000000 && Nat.ble (rx_cats sa) 8)))) with
                  | true => rx_set T.2.1 r (.inr (t, n1, ex0, df0)) (fun h => some [(T.1, h, T.2.2.1, i.1 + i.2.2.1, T.2.2.2.2.1, sa)])
                  | false => none
                | _ => none
              | _ => none
            | _ => none
          | _ => none
        | _ => none
      | _ => none
    | false => match Nat.beq i.2.2.2.2.2.1 4 with
      | true => match T.2.2.2.2.2 with
        | .inl y :: .inl x :: sa => match Nat.ble (rx_cats sa) 8 && (Nat.ble T.2.2.1.1 mc && Nat.ble T.2.2.1.2 ms) with
          | true => some (rx_to T (i.1 + i.2.2.1) (.inl y :: sa) (rx_br .lt T.1 y x) ++ rx_to T (i.1 + i.2.2.1) (.inl x :: sa) (rx_br .ge T.1 y x))
          | false => none
        | _ => none
      | false => none
  | _ => none
/-! ===== what the rows of these need of the tables ===== -/
def rx_okF (own : String) (idx ci k t : Nat) : Prop := ∃ r : vw_C, vwCl[ci]? = some r ∧ k < r.2.2 ∧ (r.2.1 k).1 = r.1 ∧ (∃ ty, parseFieldDescriptor (r.2.1 k).2.2.1 = some ty ∧ rx_tyt ty = t) ∧
  (Cond.fieldLink own idx r.1 (r.2.1 k).2.1 (r.2.1 k).2.2.1 ∈ rx_Gd ∨ ∃ host, Cond.fieldLinkNest own idx r.1 (r.2.1 k).2.1 (r.2.1 k).2.2.1 host ∈ rx_Ns)
def rx_okE (own nm : String) (i : rx_E) : Prop := match i.2.1 with
  | .getfield idx => i.2.2.2.1 ≠ 99 → rx_okF own idx i.2.2.2.1 i.2.2.2.2.1 i.2.2.2.2.2.1
  | .putfield idx => rx_okF own idx i.2.2.2.1 i.2.2.2.2.1 i.2.2.2.2.2.1 ∧ ∀ r : vw_C, vwCl[i.2.2.2.1]? = some r → (r.2.1 i.2.2.2.2.1).2.2.2 = true → (r.1 = own ∧ nm = "<init>") ∧ Cond.fieldLink own idx r.1 (r.2.1 i.2.2.2.2.1).2.1 (r.2.1 i.2.2.2.2.1).2.2.1 ∈ rx_Gd
  | .new idx => ∃ r : vw_C, vwCl[i.2.2.2.1]? = some r ∧ Cond.classLink own idx r.1 ∈ rx_Gd ∧ Cond.instantiable r.1 r.2.2 ∈ rx_Gd ∧ Cond.initialized r.1 ∈ rx_Gd
  | .newarray t => Cond.arrayClass (newarray.typeOf t) ∈ rx_Gd
  | .anewarray idx => ∃ r : vw_C, vwCl[i.2.2.2.1]? = some r ∧ Cond.classLink own idx r.1 ∈ rx_Gd ∧ r.1 ∈ rx_Ao
  | .invokespecial idx => i.2.2.2.2.2.1 = 1 → Cond.methodLink own idx Lib.objectInit ∈ rx_Gd ∧ Cond.instanceMethod Lib.objectInit ∈ rx_Gd ∧ Cond.code Lib.objectInit ⟨#[0xb1]⟩ 1 none ∈ rx_Gd
  | .invokestatic idx => (i.2.2.2.2.2.1 = 2 → Cond.methodLink own idx arraycopyName ∈ rx_Gd ∧ Cond.native arraycopyName ∈ rx_Gd ∧ Cond.static arraycopyName ∈ rx_Gd ∧ Cond.initialized "java/lang/System" ∈ rx_Gd) ∧ (i.2.2.2.2.2.1 = 4 → Cond.methodLink own idx Lib.Math.min.name ∈ rx_Gd ∧ Cond.static Lib.Math.min.name ∈ rx_Gd ∧ Cond.initialized "java/lang/Math" ∈ rx_Gd ∧ Cond.code Lib.Math.min.name Lib.Math.min.code 2 (some .int) ∈ rx_Gd)
  | _ => True
def rx_dval (a : rx_V) : Value := match a with
  | .inl _ => .int 0
  | .inr (.inl _) => .long 0
  | _ => .null
def rx_isd (a : rx_V) : Bool := match a with
  | .inl (0, .ofNat 0) => true
  | .inr (.inl (0, .ofNat 0)) => true
  | .inr (.inr (.inl none)) => true
  | _ => false
/-- the classes: their words, types, names, new objects -/
def rx_Clok (N : List (List rx_V)) : Prop := ∀ (ci : Nat) (r : vw_C), vwCl[ci]? = some r → (∀ w ∈ u_ws r.1 r.2.1 r.2.2, w ∈ rx_Gd) ∧ (∃ ty : Nat → FieldType, (∀ k, k < r.2.2 → parseFieldDescriptor (r.2.1 k).2.2.1 = some (ty k)) ∧ ∀ j, j < r.2.2 → defaultValue (ty j) = vp_V ((rx_new N ci).map rx_dval) j) ∧ (∀ a, a < r.2.2 → ∀ b, b < r.2.2 → a ≠ b → (r.2.1 a).2.1 ≠ (r.2.1 b).2.1) ∧ (rx_new N ci).length = r.2.2 ∧ (rx_new N ci).all rx_isd = true
