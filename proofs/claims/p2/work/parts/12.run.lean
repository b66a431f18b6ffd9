/-! ===== methods, calls, runs ===== -/
/-- name, code, locals, type of the answer, arguments (with the receiver), kind (0 static, 1 virtual, 2 constructor), cells and slots that it may make, its instructions by sixteen bytes -/
abbrev rx_Md : Type := MethodName × ByteArray × Nat × Option FieldType × Nat × Nat × Nat × Nat × List (List rx_E)
def rx_fl (pc : Nat) : List rx_E → Option rx_E
  | [] => none
  | i :: l => match Nat.beq i.1 pc with
    | true => some i
    | false => rx_fl pc l
def rx_fe (tab : List (List rx_E)) (pc : Nat) : Option rx_E := match tab[pc / 16]? with
  | some l => rx_fl pc l
  | none => none
theorem rx_fl_ok {pc : Nat} {i : rx_E} : ∀ {l : List rx_E}, rx_fl pc l = some i → i ∈ l ∧ i.1 = pc
  | [], h => by cases h
  | j :: l, h => by
    unfold rx_fl at h
    split at h
    · rename_i hj
      cases h
      exact ⟨List.mem_cons_self, Nat.eq_of_beq_eq_true hj⟩
    · obtain ⟨h1, h2⟩ := rx_fl_ok h
      exact ⟨List.mem_cons_of_mem _ h1, h2⟩
theorem rx_fe_ok {tab : List (List rx_E)} {pc : Nat} {i : rx_E} (h : rx_fe tab pc = some i) : (∃ l ∈ tab, i ∈ l) ∧ i.1 = pc := by
  unfold rx_fe at h
  split at h
  · rename_i l hl
    obtain ⟨h1, h2⟩ := rx_fl_ok h
    exact ⟨⟨l, List.mem_of_getElem? hl, h1⟩, h2⟩
  · cases h
/-- is the state at an end that the method may have -/
noncomputable def rx_retB (ret : Option FieldType) (i : rx_E) (T : rx_T) : Bool := match i.2.1 with
  | .return_ => match ret, T.2.2.2.2.2 with
    | none, [] => true
    | _, _ => false
  | .ireturn => match ret, T.2.2.2.2.2 with
    | some .int, [.inl _] => true
    | some .boolean, [.inl q] => rx_ile 0 (rx_iv T.1 q).1 && rx_ile (rx_iv T.1 q).2 1
    | some .byte, [.inl q] => rx_ile (-128) (rx_iv T.1 q).1 && rx_ile (rx_iv T.1 q).2 127
    | some .char, [.inl q] => rx_ile 0 (rx_iv T.1 q).1 && rx_ile (rx_iv T.1 q).2 65535
    | _, _ => false
  | .lreturn => match ret, T.2.2.2.2.2 with
    | some .long, [.inr (.inl _)] => true
    | _, _ => false
  | _ => false
/-- the symbol whose values go by themselves ahead of this instruction -/
noncomputable def rx_sym (sy : rx_Y) (a : rx_V) : Option Nat := match a with
  | .inl (k + 1, c) => match rx_cs sy (k + 1, c) with
    | none => some k
    | some _ => none
  | _ => none
noncomputable def rx_need (i : rx_E) (T : rx_T) : Option Nat := match i.2.1 with
  | .iaload => match T.2.2.2.2.2 with
    | q :: _ => rx_sym T.1 q
    | _ => none
  | .baload => match T.2.2.2.2.2 with
    | q :: _ => rx_sym T.1 q
    | _ => none
  | .laload => match T.2.2.2.2.2 with
    | q :: _ => rx_sym T.1 q
    | _ => none
  | .aaload => match T.2.2.2.2.2 with
    | q :: _ => rx_sym T.1 q
    | _ => none
  | .iastore => match T.2.2.2.2.2 with
    | _ :: q :: _ => rx_sym T.1 q
    | _ => none
  | .bastore => match T.2.2.2.2.2 with
    | _ :: q :: _ => rx_sym T.1 q
    | _ => none
  | .lastore => match T.2.2.2.2.2 with
    | _ :: q :: _ => rx_sym T.1 q
    | _ => none
  | .aastore => match T.2.2.2.2.2 with
    | _ :: q :: _ => rx_sym T.1 q
    | _ => none
  | .imul => match T.2.2.2.2.2 with
    | y :: x :: _ => match rx_sym T.1 x with
      | some k => some k
      | none => rx_sym T.1 y
    | _ => none
  | _ => none
/-- where it is flagged: also ahead of a load of a local -/
noncomputable def rx_need2 (i : rx_E) (T : rx_T) : Option Nat := match i.2.1 with
  | .iload k => match rx_lk k T.2.2.2.2.1 with
    | some q => rx_sym T.1 q
    | none => none
  | .iload_n k => match rx_lk k.val T.2.2.2.2.1 with
    | some q => rx_sym T.1 q
    | none => none
  | _ => rx_need i T
noncomputable def rx_few (sy : rx_Y) (k : Nat) : Option (List rx_Y) := rx_sp sy k
/-- a call -/
def rx_callB (i : rx_E) (T : rx_T) : Option rx_R := match Nat.ble i.2.2.2.2.1 T.2.2.2.2.2.length && Nat.ble (rx_cats (T.2.2.2.2.2.drop i.2.2.2.2.1)) 8 with
  | true => some (.inr (.inr (i.2.2.2.1, (T.2.2.2.2.2.take i.2.2.2.2.1).reverse, T.2.2.2.2.2.drop i.2.2.2.2.1)))
  | false => none
def rx_isO (T : rx_T) (a : Option rx_V) (ci : Nat) : Bool := match a with
  | some (.inr (.inr (.inl (some r)))) => match T.2.1[r]? with
    | some (.inl (cj, _)) => Nat.beq ci cj
    | _ => false
  | _ => false
def rx_isR (a : Option rx_V) : Bool := match a with
  | some (.inr (.inr (.inl (some _)))) => true
  | _ => false
/-- a String that lies outside -/
def rx_isX (a : Option rx_V) : Bool := match a with
  | some (.inr (.inr (.inr k))) => match rx_XT[k]? with
    | some (.inl _) => true
    | _ => false
  | _ => false
noncomputable def rx_sF (ret : Option FieldType) (i : rx_E) (T : rx_T) : Option rx_R := match i.2.1 with
  | .invokevirtual _ => match i.2.2.2.2.2.1 with
    | ci + 4 => match i.2.2.2.2.1 with
      | w + 1 => match rx_isO T T.2.2.2.2.2[w]? ci with
        | true => rx_callB i T
        | false => none
      | 0 => none
    | 3 => match i.2.2.2.2.1 with
      | w + 1 => match rx_isX T.2.2.2.2.2[w]? with
        | true => rx_callB i T
        | false => none
      | 0 => none
    | _ => none
  | .invokespecial _ => match i.2.2.2.2.2.1 with
    | 3 => match i.2.2.2.2.1 with
      | w + 1 => match rx_isR T.2.2.2.2.2[w]? with
        | true => rx_callB i T
        | false => none
      | 0 => none
    | _ => none
  | .invokestatic _ => match i.2.2.2.2.2.1 with
    | 0 => rx_callB i T
    | _ => none
  | _ => match rx_retB ret i T with
    | true => some (.inr (.inl ()))
    | false => none
noncomputable def rx_do (N : List (List rx_V)) (M : rx_Md) (i : rx_E) (T : rx_T) : Option rx_R := match rx_sA i T with
  | some L => some (.inl L)
  | none => match rx_sE N M.2.2.2.2.2.2.1 M.2.2.2.2.2.2.2.1 i T with
    | some L => some (.inl L)
    | none => match rx_sD i T with
      | some L => some (.inl L)
      | none => match rx_sB M.2.2.1 i T with
        | some L => some (.inl L)
        | none => match rx_sC i T with
          | some L => some (.inl L)
          | none => match rx_sX i T with
            | some L => some (.inl L)
            | none => rx_sF M.2.2.2.1 i T
def rx_all (f : rx_T → Option (List rx_T)) : List rx_T → Option (List rx_T)
  | [] => some []
  | T :: l => match f T with
    | some a => match rx_all f l with
      | some d => some (a ++ d)
      | none => none
    | none => none
abbrev rx_O : Type := Nat × Nat × List rx_T
/-- behind a call -/
def rx_back (T : rx_T) (i : rx_E) (sa : List rx_V) (mc ms : Nat) (o : rx_T) : rx_T := (o.1, o.2.1, (T.2.2.1.1 + mc, T.2.2.1.2 + ms), i.1 + 3, T.2.2.2.2.1, o.2.2.2.2.2 ++ sa)
noncomputable def rx_run (N : List (List rx_V)) (call : Nat → List rx_V → rx_Y → List rx_C → Option rx_O) (M : rx_Md) (stop : Nat) : Nat → rx_T → Option (List rx_T)
  | 0, _ => none
  | n + 1, T => match Nat.beq T.2.2.2.1 stop with
    | true => some [T]
    | false => match rx_fe M.2.2.2.2.2.2.2.2 T.2.2.2.1 with
      | none => none
      | some i => match (match rx_need i T with
          | some k => rx_few T.1 k
          | none => none) with
        | some L => rx_all (fun s => rx_run N call M stop n s) (L.map (fun s => (s, T.2)))
        | none => match rx_do N M i T with
          | none => none
          | some (.inl L) => rx_all (fun s => rx_run N call M stop n s) L
          | some (.inr (.inl _)) => some [T]
          | some (.inr (.inr (mi, as, sa))) => match call mi as T.1 T.2.1 with
            | none => none
            | some (mc, ms, outs) => match Nat.ble (T.2.2.1.1 + mc) M.2.2.2.2.2.2.1 && Nat.ble (T.2.2.1.2 + ms) M.2.2.2.2.2.2.2.1 with
              | true => rx_all (fun s => rx_run N call M stop n s) (outs.map (rx_back T i sa mc ms))
              | false => none
noncomputable def rx_ends (M : rx_Md) (T : rx_T) : Bool := match rx_fe M.2.2.2.2.2.2.2.2 T.2.2.2.1 with
  | some i => rx_retB M.2.2.2.1 i T
  | none => false
noncomputable def rx_call (N : List (List rx_V)) (MT : List rx_Md) (ext : Nat → Nat → List rx_V → rx_Y → List rx_C → Option rx_O) (fuel : Nat) : Nat → Nat → List rx_V → rx_Y → List rx_C → Option rx_O
  | 0, _, _, _, _ => none
  | d + 1, mi, as, sy, h => match ext d mi as sy h with
    | some r => some r
    | none => match MT[mi]? with
      | none => none
      | some M => match Nat.beq as.length M.2.2.2.2.1 with
        | false => none
        | true => match rx_run N (rx_call N MT ext fuel d) M 1000000 fuel (sy, h, (0, 0), 0, rx_args 0 as, []) with
          | none => none
          | some outs => match outs.all (rx_ends M) with
            | true => some (M.2.2.2.2.2.2.1, M.2.2.2.2.2.2.2.1, outs)
            | false => none
