/-! ===== instructions: what the abstract machine does ===== -/
/-- pc, instruction, length, and what it was resolved to -/
abbrev rx_E : Type := Nat × Instr × Nat × Nat × Nat × Nat × Int
/-- the states that follow; a return; a call: of which method, with what, what stays on the stack -/
abbrev rx_R : Type := List rx_T ⊕ Unit ⊕ (Nat × List rx_V × List rx_V)
def rx_ln (i : Instr) : Nat := match i with
  | .aload _ => 2
  | .astore _ => 2
  | .bipush _ => 2
  | .iload _ => 2
  | .istore _ => 2
  | .lload _ => 2
  | .lstore _ => 2
  | .ldc _ => 2
  | .newarray _ => 2
  | .getfield _ => 3
  | .putfield _ => 3
  | .getstatic _ => 3
  | .goto _ => 3
  | .ifCond _ _ => 3
  | .if_icmp _ _ => 3
  | .iinc _ _ => 3
  | .invokevirtual _ => 3
  | .invokespecial _ => 3
  | .invokestatic _ => 3
  | .ldc_w _ => 3
  | .ldc2_w _ => 3
  | .new _ => 3
  | .anewarray _ => 3
  | .sipush _ => 3
  | _ => 1
def rx_lnB (i : Instr) (len : Nat) : Bool := match i with
  | .tableswitch _ _ _ _ => true
  | .lookupswitch _ _ => true
  | _ => Nat.beq len (rx_ln i)
def rx_ofI (a : Option rx_V) : Option rx_V := match a with
  | some (.inl q) => some (.inl q)
  | _ => none
def rx_ofL (a : Option rx_V) : Option rx_V := match a with
  | some (.inr (.inl q)) => some (.inr (.inl q))
  | _ => none
def rx_ofR (a : Option rx_V) : Option rx_V := match a with
  | some (.inr (.inr (.inl (some r)))) => some (.inr (.inr (.inl (some r))))
  | some (.inr (.inr (.inr u))) => some (.inr (.inr (.inr u)))
  | _ => none
/-- what a constant, a load pushes -/
def rx_pA (i : rx_E) (lc : rx_L) : Option rx_V := match i.2.1 with
  | .iconst n => match rx_ile (-1) n && rx_ile n 5 with
    | true => some (.inl (0, n))
    | false => none
  | .bipush n => match rx_ile (-128) n && rx_ile n 127 with
    | true => some (.inl (0, n))
    | false => none
  | .sipush n => match rx_ile (-32768) n && rx_ile n 32767 with
    | true => some (.inl (0, n))
    | false => none
  | .lconst n => some (.inr (.inl (0, Int.ofNat n.val)))
  | .iload k => rx_ofI (rx_lk k lc)
  | .iload_n k => rx_ofI (rx_lk k.val lc)
  | .lload k => rx_ofL (rx_lk k lc)
  | .lload_n k => rx_ofL (rx_lk k.val lc)
  | .aload k => rx_ofR (rx_lk k lc)
  | .aload_n k => rx_ofR (rx_lk k.val lc)
  | _ => none
def rx_nx (i : rx_E) (T : rx_T) (sa : List rx_V) : rx_T := (T.1, T.2.1, T.2.2.1, i.1 + i.2.2.1, T.2.2.2.2.1, sa)
def rx_sA (i : rx_E) (T : rx_T) : Option (List rx_T) := match rx_pA i T.2.2.2.2.1 with
  | some a => some [rx_nx i T (a :: T.2.2.2.2.2)]
  | none => none
/-- stores, and what moves on the stack -/
def rx_st1 (i : rx_E) (T : rx_T) (nL k : Nat) : Option (List rx_T) := match Nat.ble (k + 1) nL with
  | true => match T.2.2.2.2.2 with
    | a :: sa => rx_f1 k T.2.2.2.2.1 (fun lc => some [(T.1, T.2.1, T.2.2.1, i.1 + i.2.2.1, (k, a) :: lc, sa)])
    | [] => none
  | false => none
def rx_st2 (i : rx_E) (T : rx_T) (nL k : Nat) : Option (List rx_T) := match Nat.ble (k + 2) nL with
  | true => match T.2.2.2.2.2 with
    | a :: sa => rx_f2 k T.2.2.2.2.1 (fun lc => some [(T.1, T.2.1, T.2.2.1, i.1 + i.2.2.1, (k, a) :: lc, sa)])
    | [] => none
  | false => none
/-- the sort of what lies on top: 0 int, 1 long, 2 a cell, 3 null, 4 the script, 5 nothing -/
def rx_top (T : rx_T) : Nat := match T.2.2.2.2.2 with
  | .inl _ :: _ => 0
  | .inr (.inl _) :: _ => 1
  | .inr (.inr (.inl (some _))) :: _ => 2
  | .inr (.inr (.inl none)) :: _ => 3
  | .inr (.inr (.inr _)) :: _ => 4
  | [] => 5
noncomputable def rx_sB (nL : Nat) (i : rx_E) (T : rx_T) : Option (List rx_T) := match i.2.1 with
  | .istore k => match rx_top T with
    | 0 => rx_st1 i T nL k
    | _ => none
  | .istore_n k => match rx_top T with
    | 0 => rx_st1 i T nL k.val
    | _ => none
  | .astore k => match rx_top T with
    | 2 => rx_st1 i T nL k
    | _ => none
  | .astore_n k => match rx_top T with
    | 2 => rx_st1 i T nL k.val
    | _ => none
  | .lstore k => match rx_top T with
    | 1 => rx_st2 i T nL k
    | _ => none
  | .lstore_n k => match rx_top T with
    | 1 => rx_st2 i T nL k.val
    | _ => none
  | .dup => match T.2.2.2.2.2 with
    | a :: sa => match rx_c2 a with
      | false => some [rx_nx i T (a :: a :: sa)]
      | true => none
    | _ => none
  | .dup2 => match T.2.2.2.2.2 with
    | a :: d :: sa => match rx_c2 a || rx_c2 d with
      | false => some [rx_nx i T (a :: d :: a :: d :: sa)]
      | true => none
    | _ => none
  | .pop => match T.2.2.2.2.2 with
    | a :: sa => match rx_c2 a with
      | false => some [rx_nx i T sa]
      | true => none
    | _ => none
  | .iinc k n => match Nat.ble (k + 1) nL && (rx_ile (-32768) n && rx_ile n 32767) with
    | true => match rx_lk k T.2.2.2.2.1 with
      | some (.inl q) => match rx_ile (-2147483648) ((rx_iv T.1 q).1 + n) && rx_ile ((rx_iv T.1 q).2 + n) 2147483647 with
        | true => rx_z (q.2 + n) (fun z => rx_f1 k T.2.2.2.2.1 (fun lc => some [(T.1, T.2.1, T.2.2.1, i.1 + i.2.2.1, (k, .inl (q.1, z)) :: lc, T.2.2.2.2.2)]))
        | false => none
      | _ => none
    | false => none
  | _ => none
/-- a new symbol -/
noncomputable def rx_fr (sy : rx_Y) (lo hi : Int) (k : rx_Y → rx_I → Option (List rx_T)) : Option (List rx_T) := rx_snocR sy.1 (lo, hi) (fun s => rx_zn (rx_lenR sy.1) (fun n => k (s, sy.2) (n + 1, 0)))
def rx_out (i : rx_E) (T : rx_T) (sa : List rx_V) (s : rx_Y) (v : rx_V) : Option (List rx_T) := some [(s, T.2.1, T.2.2.1, i.1 + i.2.2.1, T.2.2.2.2.1, v :: sa)]
/-- two ints: known, the one known, or anything -/
noncomputable def rx_bin (i : rx_E) (T : rx_T) (f : Int32 → Int32 → Int32) (k : rx_I → rx_I → List rx_V → Option (List rx_T)) : Option (List rx_T) := match T.2.2.2.2.2 with
  | .inl y :: .inl x :: sa => match rx_cs T.1 x with
    | some a => match rx_cs T.1 y with
      | some d => rx_z (f (Int32.ofInt a) (Int32.ofInt d)).toInt (fun z => rx_out i T sa T.1 (.inl (0, z)))
      | none => k x y sa
    | none => k x y sa
  | _ => none
noncomputable def rx_any (i : rx_E) (T : rx_T) (sa : List rx_V) : Option (List rx_T) := rx_fr T.1 (-2147483648) 2147483647 (fun s q => rx_out i T sa s (.inl q))
/-- a division by a number that is known, and not 0 -/
noncomputable def rx_div (i : rx_E) (T : rx_T) (f : Int32 → Int32 → Int32) : Option (List rx_T) := match T.2.2.2.2.2 with
  | .inl y :: .inl x :: sa => match rx_cs T.1 y with
    | some d => match rx_ieq d 0 with
      | false => match rx_cs T.1 x with
        | some a => rx_z (f (Int32.ofInt a) (Int32.ofInt d)).toInt (fun z => rx_out i T sa T.1 (.inl (0, z)))
        | none => rx_any i T sa
      | true => none
    | none => none
  | _ => none
noncomputable def rx_sC (i : rx_E) (T : rx_T) : Option (List rx_T) := match i.2.1 with
  | .iadd => rx_bin i T (fun x y => x + y) (fun x y sa => match rx_cs T.1 y with
    | some d => match rx_ile (-2147483648) ((rx_iv T.1 x).1 + d) && rx_ile ((rx_iv T.1 x).2 + d) 2147483647 with
      | true => rx_z (x.2 + d) (fun z => rx_out i T sa T.1 (.inl (x.1, z)))
      | false => rx_any i T sa
    | none => match rx_cs T.1 x with
      | some d => match rx_ile (-2147483648) ((rx_iv T.1 y).1 + d) && rx_ile ((rx_iv T.1 y).2 + d) 2147483647 with
        | true => rx_z (y.2 + d) (fun z => rx_out i T sa T.1 (.inl (y.1, z)))
        | false => rx_any i T sa
      | none => rx_any i T sa)
  | .isub => rx_bin i T (fun x y => x - y) (fun x y sa => match rx_cs T.1 y with
    | some d => match rx_ile (-2147483648) ((rx_iv T.1 x).1 - d) && rx_ile ((rx_iv T.1 x).2 - d) 2147483647 with
      | true => rx_z (x.2 - d) (fun z => rx_out i T sa T.1 (.inl (x.1, z)))
      | false => rx_any i T sa
    | none => rx_any i T sa)
  | .imul => rx_bin i T (fun x y => x * y) (fun _ _ sa => rx_any i T sa)
  | .iand => rx_bin i T (fun x y => x &&& y) (fun _ _ sa => rx_any i T sa)
  | .ior => rx_bin i T (fun x y => x ||| y) (fun _ _ sa => rx_any i T sa)
  | .ixor => rx_bin i T (fun x y => x ^^^ y) (fun _ _ sa => rx_any i T sa)
  | .ishl => rx_bin i T (fun x y => x <<< (y &&& 31)) (fun _ _ sa => rx_any i T sa)
  | .ishr => rx_bin i T (fun x y => x >>> (y &&& 31)) (fun _ _ sa => rx_any i T sa)
  | .iushr => rx_bin i T (fun x y => (x.toUInt32 >>> (y.toUInt32 &&& Int32.toUInt32 31)).toInt32) (fun _ _ sa => rx_any i T sa)
  | .idiv => rx_div i T (fun x y => x / y)
  | .irem => rx_div i T (fun x y => x - x / y * y)
  | .i2b => match T.2.2.2.2.2 with
    | .inl x :: sa => match rx_cs T.1 x with
      | some a => rx_z ((Int32.ofInt a).toInt8.toInt32).toInt (fun z => rx_out i T sa T.1 (.inl (0, z)))
      | none => rx_fr T.1 (-128) 127 (fun s q => rx_out i T sa s (.inl q))
    | _ => none
  | .i2l => match T.2.2.2.2.2 with
    | .inl x :: sa => rx_out i T sa T.1 (.inr (.inl x))
    | _ => none
  | _ => none
/-- where a jump goes -/
def rx_tg (pc : Nat) (off : Int) : Option Nat := match (pc : Int) + off with
  | .ofNat n => some n
  | .negSucc _ => none
def rx_to (T : rx_T) (pc : Nat) (sa : List rx_V) (L : List rx_Y) : List rx_T := L.map (fun s => (s, T.2.1, T.2.2.1, pc, T.2.2.2.2.1, sa))
noncomputable def rx_jump (i : rx_E) (T : rx_T) (d : Jvm.ClassFile.Cond) (off : Int) (x y : rx_I) (sa : List rx_V) : Option (List rx_T) := match rx_tg i.1 off with
  | some t => some (rx_to T t sa (rx_br d T.1 x y) ++ rx_to T (i.1 + i.2.2.1) sa (rx_br (rx_neg d) T.1 x y))
  | none => none
/-- the cases of a table, from v on -/
noncomputable def rx_tab (pc : Nat) (T : rx_T) (q : rx_I) (sa : List rx_V) : Int → List Int → Option (List rx_T)
  | _, [] => some []
  | v, o :: l => match rx_tg pc o with
    | some t => match rx_tab pc T q sa (v + 1) l with
      | some r => some (rx_to T t sa (rx_br .eq T.1 q (0, v)) ++ r)
      | none => none
    | none => none
noncomputable def rx_pairs (pc : Nat) (T : rx_T) (q : rx_I) (sa : List rx_V) : List (Int × Int) → Option (List rx_T)
  | [] => some []
  | o :: l => match rx_tg pc o.2 with
    | some t => match rx_pairs pc T q sa l with
      | some r => some (rx_to T t sa (rx_br .eq T.1 q (0, o.1)) ++ r)
      | none => none
    | none => none
def rx_find (z : Int) : List (Int × Int) → Option Int
  | [] => none
  | o :: l => match rx_ieq o.1 z with
    | true => some o.2
    | false => rx_find z l
def rx_inc (ps : List (Int × Int)) : Bool := (ps.zip (ps.drop 1)).all (fun (a, next) => a.1 < next.1)
noncomputable def rx_sD (i : rx_E) (T : rx_T) : Option (List rx_T) := match i.2.1 with
  | .goto off => match rx_tg i.1 off with
    | some t => some [(T.1, T.2.1, T.2.2.1, t, T.2.2.2.2.1, T.2.2.2.2.2)]
    | none => none
  | .ifCond d off => match T.2.2.2.2.2 with
    | .inl x :: sa => rx_jump i T d off x (0, 0) sa
    | _ => none
  | .if_icmp d off => match T.2.2.2.2.2 with
    | .inl y :: .inl x :: sa => rx_jump i T d off x y sa
    | _ => none
  | .tableswitch df lo hi offs => match T.2.2.2.2.2 with
    | .inl x :: sa => match rx_tg i.1 df with
      | some t => match rx_ieq (lo + Int.ofNat offs.size) (hi + 1) with
        | true => match rx_tab i.1 T x sa lo offs.toList with
          | some r => some (rx_to T t sa (rx_br .lt T.1 x (0, lo) ++ rx_br .gt T.1 x (0, hi)) ++ r)
          | none => none
        | false => none
      | none => none
    | _ => none
  | .lookupswitch df ps => match T.2.2.2.2.2 with
    | .inl x :: sa => match rx_inc ps.toList with
      | true => match rx_tg i.1 df with
        | some t => match rx_cs T.1 x with
          | some a => match rx_find a ps.toList with
            | some o => match rx_tg i.1 o with
              | some t2 => some (rx_to T t2 sa [T.1])
              | none => none
            | none => some (rx_to T t sa [T.1])
          | none => match rx_pairs i.1 T x sa ps.toList with
            | some r => some (rx_to T t sa [T.1] ++ r)
            | none => none
        | none => none
      | false => none
    | _ => none
  | _ => none
