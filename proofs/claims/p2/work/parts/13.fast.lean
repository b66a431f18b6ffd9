/-! ===== the same, quicker for the kernel: an instruction is a function, found once ===== -/
/-- an instruction, or ahead of it the values of a symbol one by one -/
noncomputable def rx_sl (N : List (List rx_V)) (M : rx_Md) (i : rx_E) (T : rx_T) : Option rx_R := match (match rx_need i T with
    | some k => rx_few T.1 k
    | none => none) with
  | some L => some (.inl (L.map (fun s => (s, T.2))))
  | none => rx_do N M i T
/-- a symbol's values one by one -/
noncomputable def rx_sp2 (i : rx_E) (T : rx_T) : Option rx_R := match rx_need2 i T with
  | some k => match rx_few T.1 k with
    | some L => some (.inl (L.map (fun s => (s, T.2))))
    | none => none
  | none => none
noncomputable def rx_sl3 (N : List (List rx_V)) (M : rx_Md) (i : rx_E) (T : rx_T) : Option rx_R := match rx_sN M.2.2.2.2.2.2.1 M.2.2.2.2.2.2.2.1 i T with
  | some L => some (.inl L)
  | none => match rx_do N M i T with
    | some r => some r
    | none => rx_sp2 i T
noncomputable def rx_sl2 (N : List (List rx_V)) (M : rx_Md) (i : rx_E) (T : rx_T) : Option rx_R := match Nat.beq i.2.2.2.1 1 with
  | true => match rx_sp2 i T with
    | some r => some r
    | none => rx_sl3 N M i T
  | false => rx_sl3 N M i T
noncomputable def rx_isin (l : List Nat) (k : Nat) : Bool := @List.rec Nat (fun _ => Bool) false (fun a _ ih => @Bool.rec (fun _ => Bool) ih true (Nat.beq k a)) l
noncomputable def rx_lkR (i : Nat) (l : rx_L) : Option rx_V := @List.rec (Nat × rx_V) (fun _ => Option rx_V) none (fun q _ ih => @Bool.rec (fun _ => Option rx_V) ih (some q.2) (Nat.beq q.1 i)) l
theorem rx_lkR_eq (i : Nat) (l : rx_L) : rx_lkR i l = rx_lk i l := by
  induction l with
  | nil => rfl
  | cons q l ih =>
    show @Bool.rec (fun _ => Option rx_V) (rx_lkR i l) (some q.2) (Nat.beq q.1 i) = rx_lk i (q :: l)
    unfold rx_lk
    rw [ih]
    cases Nat.beq q.1 i <;> rfl
noncomputable def rx_f1R {β : Type} (i : Nat) (l : rx_L) : (rx_L → β) → β := @List.rec (Nat × rx_V) (fun _ => (rx_L → β) → β) (fun k => k []) (fun q _ ih k => @Bool.rec (fun _ => β) (ih (fun l => k (q :: l))) (ih k) (Nat.beq q.1 i || (Nat.beq (q.1 + 1) i && rx_c2 q.2))) l
theorem rx_f1R_eq {β : Type} (i : Nat) (l : rx_L) : ∀ k : rx_L → β, rx_f1R i l k = rx_f1 i l k := by
  induction l with
  | nil => exact fun _ => rfl
  | cons q l ih =>
    intro k
    show @Bool.rec (fun _ => β) (rx_f1R i l (fun l => k (q :: l))) (rx_f1R i l k) (Nat.beq q.1 i || (Nat.beq (q.1 + 1) i && rx_c2 q.2)) = rx_f1 i (q :: l) k
    unfold rx_f1
    rw [ih, ih]
    cases (Nat.beq q.1 i || (Nat.beq (q.1 + 1) i && rx_c2 q.2)) <;> rfl
/-- what goes on from a state; what goes on at an instruction; an instruction: by the one, or by the other -/
abbrev rx_H : Type := rx_Y → List rx_C → Nat × Nat → Nat → rx_L → List rx_V → Option (List rx_T)
abbrev rx_J : Type := rx_Y → List rx_C → Nat × Nat → rx_L → List rx_V → Option (List rx_T)
/-- a call: of which method, with what, what stays on the stack -/
abbrev rx_Q : Type := Nat → List rx_V → List rx_V → rx_Y → List rx_C → Nat × Nat → rx_L → Option (List rx_T)
abbrev rx_K : Type := rx_H → rx_J → rx_Q → rx_J
noncomputable def rx_oi {α : Type} (o : Option rx_V) (f : rx_V → α) (d : α) : α := @Option.rec rx_V (fun _ => α) d (fun v => @Sum.rec rx_I (rx_I ⊕ Option Nat ⊕ Nat) (fun _ => α) (fun _ => f v) (fun _ => d) v) o
noncomputable def rx_or {α : Type} (o : Option rx_V) (f : rx_V → α) (d : α) : α := @Option.rec rx_V (fun _ => α) d (fun v => match v with
  | .inr (.inr (.inl (some _))) => f v
  | .inr (.inr (.inr _)) => f v
  | _ => d) o
noncomputable def rx_kc (a : rx_V) (nx : Nat) : rx_K := fun ih _ _ sy h nn lc sa => ih sy h nn nx lc (a :: sa)
noncomputable def rx_kil (k nx : Nat) : rx_K := fun ih _ _ sy h nn lc sa => rx_oi (rx_lkR k lc) (fun v => ih sy h nn nx lc (v :: sa)) none
noncomputable def rx_kal (k nx : Nat) : rx_K := fun ih _ _ sy h nn lc sa => rx_or (rx_lkR k lc) (fun v => ih sy h nn nx lc (v :: sa)) none
noncomputable def rx_kis (k nx : Nat) : rx_K := fun ih _ _ sy h nn lc sa => match sa with
  | .inl q :: sa => rx_f1R k lc (fun lc => ih sy h nn nx ((k, .inl q) :: lc) sa)
  | _ => none
def rx_in32 (z : Int) : Bool := rx_ile (-2147483648) z && rx_ile z 2147483647
noncomputable def rx_kinc (k : Nat) (n : Int) (nx : Nat) : rx_K := fun ih sl _ sy h nn lc sa => match rx_lkR k lc with
  | some (.inl (0, c)) => rx_z (c + n) (fun z => @Bool.rec (fun _ => Option (List rx_T)) none (rx_f1R k lc (fun lc => ih sy h nn nx ((k, .inl (0, z)) :: lc) sa)) (rx_in32 z))
  | _ => sl sy h nn lc sa
noncomputable def rx_kadd (nx : Nat) : rx_K := fun ih sl _ sy h nn lc sa => match sa with
  | .inl (0, y) :: .inl (0, x) :: r => rx_z (x + y) (fun z => @Bool.rec (fun _ => Option (List rx_T)) (sl sy h nn lc sa) (ih sy h nn nx lc (.inl (0, z) :: r)) (rx_in32 z))
  | _ => sl sy h nn lc sa
noncomputable def rx_kobj {α : Type} (c : Option rx_C) (ci : Nat) (f : List rx_V → α) (d : α) : α := match c with
  | some (.inl (cj, fs)) => match Nat.beq cj ci with
    | true => f fs
    | false => d
  | _ => d
noncomputable def rx_kget (ci w nx : Nat) : rx_K := fun ih sl _ sy h nn lc sa => match sa with
  | .inr (.inr (.inl (some r))) :: sa => rx_kobj (rx_nth h r) ci (fun fs => @Option.rec rx_V (fun _ => Option (List rx_T)) none (fun a => ih sy h nn nx lc (a :: sa)) (rx_nth fs w)) none
  | _ => sl sy h nn lc sa
/-- a known index within -/
noncomputable def rx_kix {α : Type} (q : rx_I) (n : Nat) (f : Nat → α) (d : α) : α := match q with
  | (0, .ofNat j) => match Nat.ble (j + 1) n with
    | true => f j
    | false => d
  | _ => d
noncomputable def rx_kel (ex : List rx_V) (df : rx_V) (j : Nat) : rx_V := @Option.rec rx_V (fun _ => rx_V) df (fun a => a) (rx_nth ex j)
noncomputable def rx_karr {α : Type} (c : Option rx_C) (f : Nat → List rx_V → rx_V → α) (d : α) : α := match c with
  | some (.inr (0, n, ex, df)) => f n ex df
  | _ => d
noncomputable def rx_kald (nx : Nat) : rx_K := fun ih sl _ sy h nn lc sa => match sa with
  | .inl q :: .inr (.inr (.inl (some r))) :: rs => rx_karr (rx_nth h r) (fun n ex df => rx_kix q n (fun j => ih sy h nn nx lc (rx_kel ex df j :: rs)) (sl sy h nn lc sa)) (sl sy h nn lc sa)
  | _ => sl sy h nn lc sa
noncomputable def rx_kast (nx : Nat) : rx_K := fun ih sl _ sy h nn lc sa => match sa with
  | .inl a :: .inl q :: .inr (.inr (.inl (some r))) :: rs => rx_karr (rx_nth h r) (fun n ex df => rx_kix q n (fun j => rx_asg df ex j (.inl a) (fun ex => rx_setR h r (.inr (0, n, ex, df)) (fun h => ih sy h nn nx lc rs))) (sl sy h nn lc sa)) (sl sy h nn lc sa)
  | _ => sl sy h nn lc sa
noncomputable def rx_kgo (t : Nat) : rx_K := fun ih _ _ sy h nn lc sa => ih sy h nn t lc sa
noncomputable def rx_kcmp (d : Jvm.ClassFile.Cond) (t nx : Nat) : rx_K := fun ih sl _ sy h nn lc sa => match sa with
  | .inl (0, y) :: .inl (0, x) :: r => @Bool.rec (fun _ => Option (List rx_T)) (ih sy h nn nx lc r) (ih sy h nn t lc r) (rx_hd d x y)
  | _ => sl sy h nn lc sa
noncomputable def rx_kif (d : Jvm.ClassFile.Cond) (t nx : Nat) : rx_K := fun ih sl _ sy h nn lc sa => match sa with
  | .inl (0, x) :: r => @Bool.rec (fun _ => Option (List rx_T)) (ih sy h nn nx lc r) (ih sy h nn t lc r) (rx_hd d x 0)
  | _ => sl sy h nn lc sa
noncomputable def rx_kslow : rx_K := fun _ sl _ sy h nn lc sa => sl sy h nn lc sa
noncomputable def rx_kput (ci w t nx : Nat) : rx_K := fun ih _ _ sy h nn lc sa => match sa with
  | a :: .inr (.inr (.inl (some r))) :: rs => rx_kobj (rx_nth h r) ci (fun fs => @Bool.rec (fun _ => Option (List rx_T)) none (rx_setR fs w a (fun fs => rx_setR h r (.inl (ci, fs)) (fun h => ih sy h nn nx lc rs))) (rx_fit t sy a && Nat.ble (w + 1) fs.length)) none
  | _ => none
noncomputable def rx_kdup (nx : Nat) : rx_K := fun ih _ _ sy h nn lc sa => match sa with
  | a :: rs => @Bool.rec (fun _ => Option (List rx_T)) (ih sy h nn nx lc (a :: a :: rs)) none (rx_c2 a)
  | _ => none
noncomputable def rx_kdup2 (nx : Nat) : rx_K := fun ih _ _ sy h nn lc sa => match sa with
  | a :: d :: rs => @Bool.rec (fun _ => Option (List rx_T)) (ih sy h nn nx lc (a :: d :: a :: d :: rs)) none (rx_c2 a || rx_c2 d)
  | _ => none
noncomputable def rx_kpop (nx : Nat) : rx_K := fun ih _ _ sy h nn lc sa => match sa with
  | a :: rs => @Bool.rec (fun _ => Option (List rx_T)) (ih sy h nn nx lc rs) none (rx_c2 a)
  | _ => none
/-- other reckonings with two known ints -/
noncomputable def rx_kop (f : Int32 → Int32 → Int32) (nx : Nat) : rx_K := fun ih sl _ sy h nn lc sa => match sa with
  | .inl (0, y) :: .inl (0, x) :: r => rx_z (f (Int32.ofInt x) (Int32.ofInt y)).toInt (fun z => ih sy h nn nx lc (.inl (0, z) :: r))
  | _ => sl sy h nn lc sa
/-- ends -/
noncomputable def rx_kret (ret : Option FieldType) (pc : Nat) : rx_K := fun _ sl _ sy h nn lc sa => match ret, sa with
  | none, [] => some [(sy, h, nn, pc, lc, sa)]
  | some .int, [.inl _] => some [(sy, h, nn, pc, lc, sa)]
  | some .boolean, [.inl (0, .ofNat 0)] => some [(sy, h, nn, pc, lc, sa)]
  | some .boolean, [.inl (0, .ofNat 1)] => some [(sy, h, nn, pc, lc, sa)]
  | _, _ => sl sy h nn lc sa
/-- the arguments of a call, and the rest -/
noncomputable def rx_tk {β : Type} (w : Nat) : List rx_V → List rx_V → (List rx_V → List rx_V → β) → β → β := @Nat.rec (fun _ => List rx_V → List rx_V → (List rx_V → List rx_V → β) → β → β) (fun acc l k _ => k acc l) (fun _ ih acc l k d => @List.rec rx_V (fun _ => β) d (fun a t _ => ih (a :: acc) t k d) l) w
noncomputable def rx_kcall (mi w : Nat) : rx_K := fun _ _ cl sy h nn lc sa => rx_tk w [] sa (fun as rs => @Bool.rec (fun _ => Option (List rx_T)) none (cl mi as rs sy h nn lc) (Nat.ble (rx_cats rs) 8)) none
noncomputable def rx_kvirt (mi w ci : Nat) : rx_K := fun _ _ cl sy h nn lc sa => rx_tk (w + 1) [] sa (fun as rs => match as with
  | .inr (.inr (.inl (some r))) :: _ => rx_kobj (rx_nth h r) ci (fun _ => @Bool.rec (fun _ => Option (List rx_T)) none (cl mi as rs sy h nn lc) (Nat.ble (rx_cats rs) 8)) none
  | _ => none) none
noncomputable def rx_kspec (mi w : Nat) : rx_K := fun _ _ cl sy h nn lc sa => rx_tk (w + 1) [] sa (fun as rs => match as with
  | .inr (.inr (.inl (some _))) :: _ => @Bool.rec (fun _ => Option (List rx_T)) none (cl mi as rs sy h nn lc) (Nat.ble (rx_cats rs) 8)
  | _ => none) none
noncomputable def rx_cmp (M : rx_Md) (i : rx_E) : Option rx_K := rx_zn (i.1 + i.2.2.1) (fun nx => match i.2.1 with
  | .iconst n => match rx_ile (-1) n && rx_ile n 5 with
    | true => some (rx_kc (.inl (0, n)) nx)
    | false => none
  | .bipush n => match rx_ile (-128) n && rx_ile n 127 with
    | true => some (rx_kc (.inl (0, n)) nx)
    | false => none
  | .sipush n => match rx_ile (-32768) n && rx_ile n 32767 with
    | true => some (rx_kc (.inl (0, n)) nx)
    | false => none
  | .iload k => some (rx_kil k nx)
  | .iload_n k => rx_zn k.val (fun k => some (rx_kil k nx))
  | .aload k => some (rx_kal k nx)
  | .aload_n k => rx_zn k.val (fun k => some (rx_kal k nx))
  | .istore k => match Nat.ble (k + 1) M.2.2.1 with
    | true => some (rx_kis k nx)
    | false => none
  | .istore_n k => rx_zn k.val (fun k => match Nat.ble (k + 1) M.2.2.1 with
    | true => some (rx_kis k nx)
    | false => none)
  | .iinc k n => match Nat.ble (k + 1) M.2.2.1 && (rx_ile (-32768) n && rx_ile n 32767) with
    | true => some (rx_kinc k n nx)
    | false => none
  | .iadd => some (rx_kadd nx)
  | .isub => some (rx_kop (fun x y => x - y) nx)
  | .imul => some (rx_kop (fun x y => x * y) nx)
  | .putfield _ => rx_zn i.2.2.2.1 (fun ci => rx_zn i.2.2.2.2.1 (fun w => rx_zn i.2.2.2.2.2.1 (fun t => some (rx_kput ci w t nx))))
  | .dup => some (rx_kdup nx)
  | .dup2 => some (rx_kdup2 nx)
  | .pop => some (rx_kpop nx)
  | .return_ => match M.2.2.2.1 with
    | none => rx_zn i.1 (fun pc => some (rx_kret none pc))
    | _ => none
  | .ireturn => match M.2.2.2.1 with
    | some .int => rx_zn i.1 (fun pc => some (rx_kret (some .int) pc))
    | some .boolean => rx_zn i.1 (fun pc => some (rx_kret (some .boolean) pc))
    | _ => some rx_kslow
  | .invokevirtual _ => match i.2.2.2.2.2.1 with
    | ci + 4 => match i.2.2.2.2.1 with
      | w + 1 => rx_zn i.2.2.2.1 (fun mi => some (rx_kvirt mi w ci))
      | 0 => none
    | _ => some rx_kslow
  | .invokespecial _ => match i.2.2.2.2.2.1 with
    | 3 => match i.2.2.2.2.1 with
      | w + 1 => rx_zn i.2.2.2.1 (fun mi => some (rx_kspec mi w))
      | 0 => none
    | _ => some rx_kslow
  | .invokestatic _ => match i.2.2.2.2.2.1 with
    | 0 => rx_zn i.2.2.2.1 (fun mi => rx_zn i.2.2.2.2.1 (fun w => some (rx_kcall mi w)))
    | _ => some rx_kslow
  | .getfield _ => rx_zn i.2.2.2.1 (fun ci => rx_zn i.2.2.2.2.1 (fun w => some (rx_kget ci w nx)))
  | .iaload => some (rx_kald nx)
  | .iastore => some (rx_kast nx)
  | .goto off => match rx_tg i.1 off with
    | some t => rx_zn t (fun t => some (rx_kgo t))
    | none => none
  | .ifCond d off => match rx_tg i.1 off with
    | some t => rx_zn t (fun t => some (rx_kif d t nx))
    | none => none
  | .if_icmp d off => match rx_tg i.1 off with
    | some t => rx_zn t (fun t => some (rx_kcmp d t nx))
    | none => none
  | _ => some rx_kslow)
noncomputable def rx_look (M : rx_Md) (pc : Nat) : Option (rx_E × rx_K) := match rx_fe M.2.2.2.2.2.2.2.2 pc with
  | some i => match (match Nat.beq i.2.2.2.1 1 with
      | true => some rx_kslow
      | false => rx_cmp M i) with
    | some f => some (i, f)
    | none => none
  | none => none
/-- from each state of a row -/
noncomputable def rx_each (ih : rx_H) (L : List rx_T) : Option (List rx_T) := match L with
  | [] => some []
  | T :: l => match l with
    | [] => ih T.1 T.2.1 T.2.2.1 T.2.2.2.1 T.2.2.2.2.1 T.2.2.2.2.2
    | _ :: _ => rx_all (fun T => ih T.1 T.2.1 T.2.2.1 T.2.2.2.1 T.2.2.2.2.1 T.2.2.2.2.2) L
noncomputable def rx_doc (call : Nat → List rx_V → rx_Y → List rx_C → Option rx_O) (M : rx_Md) (i : rx_E) (ih : rx_H) : rx_Q := fun mi as rs sy h nn lc => match call mi as sy h with
  | none => none
  | some (mc, ms, outs) => rx_zn (nn.1 + mc) (fun nc => rx_zn (nn.2 + ms) (fun ns => match Nat.ble nc M.2.2.2.2.2.2.1 && Nat.ble ns M.2.2.2.2.2.2.2.1 with
    | true => rx_zn (i.1 + 3) (fun pc => rx_each ih (outs.map (fun o => (o.1, o.2.1, (nc, ns), pc, lc, o.2.2.2.2.2 ++ rs))))
    | false => none))
noncomputable def rx_slow (N : List (List rx_V)) (call : Nat → List rx_V → rx_Y → List rx_C → Option rx_O) (M : rx_Md) (i : rx_E) (ih : rx_H) : rx_J := fun sy h nn lc sa => match rx_sl2 N M i (sy, h, nn, i.1, lc, sa) with
  | none => none
  | some (.inl L) => rx_each ih L
  | some (.inr (.inl _)) => some [(sy, h, nn, i.1, lc, sa)]
  | some (.inr (.inr (mi, as, rs))) => rx_doc call M i ih mi as rs sy h nn lc
noncomputable def rx_by (N : List (List rx_V)) (call : Nat → List rx_V → rx_Y → List rx_C → Option rx_O) (M : rx_Md) (ih : rx_H) (o : Option (rx_E × rx_K)) : rx_J := @Option.rec (rx_E × rx_K) (fun _ => rx_J) (fun _ _ _ _ _ => none) (fun p => p.2 ih (rx_slow N call M p.1 ih) (rx_doc call M p.1 ih)) o
noncomputable def rx_go (N : List (List rx_V)) (call : Nat → List rx_V → rx_Y → List rx_C → Option rx_O) (M : rx_Md) (stop : List Nat) (n : Nat) : rx_H := @Nat.rec (fun _ => rx_H) (fun _ _ _ _ _ _ => none) (fun _ ih sy h nn pc lc sa => @Bool.rec (fun _ => Option (List rx_T)) (rx_by N call M ih (rx_look M pc) sy h nn lc sa) (some [(sy, h, nn, pc, lc, sa)]) (rx_isin stop pc)) n
noncomputable def rx_fcall (N : List (List rx_V)) (MT : List rx_Md) (ext : Nat → Nat → List rx_V → rx_Y → List rx_C → Option rx_O) (fuel : Nat) : Nat → Nat → List rx_V → rx_Y → List rx_C → Option rx_O
  | 0, _, _, _, _ => none
  | d + 1, mi, as, sy, h => match ext d mi as sy h with
    | some r => some r
    | none => match rx_nth MT mi with
      | none => none
      | some M => match Nat.beq as.length M.2.2.2.2.1 && Nat.ble (rx_cats as) M.2.2.1 with
        | false => none
        | true => match rx_go N (rx_fcall N MT ext fuel d) M [] fuel sy h (0, 0) 0 (rx_args 0 as) [] with
          | none => none
          | some outs => match outs.all (fun T => (Nat.ble T.2.2.1.1 M.2.2.2.2.2.2.1 && Nat.ble T.2.2.1.2 M.2.2.2.2.2.2.2.1)) with
            | true => some (M.2.2.2.2.2.2.1, M.2.2.2.2.2.2.2.1, outs)
            | false => none
