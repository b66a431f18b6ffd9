/-! ===== numbers (of COUNTS.to-paste) ===== -/
theorem fb_rng (x : Int32) : -2147483648 ≤ x.toInt ∧ x.toInt < 2147483648 := by
  have h1 := Int32.le_toInt x
  have h2 := Int32.toInt_lt x
  omega
theorem fb_bmod {z : Int} (h1 : -2147483648 ≤ z) (h2 : z < 2147483648) : z.bmod (2 ^ 32) = z := by
  rw [Int.bmod_eq_of_le (by omega) (by omega)]
theorem fb_addI {x y : Int32} (h1 : -2147483648 ≤ x.toInt + y.toInt) (h2 : x.toInt + y.toInt < 2147483648) : (x + y).toInt = x.toInt + y.toInt := by
  rw [Int32.toInt_add, fb_bmod h1 h2]
theorem fb_subI {x y : Int32} (h1 : -2147483648 ≤ x.toInt - y.toInt) (h2 : x.toInt - y.toInt < 2147483648) : (x - y).toInt = x.toInt - y.toInt := by
  rw [Int32.toInt_sub, fb_bmod h1 h2]
theorem fb_ofI {z : Int} (h1 : -2147483648 ≤ z) (h2 : z < 2147483648) : (Int32.ofInt z).toInt = z := by
  rw [Int32.toInt_ofInt, fb_bmod h1 h2]
theorem fb_asI (x : Int32) : Int32.ofInt x.toInt = x := Int32.ofInt_toInt x
theorem fb_byte {x : Int32} (h1 : -128 ≤ x.toInt) (h2 : x.toInt < 128) : x.toInt8.toInt32 = x := by
  apply Int32.toInt_inj.1
  rw [Int8.toInt_toInt32, Int32.toInt_toInt8, Int.bmod_eq_of_le (by omega) (by omega)]
theorem fb_byte_rng (x : Int32) : -128 ≤ x.toInt8.toInt32.toInt ∧ x.toInt8.toInt32.toInt < 128 := by
  rw [Int8.toInt_toInt32]
  have h1 := Int8.le_toInt x.toInt8
  have h2 := Int8.toInt_lt x.toInt8
  omega
/-! ===== the abstract machine's values, cells, states ===== -/
/-- a number: (0, c) is c; (k + 1, c) is the symbol k and c -/
abbrev rx_I : Type := Nat × Int
/-- an int, a long, null or the cell of a place, the law's script -/
abbrev rx_V : Type := rx_I ⊕ rx_I ⊕ Option Nat ⊕ Nat
/-- an object: class, fields; an array: kind (0 int, 1 byte, 2 boolean, 3 long, k + 4 of the class k), length, its first values, the value of all others -/
abbrev rx_C : Type := (Nat × List rx_V) ⊕ (Nat × Nat × List rx_V × rx_V)
/-- a fact of the symbols: where each of some is at most a number, a sum of multiples of symbols and a number is at least 0 -/
abbrev rx_F : Type := List (Nat × Int) × List (Int × Nat) × Int
/-- what is known of the symbols: their bounds, facts -/
abbrev rx_Y : Type := List (Int × Int) × List rx_F
abbrev rx_L : Type := List (Nat × rx_V)
/-- symbols, cells, (cells, slots made), pc, locals, stack -/
abbrev rx_T : Type := rx_Y × List rx_C × (Nat × Nat) × Nat × rx_L × List rx_V
def rx_le {α : Type} (l m : List α) : Prop := ∀ (i : Nat) (x : α), l[i]? = some x → m[i]? = some x
theorem rx_le.rf {α : Type} {l : List α} : rx_le l l := fun _ _ h => h
theorem rx_le.tr {α : Type} {a b c : List α} (h : rx_le a b) (k : rx_le b c) : rx_le a c := fun i x q => k i x (h i x q)
theorem rx_le.app {α : Type} {l : List α} (m : List α) : rx_le l (l ++ m) := fun i x h => by
  rw [List.getElem?_append_left (List.getElem?_eq_some_iff.mp h).1]; exact h
theorem rx_fst_set {ws : va_W} {p a : Nat} {e0 e : va_E} (hp : ws[p]? = some (a, e0)) : (ws.set p (a, e)).map Prod.fst = ws.map Prod.fst := by
  rw [List.map_set]
  refine List.ext_getElem? fun i => ?_
  by_cases hi : i = p
  · subst hi
    rw [List.getElem?_set_self (by rw [List.length_map]; exact (List.getElem?_eq_some_iff.mp hp).1), List.getElem?_map, hp]
    rfl
  · rw [List.getElem?_set_ne (Ne.symm hi)]
theorem rx_fst_get {ws : va_W} {i a : Nat} {e : va_E} (h : ws[i]? = some (a, e)) : (ws.map Prod.fst)[i]? = some a := by
  rw [List.getElem?_map, h]; rfl
def rx_ev (g : List Int) (q : rx_I) (z : Int) : Prop := match q with
  | (0, c) => z = c
  | (k + 1, c) => ∃ y, g[k]? = some y ∧ z = y + c
theorem rx_ev.mono {g g' : List Int} {q : rx_I} {z : Int} (hg : rx_le g g') (h : rx_ev g q z) : rx_ev g' q z := by
  obtain ⟨k, c⟩ := q
  cases k with
  | zero => exact h
  | succ k =>
    obtain ⟨y, h1, h2⟩ := h
    exact ⟨y, hg k y h1, h2⟩
def rx_v (b : (Nat → Option Nat) × List Int) (as : List Nat) (g : List Int) (a : rx_V) (v : Value) : Prop := match a with
  | .inl q => ∃ x : Int32, v = .int x ∧ rx_ev g q x.toInt
  | .inr (.inl q) => ∃ x : Int64, v = .long x ∧ rx_ev g q x.toInt
  | .inr (.inr (.inl none)) => v = .null
  | .inr (.inr (.inl (some i))) => ∃ r, as[i]? = some r ∧ v = .ref r
  | .inr (.inr (.inr k)) => v = va_rf (b.1 k)
theorem rx_v.mono {b : (Nat → Option Nat) × List Int} {as as' : List Nat} {g g' : List Int} {a : rx_V} {v : Value} (ha : rx_le as as') (hg : rx_le g g') (h : rx_v b as g a v) : rx_v b as' g' a v := by
  rcases a with q | q | (_ | i) | _
  · obtain ⟨x, h1, h2⟩ := h
    exact ⟨x, h1, h2.mono hg⟩
  · obtain ⟨x, h1, h2⟩ := h
    exact ⟨x, h1, h2.mono hg⟩
  · exact h
  · obtain ⟨x, h1, h2⟩ := h
    exact ⟨x, ha i x h1, h2⟩
  · exact h
/-- category -/
def rx_c2 (a : rx_V) : Bool := match a with
  | .inr (.inl _) => true
  | _ => false
theorem rx_cat {b : (Nat → Option Nat) × List Int} {as : List Nat} {g : List Int} {a : rx_V} {v : Value} (h : rx_v b as g a v) : (v.category == 2) = rx_c2 a := by
  rcases a with q | q | (_ | i) | k
  · obtain ⟨x, rfl, -⟩ := h; rfl
  · obtain ⟨x, rfl, -⟩ := h; rfl
  · cases h; rfl
  · obtain ⟨x, -, rfl⟩ := h; rfl
  · have h1 : v = va_rf (b.1 k) := h
    subst h1
    cases b.1 k <;> rfl
theorem rx_cat1 {b : (Nat → Option Nat) × List Int} {as : List Nat} {g : List Int} {a : rx_V} {v : Value} (h : rx_v b as g a v) (h2 : rx_c2 a = false) : v.category = 1 := by
  have h3 := rx_cat h
  rw [h2] at h3
  rcases lv_cat v with q | q
  · exact q
  · rw [q] at h3; cases h3
def rx_vs (b : (Nat → Option Nat) × List Int) (as : List Nat) (g : List Int) : List rx_V → List Value → Prop
  | [], [] => True
  | a :: l, v :: w => rx_v b as g a v ∧ rx_vs b as g l w
  | _, _ => False
theorem rx_vs.mono {b : (Nat → Option Nat) × List Int} {as as' : List Nat} {g g' : List Int} (ha : rx_le as as') (hg : rx_le g g') : ∀ {l : List rx_V} {w : List Value}, rx_vs b as g l w → rx_vs b as' g' l w
  | [], [], _ => trivial
  | _ :: _, _ :: _, h => ⟨h.1.mono ha hg, h.2.mono ha hg⟩
  | [], _ :: _, h => h.elim
  | _ :: _, [], h => h.elim
theorem rx_vs.at {b : (Nat → Option Nat) × List Int} {as : List Nat} {g : List Int} : ∀ {l : List rx_V} {w : List Value}, rx_vs b as g l w → ∀ (k : Nat) (a : rx_V), l[k]? = some a → ∃ v, w[k]? = some v ∧ rx_v b as g a v
  | [], [], _, k, a, h => by simp at h
  | x :: l, v :: w, h, 0, a, hk => by
    rw [List.getElem?_cons_zero] at hk
    cases hk
    exact ⟨v, rfl, h.1⟩
  | x :: l, v :: w, h, k + 1, a, hk => by
    rw [List.getElem?_cons_succ] at hk
    obtain ⟨v', h1, h2⟩ := h.2.at k a hk
    exact ⟨v', by rw [List.getElem?_cons_succ]; exact h1, h2⟩
  | [], _ :: _, h, _, _, _ => h.elim
  | _ :: _, [], h, _, _, _ => h.elim
theorem rx_vs.set {b : (Nat → Option Nat) × List Int} {as : List Nat} {g : List Int} : ∀ {l : List rx_V} {w : List Value}, rx_vs b as g l w → ∀ (k : Nat) {a : rx_V} {v : Value}, rx_v b as g a v → rx_vs b as g (l.set k a) (w.set k v)
  | [], [], _, k, _, _, _ => by show rx_vs b as g [] []; exact trivial
  | x :: l, v :: w, h, 0, a, v', hv => ⟨hv, h.2⟩
  | x :: l, v :: w, h, k + 1, a, v', hv => ⟨h.1, h.2.set k hv⟩
  | [], _ :: _, h, _, _, _, _ => h.elim
  | _ :: _, [], h, _, _, _, _ => h.elim
theorem rx_vs.len {b : (Nat → Option Nat) × List Int} {as : List Nat} {g : List Int} : ∀ {l : List rx_V} {w : List Value}, rx_vs b as g l w → l.length = w.length
  | [], [], _ => rfl
  | _ :: _, _ :: _, h => congrArg (· + 1) h.2.len
  | [], _ :: _, h => h.elim
  | _ :: _, [], h => h.elim
theorem rx_vs.app {b : (Nat → Option Nat) × List Int} {as : List Nat} {g : List Int} {m : List rx_V} {u : List Value} (hm : rx_vs b as g m u) : ∀ {l : List rx_V} {w : List Value}, rx_vs b as g l w → rx_vs b as g (l ++ m) (w ++ u)
  | [], [], _ => hm
  | _ :: _, _ :: _, h => ⟨h.1, rx_vs.app hm h.2⟩
  | [], _ :: _, h => h.elim
  | _ :: _, [], h => h.elim
theorem rx_vs.rev {b : (Nat → Option Nat) × List Int} {as : List Nat} {g : List Int} : ∀ {l : List rx_V} {w : List Value}, rx_vs b as g l w → rx_vs b as g l.reverse w.reverse
  | [], [], _ => trivial
  | a :: l, v :: w, h => by
    rw [List.reverse_cons, List.reverse_cons]
    exact rx_vs.app (m := [a]) (u := [v]) ⟨h.1, trivial⟩ h.2.rev
  | [], _ :: _, h => h.elim
  | _ :: _, [], h => h.elim
/-- the first n and the rest -/
theorem rx_vs.take {b : (Nat → Option Nat) × List Int} {as : List Nat} {g : List Int} : ∀ (n : Nat) {l : List rx_V} {w : List Value}, rx_vs b as g l w → rx_vs b as g (l.take n) (w.take n) ∧ rx_vs b as g (l.drop n) (w.drop n)
  | 0, l, w, h => ⟨trivial, h⟩
  | n + 1, [], [], _ => ⟨trivial, trivial⟩
  | n + 1, _ :: _, _ :: _, h => ⟨⟨h.1, (rx_vs.take n h.2).1⟩, (rx_vs.take n h.2).2⟩
  | _ + 1, [], _ :: _, h => h.elim
  | _ + 1, _ :: _, [], h => h.elim
/-- locals -/
def rx_ls (b : (Nat → Option Nat) × List Int) (as : List Nat) (g : List Int) : rx_L → List (Nat × Value) → Prop
  | [], [] => True
  | a :: l, v :: w => (a.1 = v.1 ∧ rx_v b as g a.2 v.2) ∧ rx_ls b as g l w
  | _, _ => False
theorem rx_ls.mono {b : (Nat → Option Nat) × List Int} {as as' : List Nat} {g g' : List Int} (ha : rx_le as as') (hg : rx_le g g') : ∀ {l : rx_L} {w : List (Nat × Value)}, rx_ls b as g l w → rx_ls b as' g' l w
  | [], [], _ => trivial
  | _ :: _, _ :: _, h => ⟨⟨h.1.1, h.1.2.mono ha hg⟩, h.2.mono ha hg⟩
  | [], _ :: _, h => h.elim
  | _ :: _, [], h => h.elim
def rx_lk (i : Nat) : rx_L → Option rx_V
  | [] => none
  | q :: l => match Nat.beq q.1 i with
    | true => some q.2
    | false => rx_lk i l
theorem rx_lk_ok {b : (Nat → Option Nat) × List Int} {as : List Nat} {g : List Int} {i : Nat} {a : rx_V} : ∀ {l : rx_L} {w : List (Nat × Value)}, rx_ls b as g l w → rx_lk i l = some a → ∃ (k : Nat) (v : Value), w[k]? = some (i, v) ∧ rx_v b as g a v
  | [], [], _, h => by cases h
  | q :: l, r :: w, hl, h => by
    unfold rx_lk at h
    cases hq : Nat.beq q.1 i with
    | true =>
      rw [hq] at h
      cases h
      have h1 := Nat.eq_of_beq_eq_true hq
      refine ⟨0, r.2, ?_, hl.1.2⟩
      rw [List.getElem?_cons_zero, ← h1, hl.1.1]
    | false =>
      rw [hq] at h
      obtain ⟨k, v, h1, h2⟩ := rx_lk_ok hl.2 h
      exact ⟨k + 1, v, by rw [List.getElem?_cons_succ]; exact h1, h2⟩
  | [], _ :: _, h, _ => h.elim
  | _ :: _, [], h, _ => h.elim
/-- what a store of one, of two slots leaves of the locals -/
def rx_f1 {β : Type} (i : Nat) : rx_L → (rx_L → β) → β
  | [], k => k []
  | q :: l, k => match Nat.beq q.1 i || (Nat.beq (q.1 + 1) i && rx_c2 q.2) with
    | true => rx_f1 i l k
    | false => rx_f1 i l (fun l => k (q :: l))
def rx_f2 {β : Type} (i : Nat) : rx_L → (rx_L → β) → β
  | [], k => k []
  | q :: l, k => match Nat.beq q.1 i || (Nat.beq q.1 (i + 1) || (Nat.beq (q.1 + 1) i && rx_c2 q.2)) with
    | true => rx_f2 i l k
    | false => rx_f2 i l (fun l => k (q :: l))
theorem rx_beq (a b : Nat) : Nat.beq a b = (a == b) := by
  rw [Bool.eq_iff_iff, Nat.beq_eq, beq_iff_eq]
theorem rx_f1_ok {b : (Nat → Option Nat) × List Int} {as : List Nat} {g : List Int} {β : Type} (i : Nat) : ∀ {l : rx_L} {w : List (Nat × Value)} (k : rx_L → β), rx_ls b as g l w → ∃ l', rx_f1 i l k = k l' ∧ rx_ls b as g l' (w.filter (fun q => !(q.1 == i) && !(q.1 + 1 == i && q.2.category == 2)))
  | [], [], k, _ => ⟨[], rfl, trivial⟩
  | q :: l, r :: w, k, h => by
    unfold rx_f1
    rw [List.filter_cons]
    rw [← h.1.1, rx_cat h.1.2]
    cases hq : (Nat.beq q.1 i || (Nat.beq (q.1 + 1) i && rx_c2 q.2)) with
    | true =>
      have e : (!(q.1 == i) && !(q.1 + 1 == i && rx_c2 q.2)) = false := by
        rw [rx_beq, rx_beq] at hq
        revert hq
        cases (q.1 == i) <;> cases (q.1 + 1 == i) <;> cases rx_c2 q.2 <;> simp
      rw [e]
      exact rx_f1_ok i k h.2
    | false =>
      have e : (!(q.1 == i) && !(q.1 + 1 == i && rx_c2 q.2)) = true := by
        rw [rx_beq, rx_beq] at hq
        revert hq
        cases (q.1 == i) <;> cases (q.1 + 1 == i) <;> cases rx_c2 q.2 <;> simp
      rw [e]
      obtain ⟨l', h1, h2⟩ := rx_f1_ok i (fun l => k (q :: l)) h.2
      exact ⟨q :: l', h1, h.1, h2⟩
  | [], _ :: _, _, h => h.elim
  | _ :: _, [], _, h => h.elim
theorem rx_f2_ok {b : (Nat → Option Nat) × List Int} {as : List Nat} {g : List Int} {β : Type} (i : Nat) : ∀ {l : rx_L} {w : List (Nat × Value)} (k : rx_L → β), rx_ls b as g l w → ∃ l', rx_f2 i l k = k l' ∧ rx_ls b as g l' (w.filter (fun q => !(q.1 == i) && (!(q.1 == i + 1) && !(q.1 + 1 == i && q.2.category == 2))))
  | [], [], k, _ => ⟨[], rfl, trivial⟩
  | q :: l, r :: w, k, h => by
    unfold rx_f2
    rw [List.filter_cons]
    rw [← h.1.1, rx_cat h.1.2]
    cases hq : (Nat.beq q.1 i || (Nat.beq q.1 (i + 1) || (Nat.beq (q.1 + 1) i && rx_c2 q.2))) with
    | true =>
      have e : (!(q.1 == i) && (!(q.1 == i + 1) && !(q.1 + 1 == i && rx_c2 q.2))) = false := by
        rw [rx_beq, rx_beq, rx_beq] at hq
        revert hq
        cases (q.1 == i) <;> cases (q.1 == i + 1) <;> cases (q.1 + 1 == i) <;> cases rx_c2 q.2 <;> simp
      rw [e]
      exact rx_f2_ok i k h.2
    | false =>
      have e : (!(q.1 == i) && (!(q.1 == i + 1) && !(q.1 + 1 == i && rx_c2 q.2))) = true := by
        rw [rx_beq, rx_beq, rx_beq] at hq
        revert hq
        cases (q.1 == i) <;> cases (q.1 == i + 1) <;> cases (q.1 + 1 == i) <;> cases rx_c2 q.2 <;> simp
      rw [e]
      obtain ⟨l', h1, h2⟩ := rx_f2_ok i (fun l => k (q :: l)) h.2
      exact ⟨q :: l', h1, h.1, h2⟩
  | [], _ :: _, _, h => h.elim
  | _ :: _, [], _, h => h.elim
/-- a method's arguments as locals -/
def rx_args : Nat → List rx_V → rx_L
  | _, [] => []
  | i, a :: l => (i, a) :: rx_args (match rx_c2 a with | true => i + 2 | false => i + 1) l
theorem rx_args_ok {b : (Nat → Option Nat) × List Int} {as : List Nat} {g : List Int} : ∀ (i : Nat) {l : List rx_V} {w : List Value}, rx_vs b as g l w → rx_ls b as g (rx_args i l) (lv_args i w)
  | _, [], [], _ => trivial
  | i, a :: l, v :: w, h => by
    refine ⟨⟨rfl, h.1⟩, ?_⟩
    have hc := rx_cat h.1
    cases h2 : rx_c2 a with
    | true =>
      rw [h2] at hc
      have h3 : v.category = 2 := by simpa using hc
      rw [if_pos h3]
      exact rx_args_ok (i + 2) h.2
    | false =>
      rw [h2] at hc
      have h3 : ¬ v.category = 2 := by simpa using hc
      rw [if_neg h3]
      exact rx_args_ok (i + 1) h.2
  | _, [], _ :: _, h => h.elim
  | _, _ :: _, [], h => h.elim
/-! ===== numbers: order and equality that the kernel counts ===== -/
def rx_ile (a b : Int) : Bool := match a, b with
  | .ofNat m, .ofNat n => Nat.ble m n
  | .negSucc m, .negSucc n => Nat.ble n m
  | .negSucc _, .ofNat _ => true
  | .ofNat _, .negSucc _ => false
theorem rx_ile_iff (a b : Int) : rx_ile a b = true ↔ a ≤ b := by
  cases a with
  | ofNat m =>
    cases b with
    | ofNat n =>
      show Nat.ble m n = true ↔ _
      rw [Nat.ble_eq]
      show m ≤ n ↔ (m : Int) ≤ (n : Int)
      omega
    | negSucc n =>
      show false = true ↔ (m : Int) ≤ Int.negSucc n
      constructor
      · intro h; cases h
      · intro h
        have := Int.negSucc_lt_zero n
        omega
  | negSucc m =>
    cases b with
    | ofNat n =>
      show true = true ↔ Int.negSucc m ≤ (n : Int)
      constructor
      · intro _
        have := Int.negSucc_lt_zero m
        omega
      · intro _; rfl
    | negSucc n =>
      show Nat.ble n m = true ↔ _
      rw [Nat.ble_eq, Int.negSucc_eq, Int.negSucc_eq]
      omega
theorem rx_ile_f {a b : Int} (h : rx_ile a b = false) : b < a := by
  rcases (show b < a ∨ a ≤ b by omega) with q | q
  · exact q
  · rw [(rx_ile_iff a b).mpr q] at h; cases h
def rx_ieq (a b : Int) : Bool := match a, b with
  | .ofNat m, .ofNat n => Nat.beq m n
  | .negSucc m, .negSucc n => Nat.beq m n
  | _, _ => false
theorem rx_ieq_t {a b : Int} (h : rx_ieq a b = true) : a = b := by
  cases a with
  | ofNat m =>
    cases b with
    | ofNat n => rw [Nat.eq_of_beq_eq_true h]
    | negSucc n => cases h
  | negSucc m =>
    cases b with
    | ofNat n => cases h
    | negSucc n => rw [Nat.eq_of_beq_eq_true h]
theorem rx_ieq_f {a b : Int} (h : rx_ieq a b = false) : ¬ a = b := by
  intro e
  subst e
  cases a with
  | ofNat m =>
    have : Nat.beq m m = true := Nat.beq_refl m
    change Nat.beq m m = false at h
    rw [this] at h; cases h
  | negSucc m =>
    have : Nat.beq m m = true := Nat.beq_refl m
    change Nat.beq m m = false at h
    rw [this] at h; cases h
/-- a number, reckoned out -/
def rx_zn {β : Type} (n : Nat) (k : Nat → β) : β := match n with
  | 0 => k 0
  | m + 1 => k (m + 1)
def rx_z {β : Type} (z : Int) (k : Int → β) : β := match z with
  | .ofNat n => rx_zn n (fun n => k (.ofNat n))
  | .negSucc n => rx_zn n (fun n => k (.negSucc n))
theorem rx_zn_eq {β : Type} (n : Nat) (k : Nat → β) : rx_zn n k = k n := by cases n <;> rfl
theorem rx_z_eq {β : Type} (z : Int) (k : Int → β) : rx_z z k = k z := by
  cases z with
  | ofNat n => exact rx_zn_eq n (fun n => k (.ofNat n))
  | negSucc n => exact rx_zn_eq n (fun n => k (.negSucc n))
/-- a row with one place changed, laid out -/
def rx_set {α β : Type} : List α → Nat → α → (List α → β) → β
  | [], _, _, k => k []
  | _ :: l, 0, x, k => k (x :: l)
  | y :: l, i + 1, x, k => rx_set l i x (fun l => k (y :: l))
theorem rx_set_eq {α β : Type} : ∀ (l : List α) (i : Nat) (x : α) (k : List α → β), rx_set l i x k = k (l.set i x)
  | [], _, _, _ => rfl
  | _ :: _, 0, _, _ => rfl
  | y :: l, i + 1, x, k => rx_set_eq l i x (fun l => k (y :: l))
def rx_snoc {α β : Type} : List α → α → (List α → β) → β
  | [], x, k => k [x]
  | y :: l, x, k => rx_snoc l x (fun l => k (y :: l))
theorem rx_snoc_eq {α β : Type} : ∀ (l : List α) (x : α) (k : List α → β), rx_snoc l x k = k (l ++ [x])
  | [], _, _ => rfl
  | y :: l, x, k => rx_snoc_eq l x (fun l => k (y :: l))
/-! ===== rows by places, for the kernel ===== -/
noncomputable def rx_n0 {α : Type} (l : List α) : Nat → Option α := @List.rec α (fun _ => Nat → Option α) (fun _ => none) (fun a _ ih k => @Nat.rec (fun _ => Option α) (some a) (fun j _ => ih j) k) l
theorem rx_n0_eq {α : Type} (l : List α) : ∀ k : Nat, rx_n0 l k = l[k]? := by
  induction l with
  | nil => exact fun _ => rfl
  | cons a l ih =>
    intro k
    cases k with
    | zero => rfl
    | succ k =>
      rw [List.getElem?_cons_succ]
      exact ih k
noncomputable def rx_tl {α : Type} (l : List α) : List α := @List.rec α (fun _ => List α) [] (fun _ t _ => t) l
noncomputable def rx_d4 {α : Type} (l : List α) : List α := rx_tl (rx_tl (rx_tl (rx_tl l)))
noncomputable def rx_d16 {α : Type} (l : List α) : List α := rx_d4 (rx_d4 (rx_d4 (rx_d4 l)))
noncomputable def rx_d64 {α : Type} (l : List α) : List α := rx_d16 (rx_d16 (rx_d16 (rx_d16 l)))
noncomputable def rx_d256 {α : Type} (l : List α) : List α := rx_d64 (rx_d64 (rx_d64 (rx_d64 l)))
noncomputable def rx_sk {α : Type} (n : Nat) : List α → List α := @Nat.rec (fun _ => List α → List α) (fun l => l) (fun _ ih l => ih (rx_d16 l)) n
noncomputable def rx_sK {α : Type} (n : Nat) : List α → List α := @Nat.rec (fun _ => List α → List α) (fun l => l) (fun _ ih l => ih (rx_d256 l)) n
theorem rx_tl_eq {α : Type} (l : List α) : rx_tl l = l.drop 1 := by cases l <;> rfl
theorem rx_d4_eq {α : Type} (l : List α) : rx_d4 l = l.drop 4 := by
  unfold rx_d4
  simp only [rx_tl_eq, List.drop_drop]
theorem rx_d16_eq {α : Type} (l : List α) : rx_d16 l = l.drop 16 := by
  unfold rx_d16
  simp only [rx_d4_eq, List.drop_drop]
theorem rx_d64_eq {α : Type} (l : List α) : rx_d64 l = l.drop 64 := by
  unfold rx_d64
  simp only [rx_d16_eq, List.drop_drop]
theorem rx_d256_eq {α : Type} (l : List α) : rx_d256 l = l.drop 256 := by
  unfold rx_d256
  simp only [rx_d64_eq, List.drop_drop]
theorem rx_sk_eq {α : Type} : ∀ (n : Nat) (l : List α), rx_sk n l = l.drop (16 * n)
  | 0, l => rfl
  | n + 1, l => by
    show rx_sk n (rx_d16 l) = _
    rw [rx_sk_eq n, rx_d16_eq, List.drop_drop]
    congr 1
    omega
theorem rx_sK_eq {α : Type} : ∀ (n : Nat) (l : List α), rx_sK n l = l.drop (256 * n)
  | 0, l => rfl
  | n + 1, l => by
    show rx_sK n (rx_d256 l) = _
    rw [rx_sK_eq n, rx_d256_eq, List.drop_drop]
    congr 1
    omega
/-- an element by its place, sixteen at a time -/
noncomputable def rx_nth {α : Type} (l : List α) (k : Nat) : Option α := @Bool.rec (fun _ => Option α) (rx_n0 l k) (rx_n0 (rx_sk ((k % 256) / 16) (rx_sK (k / 256) l)) (k % 16)) (Nat.ble 16 k)
theorem rx_nth_eq {α : Type} (l : List α) (k : Nat) : rx_nth l k = l[k]? := by
  unfold rx_nth
  cases Nat.ble 16 k with
  | false => exact rx_n0_eq l k
  | true =>
    show rx_n0 (rx_sk ((k % 256) / 16) (rx_sK (k / 256) l)) (k % 16) = _
    rw [rx_n0_eq, rx_sk_eq, rx_sK_eq, List.drop_drop, List.getElem?_drop]
    congr 1
    omega
noncomputable def rx_setR {α β : Type} (l : List α) : Nat → α → (List α → β) → β := @List.rec α (fun _ => Nat → α → (List α → β) → β) (fun _ _ k => k []) (fun y t ih i x k => @Nat.rec (fun _ => β) (k (x :: t)) (fun j _ => ih j x (fun t' => k (y :: t'))) i) l
theorem rx_setR_eq {α β : Type} (l : List α) : ∀ (i : Nat) (x : α) (k : List α → β), rx_setR l i x k = k (l.set i x) := by
  induction l with
  | nil => exact fun _ _ _ => rfl
  | cons a l ih =>
    intro i x k
    cases i with
    | zero => rfl
    | succ i => exact ih i x (fun l => k (a :: l))
noncomputable def rx_snocR {α β : Type} (l : List α) : α → (List α → β) → β := @List.rec α (fun _ => α → (List α → β) → β) (fun x k => k [x]) (fun y _ ih x k => ih x (fun t => k (y :: t))) l
theorem rx_snocR_eq {α β : Type} (l : List α) : ∀ (x : α) (k : List α → β), rx_snocR l x k = k (l ++ [x]) := by
  induction l with
  | nil => exact fun _ _ => rfl
  | cons a l ih => exact fun x k => ih x (fun l => k (a :: l))
noncomputable def rx_lenR {α : Type} (l : List α) : Nat := @List.rec α (fun _ => Nat) 0 (fun _ _ n => n + 1) l
theorem rx_lenR_eq {α : Type} (l : List α) : rx_lenR l = l.length := by
  induction l with
  | nil => rfl
  | cons a l ih => exact congrArg (· + 1) ih
noncomputable def rx_allR {α : Type} (p : α → Bool) (l : List α) : Bool := @List.rec α (fun _ => Bool) true (fun a _ ih => @Bool.rec (fun _ => Bool) false ih (p a)) l
theorem rx_allR_ok {α : Type} {p : α → Bool} {l : List α} (h : rx_allR p l = true) : ∀ a ∈ l, p a = true := by
  induction l with
  | nil => exact fun a h => absurd h List.not_mem_nil
  | cons a l ih =>
    have h1 : @Bool.rec (fun _ => Bool) false (rx_allR p l) (p a) = true := h
    cases hp : p a with
    | false => rw [hp] at h1; cases h1
    | true =>
      rw [hp] at h1
      intro x hx
      rcases List.mem_cons.mp hx with rfl | hx
      · exact hp
      · exact ih h1 x hx
