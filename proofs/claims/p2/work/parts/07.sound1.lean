/-! ===== what the instructions' rows need ===== -/
def rx_Ao : List String := ["LostKeys$Image", "LostKeys$State"]
/-- what stays true of the tables -/
def rx_Pr (U : State) : Prop := (∀ w ∈ rx_Ns, va_Nw w U) ∧ ∀ C ∈ rx_Ao, va_AO C U
theorem rx_Pr.warm {s U : State} (hW : s.WarmedH U.vm) (h : rx_Pr s) : rx_Pr U := by
  refine ⟨fun w hw => ?_, fun C hC => (h.2 C hC).moved hW.alike⟩
  have h1 := h.1 w hw
  have h2 := (List.mem_filter.mp hw).2
  unfold rx_isN at h2
  split at h2
  · exact h1.warmM hW
  · exact h1.warmF hW
  · cases h2
theorem rx_Pr.same {u U : State} (hv : u.vm = U.vm) (h : rx_Pr u) : rx_Pr U := by
  refine ⟨fun w hw => ?_, fun C hC => (h.2 C hC).moved (by rw [hv]; exact Vm.Alike.refl _)⟩
  have h1 := h.1 w hw
  have h2 := (List.mem_filter.mp hw).2
  unfold rx_isN at h2
  split at h2
  · exact h1.same rfl hv
  · exact h1.same rfl hv
  · cases h2
def rx_Cx (p : Program) (s : State) (m : MethodId) (args : Array Value) (c : Code) (cc : ByteArray) (own : String) (nL : Nat) : Prop :=
  p.tables.exec = Jvm.exec ∧ c.code = cc ∧ c.maxLocals = nL ∧ s.vm.findClass own = some m.cls ∧ (∀ w ∈ rx_Gd, w.before args s = true) ∧ rx_Pr s
/-- a state of the machine that an abstract one stands for -/
def rx_At (b : (Nat → Option Nat) × List Int) (D : va_G) (s : State) (A : Nat → Prop) (g0 : List Int) (a0 : List Nat) (t0 : List (ClassId × FieldType)) (nL : Nat) (sy : rx_Y) (h : List rx_C) (lc : rx_L) (sa : List rx_V) (H : Heap) (locs : List Loc) (ls : Array Slot) (st : List Value) : Prop :=
  ∃ (g : List Int) (tys : List (ClassId × FieldType)) (ws : va_W) (lv : List (Nat × Value)),
    (rx_le g0 g ∧ rx_le a0 (ws.map Prod.fst) ∧ ∀ q ∈ t0, q ∈ tys) ∧ rx_g sy g ∧ rx_h b g tys h ws ∧ va_K D vwCl tys s ∧ va_P D vwCl ws H ∧ va_D A ws ∧ va_S A s.heap H locs ∧
    rx_ls b (ws.map Prod.fst) g lc lv ∧ lv_has ls nL lv ∧ rx_vs b (ws.map Prod.fst) g sa st
def rx_Go (p : Program) (l : Launch) (e : Env) (R : Room) (s : State) (m : MethodId) (args : Array Value) (below : List Frame) (meth : Method) (c : Code) (b : (Nat → Option Nat) × List Int) (D : va_G) (A : Nat → Prop) (g0 : List Int) (a0 : List Nat) (t0 : List (ClassId × FieldType)) (nL : Nat) (Q : State → Prop) (T : rx_T) : Prop :=
  ∀ (H : Heap) (locs : List Loc) (ls : Array Slot) (st : List Value), rx_At b D s A g0 a0 t0 nL T.1 T.2.1 T.2.2.2.2.1 T.2.2.2.2.2 H locs ls st → W p l e R s m args below meth c H locs T.2.2.1.1 T.2.2.1.2 Q (F0 m T.2.2.2.1 ls st)
def rx_dc (cc : ByteArray) (i : rx_E) : Prop := decode cc i.1 = .ok (i.2.1, i.2.2.1) ∧ rx_lnB i.2.1 i.2.2.1 = true
section RXA
variable {p : Program} {l : Launch} {e : Env} {R : Room} {s : State} {m : MethodId} {args : Array Value} {below : List Frame} {meth : Method} {c : Code} {b : (Nat → Option Nat) × List Int} {D : va_G} {A : Nat → Prop} {g0 : List Int} {a0 : List Nat} {t0 : List (ClassId × FieldType)} {nL : Nat} {Q : State → Prop} {cc : ByteArray} {own : String}
theorem rx_len {pc len u w x : Nat} {z : Int} {ins : Instr} {n : Nat} (hd : rx_dc cc (pc, ins, len, u, w, x, z)) (hn : rx_lnB ins len = Nat.beq len n) : len = n := by
  have h := hd.2
  dsimp only at h
  rw [hn] at h
  exact Nat.eq_of_beq_eq_true h
theorem rx_iok {lo hi n : Int} (h : (rx_ile lo n && rx_ile n hi) = true) : lo ≤ n ∧ n ≤ hi := by
  rw [Bool.and_eq_true] at h
  exact ⟨(rx_ile_iff _ _).mp h.1, (rx_ile_iff _ _).mp h.2⟩
theorem rx_i8 {n : Int} (h1 : -128 ≤ n) (h2 : n ≤ 127) : ((Int8.ofInt n).toInt32).toInt = n := by
  rw [Int8.toInt_toInt32, Int8.toInt_ofInt]
  show n.bmod 256 = n
  rw [Int.bmod_eq_of_le (by omega) (by omega)]
theorem rx_i16 {n : Int} (h1 : -32768 ≤ n) (h2 : n ≤ 32767) : ((Int16.ofInt n).toInt32).toInt = n := by
  rw [Int16.toInt_toInt32, Int16.toInt_ofInt]
  show n.bmod 65536 = n
  rw [Int.bmod_eq_of_le (by omega) (by omega)]
theorem rx_pA_ok {H : Heap} {locs : List Loc} {cells slots : Nat} {ls : Array Slot} {st : List Value} {as : List Nat} {g : List Int} {lc : rx_L} {lv : List (Nat × Value)} {i : rx_E} {a : rx_V} (hx : p.tables.exec = Jvm.exec) (hb : c.code = cc) (hd : rx_dc cc i) (hl : rx_ls b as g lc lv) (hv : lv_has ls nL lv) (h : rx_pA i lc = some a)
    (K : ∀ v, rx_v b as g a v → W p l e R s m args below meth c H locs cells slots Q (F0 m (i.1 + i.2.2.1) ls (v :: st))) : W p l e R s m args below meth c H locs cells slots Q (F0 m i.1 ls st) := by
  obtain ⟨pc, ins, len, u, w, x, z⟩ := i
  unfold rx_pA at h
  dsimp only at h K ⊢
  have one : ∀ n, a = .inl (0, n) → ∀ v : Int32, v.toInt = n → rx_v b as g a (.int v) := fun n e1 v e2 => by rw [e1]; exact ⟨v, rfl, e2⟩
  split at h
  · rename_i n
    have hlen := rx_len hd rfl
    subst hlen
    split at h
    · rename_i hc
      have := rx_iok hc
      cases h
      exact lv_iconst hx hb hd.1 rfl (K _ (one n rfl _ (fb_ofI (by omega) (by omega))))
    · cases h
  · rename_i n
    have hlen := rx_len hd rfl
    subst hlen
    split at h
    · rename_i hc
      have := rx_iok hc
      cases h
      exact lv_bipush hx hb hd.1 rfl (K _ (one n rfl _ (rx_i8 this.1 this.2)))
    · cases h
  · rename_i n
    have hlen := rx_len hd rfl
    subst hlen
    split at h
    · rename_i hc
      have := rx_iok hc
      cases h
      exact lv_sipush hx hb hd.1 rfl (K _ (one n rfl _ (rx_i16 this.1 this.2)))
    · cases h
  · rename_i n
    have hlen := rx_len hd rfl
    subst hlen
    cases h
    refine lv_lconst hx hb hd.1 rfl (K _ ⟨_, rfl, ?_⟩)
    show (Int64.ofNat n.val).toInt = Int.ofNat n.val
    have hn : n.val < 2 := n.isLt
    rcases (show n.val = 0 ∨ n.val = 1 by omega) with q | q <;> rw [q] <;> decide
  · rename_i k
    have hlen := rx_len hd rfl
    subst hlen
    unfold rx_ofI at h
    split at h
    · rename_i q hq
      cases h
      obtain ⟨j, v, h1, x, rfl, h2⟩ := rx_lk_ok hl hq
      exact lv_iload hx hb hd.1 (lv_at hv j h1) (K _ ⟨x, rfl, h2⟩)
    · cases h
  · rename_i k
    have hlen := rx_len hd rfl
    subst hlen
    unfold rx_ofI at h
    split at h
    · rename_i q hq
      cases h
      obtain ⟨j, v, h1, x, rfl, h2⟩ := rx_lk_ok hl hq
      exact lv_iload_n hx hb hd.1 rfl (lv_at hv j h1) (K _ ⟨x, rfl, h2⟩)
    · cases h
  · rename_i k
    have hlen := rx_len hd rfl
    subst hlen
    unfold rx_ofL at h
    split at h
    · rename_i q hq
      cases h
      obtain ⟨j, v, h1, x, rfl, h2⟩ := rx_lk_ok hl hq
      exact lv_lload hx hb hd.1 (lv_at hv j h1) (K _ ⟨x, rfl, h2⟩)
    · cases h
  · rename_i k
    have hlen := rx_len hd rfl
    subst hlen
    unfold rx_ofL at h
    split at h
    · rename_i q hq
      cases h
      obtain ⟨j, v, h1, x, rfl, h2⟩ := rx_lk_ok hl hq
      exact lv_lload_n hx hb hd.1 rfl (lv_at hv j h1) (K _ ⟨x, rfl, h2⟩)
    · cases h
  · rename_i k
    have hlen := rx_len hd rfl
    subst hlen
    unfold rx_ofR at h
    split at h
    · rename_i q hq
      cases h
      obtain ⟨j, v, h1, x, h2, rfl⟩ := rx_lk_ok hl hq
      exact lv_aload hx hb hd.1 (lv_at hv j h1) (K _ ⟨x, h2, rfl⟩)
    · rename_i q hq
      cases h
      obtain ⟨j, v, h1, h2⟩ := rx_lk_ok hl hq
      have h2 : v = va_rf (b.1 q) := h2
      cases hbq : b.1 q with
      | none =>
        rw [hbq] at h2
        subst h2
        exact lv_aloadN hx hb hd.1 (lv_at hv j h1) (K _ (by show _ = va_rf (b.1 q); rw [hbq]; rfl))
      | some aq =>
        rw [hbq] at h2
        subst h2
        exact lv_aload hx hb hd.1 (lv_at hv j h1) (K _ (by show _ = va_rf (b.1 q); rw [hbq]; rfl))
    · cases h
  · rename_i k
    have hlen := rx_len hd rfl
    subst hlen
    unfold rx_ofR at h
    split at h
    · rename_i q hq
      cases h
      obtain ⟨j, v, h1, x, h2, rfl⟩ := rx_lk_ok hl hq
      exact lv_aload_n hx hb hd.1 rfl (lv_at hv j h1) (K _ ⟨x, h2, rfl⟩)
    · rename_i q hq
      cases h
      obtain ⟨j, v, h1, h2⟩ := rx_lk_ok hl hq
      have h2 : v = va_rf (b.1 q) := h2
      cases hbq : b.1 q with
      | none =>
        rw [hbq] at h2
        subst h2
        exact lv_aload_nN hx hb hd.1 rfl (lv_at hv j h1) (K _ (by show _ = va_rf (b.1 q); rw [hbq]; rfl))
      | some aq =>
        rw [hbq] at h2
        subst h2
        exact lv_aload_n hx hb hd.1 rfl (lv_at hv j h1) (K _ (by show _ = va_rf (b.1 q); rw [hbq]; rfl))
    · cases h
  · cases h
/-- the conclusion of every group: from the states that follow to this one -/
theorem rx_sA_ok {i : rx_E} {T : rx_T} {L : List rx_T} (C : rx_Cx p s m args c cc own nL) (hd : rx_dc cc i) (hpc : T.2.2.2.1 = i.1) (h : rx_sA i T = some L) (K : ∀ T' ∈ L, rx_Go p l e R s m args below meth c b D A g0 a0 t0 nL Q T') : rx_Go p l e R s m args below meth c b D A g0 a0 t0 nL Q T := by
  unfold rx_sA at h
  split at h
  · rename_i a ha
    cases h
    intro H locs ls st hat
    obtain ⟨g, tys, ws, lv, hE, hG, hH, hK, hP, hD, hS, hl, hv, hst⟩ := hat
    rw [hpc]
    refine rx_pA_ok C.1 C.2.1 hd hl hv ha fun v hv1 => ?_
    exact K _ (List.mem_singleton.mpr rfl) H locs ls (v :: st) ⟨g, tys, ws, lv, hE, hG, hH, hK, hP, hD, hS, hl, hv, hv1, hst⟩
  · cases h
/-- what lies on top of the stack -/
theorem rx_vs_cons {as : List Nat} {g : List Int} {a : rx_V} {sa : List rx_V} {st : List Value} (h : rx_vs b as g (a :: sa) st) : ∃ v w, st = v :: w ∧ rx_v b as g a v ∧ rx_vs b as g sa w := by
  cases st with
  | nil => exact h.elim
  | cons v w => exact ⟨v, w, rfl, h.1, h.2⟩
/-- stores of one slot, of two -/
theorem rx_st1_ok {i : rx_E} {T : rx_T} {L : List rx_T} {k : Nat} (hpc : T.2.2.2.1 = i.1) (h : rx_st1 i T nL k = some L)
    (row : ∀ {H : Heap} {locs : List Loc} {ls : Array Slot} {lv : List (Nat × Value)} {as : List Nat} {g : List Int} {a : rx_V} {sa : List rx_V} {v : Value} {st : List Value}, T.2.2.2.2.2 = a :: sa → rx_v b as g a v → lv_has ls nL lv → k < nL → (∀ ls', lv_has ls' nL ((k, v) :: lv.filter (fun q => !(q.1 == k) && !(q.1 + 1 == k && q.2.category == 2))) → W p l e R s m args below meth c H locs T.2.2.1.1 T.2.2.1.2 Q (F0 m (i.1 + i.2.2.1) ls' st)) → W p l e R s m args below meth c H locs T.2.2.1.1 T.2.2.1.2 Q (F0 m i.1 ls (v :: st)))
    (K : ∀ T' ∈ L, rx_Go p l e R s m args below meth c b D A g0 a0 t0 nL Q T') : rx_Go p l e R s m args below meth c b D A g0 a0 t0 nL Q T := by
  unfold rx_st1 at h
  split at h
  · rename_i hk
    have hk : k < nL := Nat.le_of_ble_eq_true hk
    split at h
    · rename_i a sa hsa
      intro H locs ls st hat
      obtain ⟨g, tys, ws, lv, hE, hG, hH, hK, hP, hD, hS, hl, hv, hst⟩ := hat
      rw [hpc]
      rw [hsa] at hst
      obtain ⟨v, w, rfl, hv1, hst⟩ := rx_vs_cons hst
      obtain ⟨l', h1, h2⟩ := rx_f1_ok k (fun lc => some [((T.1, T.2.1, T.2.2.1, i.1 + i.2.2.1, (k, a) :: lc, sa) : rx_T)]) hl
      rw [h1] at h
      cases h
      refine row hsa hv1 hv hk fun ls' hv' => ?_
      have hls : rx_ls b (ws.map Prod.fst) g ((k, a) :: l') ((k, v) :: lv.filter (fun q => !(q.1 == k) && !(q.1 + 1 == k && q.2.category == 2))) := ⟨⟨rfl, hv1⟩, h2⟩
      exact K _ (List.mem_singleton.mpr rfl) H locs ls' w ⟨g, tys, ws, _, hE, hG, hH, hK, hP, hD, hS, hls, hv', hst⟩
    · cases h
  · cases h
theorem rx_st2_ok {i : rx_E} {T : rx_T} {L : List rx_T} {k : Nat} (hpc : T.2.2.2.1 = i.1) (h : rx_st2 i T nL k = some L)
    (row : ∀ {H : Heap} {locs : List Loc} {ls : Array Slot} {lv : List (Nat × Value)} {as : List Nat} {g : List Int} {a : rx_V} {sa : List rx_V} {v : Value} {st : List Value}, T.2.2.2.2.2 = a :: sa → rx_v b as g a v → lv_has ls nL lv → k + 1 < nL → (∀ ls', lv_has ls' nL ((k, v) :: lv.filter (fun q => !(q.1 == k) && (!(q.1 == k + 1) && !(q.1 + 1 == k && q.2.category == 2)))) → W p l e R s m args below meth c H locs T.2.2.1.1 T.2.2.1.2 Q (F0 m (i.1 + i.2.2.1) ls' st)) → W p l e R s m args below meth c H locs T.2.2.1.1 T.2.2.1.2 Q (F0 m i.1 ls (v :: st)))
    (K : ∀ T' ∈ L, rx_Go p l e R s m args below meth c b D A g0 a0 t0 nL Q T') : rx_Go p l e R s m args below meth c b D A g0 a0 t0 nL Q T := by
  unfold rx_st2 at h
  split at h
  · rename_i hk
    have hk : k + 1 < nL := Nat.le_of_ble_eq_true hk
    split at h
    · rename_i a sa hsa
      intro H locs ls st hat
      obtain ⟨g, tys, ws, lv, hE, hG, hH, hK, hP, hD, hS, hl, hv, hst⟩ := hat
      rw [hpc]
      rw [hsa] at hst
      obtain ⟨v, w, rfl, hv1, hst⟩ := rx_vs_cons hst
      obtain ⟨l', h1, h2⟩ := rx_f2_ok k (fun lc => some [((T.1, T.2.1, T.2.2.1, i.1 + i.2.2.1, (k, a) :: lc, sa) : rx_T)]) hl
      rw [h1] at h
      cases h
      refine row hsa hv1 hv hk fun ls' hv' => ?_
      have hls : rx_ls b (ws.map Prod.fst) g ((k, a) :: l') ((k, v) :: lv.filter (fun q => !(q.1 == k) && (!(q.1 == k + 1) && !(q.1 + 1 == k && q.2.category == 2)))) := ⟨⟨rfl, hv1⟩, h2⟩
      exact K _ (List.mem_singleton.mpr rfl) H locs ls' w ⟨g, tys, ws, _, hE, hG, hH, hK, hP, hD, hS, hls, hv', hst⟩
    · cases h
  · cases h
theorem rx_top0 {T : rx_T} {a : rx_V} {sa : List rx_V} (h : rx_top T = 0) (hs : T.2.2.2.2.2 = a :: sa) : ∃ q, a = .inl q := by
  unfold rx_top at h
  rw [hs] at h
  rcases a with q | q | (_ | i) | _ <;> first | exact ⟨q, rfl⟩ | cases h
theorem rx_top1 {T : rx_T} {a : rx_V} {sa : List rx_V} (h : rx_top T = 1) (hs : T.2.2.2.2.2 = a :: sa) : ∃ q, a = .inr (.inl q) := by
  unfold rx_top at h
  rw [hs] at h
  rcases a with q | q | (_ | i) | _ <;> first | exact ⟨q, rfl⟩ | cases h
theorem rx_top2 {T : rx_T} {a : rx_V} {sa : List rx_V} (h : rx_top T = 2) (hs : T.2.2.2.2.2 = a :: sa) : ∃ q, a = .inr (.inr (.inl (some q))) := by
  unfold rx_top at h
  rw [hs] at h
  rcases a with q | q | (_ | i) | _ <;> first | exact ⟨i, rfl⟩ | cases h
theorem rx_sB_ok {i : rx_E} {T : rx_T} {L : List rx_T} (C : rx_Cx p s m args c cc own nL) (hd : rx_dc cc i) (hpc : T.2.2.2.1 = i.1) (h : rx_sB nL i T = some L) (K : ∀ T' ∈ L, rx_Go p l e R s m args below meth c b D A g0 a0 t0 nL Q T') : rx_Go p l e R s m args below meth c b D A g0 a0 t0 nL Q T := by
  obtain ⟨pc, ins, len, u, w, x, z⟩ := i
  obtain ⟨hx, hb, -⟩ := C
  unfold rx_sB at h
  dsimp only at h
  split at h
  · rename_i k
    have hlen := rx_len hd rfl
    subst hlen
    split at h
    · rename_i ht
      refine rx_st1_ok hpc h (fun hs hv hl hk kk => ?_) K
      obtain ⟨q, rfl⟩ := rx_top0 ht hs
      obtain ⟨y, rfl, -⟩ := hv
      exact lv_istore hx hb hd.1 hl hk rfl kk
    · cases h
  · rename_i k
    have hlen := rx_len hd rfl
    subst hlen
    split at h
    · rename_i ht
      refine rx_st1_ok hpc h (fun hs hv hl hk kk => ?_) K
      obtain ⟨q, rfl⟩ := rx_top0 ht hs
      obtain ⟨y, rfl, -⟩ := hv
      exact lv_istore_n hx hb hd.1 rfl hl hk rfl kk
    · cases h
  · rename_i k
    have hlen := rx_len hd rfl
    subst hlen
    split at h
    · rename_i ht
      refine rx_st1_ok hpc h (fun hs hv hl hk kk => ?_) K
      obtain ⟨q, rfl⟩ := rx_top2 ht hs
      obtain ⟨y, -, rfl⟩ := hv
      exact lv_astore hx hb hd.1 hl hk rfl kk
    · cases h
  · rename_i k
    have hlen := rx_len hd rfl
    subst hlen
    split at h
    · rename_i ht
      refine rx_st1_ok hpc h (fun hs hv hl hk kk => ?_) K
      obtain ⟨q, rfl⟩ := rx_top2 ht hs
      obtain ⟨y, -, rfl⟩ := hv
      exact lv_astore_n hx hb hd.1 rfl hl hk rfl kk
    · cases h
  · rename_i k
    have hlen := rx_len hd rfl
    subst hlen
    split at h
    · rename_i ht
      refine rx_st2_ok hpc h (fun hs hv hl hk kk => ?_) K
      obtain ⟨q, rfl⟩ := rx_top1 ht hs
      obtain ⟨y, rfl, -⟩ := hv
      exact lv_lstore hx hb hd.1 hl hk rfl kk
    · cases h
  · rename_i k
    have hlen := rx_len hd rfl
    subst hlen
    split at h
    · rename_i ht
      refine rx_st2_ok hpc h (fun hs hv hl hk kk => ?_) K
      obtain ⟨q, rfl⟩ := rx_top1 ht hs
      obtain ⟨y, rfl, -⟩ := hv
      exact lv_lstore_n hx hb hd.1 rfl hl hk rfl kk
    · cases h
  · have hlen := rx_len hd rfl
    subst hlen
    split at h
    · rename_i a sa hsa
      split at h
      · rename_i hc
        cases h
        intro H locs ls st hat
        obtain ⟨g, tys, ws, lv, hE, hG, hH, hK, hP, hD, hS, hl, hv, hst⟩ := hat
        rw [hpc]
        rw [hsa] at hst
        obtain ⟨v, w, rfl, hv1, hst⟩ := rx_vs_cons hst
        refine lv_dup hx hb hd.1 (rx_cat1 hv1 hc) ?_
        exact K _ (List.mem_singleton.mpr rfl) H locs ls _ ⟨g, tys, ws, _, hE, hG, hH, hK, hP, hD, hS, hl, hv, hv1, hv1, hst⟩
      · cases h
    · cases h
  · have hlen := rx_len hd rfl
    subst hlen
    split at h
    · rename_i a d sa hsa
      split at h
      · rename_i hc
        rw [Bool.or_eq_false_iff] at hc
        cases h
        intro H locs ls st hat
        obtain ⟨g, tys, ws, lv, hE, hG, hH, hK, hP, hD, hS, hl, hv, hst⟩ := hat
        rw [hpc]
        rw [hsa] at hst
        obtain ⟨v, w, rfl, hv1, hst⟩ := rx_vs_cons hst
        obtain ⟨v2, w, rfl, hv2, hst⟩ := rx_vs_cons hst
        refine lv_dup2_11 hx hb hd.1 (rx_cat1 hv1 hc.1) (rx_cat1 hv2 hc.2) ?_
        exact K _ (List.mem_singleton.mpr rfl) H locs ls _ ⟨g, tys, ws, _, hE, hG, hH, hK, hP, hD, hS, hl, hv, hv1, hv2, hv1, hv2, hst⟩
      · cases h
    · cases h
  · have hlen := rx_len hd rfl
    subst hlen
    split at h
    · rename_i a sa hsa
      split at h
      · rename_i hc
        cases h
        intro H locs ls st hat
        obtain ⟨g, tys, ws, lv, hE, hG, hH, hK, hP, hD, hS, hl, hv, hst⟩ := hat
        rw [hpc]
        rw [hsa] at hst
        obtain ⟨v, w, rfl, hv1, hst⟩ := rx_vs_cons hst
        refine lv_pop hx hb hd.1 (rx_cat1 hv1 hc) ?_
        exact K _ (List.mem_singleton.mpr rfl) H locs ls _ ⟨g, tys, ws, _, hE, hG, hH, hK, hP, hD, hS, hl, hv, hst⟩
      · cases h
    · cases h
  · rename_i k n
    have hlen := rx_len hd rfl
    subst hlen
    split at h
    · rename_i hk
      rw [Bool.and_eq_true] at hk
      have hn := rx_iok hk.2
      have hk : k < nL := Nat.le_of_ble_eq_true hk.1
      split at h
      · rename_i q hq
        split at h
        · rename_i hr
          rw [Bool.and_eq_true] at hr
          have r1 := (rx_ile_iff _ _).mp hr.1
          have r2 := (rx_ile_iff _ _).mp hr.2
          rw [rx_z_eq] at h
          intro H locs ls st hat
          obtain ⟨g, tys, ws, lv, hE, hG, hH, hK, hP, hD, hS, hl, hv, hst⟩ := hat
          rw [hpc]
          obtain ⟨j, v, h1, y, rfl, h2⟩ := rx_lk_ok hl hq
          obtain ⟨l', h3, h4⟩ := rx_f1_ok k (fun lc => some [((T.1, T.2.1, T.2.2.1, pc + 3, (k, .inl (q.1, q.2 + n)) :: lc, T.2.2.2.2.2) : rx_T)]) hl
          have h3 := h3.symm.trans h
          cases h3
          have hb2 := rx_iv_ok hG h2
          have en : (Int32.ofInt n).toInt = n := fb_ofI (by omega) (by omega)
          have e : (y + Int32.ofInt n).toInt = y.toInt + n := by
            rw [fb_addI (by rw [en]; omega) (by rw [en]; omega), en]
          have hv1 : rx_v b (ws.map Prod.fst) g (.inl (q.1, q.2 + n)) (.int (y + Int32.ofInt n)) := by
            refine ⟨_, rfl, ?_⟩
            obtain ⟨k0, c0⟩ := q
            cases k0 with
            | zero =>
              have h2 : y.toInt = c0 := h2
              show (y + Int32.ofInt n).toInt = c0 + n
              rw [e, h2]
            | succ k0 =>
              obtain ⟨y0, h5, h6⟩ := h2
              exact ⟨y0, h5, by rw [e, h6]; dsimp only; omega⟩
          refine lv_iinc hx hb hd.1 hv h1 rfl hk rfl fun ls' hv' => ?_
          have hls : rx_ls b (ws.map Prod.fst) g ((k, .inl (q.1, q.2 + n)) :: l') ((k, .int (y + Int32.ofInt n)) :: lv.filter (fun q => !(q.1 == k) && !(q.1 + 1 == k && q.2.category == 2))) := ⟨⟨rfl, hv1⟩, h4⟩
          exact K _ (List.mem_singleton.mpr rfl) H locs ls' st ⟨g, tys, ws, _, hE, hG, hH, hK, hP, hD, hS, hls, hv', hst⟩
        · cases h
      · cases h
    · cases h
  · cases h
end RXA
