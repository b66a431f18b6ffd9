section RXB
variable {p : Program} {l : Launch} {e : Env} {R : Room} {s : State} {m : MethodId} {args : Array Value} {below : List Frame} {meth : Method} {c : Code} {b : (Nat → Option Nat) × List Int} {D : va_G} {A : Nat → Prop} {g0 : List Int} {a0 : List Nat} {t0 : List (ClassId × FieldType)} {nL : Nat} {Q : State → Prop} {cc : ByteArray} {own : String}
theorem rx_fr_eq (sy : rx_Y) (lo hi : Int) (k : rx_Y → rx_I → Option (List rx_T)) : rx_fr sy lo hi k = k (sy.1 ++ [(lo, hi)], sy.2) (sy.1.length + 1, 0) := by
  unfold rx_fr
  rw [rx_snocR_eq, rx_zn_eq, rx_lenR_eq]
/-- a new symbol with its value -/
theorem rx_fresh_ok {i : rx_E} {T : rx_T} {L : List rx_T} {sa : List rx_V} {lo hi : Int} (h : rx_fr T.1 lo hi (fun s q => rx_out i T sa s (.inl q)) = some L) (K : ∀ T' ∈ L, rx_Go p l e R s m args below meth c b D A g0 a0 t0 nL Q T')
    {H : Heap} {locs : List Loc} {ls : Array Slot} {st : List Value} (hat : rx_At b D s A g0 a0 t0 nL T.1 T.2.1 T.2.2.2.2.1 sa H locs ls st) (v : Int32) (h1 : lo ≤ v.toInt) (h2 : v.toInt ≤ hi) :
    W p l e R s m args below meth c H locs T.2.2.1.1 T.2.2.1.2 Q (F0 m (i.1 + i.2.2.1) ls (.int v :: st)) := by
  rw [rx_fr_eq] at h
  unfold rx_out at h
  cases h
  obtain ⟨g, tys, ws, lv, hE, hG, hH, hK, hP, hD, hS, hl, hv, hst⟩ := hat
  have hg : rx_le g (g ++ [v.toInt]) := rx_le.app _
  refine K _ (List.mem_singleton.mpr rfl) H locs ls (.int v :: st) ⟨g ++ [v.toInt], tys, ws, lv, ⟨hE.1.tr hg, hE.2⟩, hG.push h1 h2, hH.mono hg (fun _ q => q), hK, hP, hD, hS, hl.mono rx_le.rf hg, hv, ⟨v, rfl, v.toInt, ?_, ?_⟩, hst.mono rx_le.rf hg⟩
  · rw [← hG.1.1]
    exact rx_snocg g _
  · omega
theorem rx_any_ok {i : rx_E} {T : rx_T} {L : List rx_T} {sa : List rx_V} (h : rx_any i T sa = some L) (K : ∀ T' ∈ L, rx_Go p l e R s m args below meth c b D A g0 a0 t0 nL Q T')
    {H : Heap} {locs : List Loc} {ls : Array Slot} {st : List Value} (hat : rx_At b D s A g0 a0 t0 nL T.1 T.2.1 T.2.2.2.2.1 sa H locs ls st) (v : Int32) :
    W p l e R s m args below meth c H locs T.2.2.1.1 T.2.2.1.2 Q (F0 m (i.1 + i.2.2.1) ls (.int v :: st)) := by
  have := fb_rng v
  exact rx_fresh_ok h K hat v (by omega) (by omega)
/-- a known value -/
theorem rx_out_ok {i : rx_E} {T : rx_T} {L : List rx_T} {sa : List rx_V} {a : rx_V} (h : rx_out i T sa T.1 a = some L) (K : ∀ T' ∈ L, rx_Go p l e R s m args below meth c b D A g0 a0 t0 nL Q T')
    {H : Heap} {locs : List Loc} {ls : Array Slot} {st : List Value} {v : Value} (hat : rx_At b D s A g0 a0 t0 nL T.1 T.2.1 T.2.2.2.2.1 (a :: sa) H locs ls (v :: st)) :
    W p l e R s m args below meth c H locs T.2.2.1.1 T.2.2.1.2 Q (F0 m (i.1 + i.2.2.1) ls (v :: st)) := by
  unfold rx_out at h
  cases h
  exact K _ (List.mem_singleton.mpr rfl) H locs ls (v :: st) hat
/-- the stack of a state, changed -/
theorem rx_At.push {sy : rx_Y} {h : List rx_C} {lc : rx_L} {sa : List rx_V} {H : Heap} {locs : List Loc} {ls : Array Slot} {st : List Value} {z : Int} {v : Int32} (hat : rx_At b D s A g0 a0 t0 nL sy h lc sa H locs ls st) (hz : v.toInt = z) : rx_At b D s A g0 a0 t0 nL sy h lc (.inl (0, z) :: sa) H locs ls (.int v :: st) := by
  obtain ⟨g, tys, ws, lv, hE, hG, hH, hK, hP, hD, hS, hl, hv, hst⟩ := hat
  exact ⟨g, tys, ws, lv, hE, hG, hH, hK, hP, hD, hS, hl, hv, ⟨v, rfl, hz⟩, hst⟩
/-- two ints on the stack -/
theorem rx_At.two {sy : rx_Y} {h : List rx_C} {lc : rx_L} {x y : rx_I} {sa : List rx_V} {H : Heap} {locs : List Loc} {ls : Array Slot} {st : List Value} (hat : rx_At b D s A g0 a0 t0 nL sy h lc (.inl y :: .inl x :: sa) H locs ls st) :
    ∃ (yv xv : Int32) (st' : List Value) (g : List Int), st = .int yv :: .int xv :: st' ∧ rx_g sy g ∧ rx_ev g y yv.toInt ∧ rx_ev g x xv.toInt ∧ rx_At b D s A g0 a0 t0 nL sy h lc sa H locs ls st' ∧
      (∀ (q : rx_I) (v : Int32), rx_ev g q v.toInt → rx_At b D s A g0 a0 t0 nL sy h lc (.inl q :: sa) H locs ls (.int v :: st')) ∧ (∀ sy', rx_g sy' g → rx_At b D s A g0 a0 t0 nL sy' h lc sa H locs ls st') := by
  obtain ⟨g, tys, ws, lv, hE, hG, hH, hK, hP, hD, hS, hl, hv, hst⟩ := hat
  obtain ⟨v1, w1, rfl, ⟨yv, rfl, hy⟩, hst1⟩ := rx_vs_cons hst
  obtain ⟨v2, w, rfl, ⟨xv, rfl, hx⟩, hst2⟩ := rx_vs_cons hst1
  clear hst hst1
  have hst := hst2
  exact ⟨yv, xv, w, g, rfl, hG, hy, hx, ⟨g, tys, ws, lv, hE, hG, hH, hK, hP, hD, hS, hl, hv, hst⟩, fun q v hq => ⟨g, tys, ws, lv, hE, hG, hH, hK, hP, hD, hS, hl, hv, ⟨v, rfl, hq⟩, hst⟩, fun sy' h' => ⟨g, tys, ws, lv, hE, h', hH, hK, hP, hD, hS, hl, hv, hst⟩⟩
theorem rx_At.one {sy : rx_Y} {h : List rx_C} {lc : rx_L} {x : rx_I} {sa : List rx_V} {H : Heap} {locs : List Loc} {ls : Array Slot} {st : List Value} (hat : rx_At b D s A g0 a0 t0 nL sy h lc (.inl x :: sa) H locs ls st) :
    ∃ (xv : Int32) (st' : List Value) (g : List Int), st = .int xv :: st' ∧ rx_g sy g ∧ rx_ev g x xv.toInt ∧ rx_At b D s A g0 a0 t0 nL sy h lc sa H locs ls st' ∧
      (∀ (q : rx_I) (v : Int64), rx_ev g q v.toInt → rx_At b D s A g0 a0 t0 nL sy h lc (.inr (.inl q) :: sa) H locs ls (.long v :: st')) ∧ (∀ sy', rx_g sy' g → rx_At b D s A g0 a0 t0 nL sy' h lc sa H locs ls st') := by
  obtain ⟨g, tys, ws, lv, hE, hG, hH, hK, hP, hD, hS, hl, hv, hst⟩ := hat
  obtain ⟨v2, w, rfl, ⟨xv, rfl, hx⟩, hst2⟩ := rx_vs_cons hst
  clear hst
  have hst := hst2
  exact ⟨xv, w, g, rfl, hG, hx, ⟨g, tys, ws, lv, hE, hG, hH, hK, hP, hD, hS, hl, hv, hst⟩, fun q v hq => ⟨g, tys, ws, lv, hE, hG, hH, hK, hP, hD, hS, hl, hv, ⟨v, rfl, hq⟩, hst⟩, fun sy' h' => ⟨g, tys, ws, lv, hE, h', hH, hK, hP, hD, hS, hl, hv, hst⟩⟩
/-- an instruction that makes one int of two -/
def rx_Row2 (p : Program) (l : Launch) (e : Env) (R : Room) (s : State) (m : MethodId) (args : Array Value) (below : List Frame) (meth : Method) (c : Code) (Q : State → Prop) (i : rx_E) (f : Int32 → Int32 → Int32) : Prop :=
  ∀ {H : Heap} {locs : List Loc} {cells slots : Nat} {ls : Array Slot} {st : List Value} (x y : Int32), W p l e R s m args below meth c H locs cells slots Q (F0 m (i.1 + i.2.2.1) ls (.int (f x y) :: st)) → W p l e R s m args below meth c H locs cells slots Q (F0 m i.1 ls (.int y :: .int x :: st))
theorem rx_bin_ok {i : rx_E} {T : rx_T} {L : List rx_T} {f : Int32 → Int32 → Int32} {k : rx_I → rx_I → List rx_V → Option (List rx_T)} (hpc : T.2.2.2.1 = i.1) (row : rx_Row2 p l e R s m args below meth c Q i f) (h : rx_bin i T f k = some L) (K : ∀ T' ∈ L, rx_Go p l e R s m args below meth c b D A g0 a0 t0 nL Q T')
    (hk : ∀ (x y : rx_I) (sa : List rx_V), k x y sa = some L → ∀ {H : Heap} {locs : List Loc} {ls : Array Slot} {st : List Value}, rx_At b D s A g0 a0 t0 nL T.1 T.2.1 T.2.2.2.2.1 (.inl y :: .inl x :: sa) H locs ls st → ∃ (yv xv : Int32) (st' : List Value), st = .int yv :: .int xv :: st' ∧ W p l e R s m args below meth c H locs T.2.2.1.1 T.2.2.1.2 Q (F0 m (i.1 + i.2.2.1) ls (.int (f xv yv) :: st'))) : rx_Go p l e R s m args below meth c b D A g0 a0 t0 nL Q T := by
  unfold rx_bin at h
  split at h
  · rename_i y x sa hsa
    intro H locs ls st hat
    rw [hpc]
    rw [hsa] at hat
    have other : k x y sa = some L → W p l e R s m args below meth c H locs T.2.2.1.1 T.2.2.1.2 Q (F0 m i.1 ls st) := by
      intro hh
      obtain ⟨yv, xv, st', rfl, hw⟩ := hk x y sa hh hat
      exact row xv yv hw
    split at h
    · rename_i a ha
      split at h
      · rename_i d hd
        rw [rx_z_eq] at h
        obtain ⟨yv, xv, st', g, rfl, hG, hy, hx, hat', -, -⟩ := hat.two
        have e1 := rx_cs_ok hG hx ha
        have e2 := rx_cs_ok hG hy hd
        refine row xv yv (rx_out_ok h K (hat'.push ?_))
        rw [← e1, ← e2, fb_asI, fb_asI]
      · exact other h
    · exact other h
  · cases h
theorem rx_anyk {i : rx_E} {T : rx_T} {L : List rx_T} {f : Int32 → Int32 → Int32} (K : ∀ T' ∈ L, rx_Go p l e R s m args below meth c b D A g0 a0 t0 nL Q T') (x y : rx_I) (sa : List rx_V) (h : rx_any i T sa = some L) {H : Heap} {locs : List Loc} {ls : Array Slot} {st : List Value} (hat : rx_At b D s A g0 a0 t0 nL T.1 T.2.1 T.2.2.2.2.1 (.inl y :: .inl x :: sa) H locs ls st) :
    ∃ (yv xv : Int32) (st' : List Value), st = .int yv :: .int xv :: st' ∧ W p l e R s m args below meth c H locs T.2.2.1.1 T.2.2.1.2 Q (F0 m (i.1 + i.2.2.1) ls (.int (f xv yv) :: st')) := by
  obtain ⟨yv, xv, st', g, rfl, hG, hy, hx, hat', -, -⟩ := hat.two
  exact ⟨yv, xv, st', rfl, rx_any_ok h K hat' _⟩
theorem rx_div_ok {i : rx_E} {T : rx_T} {L : List rx_T} {f : Int32 → Int32 → Int32} (hpc : T.2.2.2.1 = i.1) (row : ∀ {H : Heap} {locs : List Loc} {cells slots : Nat} {ls : Array Slot} {st : List Value} (x y : Int32), ¬ y = 0 → W p l e R s m args below meth c H locs cells slots Q (F0 m (i.1 + i.2.2.1) ls (.int (f x y) :: st)) → W p l e R s m args below meth c H locs cells slots Q (F0 m i.1 ls (.int y :: .int x :: st))) (h : rx_div i T f = some L) (K : ∀ T' ∈ L, rx_Go p l e R s m args below meth c b D A g0 a0 t0 nL Q T') : rx_Go p l e R s m args below meth c b D A g0 a0 t0 nL Q T := by
  unfold rx_div at h
  split at h
  · rename_i y x sa hsa
    intro H locs ls st hat
    rw [hpc]
    rw [hsa] at hat
    obtain ⟨yv, xv, st', g, rfl, hG, hy, hx, hat', -, -⟩ := hat.two
    split at h
    · rename_i d hd
      have e2 := rx_cs_ok hG hy hd
      split at h
      · rename_i hz
        have hne : ¬ yv = 0 := by
          intro q
          rw [q] at e2
          exact rx_ieq_f hz (e2.symm.trans rfl)
        refine row xv yv hne ?_
        split at h
        · rename_i a ha
          rw [rx_z_eq] at h
          have e1 := rx_cs_ok hG hx ha
          refine rx_out_ok h K (hat'.push ?_)
          rw [← e1, ← e2, fb_asI, fb_asI]
        · exact rx_any_ok h K hat' _
      · cases h
    · cases h
  · cases h
theorem rx_sC_ok {i : rx_E} {T : rx_T} {L : List rx_T} (C : rx_Cx p s m args c cc own nL) (hd : rx_dc cc i) (hpc : T.2.2.2.1 = i.1) (h : rx_sC i T = some L) (K : ∀ T' ∈ L, rx_Go p l e R s m args below meth c b D A g0 a0 t0 nL Q T') : rx_Go p l e R s m args below meth c b D A g0 a0 t0 nL Q T := by
  obtain ⟨pc, ins, len, u, w, x, z⟩ := i
  obtain ⟨hx, hb, -⟩ := C
  unfold rx_sC at h
  dsimp only at h
  split at h
  · have hlen := rx_len hd rfl
    subst hlen
    refine rx_bin_ok hpc (fun x y k => lv_iadd hx hb hd.1 k) h K (fun x y sa h => ?_)
    intro H locs ls st hat
    split at h
    · rename_i d hdd
      split at h
      · rename_i hr
        rw [Bool.and_eq_true] at hr
        have r1 := (rx_ile_iff _ _).mp hr.1
        have r2 := (rx_ile_iff _ _).mp hr.2
        rw [rx_z_eq] at h
        obtain ⟨yv, xv, st', g, rfl, hG, hy, hx1, hat', hat2, -⟩ := hat.two
        have e2 := rx_cs_ok hG hy hdd
        have hi := rx_iv_ok hG hx1
        have e : (xv + yv).toInt = xv.toInt + d := by rw [fb_addI (by omega) (by omega), e2]
        refine ⟨yv, xv, st', rfl, rx_out_ok h K (hat2 _ _ ?_)⟩
        obtain ⟨k0, c0⟩ := x
        cases k0 with
        | zero => have hx1 : xv.toInt = c0 := hx1; show (xv + yv).toInt = c0 + d; rw [e, hx1]
        | succ k0 => obtain ⟨y0, h5, h6⟩ := hx1; exact ⟨y0, h5, by rw [e, h6]; dsimp only; omega⟩
      · exact rx_anyk K x y sa h hat
    · split at h
      · rename_i d hdd
        split at h
        · rename_i hr
          rw [Bool.and_eq_true] at hr
          have r1 := (rx_ile_iff _ _).mp hr.1
          have r2 := (rx_ile_iff _ _).mp hr.2
          rw [rx_z_eq] at h
          obtain ⟨yv, xv, st', g, rfl, hG, hy, hx1, hat', hat2, -⟩ := hat.two
          have e2 := rx_cs_ok hG hx1 hdd
          have hi := rx_iv_ok hG hy
          have e : (xv + yv).toInt = yv.toInt + d := by rw [fb_addI (by omega) (by omega), e2, Int.add_comm]
          refine ⟨yv, xv, st', rfl, rx_out_ok h K (hat2 _ _ ?_)⟩
          obtain ⟨k0, c0⟩ := y
          cases k0 with
          | zero => have hy : yv.toInt = c0 := hy; show (xv + yv).toInt = c0 + d; rw [e, hy]
          | succ k0 => obtain ⟨y0, h5, h6⟩ := hy; exact ⟨y0, h5, by rw [e, h6]; dsimp only; omega⟩
        · exact rx_anyk K x y sa h hat
      · exact rx_anyk K x y sa h hat
  · have hlen := rx_len hd rfl
    subst hlen
    refine rx_bin_ok hpc (fun x y k => lv_isub hx hb hd.1 k) h K (fun x y sa h => ?_)
    intro H locs ls st hat
    split at h
    · rename_i d hdd
      split at h
      · rename_i hr
        rw [Bool.and_eq_true] at hr
        have r1 := (rx_ile_iff _ _).mp hr.1
        have r2 := (rx_ile_iff _ _).mp hr.2
        rw [rx_z_eq] at h
        obtain ⟨yv, xv, st', g, rfl, hG, hy, hx1, hat', hat2, -⟩ := hat.two
        have e2 := rx_cs_ok hG hy hdd
        have hi := rx_iv_ok hG hx1
        have e : (xv - yv).toInt = xv.toInt - d := by rw [fb_subI (by omega) (by omega), e2]
        refine ⟨yv, xv, st', rfl, rx_out_ok h K (hat2 _ _ ?_)⟩
        obtain ⟨k0, c0⟩ := x
        cases k0 with
        | zero => have hx1 : xv.toInt = c0 := hx1; show (xv - yv).toInt = c0 - d; rw [e, hx1]
        | succ k0 => obtain ⟨y0, h5, h6⟩ := hx1; exact ⟨y0, h5, by rw [e, h6]; dsimp only; omega⟩
      · exact rx_anyk K x y sa h hat
    · exact rx_anyk K x y sa h hat
  · have hlen := rx_len hd rfl
    subst hlen
    exact rx_bin_ok hpc (fun x y k => lv_imul hx hb hd.1 k) h K (fun x y sa h => rx_anyk K x y sa h)
  · have hlen := rx_len hd rfl
    subst hlen
    exact rx_bin_ok hpc (fun x y k => lv_iand hx hb hd.1 k) h K (fun x y sa h => rx_anyk K x y sa h)
  · have hlen := rx_len hd rfl
    subst hlen
    exact rx_bin_ok hpc (fun x y k => lv_ior hx hb hd.1 k) h K (fun x y sa h => rx_anyk K x y sa h)
  · have hlen := rx_len hd rfl
    subst hlen
    exact rx_bin_ok hpc (fun x y k => lv_ixor hx hb hd.1 k) h K (fun x y sa h => rx_anyk K x y sa h)
  · have hlen := rx_len hd rfl
    subst hlen
    exact rx_bin_ok hpc (fun x y k => lv_ishl hx hb hd.1 k) h K (fun x y sa h => rx_anyk K x y sa h)
  · have hlen := rx_len hd rfl
    subst hlen
    exact rx_bin_ok hpc (fun x y k => lv_ishr hx hb hd.1 k) h K (fun x y sa h => rx_anyk K x y sa h)
  · have hlen := rx_len hd rfl
    subst hlen
    exact rx_bin_ok hpc (fun x y k => lv_iushr hx hb hd.1 rfl k) h K (fun x y sa h => rx_anyk K x y sa h)
  · have hlen := rx_len hd rfl
    subst hlen
    exact rx_div_ok hpc (fun x y hne k => lv_idiv hx hb hd.1 hne k) h K
  · have hlen := rx_len hd rfl
    subst hlen
    exact rx_div_ok hpc (fun x y hne k => lv_irem hx hb hd.1 hne k) h K
  · have hlen := rx_len hd rfl
    subst hlen
    split at h
    · rename_i q sa hsa
      intro H locs ls st hat
      rw [hpc]
      rw [hsa] at hat
      obtain ⟨xv, st', g, rfl, hG, hx1, hat', -, -⟩ := hat.one
      refine lv_i2b hx hb hd.1 rfl ?_
      split at h
      · rename_i a ha
        rw [rx_z_eq] at h
        have e1 := rx_cs_ok hG hx1 ha
        refine rx_out_ok h K (hat'.push ?_)
        rw [← e1, fb_asI]
      · have hr := fb_byte_rng xv
        exact rx_fresh_ok h K hat' _ hr.1 (by omega)
    · cases h
  · have hlen := rx_len hd rfl
    subst hlen
    split at h
    · rename_i q sa hsa
      intro H locs ls st hat
      rw [hpc]
      rw [hsa] at hat
      obtain ⟨xv, st', g, rfl, hG, hx1, hat', hat2, -⟩ := hat.one
      refine lv_i2l hx hb hd.1 rfl (rx_out_ok h K (hat2 q _ ?_))
      rw [Int32.toInt_toInt64]
      exact hx1
    · cases h
  · cases h
end RXB
