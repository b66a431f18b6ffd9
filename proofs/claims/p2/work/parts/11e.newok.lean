section RXN2
variable {p : Program} {l : Launch} {e : Env} {R : Room} {s : State} {m : MethodId} {args : Array Value} {below : List Frame} {meth : Method} {c : Code} {b : (Nat → Option Nat) × List Int} {D : va_G} {A : Nat → Prop} {g0 : List Int} {a0 : List Nat} {t0 : List (ClassId × FieldType)} {nL : Nat} {Q : State → Prop} {cc : ByteArray} {own : String}
theorem rx_rb_ok {i : rx_E} {T : rx_T} {L : List rx_T} {f : Int × Int → Int × Int → Option (Int × Int)} {gg : Bool → Bool → Bool} {op : Int32 → Int32 → Int32} (hpc : T.2.2.2.1 = i.1) (hf : rx_Rok f op)
    (row : ∀ {H : Heap} {locs : List Loc} {cells slots : Nat} {ls : Array Slot} {st : List Value} (ix iy : Int × Int) (r : Int × Int) (x y : Int32), f ix iy = some r → iy.1 ≤ y.toInt ∧ y.toInt ≤ iy.2 → W p l e R s m args below meth c H locs cells slots Q (F0 m (i.1 + i.2.2.1) ls (.int (op x y) :: st)) → W p l e R s m args below meth c H locs cells slots Q (F0 m i.1 ls (.int y :: .int x :: st)))
    (h : rx_rb i T f gg = some L) (K : ∀ T' ∈ L, rx_Go p l e R s m args below meth c b D A g0 a0 t0 nL Q T') : rx_Go p l e R s m args below meth c b D A g0 a0 t0 nL Q T := by
  unfold rx_rb at h
  split at h
  · rename_i y x sa hsa
    split at h
    · cases h
    · split at h
      · rename_i r hr
        rw [rx_z_eq, rx_z_eq] at h
        intro H locs ls st hat
        rw [hpc]
        rw [hsa] at hat
        obtain ⟨yv, xv, st', g, rfl, hG, hy, hx, hat', -, -⟩ := hat.two
        have ix := rx_iv_ok hG hx
        have iy := rx_iv_ok hG hy
        have hb := hf _ _ r xv yv hr ix iy
        exact row _ _ r xv yv hr iy (rx_fresh_ok h K hat' (op xv yv) hb.1 hb.2)
      · cases h
  · cases h
theorem rx_freshL_ok {i : rx_E} {T : rx_T} {L : List rx_T} {sa : List rx_V} {lo hi : Int} (h : rx_frL i T sa lo hi = some L) (K : ∀ T' ∈ L, rx_Go p l e R s m args below meth c b D A g0 a0 t0 nL Q T')
    {H : Heap} {locs : List Loc} {ls : Array Slot} {st : List Value} (hat : rx_At b D s A g0 a0 t0 nL T.1 T.2.1 T.2.2.2.2.1 sa H locs ls st) (v : Int64) (h1 : lo ≤ v.toInt) (h2 : v.toInt ≤ hi) :
    W p l e R s m args below meth c H locs T.2.2.1.1 T.2.2.1.2 Q (F0 m (i.1 + i.2.2.1) ls (.long v :: st)) := by
  unfold rx_frL at h
  rw [rx_fr_eq] at h
  unfold rx_out at h
  cases h
  obtain ⟨g, tys, ws, lv, hE, hG, hH, hK, hP, hD, hS, hl, hv, hst⟩ := hat
  have hg : rx_le g (g ++ [v.toInt]) := rx_le.app _
  refine K _ (List.mem_singleton.mpr rfl) H locs ls (.long v :: st) ⟨g ++ [v.toInt], tys, ws, lv, ⟨hE.1.tr hg, hE.2⟩, hG.push h1 h2, hH.mono hg (fun _ q => q), hK, hP, hD, hS, hl.mono rx_le.rf hg, hv, ⟨v, rfl, v.toInt, ?_, ?_⟩, hst.mono rx_le.rf hg⟩
  · rw [← hG.1.1]
    exact rx_snocg g _
  · omega
theorem rx_r64 (v : Int64) : -9223372036854775808 ≤ v.toInt ∧ v.toInt ≤ 9223372036854775807 := by
  have h1 := Int64.le_toInt v
  have h2 := Int64.toInt_lt v
  omega
/-- two longs on the stack -/
theorem rx_At.two64 {sy : rx_Y} {h : List rx_C} {lc : rx_L} {x y : rx_I} {sa : List rx_V} {H : Heap} {locs : List Loc} {ls : Array Slot} {st : List Value} (hat : rx_At b D s A g0 a0 t0 nL sy h lc (.inr (.inl y) :: .inr (.inl x) :: sa) H locs ls st) :
    ∃ (yv xv : Int64) (st' : List Value) (g : List Int), st = .long yv :: .long xv :: st' ∧ rx_g sy g ∧ rx_ev g y yv.toInt ∧ rx_ev g x xv.toInt ∧ rx_At b D s A g0 a0 t0 nL sy h lc sa H locs ls st' ∧
      (∀ (q : rx_I) (v : Int64), rx_ev g q v.toInt → rx_At b D s A g0 a0 t0 nL sy h lc (.inr (.inl q) :: sa) H locs ls (.long v :: st')) ∧ (∀ (sy' : rx_Y) (z : Int) (v : Int32), rx_g sy' g → v.toInt = z → rx_At b D s A g0 a0 t0 nL sy' h lc (.inl (0, z) :: sa) H locs ls (.int v :: st')) := by
  obtain ⟨g, tys, ws, lv, hE, hG, hH, hK, hP, hD, hS, hl, hv, hst⟩ := hat
  obtain ⟨v1, w1, rfl, ⟨yv, rfl, hy⟩, hst1⟩ := rx_vs_cons hst
  obtain ⟨v2, w, rfl, ⟨xv, rfl, hx⟩, hst2⟩ := rx_vs_cons hst1
  clear hst hst1
  have hst := hst2
  exact ⟨yv, xv, w, g, rfl, hG, hy, hx, ⟨g, tys, ws, lv, hE, hG, hH, hK, hP, hD, hS, hl, hv, hst⟩, fun q v hq => ⟨g, tys, ws, lv, hE, hG, hH, hK, hP, hD, hS, hl, hv, ⟨v, rfl, hq⟩, hst⟩, fun sy' z v h' hz => ⟨g, tys, ws, lv, hE, h', hH, hK, hP, hD, hS, hl, hv, ⟨v, rfl, hz⟩, hst⟩⟩
theorem rx_as64 (x : Int64) : Int64.ofInt x.toInt = x := Int64.ofInt_toInt x
theorem rx_lany_ok {i : rx_E} {T : rx_T} {L : List rx_T} {f : Int64 → Int64 → Int64} (hpc : T.2.2.2.1 = i.1)
    (row : ∀ {H : Heap} {locs : List Loc} {cells slots : Nat} {ls : Array Slot} {st : List Value} (x y : Int64), W p l e R s m args below meth c H locs cells slots Q (F0 m (i.1 + i.2.2.1) ls (.long (f x y) :: st)) → W p l e R s m args below meth c H locs cells slots Q (F0 m i.1 ls (.long y :: .long x :: st)))
    (h : rx_lany i T f = some L) (K : ∀ T' ∈ L, rx_Go p l e R s m args below meth c b D A g0 a0 t0 nL Q T') : rx_Go p l e R s m args below meth c b D A g0 a0 t0 nL Q T := by
  unfold rx_lany at h
  split at h
  · rename_i y x sa hsa
    rw [rx_z_eq] at h
    intro H locs ls st hat
    rw [hpc]
    rw [hsa] at hat
    obtain ⟨yv, xv, st', g, rfl, hG, hy, hx, hat', hat2, -⟩ := hat.two64
    have ex : xv.toInt = x := hx
    have ey : yv.toInt = y := hy
    refine row xv yv (rx_out_ok h K (hat2 _ _ ?_))
    show (f xv yv).toInt = _
    rw [← ex, ← ey, rx_as64, rx_as64]
  · rename_i y x sa hsa
    intro H locs ls st hat
    rw [hpc]
    rw [hsa] at hat
    obtain ⟨yv, xv, st', g, rfl, hG, hy, hx, hat', hat2, -⟩ := hat.two64
    have r := rx_r64 (f xv yv)
    exact row xv yv (rx_freshL_ok h K hat' (f xv yv) r.1 r.2)
  · cases h
theorem rx_div64 {x y : Int64} (hy : 1 ≤ y.toInt) : (x / y).toInt = x.toInt.tdiv y.toInt := by
  have h1 := rx_r64 x
  have h2 : (x.toInt.tdiv y.toInt).natAbs ≤ x.toInt.natAbs := by
    rw [Int.natAbs_tdiv]
    exact Nat.div_le_self _ _
  have h3 : x.toInt.tdiv y.toInt ≤ 9223372036854775807 := by
    rcases (show 0 ≤ x.toInt ∨ x.toInt < 0 by omega) with q | q
    · omega
    · have e1 : x.toInt.tdiv y.toInt = -((-x.toInt).tdiv y.toInt) := by rw [Int.neg_tdiv]; omega
      have e2 := Int.tdiv_nonneg (show 0 ≤ -x.toInt by omega) (show 0 ≤ y.toInt by omega)
      omega
  rw [Int64.toInt_div, Int.bmod_eq_of_le (by omega) (by omega)]
theorem rx_rem64 {x y : Int64} (hy : 1 ≤ y.toInt) : (x - x / y * y).toInt = x.toInt.tmod y.toInt := by
  have h1 := rx_r64 x
  have hd := rx_div64 (x := x) hy
  have h2 := Int.tdiv_mul_add_tmod x.toInt y.toInt
  have h5 : 0 ≤ x.toInt → 0 ≤ x.toInt.tmod y.toInt ∧ x.toInt.tmod y.toInt ≤ x.toInt := fun q => by
    have q1 := Int.tmod_nonneg y.toInt q
    have q2 : 0 ≤ x.toInt.tdiv y.toInt * y.toInt := Int.mul_nonneg (Int.tdiv_nonneg q (by omega)) (by omega)
    omega
  have h6 : x.toInt < 0 → x.toInt.tmod y.toInt ≤ 0 ∧ x.toInt ≤ x.toInt.tmod y.toInt := fun q => by
    have e1 : x.toInt.tmod y.toInt = -((-x.toInt).tmod y.toInt) := by rw [Int.neg_tmod]; omega
    have q1 := Int.tmod_nonneg y.toInt (show 0 ≤ -x.toInt by omega)
    have q2 : 0 ≤ (-x.toInt).tdiv y.toInt * y.toInt := Int.mul_nonneg (Int.tdiv_nonneg (by omega) (by omega)) (by omega)
    have q3 := Int.tdiv_mul_add_tmod (-x.toInt) y.toInt
    omega
  have h7 : -9223372036854775808 ≤ x.toInt.tdiv y.toInt * y.toInt ∧ x.toInt.tdiv y.toInt * y.toInt ≤ 9223372036854775807 := by
    rcases (show 0 ≤ x.toInt ∨ x.toInt < 0 by omega) with q | q
    · have := h5 q; omega
    · have := h6 q; omega
  have hm : (x / y * y).toInt = x.toInt.tdiv y.toInt * y.toInt := by
    rw [Int64.toInt_mul, hd, Int.bmod_eq_of_le (by omega) (by omega)]
  have h8 : -9223372036854775808 ≤ x.toInt.tmod y.toInt ∧ x.toInt.tmod y.toInt ≤ 9223372036854775807 := by
    rcases (show 0 ≤ x.toInt ∨ x.toInt < 0 by omega) with q | q
    · have := h5 q; omega
    · have := h6 q; omega
  rw [Int64.toInt_sub, hm, Int.bmod_eq_of_le (by omega) (by omega)]
  omega
theorem rx_ne64 {y : Int64} {a : Int} (hy : y.toInt = a) (h : 1 ≤ a) : ¬ y = 0 := fun q => by
  rw [q] at hy
  have : (0 : Int64).toInt = 0 := rfl
  omega
theorem rx_ldv_ok {i : rx_E} {T : rx_T} {L : List rx_T} (hpc : T.2.2.2.1 = i.1)
    (row : ∀ {H : Heap} {locs : List Loc} {cells slots : Nat} {ls : Array Slot} {st : List Value} (x y : Int64), ¬ y = 0 → W p l e R s m args below meth c H locs cells slots Q (F0 m (i.1 + i.2.2.1) ls (.long (x / y) :: st)) → W p l e R s m args below meth c H locs cells slots Q (F0 m i.1 ls (.long y :: .long x :: st)))
    (h : rx_ldv i T = some L) (K : ∀ T' ∈ L, rx_Go p l e R s m args below meth c b D A g0 a0 t0 nL Q T') : rx_Go p l e R s m args below meth c b D A g0 a0 t0 nL Q T := by
  unfold rx_ldv at h
  split at h
  · rename_i y x sa hsa
    split at h
    · rename_i hy1
      have hy1 := rx_iok hy1
      intro H locs ls st hat
      rw [hpc]
      rw [hsa] at hat
      obtain ⟨yv, xv, st', g, rfl, hG, hy, hx, hat', hat2, -⟩ := hat.two64
      have ey : yv.toInt = y := hy
      refine row xv yv (rx_ne64 ey hy1.1) ?_
      split at h
      · rename_i hx1
        rw [Bool.and_eq_true] at hx1
        have r1 := (rx_ile_iff _ _).mp hx1.1
        rw [rx_z_eq, rx_z_eq] at h
        have ix := rx_iv_ok hG hx
        have e1 : (xv / yv).toInt = xv.toInt / y := by
          rw [rx_div64 (by omega), Int.tdiv_eq_ediv_of_nonneg (by omega), ey]
        refine rx_freshL_ok h K hat' (xv / yv) ?_ ?_
        · rw [e1]; exact Int.ediv_le_ediv (by omega) ix.1
        · rw [e1]; exact Int.ediv_le_ediv (by omega) ix.2
      · have r := rx_r64 (xv / yv)
        exact rx_freshL_ok h K hat' _ r.1 r.2
    · cases h
  · cases h
theorem rx_lrm_ok {i : rx_E} {T : rx_T} {L : List rx_T} (hpc : T.2.2.2.1 = i.1)
    (row : ∀ {H : Heap} {locs : List Loc} {cells slots : Nat} {ls : Array Slot} {st : List Value} (x y : Int64), ¬ y = 0 → W p l e R s m args below meth c H locs cells slots Q (F0 m (i.1 + i.2.2.1) ls (.long (x - x / y * y) :: st)) → W p l e R s m args below meth c H locs cells slots Q (F0 m i.1 ls (.long y :: .long x :: st)))
    (h : rx_lrm i T = some L) (K : ∀ T' ∈ L, rx_Go p l e R s m args below meth c b D A g0 a0 t0 nL Q T') : rx_Go p l e R s m args below meth c b D A g0 a0 t0 nL Q T := by
  unfold rx_lrm at h
  split at h
  · rename_i y x sa hsa
    split at h
    · rename_i hy1
      have hy1 := rx_iok hy1
      intro H locs ls st hat
      rw [hpc]
      rw [hsa] at hat
      obtain ⟨yv, xv, st', g, rfl, hG, hy, hx, hat', hat2, -⟩ := hat.two64
      have ey : yv.toInt = y := hy
      refine row xv yv (rx_ne64 ey hy1.1) ?_
      have e1 : (xv - xv / yv * yv).toInt = xv.toInt.tmod y := by rw [rx_rem64 (by omega), ey]
      split at h
      · rename_i a ha
        have e2 := rx_cs_ok hG hx ha
        rw [rx_z_eq] at h
        refine rx_out_ok h K (hat2 _ _ ?_)
        show _ = a.tmod y
        rw [e1, e2]
      · rw [rx_z_eq, rx_z_eq] at h
        have h3 := Int.tmod_lt_of_pos xv.toInt (show 0 < y by omega)
        have h4 := Int.lt_tmod_of_pos xv.toInt (show 0 < y by omega)
        exact rx_freshL_ok h K hat' _ (by rw [e1]; omega) (by rw [e1]; omega)
    · cases h
  · cases h
theorem rx_lsh_ok {i : rx_E} {T : rx_T} {L : List rx_T} {f : Int64 → Int32 → Int64} (hpc : T.2.2.2.1 = i.1)
    (row : ∀ {H : Heap} {locs : List Loc} {cells slots : Nat} {ls : Array Slot} {st : List Value} (x : Int64) (y : Int32), W p l e R s m args below meth c H locs cells slots Q (F0 m (i.1 + i.2.2.1) ls (.long (f x y) :: st)) → W p l e R s m args below meth c H locs cells slots Q (F0 m i.1 ls (.int y :: .long x :: st)))
    (h : rx_lsh i T = some L) (K : ∀ T' ∈ L, rx_Go p l e R s m args below meth c b D A g0 a0 t0 nL Q T') : rx_Go p l e R s m args below meth c b D A g0 a0 t0 nL Q T := by
  unfold rx_lsh at h
  split at h
  · rename_i y x sa hsa
    intro H locs ls st hat
    rw [hpc]
    rw [hsa] at hat
    obtain ⟨g, tys, ws, lv, hE, hG, hH, hK, hP, hD, hS, hl, hv, hst⟩ := hat
    obtain ⟨v1, w1, rfl, ⟨yv, rfl, hy⟩, hst1⟩ := rx_vs_cons hst
    obtain ⟨v2, w, rfl, ⟨xv, rfl, hx⟩, hst2⟩ := rx_vs_cons hst1
    have r := rx_r64 (f xv yv)
    exact row xv yv (rx_freshL_ok h K ⟨g, tys, ws, lv, hE, hG, hH, hK, hP, hD, hS, hl, hv, hst2⟩ _ r.1 r.2)
  · cases h
theorem rx_lcp_ok {i : rx_E} {T : rx_T} {L : List rx_T} (hpc : T.2.2.2.1 = i.1)
    (row : ∀ {H : Heap} {locs : List Loc} {cells slots : Nat} {ls : Array Slot} {st : List Value} (x y : Int64), W p l e R s m args below meth c H locs cells slots Q (F0 m (i.1 + i.2.2.1) ls (.int (lg_cmp x y) :: st)) → W p l e R s m args below meth c H locs cells slots Q (F0 m i.1 ls (.long y :: .long x :: st)))
    (h : rx_lcp i T = some L) (K : ∀ T' ∈ L, rx_Go p l e R s m args below meth c b D A g0 a0 t0 nL Q T') : rx_Go p l e R s m args below meth c b D A g0 a0 t0 nL Q T := by
  unfold rx_lcp at h
  split at h
  · rename_i y x sa hsa
    cases h
    intro H locs ls st hat
    rw [hpc]
    rw [hsa] at hat
    obtain ⟨yv, xv, st', g, rfl, hG, hy, hx, hat', -, hat3⟩ := hat.two64
    refine row xv yv ?_
    have done : ∀ (d : Jvm.ClassFile.Cond) (z : Int) (v : Int32), rx_hp d xv.toInt yv.toInt → v.toInt = z → (∀ T' ∈ rx_to T (i.1 + i.2.2.1) (.inl (0, z) :: sa) (rx_br d T.1 x y), rx_Go p l e R s m args below meth c b D A g0 a0 t0 nL Q T') → W p l e R s m args below meth c H locs T.2.2.1.1 T.2.2.1.2 Q (F0 m (i.1 + i.2.2.1) ls (.int v :: st')) := by
      intro d z v h1 h2 K2
      obtain ⟨sy', h3, h4⟩ := rx_br_ok d hG hx hy h1
      exact K2 (sy', T.2.1, T.2.2.1, i.1 + i.2.2.1, T.2.2.2.2.1, .inl (0, z) :: sa) (List.mem_map.mpr ⟨sy', h3, rfl⟩) H locs ls _ (hat3 sy' z v h4 h2)
    unfold lg_cmp
    by_cases hgt : xv > yv
    · rw [if_pos hgt]
      exact done .gt 1 1 (Int64.lt_iff_toInt_lt.mp hgt) rfl (fun T' h' => K T' (List.mem_append_right _ (List.mem_append_right _ h')))
    · rw [if_neg hgt]
      by_cases heq : xv = yv
      · rw [if_pos heq]
        exact done .eq 0 0 (by rw [heq]; rfl) rfl (fun T' h' => K T' (List.mem_append_right _ (List.mem_append_left _ h')))
      · rw [if_neg heq]
        refine done .lt (-1) (-1) ?_ rfl (fun T' h' => K T' (List.mem_append_left _ h'))
        show xv.toInt < yv.toInt
        have h1 : ¬ yv.toInt < xv.toInt := fun q => hgt (Int64.lt_iff_toInt_lt.mpr q)
        have h2 : ¬ xv.toInt = yv.toInt := fun q => heq (Int64.toInt_inj.mp q)
        omega
  · cases h
theorem rx_l2_ok {i : rx_E} {T : rx_T} {L : List rx_T} (hpc : T.2.2.2.1 = i.1)
    (row : ∀ {H : Heap} {locs : List Loc} {cells slots : Nat} {ls : Array Slot} {st : List Value} (x : Int64), W p l e R s m args below meth c H locs cells slots Q (F0 m (i.1 + i.2.2.1) ls (.int x.toInt32 :: st)) → W p l e R s m args below meth c H locs cells slots Q (F0 m i.1 ls (.long x :: st)))
    (h : rx_l2 i T = some L) (K : ∀ T' ∈ L, rx_Go p l e R s m args below meth c b D A g0 a0 t0 nL Q T') : rx_Go p l e R s m args below meth c b D A g0 a0 t0 nL Q T := by
  unfold rx_l2 at h
  split at h
  · rename_i x sa hsa
    intro H locs ls st hat
    rw [hpc]
    rw [hsa] at hat
    obtain ⟨g, tys, ws, lv, hE, hG, hH, hK, hP, hD, hS, hl, hv, hst⟩ := hat
    obtain ⟨v1, w1, rfl, ⟨xv, rfl, hx⟩, hst1⟩ := rx_vs_cons hst
    refine row xv ?_
    split at h
    · rename_i hr
      rw [Bool.and_eq_true] at hr
      have r1 := (rx_ile_iff _ _).mp hr.1
      have r2 := (rx_ile_iff _ _).mp hr.2
      have ix := rx_iv_ok hG hx
      cases h
      have e1 : xv.toInt32.toInt = xv.toInt := by
        rw [Int64.toInt_toInt32, fb_bmod (by omega) (by omega)]
      exact K _ (List.mem_singleton.mpr rfl) H locs ls _ ⟨g, tys, ws, lv, hE, hG, hH, hK, hP, hD, hS, hl, hv, ⟨_, rfl, by rw [e1]; exact hx⟩, hst1⟩
    · exact rx_any_ok h K ⟨g, tys, ws, lv, hE, hG, hH, hK, hP, hD, hS, hl, hv, hst1⟩ _
  · cases h
theorem rx_negI {x : Int32} (h : -2147483648 < x.toInt) : (-x).toInt = -x.toInt := by
  have h1 := fb_rng x
  rw [Int32.toInt_neg, fb_bmod (by omega) (by omega)]
theorem rx_ng_ok {i : rx_E} {T : rx_T} {L : List rx_T} (hpc : T.2.2.2.1 = i.1)
    (row : ∀ {H : Heap} {locs : List Loc} {cells slots : Nat} {ls : Array Slot} {st : List Value} (x : Int32), W p l e R s m args below meth c H locs cells slots Q (F0 m (i.1 + i.2.2.1) ls (.int (-x) :: st)) → W p l e R s m args below meth c H locs cells slots Q (F0 m i.1 ls (.int x :: st)))
    (h : rx_ng i T = some L) (K : ∀ T' ∈ L, rx_Go p l e R s m args below meth c b D A g0 a0 t0 nL Q T') : rx_Go p l e R s m args below meth c b D A g0 a0 t0 nL Q T := by
  unfold rx_ng at h
  split at h
  · rename_i x sa hsa
    intro H locs ls st hat
    rw [hpc]
    rw [hsa] at hat
    obtain ⟨xv, st', g, rfl, hG, hx, hat', -, -⟩ := hat.one
    refine row xv ?_
    split at h
    · rename_i hr
      have r1 := (rx_ile_iff _ _).mp hr
      have ix := rx_iv_ok hG hx
      have e1 := rx_negI (x := xv) (by omega)
      split at h
      · rename_i a ha
        have e2 := rx_cs_ok hG hx ha
        rw [rx_z_eq] at h
        exact rx_out_ok h K (hat'.push (by rw [e1, e2]))
      · rw [rx_z_eq, rx_z_eq] at h
        exact rx_fresh_ok h K hat' _ (by rw [e1]; omega) (by rw [e1]; omega)
    · exact rx_any_ok h K hat' _
  · cases h
theorem rx_sub0_ok {i : rx_E} {T : rx_T} {L : List rx_T} (hpc : T.2.2.2.1 = i.1) (row : rx_Row2 p l e R s m args below meth c Q i (fun x y => x - y))
    (h : rx_sub0 i T = some L) (K : ∀ T' ∈ L, rx_Go p l e R s m args below meth c b D A g0 a0 t0 nL Q T') : rx_Go p l e R s m args below meth c b D A g0 a0 t0 nL Q T := by
  unfold rx_sub0 at h
  split at h
  · rename_i k cx j dx sa hsa
    split at h
    · rename_i hr
      rw [Bool.and_eq_true] at hr
      have hkj := Nat.eq_of_beq_eq_true hr.1
      have r := rx_iok hr.2
      subst hkj
      rw [rx_z_eq] at h
      intro H locs ls st hat
      rw [hpc]
      rw [hsa] at hat
      obtain ⟨yv, xv, st', g, rfl, hG, hy, hx, hat', -, -⟩ := hat.two
      refine row xv yv (rx_out_ok h K (hat'.push ?_))
      obtain ⟨y1, h1, h2⟩ := hy
      obtain ⟨y2, h3, h4⟩ := hx
      rw [h1] at h3
      cases h3
      rw [fb_subI (by omega) (by omega)]
      omega
    · cases h
  · cases h
theorem rx_ldR_ok {i : rx_E} {T : rx_T} {L : List rx_T} {k : Nat → Bool} (hpc : T.2.2.2.1 = i.1)
    (row : ∀ {H : Heap} {locs : List Loc} {cells slots : Nat} {ls : Array Slot} {st : List Value} {g : List Int} {ws : va_W} {tys : List (ClassId × FieldType)} {r t9 o t n : Nat} {ex : List rx_V} {df : rx_V} {cA : ClassId} {a : rx_B} {xv : Int32}, k t = true → va_K D vwCl tys s → va_P D vwCl ws H → ws[r]? = some (o, .inl (cA, n, a)) → rx_aR g t n ex df a → tys[t9]? = some (cA, rx_ty0 t) → vp_in xv n → W p l e R s m args below meth c H locs cells slots Q (F0 m (i.1 + i.2.2.1) ls (rx_bv a xv.toNatClampNeg :: st)) → W p l e R s m args below meth c H locs cells slots Q (F0 m i.1 ls (.int xv :: .ref o :: st)))
    (h : rx_ldR i T k = some L) (K : ∀ T' ∈ L, rx_Go p l e R s m args below meth c b D A g0 a0 t0 nL Q T') : rx_Go p l e R s m args below meth c b D A g0 a0 t0 nL Q T := by
  unfold rx_ldR at h
  split at h
  · rename_i q r sa hsa
    rw [rx_nth_eq] at h
    split at h
    · rename_i t n ex df hr
      split at h
      · rename_i hk
        rw [Bool.and_eq_true] at hk
        have ht := Nat.le_of_ble_eq_true hk.1
        have ht0 : rx_ty t = rx_ty0 (t - 1000) := by
          rw [← rx_ty_hi, Nat.sub_add_cancel ht]
        have ht2 : ∀ {as : List Nat} {g : List Int} {ex : List rx_V} {a : rx_B}, rx_a b as g t n ex df a = rx_aR g (t - 1000) n ex df a := rx_a_hi ht
        generalize t - 1000 = t1 at h hk ht0 ht2
        split at h
        · rename_i lo hi hix
          intro H locs ls st hat
          rw [hpc]
          obtain ⟨g, tys, ws, lv, hE, hG, hH, hK, hP, hD, hS, hl, hv, hst⟩ := hat
          rw [hsa] at hst
          obtain ⟨v, st', rfl, ⟨xv, rfl, hq⟩, hst1⟩ := rx_vs_cons hst
          obtain ⟨v0, st', rfl, ⟨o, ho, rfl⟩, hst2⟩ := rx_vs_cons hst1
          clear hst hst1
          have hst := hst2
          obtain ⟨cA, xa, t9, hws, htys, hxa⟩ := hH.arr hr ho
          rw [ht2] at hxa
          obtain ⟨i1, i2, i3, i4, i5⟩ := rx_idx_ok hG hq hix
          have hty : tys[t9]? = some (cA, rx_ty0 t1) := by
            rw [← ht0]
            exact htys
          refine row hk.2 hK hP hws hxa hty i5 ?_
          generalize xv.toNatClampNeg = j at i1 i2 i3 i4 ⊢
          have hrv := rx_aR_at hxa i3
          split at h
          · rename_i hlh
            have hlh := Nat.eq_of_beq_eq_true hlh
            subst hlh
            obtain rfl : j = lo := by omega
            split at h
            · rename_i v hv1
              cases h
              rw [hv1] at hrv
              exact K _ (List.mem_singleton.mpr rfl) H locs ls _ ⟨g, tys, ws, lv, hE, hG, hH, hK, hP, hD, hS, hl, hv, rx_wr_ok hxa hrv, hst⟩
            · rename_i v hv1
              rw [rx_z_eq, rx_z_eq, rx_fr_eq] at h
              have hb := rx_evb_ok hG hrv
              have hg : rx_le g (g ++ [rx_bz xa j]) := rx_le.app _
              have hu3 : ∃ ex', (∀ i, rx_el ex' df i = if i = j then .inl (T.1.1.length + 1, 0) else rx_el ex df i) ∧ L = [((T.1.1 ++ [((rx_evb T.1 (rx_el ex df j)).1, (rx_evb T.1 (rx_el ex df j)).2)], T.1.2), T.2.1.set r (.inr (t, n, ex', df)), T.2.2.1, i.1 + i.2.2.1, T.2.2.2.2.1, rx_wr t1 (T.1.1.length + 1, 0) :: sa)] := by
                obtain ⟨ex', q1, q2⟩ := rx_ups_ok df ex j (.inl (T.1.1.length + 1, 0)) (fun ex' => rx_setR T.2.1 r (.inr (t, n, ex', df)) (fun h => some [(((T.1.1 ++ [((rx_evb T.1 (rx_el ex df j)).1, (rx_evb T.1 (rx_el ex df j)).2)], T.1.2), h, T.2.2.1, i.1 + i.2.2.1, T.2.2.2.2.1, rx_wr t1 (T.1.1.length + 1, 0) :: sa) : rx_T)]))
                refine ⟨ex', q2, ?_⟩
                have h' := q1.symm.trans h
                rw [rx_setR_eq] at h'
                cases h'
                rfl
              obtain ⟨ex2, hel, rfl⟩ := hu3
              have hnew : rx_ev (g ++ [rx_bz xa j]) (T.1.1.length + 1, 0) (rx_bz xa j) := ⟨rx_bz xa j, by rw [← hG.1.1]; exact rx_snocg g _, by omega⟩
              have hcc : rx_c b (ws.map Prod.fst) (g ++ [rx_bz xa j]) tys (.inr (t, n, ex2, df)) (.inl (cA, n, xa)) := by
                refine ⟨rfl, List.mem_of_getElem? htys, ?_⟩
                rw [ht2]
                have key : ∀ i, i < n → rx_rv (g ++ [rx_bz xa j]) (rx_el ex2 df i) (rx_bz xa i) := by
                  intro i hi
                  rw [hel i]
                  by_cases hij : i = j
                  · subst hij
                    rw [if_pos rfl]
                    exact hnew
                  · rw [if_neg hij]
                    exact (rx_aR_at hxa hi).mono hg
                rcases xa with f | f | f | f | f
                · exact ⟨hxa.1, key⟩
                · exact ⟨hxa.1, key⟩
                · exact hxa.elim
                · exact hxa.elim
                · exact hxa.elim
              have hwss : ws.set r (o, .inl (cA, n, xa)) = ws := by
                refine List.ext_getElem? fun i' => ?_
                by_cases hi' : i' = r
                · subst hi'
                  rw [List.getElem?_set_self (List.getElem?_eq_some_iff.mp hws).1, hws]
                · rw [List.getElem?_set_ne (Ne.symm hi')]
              have hat2 := rx_setc (b := b) (D := D) (s := s) (A := A) (g0 := g0) (a0 := a0) (t0 := t0) (nL := nL) ⟨hE.1.tr hg, hE.2⟩ (hG.push hb.1 hb.2) (hH.mono hg (fun _ q => q)) hK (hl.mono rx_le.rf hg) hv (show rx_vs b (ws.map Prod.fst) (g ++ [rx_bz xa j]) (rx_wr t1 (T.1.1.length + 1, 0) :: sa) (rx_bv xa j :: st') from ⟨rx_wr_ok hxa hnew, hst.mono rx_le.rf hg⟩) hws hcc (by rw [hwss]; exact hP) (by rw [hwss]; exact hD) hS
              exact K _ (List.mem_singleton.mpr rfl) H locs ls _ hat2
          · obtain ⟨o1, q1, q2⟩ := rx_hul_ok T.1 (rx_win ex df lo hi) (fun o => match o with
              | some r => rx_fr T.1 r.1 r.2 (fun s p => rx_out i T sa s (rx_wr t1 p))
              | none => none)
            have h := q1.symm.trans h
            obtain ⟨r1, rfl, q3, q4⟩ := q2 _ (rx_win_ok i1 i2)
            have hb := rx_evb_ok hG hrv
            dsimp only at h
            rw [rx_fr_eq] at h
            unfold rx_out at h
            cases h
            have hg : rx_le g (g ++ [rx_bz xa j]) := rx_le.app _
            refine K _ (List.mem_singleton.mpr rfl) H locs ls _ ⟨g ++ [rx_bz xa j], tys, ws, lv, ⟨hE.1.tr hg, hE.2⟩, hG.push (show r1.1 ≤ _ by omega) (show _ ≤ r1.2 by omega), hH.mono hg (fun _ q => q), hK, hP, hD, hS, hl.mono rx_le.rf hg, hv, rx_wr_ok hxa ⟨rx_bz xa j, by rw [← hG.1.1]; exact rx_snocg g _, by omega⟩, hst.mono rx_le.rf hg⟩
        · cases h
      · cases h
    · cases h
  · cases h
end RXN2
