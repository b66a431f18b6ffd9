/-! ===== one turn of the law ===== -/
noncomputable def la_r0 : rx_V := .inr (.inr (.inl (some 0)))
noncomputable def la_r1 : rx_V := .inr (.inr (.inl (some 2)))
noncomputable def la_lk (q1 q2 : rx_I) : rx_L := rx_args 0 [la_r0, .inl q1, .inl q2, la_r1]
noncomputable def rx_dO : DecidableEq (Option (List rx_T)) := have _i : DecidableEq rx_T := rx_dT; inferInstance
noncomputable def la_cont (KT : List rx_KE) (pc : Nat) (lc : rx_L) (o : rx_T) : Bool := match rx_lrun KT 266 807 806 808 6 [23] 2000 20 (o.1, o.2.1, (1, 6), pc, lc, o.2.2.2.2.2) with
  | some L => L.all (rs_hdB la_S la_cps la_sps 807 806)
  | none => false
noncomputable def la_bk (KX : List rx_KE) (ML : rx_Md) (lk : rx_L) (o : rx_T) : Option (List rx_T) := rx_go rx_NW (rx_fcall rx_NW rx_MT (rx_ext rx_MT KX) 2000 (40 + 1)) ML [] 2000 o.1 o.2.1 (1, 6) 8 lk (o.2.2.2.2.2 ++ [.inl (0, 0), la_r1])
noncomputable def la_back (KX KT : List rx_KE) (ML : rx_Md) (lk : rx_L) (pc : Nat) (lc : rx_L) (o : rx_T) : Bool := match la_bk KX ML lk o with
  | some Lo => Lo.all (fun T => (Nat.ble T.2.2.1.1 1 && Nat.ble T.2.2.1.2 6) && la_cont KT pc lc T)
  | none => false
noncomputable def la_is9 (h : List rx_C) : Bool := match h with
  | (Sum.inl (9, _)) :: _ => true
  | _ => false
theorem la_is9_ok {h : List rx_C} (q : la_is9 h = true) : ∃ fs, h[0]? = some (.inl (9, fs)) := by
  unfold la_is9 at q
  split at q
  · exact ⟨_, rfl⟩
  · cases q
noncomputable def la_keyB (KX KT : List rx_KE) (MX ML : rx_Md) (sites : List Nat) (pc : Nat) (sy : rx_Y) (h : List rx_C) (lc : rx_L) (q1 q2 : rx_I) : Bool :=
  la_is9 h && (@decide (rx_go rx_NW (rx_fcall rx_NW rx_MT (rx_ext rx_MT KX) 2000 (40 + 1)) ML [5] 2000 sy h (0, 0) 0 (la_lk q1 q2) [] = some [(sy, h, (0, 0), 5, la_lk q1 q2, [.inl q2, .inl q1, la_r0, .inl (0, 0), la_r1])]) (rx_dO _ _) &&
   (match rx_go rx_NW (rx_fcall rx_NW rx_MT (rx_ext rx_MT KX) 2000 40) MX sites 2000 sy h (0, 0) 0 (rx_args 0 [la_r0, .inl q1, .inl q2]) [] with
   | none => false
   | some L => L.all (fun T => Nat.beq T.2.2.1.1 0 && (Nat.beq T.2.2.1.2 0 && (!rx_isin sites T.2.2.2.1 || T.2.2.2.2.2.isEmpty))) && ((ry_oN sites L).all (la_back KX KT ML (la_lk q1 q2) pc lc) && (rx_kout (ry_oX sites L)).all (la_cont KT pc lc))))
noncomputable def la_kst (pc : Nat) (T : rx_T) (k : rx_Y → List rx_C → rx_L → rx_I → rx_I → Bool) : Bool := match T with
  | (sy, h, (0, 0), pc', lc, [.inr (.inr (.inl (some 2))), .inl q2, .inl q1, .inr (.inr (.inl (some 0)))]) => Nat.beq pc' pc && k sy h lc q1 q2
  | _ => false
theorem la_kst_ok {pc : Nat} {T : rx_T} {k : rx_Y → List rx_C → rx_L → rx_I → rx_I → Bool} (h : la_kst pc T k = true) : ∃ sy hh lc q1 q2, T = (sy, hh, (0, 0), pc, lc, [la_r1, .inl q2, .inl q1, la_r0]) ∧ k sy hh lc q1 q2 = true := by
  unfold la_kst at h
  split at h
  · rename_i sy hh pc' lc q2 q1
    rw [Bool.and_eq_true] at h
    have e1 := Nat.eq_of_beq_eq_true h.1
    subst e1
    exact ⟨sy, hh, lc, q1, q2, rfl, h.2⟩
  · cases h
theorem la_Ps_mono {L i : Nat} {xs : Nat → Int32} {LE IS V0 N6 : Nat} {g g' : List Int} (h : rx_le g g') (q : rx_Ps L i xs LE IS V0 N6 g) : rx_Ps L i xs LE IS V0 N6 g' := ⟨h _ _ q.1, h _ _ q.2.1, fun k hk => h _ _ (q.2.2 k hk)⟩
section RXW
variable {p : Program} {l : Launch} {e : Env} {s : State} {m : MethodId} {b : Nat} {below : List Frame} {meth : Method} {c : Code} {bb : (Nat → Option Nat) × List Int} {D : va_G} {sz0 a L i : Nat} {xs : Nat → Int32}
theorem la_case {KT : List rx_KE} (hKT : ∀ K ∈ KT, rx_OK K) {lo hi : Int} (hc : la_cs KT lo hi = true) (hl : l.stackTraces = false) (hb : rx_Cw p s m #[Value.ref b] meth c bb sz0 a L xs) (hb2 : bb.2 = []) (ha : bb.1 50 = some a) (haz : a < sz0) (hL : L ≤ 3072) (hi6 : i + 6 ≤ L) {g : List Int} (hg : rx_g la_T40.1 g) (hv : lo ≤ g.getD 814 0 ∧ g.getD 814 0 ≤ hi) :
    rx_GL p l e s m #[Value.ref b] below meth c bb D sz0 (rx_Q1 p l e s m #[Value.ref b] below meth c bb D sz0 la_S 807 806 L (i + 6)) (rx_Ps L i xs 807 806 808 6) la_T40 g := by
  have R := rx_lawR (p := p) (l := l) (e := e) (s := s) (below := below) (meth := meth) (D := D) (Q := rx_Q1 p l e s m #[Value.ref b] below meth c bb D sz0 la_S 807 806 L (i + 6)) (LE := 807) (IS := 806) (V0 := 808) (N6 := 6) (i0 := i) (d := 266) hKT (by decide) hb2 hb.1 hb.2.1 hb.2.2.1 hb.2.2.2.1 ha hb.2.2.2.2 haz (by omega) hi6
  have hn := rx_nar_ok (T := la_T40) [(814, lo, hi)] hg (fun x hx => by cases List.mem_singleton.mp hx; exact hv)
  refine R.2.1 la_T40 g _ hn ?_
  unfold la_cs at hc
  split at hc
  · rename_i LL hLL
    exact rx_lrun_ok R 20 _ LL hLL g fun T' hT' _ g' _ _ => rs_head hb2 (List.all_eq_true.mp hc T' hT') rfl hi6 g'
  · cases hc
set_option maxRecDepth 100000 in
theorem rx_mvK0 : rx_okM rx_mK0 := ⟨rx_mem 1245 rfl rfl, rx_mem 129 (by decide +kernel) rfl, ⟨by decide +kernel, by decide +kernel⟩, Nat.le_of_ble_eq_true rfl, by decide +kernel, Or.inr (Or.inl ⟨rfl, ⟨rx_mem 1243 (by decide +kernel) rfl, rx_mem 1244 (by decide +kernel) rfl⟩, by decide +kernel⟩)⟩
theorem rx_k5key : Cond.methodLink RL 7 yX9_key ∈ rx_Gd := rx_mem 1242 (by decide +kernel) rfl
set_option maxRecDepth 100000 in
theorem rx_k6key : Cond.methodLink RL 45 yL_key ∈ rx_Gd ∧ Cond.static yL_key ∈ rx_Gd ∧ Cond.initialized RL ∈ rx_Gd ∧ Cond.codeWith yL_key cL_key 5 (some .int) rx_hh ∈ rx_Gd := ⟨rx_mem 1238 (by decide +kernel) rfl, rx_mem 1239 (by decide +kernel) rfl, rx_mem 128 (by decide +kernel) rfl, rx_mem 1240 rfl rfl⟩
theorem rx_k7key : Cond.classLink RL 13 "java/util/NoSuchElementException" ∈ rx_Gd := rx_mem 1241 (by decide +kernel) rfl
theorem rx_stkey : ∀ q ∈ [12, 155], rx_site cX9_key q := by
  intro q hq
  simp only [List.mem_cons, List.not_mem_nil, or_false] at hq
  rcases hq with rfl | rfl <;> exact ⟨by decide +kernel, by decide +kernel, by decide +kernel, by decide +kernel⟩
theorem la_gokey (hl : l.stackTraces = false) (hb : rx_Cw p s m #[Value.ref b] meth c bb sz0 a L xs) (hb2 : bb.2 = []) (ha : bb.1 50 = some a) (haz : a < sz0) (hL : L ≤ 3072) (hi6 : i + 6 ≤ L) {KX KT : List rx_KE} (hKX : ∀ K ∈ KX, rx_OK K) (hKT : ∀ K ∈ KT, rx_OK K) {sy : rx_Y} {h : List rx_C} {lc : rx_L} {q1 q2 : rx_I} (hB : la_keyB KX KT rx_mK0 rx_mK2 [12, 155] 390 sy h lc q1 q2 = true) (g : List Int) :
    rx_GL p l e s m #[Value.ref b] below meth c bb D sz0 (rx_Q1 p l e s m #[Value.ref b] below meth c bb D sz0 la_S 807 806 L (i + 6)) (rx_Ps L i xs 807 806 808 6) (sy, h, (0, 0), 387, lc, [la_r1, .inl q2, .inl q1, la_r0]) g := by
  unfold la_keyB at hB
  rw [Bool.and_eq_true, Bool.and_eq_true] at hB
  obtain ⟨h0, h1, h2⟩ := hB
  have hgo := @of_decide_eq_true _ (rx_dO _ _) h1
  obtain ⟨fs, hfs⟩ := la_is9_ok h0
  split at h2
  · cases h2
  · rename_i Lk hLk
    rw [Bool.and_eq_true, Bool.and_eq_true] at h2
    obtain ⟨h3, h4, h5⟩ := h2
    have R := rx_lawR (p := p) (l := l) (e := e) (s := s) (below := below) (meth := meth) (D := D) (Q := rx_Q1 p l e s m #[Value.ref b] below meth c bb D sz0 la_S 807 806 L (i + 6)) (LE := 807) (IS := 806) (V0 := 808) (N6 := 6) (i0 := i) (d := 266) hKT (by decide) hb2 hb.1 hb.2.1 hb.2.2.1 hb.2.2.2.1 ha hb.2.2.2.2 haz (by omega) hi6
    have hX := rx_thr3 (b := bb) (D := D) (sz0 := sz0) (d := 40) hl hb2 (by decide) hKX rx_mvK0 rx_tvK0 rfl rfl rfl rx_stkey (Nat.le_of_ble_eq_true rfl) hLk h3
    have hsX : Cond.instanceMethod rx_mK0.1 ∈ rx_Gd ∧ Cond.selects rx_mK0.1.cls rx_mK0.1 rx_mK0.1 ∈ rx_Gd := ⟨rx_mem 1243 (by decide +kernel) rfl, rx_mem 1244 (by decide +kernel) rfl⟩
    have hLc := rx_catch3 (d := 40) (fuel := 2000) hKX hb2 (ML := rx_mK2) (idx := 7) (r0 := 0) (r1 := 2) (outs := ry_oN [12, 155] Lk) (outsX := ry_oX [12, 155] Lk) (fin := (ry_oN [12, 155] Lk).flatMap (fun o => (la_bk KX rx_mK2 (la_lk q1 q2) o).getD []) ++ rx_kout (ry_oX [12, 155] Lk)) rx_mvK0 rfl rfl rfl (by decide +kernel) hsX hX rx_tvK2 rfl rfl rfl ⟨rfl, rfl⟩ rx_k5key rx_k7key (by decide +kernel) (by decide +kernel) (by decide +kernel) (by decide +kernel) hgo hfs
      (fun o ho => by
        have h6 := List.all_eq_true.mp h4 o ho
        unfold la_back at h6
        split at h6
        · rename_i Lo hLo
          refine ⟨Lo, hLo, fun T hT => ⟨List.mem_append_left _ (List.mem_flatMap.mpr ⟨o, ho, by rw [hLo]; exact hT⟩), ?_⟩⟩
          have h7 := List.all_eq_true.mp h6 T hT
          rw [Bool.and_eq_true, Bool.and_eq_true] at h7
          exact ⟨Nat.le_of_ble_eq_true h7.1.1, Nat.le_of_ble_eq_true h7.1.2⟩
        · cases h6)
      (fun T hT => List.mem_append_right _ hT)
    intro hPg hG1 a0 t0
    refine rx_key_go (d := 40) (by decide) hb.1 hb.2.2.1 hb.2.2.2.1 hLc rfl ⟨rfl, rfl⟩ rfl (by decide +kernel) rx_k6key (by decide +kernel) fun o ho => ?_
    have hc : la_cont KT 390 lc o = true := by
      rcases List.mem_append.mp ho with ho | ho
      · obtain ⟨o', ho', ho2⟩ := List.mem_flatMap.mp ho
        have h6 := List.all_eq_true.mp h4 o' ho'
        unfold la_back at h6
        split at h6
        · rename_i Lo hLo
          rw [hLo] at ho2
          have h7 := List.all_eq_true.mp h6 o ho2
          rw [Bool.and_eq_true] at h7
          exact h7.2
        · cases h6
      · exact List.all_eq_true.mp h5 o ho
    intro H locs ls st hat
    obtain ⟨g', tys, ws, lv, hE, hG', hrest⟩ := hat
    unfold la_cont at hc
    split at hc
    · rename_i LL hLL
      exact rx_lrun_ok R 20 _ LL hLL g' (fun T' hT' _ g2 _ _ => rs_head hb2 (List.all_eq_true.mp hc T' hT') rfl hi6 g2) (la_Ps_mono hE.1 hPg) hG' (ws.map Prod.fst) tys H locs ls st ⟨g', tys, ws, lv, ⟨rx_le.rf, rx_le.rf, fun _ q => q⟩, hG', hrest⟩
    · cases hc
noncomputable def la_k5 (KX KT : List rx_KE) : Bool := match rx_lrun [] 266 807 806 808 6 [387] 2000 20 (rx_nar la_T40 [(814, 5, 5)]) with
  | some L => L.all (fun T => la_kst 387 T (la_keyB KX KT rx_mK0 rx_mK2 [12, 155] 390))
  | none => false
theorem la_case5 {KX KT : List rx_KE} (hKX : ∀ K ∈ KX, rx_OK K) (hKT : ∀ K ∈ KT, rx_OK K) (hc : la_k5 KX KT = true) (hl : l.stackTraces = false) (hb : rx_Cw p s m #[Value.ref b] meth c bb sz0 a L xs) (hb2 : bb.2 = []) (ha : bb.1 50 = some a) (haz : a < sz0) (hL : L ≤ 3072) (hi6 : i + 6 ≤ L) {g : List Int} (hg : rx_g la_T40.1 g) (hv : 5 ≤ g.getD 814 0 ∧ g.getD 814 0 ≤ 5) :
    rx_GL p l e s m #[Value.ref b] below meth c bb D sz0 (rx_Q1 p l e s m #[Value.ref b] below meth c bb D sz0 la_S 807 806 L (i + 6)) (rx_Ps L i xs 807 806 808 6) la_T40 g := by
  have R := rx_lawR (p := p) (l := l) (e := e) (s := s) (below := below) (meth := meth) (D := D) (Q := rx_Q1 p l e s m #[Value.ref b] below meth c bb D sz0 la_S 807 806 L (i + 6)) (LE := 807) (IS := 806) (V0 := 808) (N6 := 6) (i0 := i) (d := 266) rx_oknil (by decide) hb2 hb.1 hb.2.1 hb.2.2.1 hb.2.2.2.1 ha hb.2.2.2.2 haz (by omega) hi6
  have hn := rx_nar_ok (T := la_T40) [(814, 5, 5)] hg (fun x hx => by cases List.mem_singleton.mp hx; exact hv)
  refine R.2.1 la_T40 g _ hn ?_
  unfold la_k5 at hc
  split at hc
  · rename_i LL hLL
    refine rx_lrun_ok R 20 _ LL hLL g fun T' hT' _ g' _ _ => ?_
    obtain ⟨sy, hh, lc, q1, q2, rfl, hB⟩ := la_kst_ok (List.all_eq_true.mp hc T' hT')
    exact la_gokey hl hb hb2 ha haz hL hi6 hKX hKT hB g'
  · cases hc
set_option maxRecDepth 100000 in
theorem rx_mvK1 : rx_okM rx_mK1 := ⟨rx_mem 1314 rfl rfl, rx_mem 129 (by decide +kernel) rfl, ⟨by decide +kernel, by decide +kernel⟩, Nat.le_of_ble_eq_true rfl, by decide +kernel, Or.inr (Or.inl ⟨rfl, ⟨rx_mem 1312 (by decide +kernel) rfl, rx_mem 1313 (by decide +kernel) rfl⟩, by decide +kernel⟩)⟩
theorem rx_k5man : Cond.methodLink RL 15 yX9_man ∈ rx_Gd := rx_mem 1311 (by decide +kernel) rfl
set_option maxRecDepth 100000 in
theorem rx_k6man : Cond.methodLink RL 51 yL_man ∈ rx_Gd ∧ Cond.static yL_man ∈ rx_Gd ∧ Cond.initialized RL ∈ rx_Gd ∧ Cond.codeWith yL_man cL_man 5 (some .int) rx_hh ∈ rx_Gd := ⟨rx_mem 1308 (by decide +kernel) rfl, rx_mem 1309 (by decide +kernel) rfl, rx_mem 128 (by decide +kernel) rfl, rx_mem 1310 rfl rfl⟩
theorem rx_k7man : Cond.classLink RL 13 "java/util/NoSuchElementException" ∈ rx_Gd := rx_mem 1241 (by decide +kernel) rfl
theorem rx_stman : ∀ q ∈ [12, 98], rx_site cX9_man q := by
  intro q hq
  simp only [List.mem_cons, List.not_mem_nil, or_false] at hq
  rcases hq with rfl | rfl <;> exact ⟨by decide +kernel, by decide +kernel, by decide +kernel, by decide +kernel⟩
theorem la_goman (hl : l.stackTraces = false) (hb : rx_Cw p s m #[Value.ref b] meth c bb sz0 a L xs) (hb2 : bb.2 = []) (ha : bb.1 50 = some a) (haz : a < sz0) (hL : L ≤ 3072) (hi6 : i + 6 ≤ L) {KX KT : List rx_KE} (hKX : ∀ K ∈ KX, rx_OK K) (hKT : ∀ K ∈ KT, rx_OK K) {sy : rx_Y} {h : List rx_C} {lc : rx_L} {q1 q2 : rx_I} (hB : la_keyB KX KT rx_mK1 rx_mK3 [12, 98] 430 sy h lc q1 q2 = true) (g : List Int) :
    rx_GL p l e s m #[Value.ref b] below meth c bb D sz0 (rx_Q1 p l e s m #[Value.ref b] below meth c bb D sz0 la_S 807 806 L (i + 6)) (rx_Ps L i xs 807 806 808 6) (sy, h, (0, 0), 427, lc, [la_r1, .inl q2, .inl q1, la_r0]) g := by
  unfold la_keyB at hB
  rw [Bool.and_eq_true, Bool.and_eq_true] at hB
  obtain ⟨h0, h1, h2⟩ := hB
  have hgo := @of_decide_eq_true _ (rx_dO _ _) h1
  obtain ⟨fs, hfs⟩ := la_is9_ok h0
  split at h2
  · cases h2
  · rename_i Lk hLk
    rw [Bool.and_eq_true, Bool.and_eq_true] at h2
    obtain ⟨h3, h4, h5⟩ := h2
    have R := rx_lawR (p := p) (l := l) (e := e) (s := s) (below := below) (meth := meth) (D := D) (Q := rx_Q1 p l e s m #[Value.ref b] below meth c bb D sz0 la_S 807 806 L (i + 6)) (LE := 807) (IS := 806) (V0 := 808) (N6 := 6) (i0 := i) (d := 266) hKT (by decide) hb2 hb.1 hb.2.1 hb.2.2.1 hb.2.2.2.1 ha hb.2.2.2.2 haz (by omega) hi6
    have hX := rx_thr3 (b := bb) (D := D) (sz0 := sz0) (d := 40) hl hb2 (by decide) hKX rx_mvK1 rx_tvK1 rfl rfl rfl rx_stman (Nat.le_of_ble_eq_true rfl) hLk h3
    have hsX : Cond.instanceMethod rx_mK1.1 ∈ rx_Gd ∧ Cond.selects rx_mK1.1.cls rx_mK1.1 rx_mK1.1 ∈ rx_Gd := ⟨rx_mem 1312 (by decide +kernel) rfl, rx_mem 1313 (by decide +kernel) rfl⟩
    have hLc := rx_catch3 (d := 40) (fuel := 2000) hKX hb2 (ML := rx_mK3) (idx := 15) (r0 := 0) (r1 := 2) (outs := ry_oN [12, 98] Lk) (outsX := ry_oX [12, 98] Lk) (fin := (ry_oN [12, 98] Lk).flatMap (fun o => (la_bk KX rx_mK3 (la_lk q1 q2) o).getD []) ++ rx_kout (ry_oX [12, 98] Lk)) rx_mvK1 rfl rfl rfl (by decide +kernel) hsX hX rx_tvK3 rfl rfl rfl ⟨rfl, rfl⟩ rx_k5man rx_k7man (by decide +kernel) (by decide +kernel) (by decide +kernel) (by decide +kernel) hgo hfs
      (fun o ho => by
        have h6 := List.all_eq_true.mp h4 o ho
        unfold la_back at h6
        split at h6
        · rename_i Lo hLo
          refine ⟨Lo, hLo, fun T hT => ⟨List.mem_append_left _ (List.mem_flatMap.mpr ⟨o, ho, by rw [hLo]; exact hT⟩), ?_⟩⟩
          have h7 := List.all_eq_true.mp h6 T hT
          rw [Bool.and_eq_true, Bool.and_eq_true] at h7
          exact ⟨Nat.le_of_ble_eq_true h7.1.1, Nat.le_of_ble_eq_true h7.1.2⟩
        · cases h6)
      (fun T hT => List.mem_append_right _ hT)
    intro hPg hG1 a0 t0
    refine rx_key_go (d := 40) (by decide) hb.1 hb.2.2.1 hb.2.2.2.1 hLc rfl ⟨rfl, rfl⟩ rfl (by decide +kernel) rx_k6man (by decide +kernel) fun o ho => ?_
    have hc : la_cont KT 430 lc o = true := by
      rcases List.mem_append.mp ho with ho | ho
      · obtain ⟨o', ho', ho2⟩ := List.mem_flatMap.mp ho
        have h6 := List.all_eq_true.mp h4 o' ho'
        unfold la_back at h6
        split at h6
        · rename_i Lo hLo
          rw [hLo] at ho2
          have h7 := List.all_eq_true.mp h6 o ho2
          rw [Bool.and_eq_true] at h7
          exact h7.2
        · cases h6
      · exact List.all_eq_true.mp h5 o ho
    intro H locs ls st hat
    obtain ⟨g', tys, ws, lv, hE, hG', hrest⟩ := hat
    unfold la_cont at hc
    split at hc
    · rename_i LL hLL
      exact rx_lrun_ok R 20 _ LL hLL g' (fun T' hT' _ g2 _ _ => rs_head hb2 (List.all_eq_true.mp hc T' hT') rfl hi6 g2) (la_Ps_mono hE.1 hPg) hG' (ws.map Prod.fst) tys H locs ls st ⟨g', tys, ws, lv, ⟨rx_le.rf, rx_le.rf, fun _ q => q⟩, hG', hrest⟩
    · cases hc
noncomputable def la_k6 (KX KT : List rx_KE) : Bool := match rx_lrun [] 266 807 806 808 6 [427] 2000 20 (rx_nar la_T40 [(814, 6, 6)]) with
  | some L => L.all (fun T => la_kst 427 T (la_keyB KX KT rx_mK1 rx_mK3 [12, 98] 430))
  | none => false
theorem la_case6 {KX KT : List rx_KE} (hKX : ∀ K ∈ KX, rx_OK K) (hKT : ∀ K ∈ KT, rx_OK K) (hc : la_k6 KX KT = true) (hl : l.stackTraces = false) (hb : rx_Cw p s m #[Value.ref b] meth c bb sz0 a L xs) (hb2 : bb.2 = []) (ha : bb.1 50 = some a) (haz : a < sz0) (hL : L ≤ 3072) (hi6 : i + 6 ≤ L) {g : List Int} (hg : rx_g la_T40.1 g) (hv : 6 ≤ g.getD 814 0 ∧ g.getD 814 0 ≤ 6) :
    rx_GL p l e s m #[Value.ref b] below meth c bb D sz0 (rx_Q1 p l e s m #[Value.ref b] below meth c bb D sz0 la_S 807 806 L (i + 6)) (rx_Ps L i xs 807 806 808 6) la_T40 g := by
  have R := rx_lawR (p := p) (l := l) (e := e) (s := s) (below := below) (meth := meth) (D := D) (Q := rx_Q1 p l e s m #[Value.ref b] below meth c bb D sz0 la_S 807 806 L (i + 6)) (LE := 807) (IS := 806) (V0 := 808) (N6 := 6) (i0 := i) (d := 266) rx_oknil (by decide) hb2 hb.1 hb.2.1 hb.2.2.1 hb.2.2.2.1 ha hb.2.2.2.2 haz (by omega) hi6
  have hn := rx_nar_ok (T := la_T40) [(814, 6, 6)] hg (fun x hx => by cases List.mem_singleton.mp hx; exact hv)
  refine R.2.1 la_T40 g _ hn ?_
  unfold la_k6 at hc
  split at hc
  · rename_i LL hLL
    refine rx_lrun_ok R 20 _ LL hLL g fun T' hT' _ g' _ _ => ?_
    obtain ⟨sy, hh, lc, q1, q2, rfl, hB⟩ := la_kst_ok (List.all_eq_true.mp hc T' hT')
    exact la_goman hl hb hb2 ha haz hL hi6 hKX hKT hB g'
  · cases hc
end RXW
