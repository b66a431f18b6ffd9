section RXE
variable {p : Program} {l : Launch} {e : Env} {R : Room} {s : State} {m : MethodId} {args : Array Value} {below : List Frame} {meth : Method} {c : Code} {b : (Nat → Option Nat) × List Int} {D : va_G} {A : Nat → Prop} {g0 : List Int} {a0 : List Nat} {t0 : List (ClassId × FieldType)} {nL : Nat} {Q : State → Prop} {cc : ByteArray} {own nm : String}
theorem rx_fit_ok {t : Nat} {sy : rx_Y} {a : rx_V} {as : List Nat} {g : List Int} {v : Value} {ty : FieldType} (h : rx_fit t sy a = true) (hG : rx_g sy g) (hv : rx_v b as g a v) (ht : rx_tyt ty = t) : narrow ty v = v ∧ fits ty v = true := by
  subst ht
  unfold rx_fit at h
  split at h
  · rename_i t a q he
    obtain ⟨x, rfl, -⟩ := hv
    cases ty <;> first | exact ⟨rfl, rfl⟩ | cases he
  · rename_i t a q he
    obtain ⟨x, rfl, hq⟩ := hv
    rw [Bool.and_eq_true] at h
    have r1 := (rx_ile_iff _ _).mp h.1
    have r2 := (rx_ile_iff _ _).mp h.2
    have r3 := rx_iv_ok hG hq
    have e1 : (-128 : Int32).toInt = -128 := rfl
    have e2 : (127 : Int32).toInt = 127 := rfl
    cases ty <;> first
      | (refine ⟨?_, ?_⟩
         · show Value.int x.toInt8.toInt32 = _
           rw [fb_byte (by omega) (by omega)]
         · show (decide (-128 ≤ x) && decide (x ≤ 127)) = true
           rw [Bool.and_eq_true, decide_eq_true_eq, decide_eq_true_eq]
           exact ⟨rx_le32.mpr (by rw [e1]; omega), rx_le32.mpr (by rw [e2]; omega)⟩)
      | cases he
  · rename_i t a q he
    obtain ⟨x, rfl, hq⟩ := hv
    rw [Bool.and_eq_true] at h
    have r1 := (rx_ile_iff _ _).mp h.1
    have r2 := (rx_ile_iff _ _).mp h.2
    have r3 := rx_iv_ok hG hq
    have e0 : (0 : Int32).toInt = 0 := rfl
    have e1 : (1 : Int32).toInt = 1 := rfl
    have hx : x = 0 ∨ x = 1 := by
      rcases (show x.toInt = 0 ∨ x.toInt = 1 by omega) with q | q
      · exact Or.inl (rx_eq32.mpr (by rw [e0]; exact q))
      · exact Or.inr (rx_eq32.mpr (by rw [e1]; exact q))
    cases ty <;> first
      | (rcases hx with rfl | rfl <;> exact ⟨rfl, rfl⟩)
      | cases he
  · rename_i t a q he
    obtain ⟨x, rfl, -⟩ := hv
    cases ty <;> first | exact ⟨rfl, rfl⟩ | cases he
  · rename_i t a q he
    cases q with
    | none =>
      cases hv
      cases ty <;> first | exact ⟨rfl, rfl⟩ | cases he
    | some r =>
      obtain ⟨x, -, rfl⟩ := hv
      cases ty <;> first | exact ⟨rfl, rfl⟩ | cases he
  · cases h
theorem rx_cats_ok {as : List Nat} {g : List Int} : ∀ {sa : List rx_V} {st : List Value}, rx_vs b as g sa st → (st.map fun v => v.category).sum = rx_cats sa
  | [], [], _ => rfl
  | a :: sa, v :: st, h => by
    have h1 := rx_cats_ok h.2
    have h2 := rx_cat h.1
    rw [List.map_cons, List.sum_cons, h1]
    show v.category + rx_cats sa = (match rx_c2 a with | true => rx_cats sa + 2 | false => rx_cats sa + 1)
    cases h3 : rx_c2 a with
    | true =>
      rw [h3] at h2
      have e : v.category = 2 := by simpa using h2
      show v.category + rx_cats sa = rx_cats sa + 2
      rw [e, Nat.add_comm]
    | false =>
      have e := rx_cat1 h.1 h3
      show v.category + rx_cats sa = rx_cats sa + 1
      rw [e, Nat.add_comm]
  | [], _ :: _, h => h.elim
  | _ :: _, [], h => h.elim
theorem rx_ix_ok {sy : rx_Y} {g : List Int} (hG : rx_g sy g) {q : rx_I} {x : Int32} (hq : rx_ev g q x.toInt) {n j : Nat} (h : rx_ix sy q n = some j) : j < n ∧ x.toInt = (j : Int) ∧ x.toNatClampNeg = j ∧ vp_in x n := by
  unfold rx_ix at h
  split at h
  · rename_i j' hj
    have e1 := rx_cs_ok hG hq hj
    split at h
    · rename_i hb
      cases h
      have hlt : j < n := Nat.le_of_ble_eq_true hb
      have e2 : x.toInt = (j : Int) := e1
      refine ⟨hlt, e2, ?_, vp_in_iff.mpr ⟨by omega, by omega⟩⟩
      show x.toInt.toNat = j
      omega
    · cases h
  · cases h
/-- a cell changed; a cell more -/
theorem rx_setc {sy : rx_Y} {h : List rx_C} {lc : rx_L} {sa : List rx_V} {H1 : Heap} {locs1 : List Loc} {ls : Array Slot} {st : List Value} {g : List Int} {tys : List (ClassId × FieldType)} {ws : va_W} {lv : List (Nat × Value)} {r a : Nat} {e0 e1 : va_E} {c1 : rx_C} (hE : rx_le g0 g ∧ rx_le a0 (ws.map Prod.fst) ∧ ∀ q ∈ t0, q ∈ tys) (hG : rx_g sy g) (hH : rx_h b g tys h ws) (hK : va_K D vwCl tys s) (hl : rx_ls b (ws.map Prod.fst) g lc lv) (hv : lv_has ls nL lv) (hst : rx_vs b (ws.map Prod.fst) g sa st)
    (hws : ws[r]? = some (a, e0)) (hc : rx_c b (ws.map Prod.fst) g tys c1 e1) (hP1 : va_P D vwCl (ws.set r (a, e1)) H1) (hD1 : va_D A (ws.set r (a, e1))) (hS1 : va_S A s.heap H1 locs1) : rx_At b D s A g0 a0 t0 nL sy (h.set r c1) lc sa H1 locs1 ls st :=
  ⟨g, tys, ws.set r (a, e1), lv, by rw [rx_fst_set hws]; exact hE, hG, hH.set hws hc, hK, hP1, hD1, hS1, by rw [rx_fst_set hws]; exact hl, hv, by rw [rx_fst_set hws]; exact hst⟩
theorem rx_addc {sy : rx_Y} {h : List rx_C} {lc : rx_L} {sa : List rx_V} {H1 : Heap} {locs1 : List Loc} {ls : Array Slot} {st : List Value} {g : List Int} {tys tys1 : List (ClassId × FieldType)} {ws : va_W} {lv : List (Nat × Value)} {a : Nat} {e1 : va_E} {c1 : rx_C} (hE : rx_le g0 g ∧ rx_le a0 (ws.map Prod.fst) ∧ ∀ q ∈ t0, q ∈ tys) (hG : rx_g sy g) (hH : rx_h b g tys h ws) (ht : ∀ q ∈ tys, q ∈ tys1) (hK : va_K D vwCl tys1 s) (hl : rx_ls b (ws.map Prod.fst) g lc lv) (hv : lv_has ls nL lv) (hst : rx_vs b (ws.map Prod.fst) g sa st)
    (hc : rx_c b ((ws ++ [(a, e1)]).map Prod.fst) g tys1 c1 e1) (hP1 : va_P D vwCl (ws ++ [(a, e1)]) H1) (hD1 : va_D A (ws ++ [(a, e1)])) (hS1 : va_S A s.heap H1 locs1) : rx_At b D s A g0 a0 t0 nL sy (h ++ [c1]) lc (.inr (.inr (.inl (some h.length))) :: sa) H1 locs1 ls (.ref a :: st) :=
  ⟨g, tys1, ws ++ [(a, e1)], lv, ⟨hE.1, hE.2.1.tr rx_app_le, fun q hq => ht q (hE.2.2 q hq)⟩, hG, hH.push ht hc, hK, hP1, hD1, hS1, hl.mono rx_app_le rx_le.rf, hv, ⟨a, by rw [hH.1]; exact rx_app_get, rfl⟩, hst.mono rx_app_le rx_le.rf⟩
theorem rx_mk_eq {mc ms : Nat} {i : rx_E} {T : rx_T} {c1 : rx_C} {n : Nat} {sa : List rx_V} {L : List rx_T} (h : rx_mk mc ms i T c1 n sa = some L) : T.2.2.1.1 + 1 ≤ mc ∧ T.2.2.1.2 + n ≤ ms ∧ L = [(T.1, T.2.1 ++ [c1], (T.2.2.1.1 + 1, T.2.2.1.2 + n), i.1 + i.2.2.1, T.2.2.2.2.1, .inr (.inr (.inl (some T.2.1.length))) :: sa)] := by
  unfold rx_mk at h
  split at h
  · rename_i hb
    rw [Bool.and_eq_true] at hb
    rw [rx_snoc_eq, rx_zn_eq, rx_zn_eq, rx_zn_eq] at h
    cases h
    exact ⟨Nat.le_of_ble_eq_true hb.1, Nat.le_of_ble_eq_true hb.2, rfl⟩
  · cases h
theorem rx_ald_eq {i : rx_E} {T : rx_T} {k : Nat → Bool} {L : List rx_T} (h : rx_ald i T k = some L) : ∃ q r sa t n ex df j, T.2.2.2.2.2 = .inl q :: .inr (.inr (.inl (some r))) :: sa ∧ T.2.1[r]? = some (.inr (t, n, ex, df)) ∧ k t = true ∧ rx_ix T.1 q n = some j ∧ L = [rx_nx i T (rx_el ex df j :: sa)] := by
  unfold rx_ald at h
  split at h
  · rename_i q r sa hsa
    split at h
    · rename_i t n ex df hr
      split at h
      · rename_i hk
        split at h
        · rename_i j hj
          cases h
          exact ⟨q, r, sa, t, n, ex, df, j, hsa, hr, hk, hj, rfl⟩
        · cases h
      · cases h
    · cases h
  · cases h
theorem rx_ast_eq {i : rx_E} {T : rx_T} {k : Nat → Bool} {L : List rx_T} (h : rx_ast i T k = some L) : ∃ a q r sa t n ex df j ex', T.2.2.2.2.2 = a :: .inl q :: .inr (.inr (.inl (some r))) :: sa ∧ T.2.1[r]? = some (.inr (t, n, ex, df)) ∧ k t = true ∧ rx_fit t T.1 a = true ∧ rx_ix T.1 q n = some j ∧ (∀ i, rx_el ex' df i = if i = j then a else rx_el ex df i) ∧ L = [(T.1, T.2.1.set r (.inr (t, n, ex', df)), T.2.2.1, i.1 + i.2.2.1, T.2.2.2.2.1, sa)] := by
  unfold rx_ast at h
  split at h
  · rename_i a q r sa hsa
    split at h
    · rename_i t n ex df hr
      split at h
      · rename_i hk
        rw [Bool.and_eq_true] at hk
        split at h
        · rename_i j hj
          obtain ⟨ex', h1, h2⟩ := rx_asg_ok df ex j a (fun ex => rx_set T.2.1 r (.inr (t, n, ex, df)) (fun h => some [((T.1, h, T.2.2.1, i.1 + i.2.2.1, T.2.2.2.2.1, sa) : rx_T)]))
          rw [h1] at h
          rw [rx_set_eq] at h
          cases h
          exact ⟨a, q, r, sa, t, n, ex, df, j, ex', hsa, hr, hk.1, hk.2, hj, h2, rfl⟩
        · cases h
      · cases h
    · cases h
  · cases h
theorem rx_c9 {ci : Nat} {r : vw_C} (h : vwCl[ci]? = some r) : ci < 900 := by
  have h1 := (List.getElem?_eq_some_iff.mp h).1
  have e : vwCl.length = 11 := rfl
  omega
theorem rx_kt {t k : Nat} (h : Nat.beq t k = true) : t = k := Nat.eq_of_beq_eq_true h
theorem rx_aint {as : List Nat} {g : List Int} {t n : Nat} {ex : List rx_V} {df : rx_V} {a : rx_B} (h : rx_a b as g t n ex df a) (ht : t < 3) : ∃ f : Nat → Int32, a = .inl f ∧ ∀ j, j < n → rx_v b as g (rx_el ex df j) (.int (f j)) := by
  rw [rx_a_lo (by omega)] at h
  rcases a with f | f | f | f | f
  · exact ⟨f, rfl, h.2⟩
  · have := h.1; omega
  · exact h.elim
  · exact h.elim
  · have := h.1; omega
theorem rx_along {as : List Nat} {g : List Int} {t n : Nat} {ex : List rx_V} {df : rx_V} {a : rx_B} (h : rx_a b as g t n ex df a) (ht : t = 3) : ∃ f : Nat → Int64, a = .inr (.inl f) ∧ ∀ j, j < n → rx_v b as g (rx_el ex df j) (.long (f j)) := by
  rw [rx_a_lo (by omega)] at h
  rcases a with f | f | f | f | f
  · have := h.1; omega
  · exact ⟨f, rfl, h.2⟩
  · exact h.elim
  · exact h.elim
  · have := h.1; omega
theorem rx_aref {as : List Nat} {g : List Int} {t n : Nat} {ex : List rx_V} {df : rx_V} {a : rx_B} (h : rx_a b as g t n ex df a) (ht : 4 ≤ t) (ht2 : t < 1000) : ∃ f : Nat → Option Nat, a = .inr (.inr (.inr (.inr f))) ∧ ∀ j, j < n → rx_v b as g (rx_el ex df j) (va_rf (f j)) := by
  rw [rx_a_lo (by omega)] at h
  rcases a with f | f | f | f | f
  · have := h.1; omega
  · have := h.1; omega
  · exact h.elim
  · exact h.elim
  · exact ⟨f, rfl, h.2⟩
theorem rx_naro {x : Int32} {t : Nat} {sy : rx_Y} {a : rx_V} {as : List Nat} {g : List Int} {ty : FieldType} (h : rx_fit t sy a = true) (hG : rx_g sy g) (hv : rx_v b as g a (.int x)) (ht : rx_tyt ty = t) : vp_nar ty x = x := by
  have h1 := (rx_fit_ok h hG hv ht).1
  unfold vp_nar
  rw [h1]
/-- the value of an array of ints, bytes, booleans; of longs -/
theorem rx_sE_ok {N : List (List rx_V)} {mc ms : Nat} {i : rx_E} {T : rx_T} {L : List rx_T} (C : rx_Cx p s m args c cc own nL) (hcl : rx_Clok N) (hd : rx_dc cc i) (hok : rx_okE own nm i) (hmn : meth.name = nm) (hR : R.cells = mc ∧ R.slots = ms ∧ 1 ≤ R.frames ∧ 60 ≤ R.locals) (hA : ∀ q, s.heap.size ≤ q → A q) (hpc : T.2.2.2.1 = i.1) (h : rx_sE N mc ms i T = some L) (K : ∀ T' ∈ L, rx_Go p l e R s m args below meth c b D A g0 a0 t0 nL Q T') : rx_Go p l e R s m args below meth c b D A g0 a0 t0 nL Q T := by
  obtain ⟨pc, ins, len, u, w, x, z⟩ := i
  obtain ⟨hx, hb, hml, hown, hts, hpr⟩ := C
  unfold rx_sE at h
  dsimp only at h
  split at h
  · -- getfield
    rename_i idx
    have hlen := rx_len hd rfl
    subst hlen
    split at h
    · rename_i r sa hsa
      split at h
      · rename_i ci fs hr
        split at h
        · rename_i hci
          have hci := Nat.eq_of_beq_eq_true hci
          subst hci
          split at h
          · rename_i a ha
            cases h
            intro H locs ls st hat
            rw [hpc]
            obtain ⟨g, tys, ws, lv, hE, hG, hH, hK, hP, hD, hS, hl, hv, hst⟩ := hat
            rw [hsa] at hst
            obtain ⟨v, st', rfl, ⟨q, hq, rfl⟩, hst1⟩ := rx_vs_cons hst
            have h99 : ci ≠ 99 := by
              intro e99
              obtain ⟨vs9, h9, -⟩ := hH.obj (by omega) hr hq
              obtain ⟨r9, h8, -⟩ := hP _ _ h9
              rw [e99] at h8
              cases h8
            obtain ⟨⟨C, TT, NN⟩, hc, hk, hdec, -, hlk⟩ := hok h99
            dsimp only at hk hdec hlk
            clear hst
            have hst := hst1
            obtain ⟨vs, hws, hvs⟩ := hH.obj (by have h8 : ci < 900 := rx_c9 hc; omega) hr hq
            obtain ⟨v, hv1, hv2⟩ := hvs.at _ _ ha
            have hgo := K _ (List.mem_singleton.mpr rfl) H locs ls (v :: st') ⟨g, tys, ws, lv, hE, hG, hH, hK, hP, hD, hS, hl, hv, hv2, hst⟩
            rcases hlk with hlk | ⟨host, hlk⟩
            · exact va_get hx hb hts (hcl _ _ hc).1 hown hK hP r hws hc w hk (hts _ hlk) (fun x hx => by rw [hdec] at hx; exact hx) hv1 hd.1 hgo
            · exact va_getN hx hb hts (hcl _ _ hc).1 hown hK hP r hws hc w hk ((hpr.1 _ hlk).use rfl) (fun x hx => by rw [hdec] at hx; exact hx) hv1 hd.1 hgo
          · cases h
        · cases h
      · cases h
    · cases h
  · -- putfield
    rename_i idx
    have hlen := rx_len hd rfl
    subst hlen
    split at h
    · rename_i a r sa hsa
      split at h
      · rename_i ci fs hr
        split at h
        · rename_i hci
          rw [Bool.and_eq_true, Bool.and_eq_true] at hci
          obtain ⟨hci, hfit, hlenf⟩ := hci
          have hci := Nat.eq_of_beq_eq_true hci
          subst hci
          rw [rx_set_eq, rx_set_eq] at h
          cases h
          obtain ⟨⟨⟨C, TT, NN⟩, hc, hk, hdec, ⟨ty, hty, htt⟩, hlk⟩, hfin⟩ := hok
          dsimp only at hk hdec hlk hty
          intro H locs ls st hat
          rw [hpc]
          obtain ⟨g, tys, ws, lv, hE, hG, hH, hK, hP, hD, hS, hl, hv, hst⟩ := hat
          rw [hsa] at hst
          obtain ⟨v, st', rfl, hv1, hst1⟩ := rx_vs_cons hst
          obtain ⟨v0, st', rfl, ⟨q, hq, rfl⟩, hst2⟩ := rx_vs_cons hst1
          clear hst hst1
          have hst := hst2
          obtain ⟨vs, hws, hvs⟩ := hH.obj (by have h8 : ci < 900 := rx_c9 hc; omega) hr hq
          obtain ⟨hn, hf⟩ := rx_fit_ok hfit hG hv1 htt
          obtain ⟨hcw, ⟨ty0, hty0, -⟩, hnm, -, -⟩ := hcl _ _ hc
          have hll : w < vs.length := by rw [← hvs.len]; exact Nat.le_of_ble_eq_true hlenf
          have hgo : ∀ (H1 : Heap) (locs1 : List Loc), va_P D vwCl (ws.set r (q, .inr (ci, vs.set w v))) H1 → va_D A (ws.set r (q, .inr (ci, vs.set w v))) → va_S A s.heap H1 locs1 → W p l e R s m args below meth c H1 locs1 T.2.2.1.1 T.2.2.1.2 Q (F0 m (pc + 3) ls st') := fun H1 locs1 hP1 hD1 hS1 =>
            K _ (List.mem_singleton.mpr rfl) H1 locs1 ls st' (rx_setc hE hG hH hK hl hv hst hws (e1 := .inr (ci, vs.set w v)) (rx_c_obj (hvs.set w hv1)) hP1 hD1 hS1)
          have hsm : ∀ x, s.fieldFound? (TT w).1 (TT w).2.1 (TT w).2.2.1 = some x → s.fieldFound? C (TT w).2.1 (TT w).2.2.1 = some x := fun x hx => by rw [hdec] at hx; exact hx
          cases hfl : (TT w).2.2.2 with
          | true =>
            obtain ⟨⟨h1, h2⟩, hlk2⟩ := hfin _ hc hfl
            exact va_putF hx hb hts hcw ty0 hty0 hnm hown hK hP hD hS r hws hc w hk (hts _ hlk2) hsm hfl (hmn.trans h2) (hdec.trans h1) hty hn hf hll hd.1 hgo
          | false =>
            rcases hlk with hlk | ⟨host, hlk⟩
            · exact va_put hx hb hts hcw ty0 hty0 hnm hown hK hP hD hS r hws hc w hk (hts _ hlk) hsm hfl hty hn hf hll hd.1 hgo
            · exact va_putN hx hb hts hcw ty0 hty0 hnm hown hK hP hD hS r hws hc w hk ((hpr.1 _ hlk).use rfl) hsm hfl hty hn hf hll hd.1 hgo
        · cases h
      · cases h
    · cases h
  · -- arraylength
    have hlen := rx_len hd rfl
    subst hlen
    split at h
    · rename_i r sa hsa
      split at h
      · rename_i t n ex df hr
        split at h
        · rename_i hn
          have hn := Nat.le_of_ble_eq_true hn
          cases h
          intro H locs ls st hat
          rw [hpc]
          obtain ⟨g, tys, ws, lv, hE, hG, hH, hK, hP, hD, hS, hl, hv, hst⟩ := hat
          rw [hsa] at hst
          obtain ⟨v, st', rfl, ⟨q, hq, rfl⟩, hst1⟩ := rx_vs_cons hst
          clear hst
          have hst := hst1
          obtain ⟨cA, xa, t9, hws, htys, -⟩ := hH.arr hr hq
          refine va_alen hx hb hK hP r t9 hws htys rfl hd.1 ?_
          exact K _ (List.mem_singleton.mpr rfl) H locs ls _ ⟨g, tys, ws, lv, hE, hG, hH, hK, hP, hD, hS, hl, hv, ⟨_, rfl, nI_toInt (n := n) (by omega)⟩, hst⟩
        · cases h
      · cases h
    · cases h
  · -- iaload
    have hlen := rx_len hd rfl
    subst hlen
    obtain ⟨q, r, sa, t, n, ex, df, j, hsa, hr, hk, hj, rfl⟩ := rx_ald_eq h
    have hk := rx_kt hk
    subst hk
    intro H locs ls st hat
    rw [hpc]
    obtain ⟨g, tys, ws, lv, hE, hG, hH, hK, hP, hD, hS, hl, hv, hst⟩ := hat
    rw [hsa] at hst
    obtain ⟨v, st', rfl, ⟨xv, rfl, hq⟩, hst1⟩ := rx_vs_cons hst
    obtain ⟨v0, st', rfl, ⟨o, ho, rfl⟩, hst2⟩ := rx_vs_cons hst1
    clear hst hst1
    have hst := hst2
    obtain ⟨cA, xa, t9, hws, htys, hxa⟩ := hH.arr hr ho
    obtain ⟨f, rfl, hf⟩ := rx_aint hxa (by omega)
    obtain ⟨hjn, -, hcl1, hin⟩ := rx_ix_ok hG hq hj
    refine va_iald hx hb hK hP r t9 hws htys hin hd.1 ?_
    rw [hcl1]
    exact K _ (List.mem_singleton.mpr rfl) H locs ls _ ⟨g, tys, ws, lv, hE, hG, hH, hK, hP, hD, hS, hl, hv, hf j hjn, hst⟩
  · -- baload
    have hlen := rx_len hd rfl
    subst hlen
    obtain ⟨q, r, sa, t, n, ex, df, j, hsa, hr, hk, hj, rfl⟩ := rx_ald_eq h
    rw [Bool.or_eq_true] at hk
    intro H locs ls st hat
    rw [hpc]
    obtain ⟨g, tys, ws, lv, hE, hG, hH, hK, hP, hD, hS, hl, hv, hst⟩ := hat
    rw [hsa] at hst
    obtain ⟨v, st', rfl, ⟨xv, rfl, hq⟩, hst1⟩ := rx_vs_cons hst
    obtain ⟨v0, st', rfl, ⟨o, ho, rfl⟩, hst2⟩ := rx_vs_cons hst1
    clear hst hst1
    have hst := hst2
    obtain ⟨cA, xa, t9, hws, htys, hxa⟩ := hH.arr hr ho
    obtain ⟨hjn, -, hcl1, hin⟩ := rx_ix_ok hG hq hj
    rcases hk with hk | hk
    · have hk := rx_kt hk
      subst hk
      obtain ⟨f, rfl, hf⟩ := rx_aint hxa (by omega)
      refine va_bald hx hb hK hP r t9 hws htys hin hd.1 ?_
      rw [hcl1]
      exact K _ (List.mem_singleton.mpr rfl) H locs ls _ ⟨g, tys, ws, lv, hE, hG, hH, hK, hP, hD, hS, hl, hv, hf j hjn, hst⟩
    · have hk := rx_kt hk
      subst hk
      obtain ⟨f, rfl, hf⟩ := rx_aint hxa (by omega)
      refine va_zald hx hb hK hP r t9 hws htys hin hd.1 ?_
      rw [hcl1]
      exact K _ (List.mem_singleton.mpr rfl) H locs ls _ ⟨g, tys, ws, lv, hE, hG, hH, hK, hP, hD, hS, hl, hv, hf j hjn, hst⟩
  · -- laload
    have hlen := rx_len hd rfl
    subst hlen
    obtain ⟨q, r, sa, t, n, ex, df, j, hsa, hr, hk, hj, rfl⟩ := rx_ald_eq h
    have hk := rx_kt hk
    subst hk
    intro H locs ls st hat
    rw [hpc]
    obtain ⟨g, tys, ws, lv, hE, hG, hH, hK, hP, hD, hS, hl, hv, hst⟩ := hat
    rw [hsa] at hst
    obtain ⟨v, st', rfl, ⟨xv, rfl, hq⟩, hst1⟩ := rx_vs_cons hst
    obtain ⟨v0, st', rfl, ⟨o, ho, rfl⟩, hst2⟩ := rx_vs_cons hst1
    clear hst hst1
    have hst := hst2
    obtain ⟨cA, xa, t9, hws, htys, hxa⟩ := hH.arr hr ho
    obtain ⟨f, rfl, hf⟩ := rx_along hxa rfl
    obtain ⟨hjn, -, hcl1, hin⟩ := rx_ix_ok hG hq hj
    refine va_lald hx hb hK hP r t9 hws htys hin hd.1 ?_
    rw [hcl1]
    exact K _ (List.mem_singleton.mpr rfl) H locs ls _ ⟨g, tys, ws, lv, hE, hG, hH, hK, hP, hD, hS, hl, hv, hf j hjn, hst⟩
  · -- iastore
    have hlen := rx_len hd rfl
    subst hlen
    obtain ⟨a, q, r, sa, t, n, ex, df, j, ex', hsa, hr, hk, hfit, hj, hel, rfl⟩ := rx_ast_eq h
    have hk := rx_kt hk
    subst hk
    intro H locs ls st hat
    rw [hpc]
    obtain ⟨g, tys, ws, lv, hE, hG, hH, hK, hP, hD, hS, hl, hv, hst⟩ := hat
    rw [hsa] at hst
    obtain ⟨v, st', rfl, hv1, hst1⟩ := rx_vs_cons hst
    obtain ⟨v0, st', rfl, ⟨xv, rfl, hq⟩, hst2⟩ := rx_vs_cons hst1
    obtain ⟨v0, st', rfl, ⟨o, ho, rfl⟩, hst3⟩ := rx_vs_cons hst2
    clear hst hst1 hst2
    have hst := hst3
    obtain ⟨cA, xa, t9, hws, htys, hxa⟩ := hH.arr hr ho
    obtain ⟨f, rfl, hf⟩ := rx_aint hxa (by omega)
    obtain ⟨hjn, -, hcl1, hin⟩ := rx_ix_ok hG hq hj
    obtain ⟨yv, rfl⟩ : ∃ y, v = .int y := by
      rcases a with a | a | (_ | a) | a
      · obtain ⟨y, rfl, -⟩ := hv1; exact ⟨y, rfl⟩
      all_goals cases hfit
    refine va_iast hx hb hK hP hD hS r t9 hws htys hin hd.1 fun H1 locs1 hP1 hD1 hS1 => ?_
    rw [hcl1] at hP1 hD1
    have hcc : rx_c b (ws.map Prod.fst) g tys (.inr (0, n, ex', df)) (.inl (cA, n, .inl (upd f j yv))) := by
      refine ⟨rfl, List.mem_of_getElem? htys, (by omega), fun i hi => ?_⟩
      rw [hel i]
      by_cases hij : i = j
      · subst hij; rw [if_pos rfl, pk_us]; exact hv1
      · rw [if_neg hij, pk_un hij]; exact hf i hi
    exact K _ (List.mem_singleton.mpr rfl) H1 locs1 ls _ (rx_setc hE hG hH hK hl hv hst hws hcc hP1 hD1 hS1)
  · -- bastore
    have hlen := rx_len hd rfl
    subst hlen
    obtain ⟨a, q, r, sa, t, n, ex, df, j, ex', hsa, hr, hk, hfit, hj, hel, rfl⟩ := rx_ast_eq h
    rw [Bool.or_eq_true] at hk
    intro H locs ls st hat
    rw [hpc]
    obtain ⟨g, tys, ws, lv, hE, hG, hH, hK, hP, hD, hS, hl, hv, hst⟩ := hat
    rw [hsa] at hst
    obtain ⟨v, st', rfl, hv1, hst1⟩ := rx_vs_cons hst
    obtain ⟨v0, st', rfl, ⟨xv, rfl, hq⟩, hst2⟩ := rx_vs_cons hst1
    obtain ⟨v0, st', rfl, ⟨o, ho, rfl⟩, hst3⟩ := rx_vs_cons hst2
    clear hst hst1 hst2
    have hst := hst3
    obtain ⟨cA, xa, t9, hws, htys, hxa⟩ := hH.arr hr ho
    obtain ⟨hjn, -, hcl1, hin⟩ := rx_ix_ok hG hq hj
    rcases hk with hk | hk
    · have hk := rx_kt hk
      subst hk
      obtain ⟨f, rfl, hf⟩ := rx_aint hxa (by omega)
      obtain ⟨yv, rfl⟩ : ∃ y, v = .int y := by
        rcases a with a | a | (_ | a) | a
        · obtain ⟨y, rfl, -⟩ := hv1; exact ⟨y, rfl⟩
        all_goals cases hfit
      refine va_bast hx hb hK hP hD hS r t9 hws htys hin hd.1 fun H1 locs1 hP1 hD1 hS1 => ?_
      rw [hcl1, rx_naro hfit hG hv1 rfl] at hP1 hD1
      have hcc : rx_c b (ws.map Prod.fst) g tys (.inr (1, n, ex', df)) (.inl (cA, n, .inl (upd f j yv))) := by
        refine ⟨rfl, List.mem_of_getElem? htys, (by omega), fun i hi => ?_⟩
        rw [hel i]
        by_cases hij : i = j
        · subst hij; rw [if_pos rfl, pk_us]; exact hv1
        · rw [if_neg hij, pk_un hij]; exact hf i hi
      exact K _ (List.mem_singleton.mpr rfl) H1 locs1 ls _ (rx_setc hE hG hH hK hl hv hst hws hcc hP1 hD1 hS1)
    · have hk := rx_kt hk
      subst hk
      obtain ⟨f, rfl, hf⟩ := rx_aint hxa (by omega)
      obtain ⟨yv, rfl⟩ : ∃ y, v = .int y := by
        rcases a with a | a | (_ | a) | a
        · obtain ⟨y, rfl, -⟩ := hv1; exact ⟨y, rfl⟩
        all_goals cases hfit
      refine va_zast hx hb hK hP hD hS r t9 hws htys hin hd.1 fun H1 locs1 hP1 hD1 hS1 => ?_
      rw [hcl1, rx_naro hfit hG hv1 rfl] at hP1 hD1
      have hcc : rx_c b (ws.map Prod.fst) g tys (.inr (2, n, ex', df)) (.inl (cA, n, .inl (upd f j yv))) := by
        refine ⟨rfl, List.mem_of_getElem? htys, (by omega), fun i hi => ?_⟩
        rw [hel i]
        by_cases hij : i = j
        · subst hij; rw [if_pos rfl, pk_us]; exact hv1
        · rw [if_neg hij, pk_un hij]; exact hf i hi
      exact K _ (List.mem_singleton.mpr rfl) H1 locs1 ls _ (rx_setc hE hG hH hK hl hv hst hws hcc hP1 hD1 hS1)
  · -- lastore
    have hlen := rx_len hd rfl
    subst hlen
    obtain ⟨a, q, r, sa, t, n, ex, df, j, ex', hsa, hr, hk, hfit, hj, hel, rfl⟩ := rx_ast_eq h
    have hk := rx_kt hk
    subst hk
    intro H locs ls st hat
    rw [hpc]
    obtain ⟨g, tys, ws, lv, hE, hG, hH, hK, hP, hD, hS, hl, hv, hst⟩ := hat
    rw [hsa] at hst
    obtain ⟨v, st', rfl, hv1, hst1⟩ := rx_vs_cons hst
    obtain ⟨v0, st', rfl, ⟨xv, rfl, hq⟩, hst2⟩ := rx_vs_cons hst1
    obtain ⟨v0, st', rfl, ⟨o, ho, rfl⟩, hst3⟩ := rx_vs_cons hst2
    clear hst hst1 hst2
    have hst := hst3
    obtain ⟨cA, xa, t9, hws, htys, hxa⟩ := hH.arr hr ho
    obtain ⟨f, rfl, hf⟩ := rx_along hxa rfl
    obtain ⟨hjn, -, hcl1, hin⟩ := rx_ix_ok hG hq hj
    obtain ⟨yv, rfl⟩ : ∃ y, v = .long y := by
      rcases a with a | a | (_ | a) | a
      · cases hfit
      · obtain ⟨y, rfl, -⟩ := hv1; exact ⟨y, rfl⟩
      all_goals cases hfit
    refine va_last hx hb hK hP hD hS r t9 hws htys hin hd.1 fun H1 locs1 hP1 hD1 hS1 => ?_
    rw [hcl1] at hP1 hD1
    have hcc : rx_c b (ws.map Prod.fst) g tys (.inr (3, n, ex', df)) (.inl (cA, n, .inr (.inl (vp_updL f j yv)))) := by
      refine ⟨rfl, List.mem_of_getElem? htys, rfl, fun i hi => ?_⟩
      rw [hel i]
      by_cases hij : i = j
      · subst hij; rw [if_pos rfl, pk_uLs]; exact hv1
      · rw [if_neg hij, pk_uLn hij]; exact hf i hi
    exact K _ (List.mem_singleton.mpr rfl) H1 locs1 ls _ (rx_setc hE hG hH hK hl hv hst hws hcc hP1 hD1 hS1)
  · -- aaload
    have hlen := rx_len hd rfl
    subst hlen
    split at h
    · rename_i q r sa hsa
      split at h
      · rename_i k n ex df hr
        split at h
        case h_2 => cases h
        rename_i hk9
        have hk9 := Nat.le_of_ble_eq_true hk9
        split at h
        · rename_i j hj
          split at h
          · rename_i o1 ho1
            cases h
            intro H locs ls st hat
            rw [hpc]
            obtain ⟨g, tys, ws, lv, hE, hG, hH, hK, hP, hD, hS, hl, hv, hst⟩ := hat
            rw [hsa] at hst
            obtain ⟨v, st', rfl, ⟨xv, rfl, hq⟩, hst1⟩ := rx_vs_cons hst
            obtain ⟨v0, st', rfl, ⟨o, ho, rfl⟩, hst2⟩ := rx_vs_cons hst1
            clear hst hst1
            have hst := hst2
            obtain ⟨cA, xa, t9, hws, htys, hxa⟩ := hH.arr hr ho
            obtain ⟨f, rfl, hf⟩ := rx_aref hxa (by omega) (by omega)
            obtain ⟨hjn, -, hcl1, hin⟩ := rx_ix_ok hG hq hj
            rw [rx_ty_lo (show k + 4 < 1000 by omega)] at htys
            refine va_aldq hx hb hK hP r t9 hws htys hin hd.1 ?_
            rw [hcl1]
            have hfj := hf j hjn
            rw [ho1] at hfj
            exact K _ (List.mem_singleton.mpr rfl) H locs ls _ ⟨g, tys, ws, lv, hE, hG, hH, hK, hP, hD, hS, hl, hv, hfj, hst⟩
          · cases h
        · cases h
      · cases h
    · cases h
  · -- aastore
    have hlen := rx_len hd rfl
    subst hlen
    split at h
    · rename_i o1 q r sa hsa
      split at h
      · rename_i k n ex df hr
        split at h
        · rename_i ci fs ho1
          split at h
          · rename_i hci
            rw [Bool.and_eq_true] at hci
            obtain ⟨hci, hk9⟩ := hci
            have hci := Nat.eq_of_beq_eq_true hci
            have hk9 := Nat.le_of_ble_eq_true hk9
            subst hci
            split at h
            · rename_i j hj
              obtain ⟨ex', h1, hel⟩ := rx_asg_ok df ex j (.inr (.inr (.inl (some o1)))) (fun ex => rx_set T.2.1 r (.inr (ci + 4, n, ex, df)) (fun h => some [((T.1, h, T.2.2.1, pc + 1, T.2.2.2.2.1, sa) : rx_T)]))
              have h2 := h1.symm.trans h
              rw [rx_set_eq] at h2
              cases h2
              intro H locs ls st hat
              rw [hpc]
              obtain ⟨g, tys, ws, lv, hE, hG, hH, hK, hP, hD, hS, hl, hv, hst⟩ := hat
              rw [hsa] at hst
              obtain ⟨v, st', rfl, ⟨a1, ha1, rfl⟩, hst1⟩ := rx_vs_cons hst
              obtain ⟨v, st', rfl, ⟨xv, rfl, hq⟩, hst2⟩ := rx_vs_cons hst1
              obtain ⟨v0, st', rfl, ⟨o, ho, rfl⟩, hst3⟩ := rx_vs_cons hst2
              clear hst hst1 hst2
              have hst := hst3
              obtain ⟨cA, xa, t9, hws, htys, hxa⟩ := hH.arr hr ho
              obtain ⟨f, rfl, hf⟩ := rx_aref hxa (by omega) (by omega)
              obtain ⟨vs, hws1, hvs⟩ := hH.obj (by omega) ho1 ha1
              obtain ⟨hjn, -, hcl1, hin⟩ := rx_ix_ok hG hq hj
              obtain ⟨rc, hrc, -⟩ := hP o1 _ hws1
              have hty : rx_ty (ci + 4) = .object rc.1 := by
                rw [rx_ty_lo (by omega)]
                show FieldType.object ((vwCl[ci]?.map (fun r => r.1)).getD "") = .object rc.1
                rw [hrc]; rfl
              rw [hty] at htys
              refine va_astq hx hb hK hP hD hS r t9 o1 ci hws htys hws1 hrc hin hd.1 fun H1 locs1 hP1 hD1 hS1 => ?_
              rw [hcl1] at hP1 hD1
              have hcc : rx_c b (ws.map Prod.fst) g tys (.inr (ci + 4, n, ex', df)) (.inl (cA, n, .inr (.inr (.inr (.inr (va_up f j (some a1))))))) := by
                refine ⟨rfl, by rw [hty]; exact List.mem_of_getElem? htys, ?_⟩
                rw [rx_a_lo (by omega)]
                refine ⟨(by omega), fun i hi => ?_⟩
                rw [hel i]
                by_cases hij : i = j
                · subst hij
                  rw [if_pos rfl]
                  exact ⟨a1, ha1, by simp [va_up, va_rf]⟩
                · rw [if_neg hij]
                  have hfi := hf i hi
                  simp only [va_up, if_neg hij]
                  exact hfi
              exact K _ (List.mem_singleton.mpr rfl) H1 locs1 ls _ (rx_setc hE hG hH hK hl hv hst hws hcc hP1 hD1 hS1)
            · cases h
          · cases h
        · cases h
      · cases h
    · cases h
  · -- new
    rename_i idx
    have hlen := rx_len hd rfl
    subst hlen
    obtain ⟨hc1, hc2, rfl⟩ := rx_mk_eq h
    obtain ⟨⟨C, TT, NN⟩, hc, hl1, hl2, hl3⟩ := hok
    dsimp only at hl1 hl2 hl3
    obtain ⟨hcw, ⟨ty0, hty0, hdf⟩, hnm, hlen0, hall⟩ := hcl _ _ hc
    dsimp only at hcw hty0 hdf hnm hlen0
    intro H locs ls st hat
    rw [hpc]
    obtain ⟨g, tys, ws, lv, hE, hG, hH, hK, hP, hD, hS, hl, hv, hst⟩ := hat
    rw [hlen0] at hc2
    refine va_new (fs := (rx_new N u).map rx_dval) hx hb hts hcw ty0 hty0 hown (hts _ hl1) (hts _ hl2) (hts _ hl3) hK hP hD hS hA hc hdf (by rw [hR.1]; exact hc1) (by rw [hR.2.1]; exact hc2) hd.1 fun q H1 hP1 hD1 hS1 => ?_
    have key : ∀ (as : List Nat) (l : List rx_V), l.all rx_isd = true → rx_vs b as g l (l.map rx_dval) := by
      intro as l
      induction l with
      | nil => exact fun _ => trivial
      | cons a l ih =>
        intro h
        rw [List.all_cons, Bool.and_eq_true] at h
        refine ⟨?_, ih h.2⟩
        have h1 := h.1
        unfold rx_isd at h1
        split at h1
        · exact ⟨0, rfl, rfl⟩
        · exact ⟨0, rfl, rfl⟩
        · rfl
        · cases h1
    have hgo := K _ (List.mem_singleton.mpr rfl) H1 locs ls (.ref q :: st) (rx_addc hE hG hH (fun _ h => h) hK hl hv hst (e1 := .inr (u, (rx_new N u).map rx_dval)) (rx_c_obj (key _ _ hall)) hP1 hD1 hS1)
    dsimp only at hgo
    rw [hlen0] at hgo
    exact hgo
  · -- newarray
    rename_i t
    have hlen := rx_len hd rfl
    subst hlen
    split at h
    · rename_i q sa hsa
      split at h
      · rename_i k hk
        split at h
        · rename_i n hn
          obtain ⟨hc1, hc2, rfl⟩ := rx_mk_eq h
          intro H locs ls st hat
          rw [hpc]
          obtain ⟨g, tys, ws, lv, hE, hG, hH, hK, hP, hD, hS, hl, hv, hst⟩ := hat
          rw [hsa] at hst
          obtain ⟨v, st', rfl, ⟨xv, rfl, hq⟩, hst1⟩ := rx_vs_cons hst
          clear hst
          have hst := hst1
          obtain ⟨hnn, hxv, hcl1, -⟩ := rx_ix_ok hG hq hn
          have hneg : ¬ xv < 0 := fun h0 => by
            have h1 := rx_lt32.mp h0
            have h2 : (0 : Int32).toInt = 0 := rfl
            omega
          have go : ∀ (ty : FieldType) (f0 : rx_B), newarray.typeOf t = ty → rx_ty k = ty → componentBytes ty ≤ 8 → (∀ cA : ClassId, vp_cell cA (n, f0) = arrV cA n (fun _ => defaultValue ty)) → (∀ as : List Nat, rx_a b as g k n [] (rx_zero k) f0) → W p l e R s m args below meth c H locs T.2.2.1.1 T.2.2.1.2 Q (F0 m pc ls (.int xv :: st')) := by
            intro ty f0 e1 e2 e3 e4 e5
            have hbytes : n * componentBytes ty ≤ 536870912 := Nat.le_trans (Nat.mul_le_mul (show n ≤ 1000000 by omega) e3) (by decide)
            refine va_newa (atype := t) hx hb (hts _ hok) e1 hK hP hD hS hA (a0 := (n, f0)) e4 hneg hcl1 hbytes (by rw [hR.1]; exact hc1) (by rw [hR.2.1]; exact hc2) hd.1 fun q' cA H1 hK1 hP1 hD1 hS1 => ?_
            exact K _ (List.mem_singleton.mpr rfl) H1 locs ls (.ref q' :: st') (rx_addc hE hG hH (fun _ h => List.mem_append_left _ h) hK1 hl hv hst (e1 := .inl (cA, n, f0)) ⟨rfl, by rw [e2]; exact List.mem_append_right _ (List.mem_singleton.mpr rfl), e5 _⟩ hP1 hD1 hS1)
          cases t <;> first
            | (cases hk; refine go .int (.inl (fun _ => 0)) rfl rfl (by decide) (fun cA => rfl) (fun as => ⟨by omega, fun j _ => ⟨0, rfl, rfl⟩⟩))
            | (cases hk; refine go .byte (.inl (fun _ => 0)) rfl rfl (by decide) (fun cA => rfl) (fun as => ⟨by omega, fun j _ => ⟨0, rfl, rfl⟩⟩))
            | (cases hk; refine go .boolean (.inl (fun _ => 0)) rfl rfl (by decide) (fun cA => rfl) (fun as => ⟨by omega, fun j _ => ⟨0, rfl, rfl⟩⟩))
            | (cases hk; refine go .long (.inr (.inl (fun _ => 0))) rfl rfl (by decide) (fun cA => rfl) (fun as => ⟨rfl, fun j _ => ⟨0, rfl, rfl⟩⟩))
            | cases hk
        · cases h
      · cases h
    · cases h
  · -- anewarray
    rename_i idx
    have hlen := rx_len hd rfl
    subst hlen
    split at h
    · rename_i q sa hsa
      split at h
      · rename_i n hn
        obtain ⟨hc1, hc2, rfl⟩ := rx_mk_eq h
        obtain ⟨⟨C, TT, NN⟩, hc, hl1, hl2⟩ := hok
        dsimp only at hl1 hl2
        intro H locs ls st hat
        rw [hpc]
        obtain ⟨g, tys, ws, lv, hE, hG, hH, hK, hP, hD, hS, hl, hv, hst⟩ := hat
        rw [hsa] at hst
        obtain ⟨v, st', rfl, ⟨xv, rfl, hq⟩, hst1⟩ := rx_vs_cons hst
        clear hst
        have hst := hst1
        obtain ⟨hnn, hxv, hcl1, -⟩ := rx_ix_ok hG hq hn
        have hneg : ¬ xv < 0 := fun h0 => by
          have h1 := rx_lt32.mp h0
          have h2 : (0 : Int32).toInt = 0 := rfl
          omega
        have hu9 := rx_c9 hc
        dsimp only at hu9
        have hty : rx_ty (u + 4) = .object C := by
          rw [rx_ty_lo (by omega)]
          show FieldType.object ((vwCl[u]?.map (fun r => r.1)).getD "") = .object C
          dsimp only at hc
          rw [hc]; rfl
        refine va_newq hx hb hown (hts _ hl1) (hpr.2 _ hl2) hK hP hD hS hA hneg hcl1 (by omega) (by rw [hR.1]; exact hc1) (by rw [hR.2.1]; exact hc2) hd.1 fun q' cA H1 hK1 hP1 hD1 hS1 => ?_
        exact K _ (List.mem_singleton.mpr rfl) H1 locs ls (.ref q' :: st') (rx_addc hE hG hH (fun _ h => List.mem_append_left _ h) hK1 hl hv hst (e1 := .inl (cA, n, .inr (.inr (.inr (.inr (fun _ => none)))))) ⟨rfl, by rw [hty]; exact List.mem_append_right _ (List.mem_singleton.mpr rfl), (by rw [rx_a_lo (by omega)]; exact ⟨(by omega), fun j _ => rfl⟩)⟩ hP1 hD1 hS1)
      · cases h
    · cases h
  · -- Object.<init>
    rename_i idx
    have hlen := rx_len hd rfl
    subst hlen
    split at h
    · rename_i hx1
      obtain ⟨hl1, hl2, hl3⟩ := hok (Nat.eq_of_beq_eq_true hx1)
      split at h
      · rename_i r sa hsa
        split at h
        · rename_i hc8
          cases h
          intro H locs ls st hat
          rw [hpc]
          obtain ⟨g, tys, ws, lv, hE, hG, hH, hK, hP, hD, hS, hl, hv, hst⟩ := hat
          rw [hsa] at hst
          obtain ⟨v, st', rfl, ⟨a, ha, rfl⟩, hst1⟩ := rx_vs_cons hst
          clear hst
          have hst := hst1
          have hsum := rx_cats_ok hst
          have h8 := Nat.le_of_ble_eq_true hc8
          have hrm := lv_room (m := m) (pc := pc) (ls := ls) (rest := .ref a :: st') (st := st') (by rw [hsum]; exact h8)
          refine W.objInit hx hb hown (hts _ hl1) (hts _ hl2) (hts _ hl3) rfl (hv.1.trans hml.symm) rfl hd.1 hR.2.2.1 (Nat.le_trans (Nat.add_le_add_right hrm 12) (Nat.le_trans (by decide) hR.2.2.2)) ?_
          exact K _ (List.mem_singleton.mpr rfl) H locs ls st' ⟨g, tys, ws, lv, hE, hG, hH, hK, hP, hD, hS, hl, hv, hst⟩
        · cases h
      · cases h
    · cases h
  · -- System.arraycopy
    rename_i idx
    have hlen := rx_len hd rfl
    subst hlen
    split at h
    · rename_i hx1
      obtain ⟨hl1, hl2, hl3, hl4⟩ := hok.1 (Nat.eq_of_beq_eq_true hx1)
      split at h
      · rename_i n d r f o sa hsa
        split at h
        · rename_i nn hnn
          split at h
          · rename_i hd0
            split at h
            · rename_i hf0
              split at h
              · rename_i t n0 ex0 df0 hro
                split at h
                · rename_i t1 n1 ex1 df1 hrr
                  split at h
                  · rename_i hall
                    simp only [Bool.and_eq_true, Bool.or_eq_true] at hall
                    obtain ⟨ht, ht2, hn0, hn1, hnm, hc8⟩ := hall
                    have ht := Nat.eq_of_beq_eq_true ht
                    have hn0 := Nat.eq_of_beq_eq_true hn0
                    have hn1 := Nat.eq_of_beq_eq_true hn1
                    have hnm := Nat.le_of_ble_eq_true hnm
                    have h8 := Nat.le_of_ble_eq_true hc8
                    subst ht
                    rw [rx_set_eq] at h
                    cases h
                    intro H locs ls st hat
                    rw [hpc]
                    obtain ⟨g, tys, ws, lv, hE, hG, hH, hK, hP, hD, hS, hl, hv, hst⟩ := hat
                    rw [hsa] at hst
                    obtain ⟨v, st', rfl, ⟨xn, rfl, hqn⟩, hst1⟩ := rx_vs_cons hst
                    obtain ⟨v, st', rfl, ⟨xd, rfl, hqd⟩, hst2⟩ := rx_vs_cons hst1
                    obtain ⟨v, st', rfl, ⟨ar, har, rfl⟩, hst3⟩ := rx_vs_cons hst2
                    obtain ⟨v, st', rfl, ⟨xf, rfl, hqf⟩, hst4⟩ := rx_vs_cons hst3
                    obtain ⟨v, st', rfl, ⟨ao, hao, rfl⟩, hst5⟩ := rx_vs_cons hst4
                    clear hst hst1 hst2 hst3 hst4
                    have hst := hst5
                    have e1 : xn.toInt = (nn : Int) := rx_cs_ok hG hqn hnn
                    have e2 : xd.toInt = 0 := rx_cs_ok hG hqd hd0
                    have e3 : xf.toInt = 0 := rx_cs_ok hG hqf hf0
                    have c1 : xn.toNatClampNeg = nn := by show xn.toInt.toNat = nn; omega
                    have c2 : xd.toNatClampNeg = 0 := by show xd.toInt.toNat = 0; omega
                    have c3 : xf.toNatClampNeg = 0 := by show xf.toInt.toNat = 0; omega
                    have neg : ∀ y : Int32, 0 ≤ y.toInt → ¬ y < 0 := fun y hy h0 => by
                      have h1 := rx_lt32.mp h0
                      have h2 : (0 : Int32).toInt = 0 := rfl
                      omega
                    have hsum := rx_cats_ok hst
                    have hnat : nativeFrameWords "java/lang/System" "arraycopy" 5 = 7 := by decide +kernel
                    have hloc : (st'.map fun v => v.category).sum + (nativeFrameWords "java/lang/System" "arraycopy" 5 + 11) ≤ R.locals := by rw [hsum, hnat]; have := hR.2.2.2; omega
                    obtain ⟨cA0, xa0, t9, hws0, htys0, hxa0⟩ := hH.arr hro hao
                    obtain ⟨cA1, xa1, t8, hws1, htys1, hxa1⟩ := hH.arr hrr har
                    rcases ht2 with ht2 | ht2
                    · have ht2 := Nat.eq_of_beq_eq_true ht2
                      subst ht2
                      obtain ⟨f0, rfl, hf0'⟩ := rx_aint hxa0 (by omega)
                      obtain ⟨f1, rfl, hf1'⟩ := rx_aint hxa1 (by omega)
                      refine va_copyi hx hb (hml.trans hv.1.symm) hown (hts _ hl1) (hts _ hl2) (hts _ hl3) (hts _ hl4) hK hP hD hS o r t9 t8 hws0 hws1 htys0 htys1 rfl (neg _ (by omega)) (neg _ (by omega)) (neg _ (by omega)) (by rw [c1, c3]; omega) (by rw [c1, c2]; omega) (fun _ _ => rfl) hR.2.2.1 hloc hd.1 fun H1 locs1 hP1 hD1 hS1 => ?_
                      rw [c1, c2, c3] at hP1 hD1
                      have hcc : rx_c b (ws.map Prod.fst) g tys (.inr (0, n1, ex0, df0)) (.inl (cA1, n1, .inl (va_cpy f0 f1 0 0 nn))) := by
                        refine ⟨rfl, List.mem_of_getElem? htys1, (by omega), fun j hj => ?_⟩
                        have e9 : va_cpy f0 f1 0 0 nn j = f0 j := by
                          rw [pk_cpy_in (by omega) (by omega)]
                          congr 1
                          omega
                        rw [e9]
                        exact hf0' j (by omega)
                      exact K _ (List.mem_singleton.mpr rfl) H1 locs1 ls st' (rx_setc hE hG hH hK hl hv hst hws1 hcc hP1 hD1 hS1)
                    · have ht2 := Nat.eq_of_beq_eq_true ht2
                      subst ht2
                      obtain ⟨f0, rfl, hf0'⟩ := rx_along hxa0 rfl
                      obtain ⟨f1, rfl, hf1'⟩ := rx_along hxa1 rfl
                      refine va_copyl hx hb (hml.trans hv.1.symm) hown (hts _ hl1) (hts _ hl2) (hts _ hl3) (hts _ hl4) hK hP hD hS o r t9 t8 hws0 hws1 htys0 htys1 rfl (neg _ (by omega)) (neg _ (by omega)) (neg _ (by omega)) (by rw [c1, c3]; omega) (by rw [c1, c2]; omega) (fun _ _ => rfl) hR.2.2.1 hloc hd.1 fun H1 locs1 hP1 hD1 hS1 => ?_
                      rw [c1, c2, c3] at hP1 hD1
                      have hcc : rx_c b (ws.map Prod.fst) g tys (.inr (3, n1, ex0, df0)) (.inl (cA1, n1, .inr (.inl (va_cpy f0 f1 0 0 nn)))) := by
                        refine ⟨rfl, List.mem_of_getElem? htys1, rfl, fun j hj => ?_⟩
                        have e9 : va_cpy f0 f1 0 0 nn j = f0 j := by
                          rw [pk_cpy_in (by omega) (by omega)]
                          congr 1
                          omega
                        rw [e9]
                        exact hf0' j (by omega)
                      exact K _ (List.mem_singleton.mpr rfl) H1 locs1 ls st' (rx_setc hE hG hH hK hl hv hst hws1 hcc hP1 hD1 hS1)
                  · cases h
                · cases h
              · cases h
            · cases h
          · cases h
        · cases h
      · cases h
    · split at h
      · rename_i hx1
        obtain ⟨hl1, hl2, hl3, hl4⟩ := hok.2 (Nat.eq_of_beq_eq_true hx1)
        split at h
        · rename_i y0 x0 sa hsa
          split at h
          · rename_i hall
            simp only [Bool.and_eq_true] at hall
            obtain ⟨h8, hcc, hss⟩ := hall
            have h8 := Nat.le_of_ble_eq_true h8
            have hcc := Nat.le_of_ble_eq_true hcc
            have hss := Nat.le_of_ble_eq_true hss
            cases h
            intro H locs ls st hat
            rw [hpc]
            obtain ⟨g, tys, ws, lv, hE, hG, hH, hK, hP, hD, hS, hl, hv, hst⟩ := hat
            rw [hsa] at hst
            obtain ⟨v1, st1, rfl, ⟨yv, rfl, hy⟩, hst1⟩ := rx_vs_cons hst
            obtain ⟨v2, st', rfl, ⟨xv, rfl, hx1v⟩, hst2⟩ := rx_vs_cons hst1
            have hloc : (st'.map fun v => v.category).sum + 13 ≤ R.locals := by rw [rx_cats_ok hst2]; have := hR.2.2.2; omega
            refine va_mmin hx hb (hml.trans hv.1.symm) hown (hts _ hl1) (hts _ hl2) (hts _ hl3) (hts _ hl4) hR.2.2.1 hloc (by rw [hR.1]; exact hcc) (by rw [hR.2.1]; exact hss) hd.1 ?_
            by_cases hlt : yv < xv
            · rw [if_pos hlt]
              obtain ⟨sy', h1, h2⟩ := rx_br_ok .lt hG hy hx1v (rx_lt32.mp hlt)
              exact K (sy', T.2.1, T.2.2.1, pc + 3, T.2.2.2.2.1, .inl y0 :: sa) (List.mem_append_left _ (List.mem_map.mpr ⟨sy', h1, rfl⟩)) H locs ls _ ⟨g, tys, ws, lv, hE, h2, hH, hK, hP, hD, hS, hl, hv, ⟨yv, rfl, hy⟩, hst2⟩
            · rw [if_neg hlt]
              obtain ⟨sy', h1, h2⟩ := rx_br_ok .ge hG hy hx1v (show xv.toInt ≤ yv.toInt from Int.not_lt.mp fun q => hlt (rx_lt32.mpr q))
              exact K (sy', T.2.1, T.2.2.1, pc + 3, T.2.2.2.2.1, .inl x0 :: sa) (List.mem_append_right _ (List.mem_map.mpr ⟨sy', h1, rfl⟩)) H locs ls _ ⟨g, tys, ws, lv, hE, h2, hH, hK, hP, hD, hS, hl, hv, ⟨xv, rfl, hx1v⟩, hst2⟩
          · cases h
        · cases h
      · cases h
  · cases h
end RXE
