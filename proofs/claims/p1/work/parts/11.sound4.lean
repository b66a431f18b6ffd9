section RXE
variable {p : Program} {l : Launch} {e : Env} {R : Room} {s : State} {m : MethodId} {args : Array Value} {below : List Frame} {meth : Method} {c : Code} {b : Nat} {D : va_G} {A : Nat → Prop} {g0 : List Int} {a0 : List Nat} {t0 : List (ClassId × FieldType)} {nL : Nat} {Q : State → Prop} {cc : ByteArray} {own nm : String}
theorem rx_fit_ok {t : Nat} {sy : rx_Y} {a : rx_V} {as : List Nat} {g : List Int} {v : Value} {ty : FieldType} (h : rx_fit t sy a = true) (hG : rx_g sy g) (hv : rx_v b as g a v) (ht : rx_tyt ty = t) : narrow ty v = v ∧ fits ty v = true := by
  subst ht
  unfold rx_fit at h
  split at h
  · rename_i t a q he
    obtain ⟨x, rfl, -⟩ := hv
    cases ty <;> first | exact ⟨rfl, rfl⟩ | cases he
  · rename_i t a q he
    obtain ⟨x, rfl, hq⟩ := hv
    rw [Bool.and_eq_true] at h
    have r1 := (rx_ile_iff _ _).mp h.1
    have r2 := (rx_ile_iff _ _).mp h.2
    have r3 := rx_iv_ok hG hq
    have e1 : (-128 : Int32).toInt = -128 := rfl
    have e2 : (127 : Int32).toInt = 127 := rfl
    cases ty <;> first
      | (refine ⟨?_, ?_⟩
         · show Value.int x.toInt8.toInt32 = _
           rw [fb_byte (by omega) (by omega)]
         · show (decide (-128 ≤ x) && decide (x ≤ 127)) = true
           rw [Bool.and_eq_true, decide_eq_true_eq, decide_eq_true_eq]
           exact ⟨rx_le32.mpr (by rw [e1]; omega), rx_le32.mpr (by rw [e2]; omega)⟩)
      | cases he
  · rename_i t a q he
    obtain ⟨x, rfl, hq⟩ := hv
    rw [Bool.and_eq_true] at h
    have r1 := (rx_ile_iff _ _).mp h.1
    have r2 := (rx_ile_iff _ _).mp h.2
    have r3 := rx_iv_ok hG hq
    have e0 : (0 : Int32).toInt = 0 := rfl
    have e1 : (1 : Int32).toInt = 1 := rfl
    have hx : x = 0 ∨ x = 1 := by
      rcases (show x.toInt = 0 ∨ x.toInt = 1 by omega) with q | q
      · exact Or.inl (rx_eq32.mpr (by rw [e0]; exact q))
      · exact Or.inr (rx_eq32.mpr (by rw [e1]; exact q))
    cases ty <;> first
      | (rcases hx with rfl | rfl <;> exact ⟨rfl, rfl⟩)
      | cases he
  · rename_i t a q he
    obtain ⟨x, rfl, -⟩ := hv
    cases ty <;> first | exact ⟨rfl, rfl⟩ | cases he
  · rename_i t a q he
    cases q with
    | none =>
      cases hv
      cases ty <;> first | exact ⟨rfl, rfl⟩ | cases he
    | some r =>
      obtain ⟨x, -, rfl⟩ := hv
      cases ty <;> first | exact ⟨rfl, rfl⟩ | cases he
  · cases h
theorem rx_cats_ok {as : List Nat} {g : List Int} : ∀ {sa : List rx_V} {st : List Value}, rx_vs b as g sa st → (st.map fun v => v.category).sum = rx_cats sa
  | [], [], _ => rfl
  | a :: sa, v :: st, h => by
    have h1 := rx_cats_ok h.2
    have h2 := rx_cat h.1
    rw [List.map_cons, List.sum_cons, h1]
    unfold rx_cats
    cases h3 : rx_c2 a with
    | true =>
      rw [h3] at h2
      have : v.category = 2 := by simpa using h2
      dsimp only
      omega
    | false =>
      have := rx_cat1 h.1 h3
      dsimp only
      omega
  | [], _ :: _, h => h.elim
  | _ :: _, [], h => h.elim
theorem rx_ix_ok {sy : rx_Y} {g : List Int} (hG : rx_g sy g) {q : rx_I} {x : Int32} (hq : rx_ev g q x.toInt) {n j : Nat} (h : rx_ix sy q n = some j) : j < n ∧ x.toInt = (j : Int) ∧ x.toNatClampNeg = j ∧ vp_in x n := by
  unfold rx_ix at h
  split at h
  · rename_i j' hj
    have e1 := rx_cs_ok hG hq hj
    split at h
    · rename_i hb
      cases h
      have hlt : j < n := Nat.le_of_ble_eq_true hb
      have e2 : x.toInt = (j : Int) := e1
      refine ⟨hlt, e2, ?_, vp_in_iff.mpr ⟨by omega, by omega⟩⟩
      show x.toInt.toNat = j
      omega
    · cases h
  · cases h
/-- a cell changed; a cell more -/
theorem rx_setc {sy : rx_Y} {h : List rx_C} {lc : rx_L} {sa : List rx_V} {H1 : Heap} {locs1 : List Loc} {ls : Array Slot} {st : List Value} {g : List Int} {tys : List (ClassId × FieldType)} {ws : va_W} {lv : List (Nat × Value)} {r a : Nat} {e0 e1 : va_E} {c1 : rx_C} (hE : rx_le g0 g ∧ rx_le a0 (ws.map Prod.fst) ∧ ∀ q ∈ t0, q ∈ tys) (hG : rx_g sy g) (hH : rx_h b g tys h ws) (hK : va_K D vwCl tys s) (hl : rx_ls b (ws.map Prod.fst) g lc lv) (hv : lv_has ls nL lv) (hst : rx_vs b (ws.map Prod.fst) g sa st)
    (hws : ws[r]? = some (a, e0)) (hc : rx_c b (ws.map Prod.fst) g tys c1 e1) (hP1 : va_P D vwCl (ws.set r (a, e1)) H1) (hD1 : va_D A (ws.set r (a, e1))) (hS1 : va_S A s.heap H1 locs1) : rx_At b D s A g0 a0 t0 nL sy (h.set r c1) lc sa H1 locs1 ls st :=
  ⟨g, tys, ws.set r (a, e1), lv, by rw [rx_fst_set hws]; exact hE, hG, hH.set hws hc, hK, hP1, hD1, hS1, by rw [rx_fst_set hws]; exact hl, hv, by rw [rx_fst_set hws]; exact hst⟩
theorem rx_addc {sy : rx_Y} {h : List rx_C} {lc : rx_L} {sa : List rx_V} {H1 : Heap} {locs1 : List Loc} {ls : Array Slot} {st : List Value} {g : List Int} {tys tys1 : List (ClassId × FieldType)} {ws : va_W} {lv : List (Nat × Value)} {a : Nat} {e1 : va_E} {c1 : rx_C} (hE : rx_le g0 g ∧ rx_le a0 (ws.map Prod.fst) ∧ ∀ q ∈ t0, q ∈ tys) (hG : rx_g sy g) (hH : rx_h b g tys h ws) (ht : ∀ q ∈ tys, q ∈ tys1) (hK : va_K D vwCl tys1 s) (hl : rx_ls b (ws.map Prod.fst) g lc lv) (hv : lv_has ls nL lv) (hst : rx_vs b (ws.map Prod.fst) g sa st)
    (hc : rx_c b ((ws ++ [(a, e1)]).map Prod.fst) g tys1 c1 e1) (hP1 : va_P D vwCl (ws ++ [(a, e1)]) H1) (hD1 : va_D A (ws ++ [(a, e1)])) (hS1 : va_S A s.heap H1 locs1) : rx_At b D s A g0 a0 t0 nL sy (h ++ [c1]) lc (.inr (.inr (.inl (some h.length))) :: sa) H1 locs1 ls (.ref a :: st) :=
  ⟨g, tys1, ws ++ [(a, e1)], lv, ⟨hE.1, hE.2.1.tr rx_app_le, fun q hq => ht q (hE.2.2 q hq)⟩, hG, hH.push ht hc, hK, hP1, hD1, hS1, hl.mono rx_app_le rx_le.rf, hv, ⟨a, by rw [hH.1]; exact rx_app_get, rfl⟩, hst.mono rx_app_le rx_le.rf⟩
theorem rx_mk_eq {mc ms : Nat} {i : rx_E} {T : rx_T} {c1 : rx_C} {n : Nat} {sa : List rx_V} {L : List rx_T} (h : rx_mk mc ms i T c1 n sa = some L) : T.2.2.1.1 + 1 ≤ mc ∧ T.2.2.1.2 + n ≤ ms ∧ L = [(T.1, T.2.1 ++ [c1], (T.2.2.1.1 + 1, T.2.2.1.2 + n), i.1 + i.2.2.1, T.2.2.2.2.1, .inr (.inr (.inl (some T.2.1.length))) :: sa)] := by
  unfold rx_mk at h
  split at h
  · rename_i hb
    rw [Bool.and_eq_true] at hb
    rw [rx_snoc_eq, rx_zn_eq, rx_zn_eq, rx_zn_eq] at h
    cases h
    exact ⟨Nat.le_of_ble_eq_true hb.1, Nat.le_of_ble_eq_true hb.2, rfl⟩
  · cases h
/-- the value of an array of ints, bytes, booleans; of longs -/
theorem rx_sE_ok {N : List (List rx_V)} {mc ms : Nat} {i : rx_E} {T : rx_T} {L : List rx_T} (C : rx_Cx p s m args c cc own nL) (hcl : rx_Clok N) (hd : rx_dc cc i) (hok : rx_okE own nm i) (hmn : meth.name = nm) (hR : R.cells = mc ∧ R.slots = ms ∧ 1 ≤ R.frames ∧ 60 ≤ R.locals) (hA : ∀ q, s.heap.size ≤ q → A q) (hpc : T.2.2.2.1 = i.1) (h : rx_sE N mc ms i T = some L) (K : ∀ T' ∈ L, rx_Go p l e R s m args below meth c b D A g0 a0 t0 nL Q T') : rx_Go p l e R s m args below meth c b D A g0 a0 t0 nL Q T := by
  obtain ⟨pc, ins, len, u, w, x, z⟩ := i
  obtain ⟨hx, hb, hml, hown, hts, hpr⟩ := C
  unfold rx_sE at h
  dsimp only at h
  split at h
  · -- getfield
    rename_i idx
    have hlen := rx_len hd rfl
    subst hlen
    split at h
    · rename_i r sa hsa
      split at h
      · rename_i ci fs hr
        split at h
        · rename_i hci
          have hci := Nat.eq_of_beq_eq_true hci
          subst hci
          split at h
          · rename_i a ha
            cases h
            obtain ⟨⟨C, TT, NN⟩, hc, hk, hdec, -, hlk⟩ := hok
            dsimp only at hk hdec hlk
            intro H locs ls st hat
            rw [hpc]
            obtain ⟨g, tys, ws, lv, hE, hG, hH, hK, hP, hD, hS, hl, hv, hst⟩ := hat
            rw [hsa] at hst
            obtain ⟨v, st', rfl, ⟨q, hq, rfl⟩, hst⟩ := rx_vs_cons hst
            obtain ⟨vs, hws, hvs⟩ := hH.obj hr hq
            obtain ⟨v, hv1, hv2⟩ := hvs.at _ _ ha
            have hgo := K _ (List.mem_singleton.mpr rfl) H locs ls (v :: st') ⟨g, tys, ws, lv, hE, hG, hH, hK, hP, hD, hS, hl, hv, hv2, hst⟩
            rcases hlk with hlk | ⟨-, host, hlk⟩
            · exact va_get hx hb hts (hcl _ _ hc).1 hown hK hP r hws hc w hk (hts _ hlk) (fun x hx => by rw [hdec] at hx; exact hx) hv1 hd.1 hgo
            · exact va_getN hx hb hts (hcl _ _ hc).1 hown hK hP r hws hc w hk ((hpr.1 _ hlk).use rfl) (fun x hx => by rw [hdec] at hx; exact hx) hv1 hd.1 hgo
          · cases h
        · cases h
      · cases h
    · cases h
  · -- putfield
    rename_i idx
    have hlen := rx_len hd rfl
    subst hlen
    split at h
    · rename_i a r sa hsa
      split at h
      · rename_i ci fs hr
        split at h
        · rename_i hci
          rw [Bool.and_eq_true, Bool.and_eq_true] at hci
          obtain ⟨hci, hfit, hlenf⟩ := hci
          have hci := Nat.eq_of_beq_eq_true hci
          subst hci
          rw [rx_set_eq, rx_set_eq] at h
          cases h
          obtain ⟨⟨⟨C, TT, NN⟩, hc, hk, hdec, ⟨ty, hty, htt⟩, hlk⟩, hfin⟩ := hok
          dsimp only at hk hdec hlk hty
          intro H locs ls st hat
          rw [hpc]
          obtain ⟨g, tys, ws, lv, hE, hG, hH, hK, hP, hD, hS, hl, hv, hst⟩ := hat
          rw [hsa] at hst
          obtain ⟨v, st', rfl, hv1, hst⟩ := rx_vs_cons hst
          obtain ⟨v0, st', rfl, ⟨q, hq, rfl⟩, hst⟩ := rx_vs_cons hst
          obtain ⟨vs, hws, hvs⟩ := hH.obj hr hq
          obtain ⟨hn, hf⟩ := rx_fit_ok hfit hG hv1 htt
          obtain ⟨hcw, ⟨ty0, hty0, -⟩, hnm, -, -⟩ := hcl _ _ hc
          have hll : w < vs.length := by rw [← hvs.len]; exact Nat.le_of_ble_eq_true hlenf
          have hgo : ∀ (H1 : Heap) (locs1 : List Loc), va_P D vwCl (ws.set r (q, .inr (ci, vs.set w v))) H1 → va_D A (ws.set r (q, .inr (ci, vs.set w v))) → va_S A s.heap H1 locs1 → W p l e R s m args below meth c H1 locs1 T.2.2.1.1 T.2.2.1.2 Q (F0 m (pc + 3) ls st') := fun H1 locs1 hP1 hD1 hS1 =>
            K _ (List.mem_singleton.mpr rfl) H1 locs1 ls st' (rx_setc hE hG hH hK hl hv hst hws ⟨rfl, hvs.set w hv1⟩ hP1 hD1 hS1)
          have hsm : ∀ x, s.fieldFound? (TT w).1 (TT w).2.1 (TT w).2.2.1 = some x → s.fieldFound? C (TT w).2.1 (TT w).2.2.1 = some x := fun x hx => by rw [hdec] at hx; exact hx
          rcases hlk with hlk | ⟨hnf, host, hlk⟩
          · cases hfl : (TT w).2.2.2 with
            | false => exact va_put hx hb hts hcw ty0 hty0 hnm hown hK hP hD hS r hws hc w hk (hts _ hlk) hsm hfl hty hn hf hll hd.1 hgo
            | true =>
              obtain ⟨h1, h2⟩ := hfin _ hc hfl
              exact va_putF hx hb hts hcw ty0 hty0 hnm hown hK hP hD hS r hws hc w hk (hts _ hlk) hsm hfl (hmn.trans h2) (hdec.trans h1) hty hn hf hll hd.1 hgo
          · exact va_putN hx hb hts hcw ty0 hty0 hnm hown hK hP hD hS r hws hc w hk ((hpr.1 _ hlk).use rfl) hsm hnf hty hn hf hll hd.1 hgo
        · cases h
      · cases h
    · cases h
  · -- arraylength
    have hlen := rx_len hd rfl
    subst hlen
    split at h
    · rename_i r sa hsa
      split at h
      · rename_i t n ex df hr
        split at h
        · rename_i hn
          have hn := Nat.le_of_ble_eq_true hn
          cases h
          intro H locs ls st hat
          rw [hpc]
          obtain ⟨g, tys, ws, lv, hE, hG, hH, hK, hP, hD, hS, hl, hv, hst⟩ := hat
          rw [hsa] at hst
          obtain ⟨v, st', rfl, ⟨q, hq, rfl⟩, hst⟩ := rx_vs_cons hst
          obtain ⟨cA, xa, t9, hws, htys, -⟩ := hH.arr hr hq
          refine va_alen hx hb hK hP r t9 hws htys rfl hd.1 ?_
          exact K _ (List.mem_singleton.mpr rfl) H locs ls _ ⟨g, tys, ws, lv, hE, hG, hH, hK, hP, hD, hS, hl, hv, ⟨_, rfl, nI_toInt (n := n) (by omega)⟩, hst⟩
        · cases h
      · cases h
    · cases h
  all_goals sorry
end RXE
