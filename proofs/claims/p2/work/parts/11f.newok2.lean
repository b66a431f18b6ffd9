def rx_bu (a : rx_B) (j : Nat) (v : Value) : rx_B := match a, v with
  | .inl f, .int x => .inl (upd f j x)
  | .inr (.inl f), .long x => .inr (.inl (vp_updL f j x))
  | a, _ => a
section RXN3
variable {p : Program} {l : Launch} {e : Env} {R : Room} {s : State} {m : MethodId} {args : Array Value} {below : List Frame} {meth : Method} {c : Code} {b : (Nat → Option Nat) × List Int} {D : va_G} {A : Nat → Prop} {g0 : List Int} {a0 : List Nat} {t0 : List (ClassId × FieldType)} {nL : Nat} {Q : State → Prop} {cc : ByteArray} {own : String}
/-- a value that fits a row of the sort t -/
def rx_fv (g : List Int) (t : Nat) (v : Value) (q : rx_I) : Prop := (t < 3 ∧ ∃ x : Int32, v = .int x ∧ rx_ev g q x.toInt) ∨ (t = 3 ∧ ∃ x : Int64, v = .long x ∧ rx_ev g q x.toInt)
theorem rx_fv_of {sy : rx_Y} {as : List Nat} {g : List Int} {t : Nat} {a : rx_V} {v : Value} {q : rx_I} (ht : t < 4) (hfit : rx_fit t sy a = true) (hu : rx_un a = some q) (hv : rx_v b as g a v) : rx_fv g t v q := by
  rcases a with q0 | q0 | (_ | a) | a
  · cases hu
    obtain ⟨x, rfl, h1⟩ := hv
    refine Or.inl ⟨?_, x, rfl, h1⟩
    rcases (show t = 0 ∨ t = 1 ∨ t = 2 ∨ t = 3 by omega) with rfl | rfl | rfl | rfl
    · decide
    · decide
    · decide
    · cases hfit
  · cases hu
    obtain ⟨x, rfl, h1⟩ := hv
    refine Or.inr ⟨?_, x, rfl, h1⟩
    rcases (show t = 0 ∨ t = 1 ∨ t = 2 ∨ t = 3 by omega) with rfl | rfl | rfl | rfl
    · cases hfit
    · cases hfit
    · cases hfit
    · rfl
  · cases hu
  · cases hu
  · cases hu
theorem rx_aR_up {g : List Int} {t n : Nat} {ex ex' : List rx_V} {df df' : rx_V} {a : rx_B} (h : rx_aR g t n ex df a) {j : Nat} {v : Value} {q : rx_I} (hv : rx_fv g t v q) (h1 : ∀ (i : Nat) (z : Int), i < n → i ≠ j → rx_rv g (rx_el ex df i) z → rx_rv g (rx_el ex' df' i) z) (h2 : ∀ z, rx_ev g q z → rx_rv g (rx_el ex' df' j) z) : rx_aR g t n ex' df' (rx_bu a j v) := by
  rcases a with f | f | f | f | f
  · rcases hv with ⟨ht, x, rfl, hx⟩ | ⟨ht, x, rfl, hx⟩
    · refine ⟨h.1, fun i hi => ?_⟩
      by_cases hij : i = j
      · subst hij
        show rx_rv g _ (upd f i x i).toInt
        rw [pk_us]
        exact h2 _ hx
      · show rx_rv g _ (upd f j x i).toInt
        rw [pk_un hij]
        exact h1 i _ hi hij (h.2 i hi)
    · have := h.1; omega
  · rcases hv with ⟨ht, x, rfl, hx⟩ | ⟨ht, x, rfl, hx⟩
    · have := h.1; omega
    · refine ⟨h.1, fun i hi => ?_⟩
      by_cases hij : i = j
      · subst hij
        show rx_rv g _ (vp_updL f i x i).toInt
        rw [pk_uLs]
        exact h2 _ hx
      · show rx_rv g _ (vp_updL f j x i).toInt
        rw [pk_uLn hij]
        exact h1 i _ hi hij (h.2 i hi)
  · exact h.elim
  · exact h.elim
  · exact h.elim
theorem rx_stR_ok {i : rx_E} {T : rx_T} {L : List rx_T} {k : Nat → Bool} (hk4 : ∀ t, k t = true → t < 4) (hpc : T.2.2.2.1 = i.1)
    (row : ∀ {H : Heap} {locs : List Loc} {cells slots : Nat} {ls : Array Slot} {st : List Value} {g : List Int} {sy : rx_Y} {as : List Nat} {ws : va_W} {tys : List (ClassId × FieldType)} {r t9 o t n : Nat} {ex : List rx_V} {df av : rx_V} {cA : ClassId} {a : rx_B} {xv : Int32} {v : Value} {q : rx_I}, k t = true → rx_fit t sy av = true → rx_g sy g → rx_v b as g av v → rx_fv g t v q → va_K D vwCl tys s → va_P D vwCl ws H → va_D A ws → va_S A s.heap H locs → ws[r]? = some (o, .inl (cA, n, a)) → rx_aR g t n ex df a → tys[t9]? = some (cA, rx_ty0 t) → vp_in xv n →
      (∀ (H1 : Heap) (locs1 : List Loc), va_P D vwCl (ws.set r (o, .inl (cA, n, rx_bu a xv.toNatClampNeg v))) H1 → va_D A (ws.set r (o, .inl (cA, n, rx_bu a xv.toNatClampNeg v))) → va_S A s.heap H1 locs1 → W p l e R s m args below meth c H1 locs1 cells slots Q (F0 m (i.1 + i.2.2.1) ls st)) → W p l e R s m args below meth c H locs cells slots Q (F0 m i.1 ls (v :: .int xv :: .ref o :: st)))
    (h : rx_stR i T k = some L) (K : ∀ T' ∈ L, rx_Go p l e R s m args below meth c b D A g0 a0 t0 nL Q T') : rx_Go p l e R s m args below meth c b D A g0 a0 t0 nL Q T := by
  unfold rx_stR at h
  split at h
  · rename_i a q r sa hsa
    rw [rx_nth_eq] at h
    split at h
    · rename_i t n ex df hr
      split at h
      · rename_i hk
        rw [Bool.and_eq_true, Bool.and_eq_true] at hk
        have ht := Nat.le_of_ble_eq_true hk.1
        have ht0 : rx_ty t = rx_ty0 (t - 1000) := by
          rw [← rx_ty_hi, Nat.sub_add_cancel ht]
        have ht2 : ∀ {as : List Nat} {g : List Int} {ex : List rx_V} {df : rx_V} {a : rx_B}, rx_a b as g t n ex df a = rx_aR g (t - 1000) n ex df a := rx_a_hi ht
        generalize t - 1000 = t1 at h hk ht0 ht2
        have ht4 := hk4 t1 hk.2.1
        split at h
        · rename_i lo hi hix
          split at h
          · rename_i v hun
            intro H locs ls st hat
            rw [hpc]
            obtain ⟨g, tys, ws, lv, hE, hG, hH, hK, hP, hD, hS, hl, hv, hst⟩ := hat
            rw [hsa] at hst
            obtain ⟨va, st', rfl, hva, hst0⟩ := rx_vs_cons hst
            obtain ⟨v1, st', rfl, ⟨xv, rfl, hq⟩, hst1⟩ := rx_vs_cons hst0
            obtain ⟨v0, st', rfl, ⟨o, ho, rfl⟩, hst2⟩ := rx_vs_cons hst1
            clear hst hst1 hst0
            have hst := hst2
            obtain ⟨cA, xa, t9, hws, htys, hxa⟩ := hH.arr hr ho
            rw [ht2] at hxa
            obtain ⟨i1, i2, i3, i4, i5⟩ := rx_idx_ok hG hq hix
            have hty : tys[t9]? = some (cA, rx_ty0 t1) := by
              rw [← ht0]
              exact htys
            have hfv := rx_fv_of ht4 hk.2.2 hun hva
            have ivb : ∀ z, rx_ev g v z → (rx_iv T.1 v).1 ≤ z ∧ z ≤ (rx_iv T.1 v).2 := fun z hz => rx_iv_ok hG hz
            refine row hk.2.1 hk.2.2 hG hva hfv hK hP hD hS hws hxa hty i5 fun H1 locs1 hP1 hD1 hS1 => ?_
            generalize xv.toNatClampNeg = j at i1 i2 i3 i4 hP1 hD1
            have fin : ∀ (ex' : List rx_V) (df' : rx_V), (∀ (i : Nat) (z : Int), i < n → i ≠ j → rx_rv g (rx_el ex df i) z → rx_rv g (rx_el ex' df' i) z) → (∀ z, rx_ev g v z → rx_rv g (rx_el ex' df' j) z) → L = [(T.1, T.2.1.set r (.inr (t, n, ex', df')), T.2.2.1, i.1 + i.2.2.1, T.2.2.2.2.1, sa)] → W p l e R s m args below meth c H1 locs1 T.2.2.1.1 T.2.2.1.2 Q (F0 m (i.1 + i.2.2.1) ls st') := by
              intro ex' df' h1 h2 hL
              subst hL
              have hcc : rx_c b (ws.map Prod.fst) g tys (.inr (t, n, ex', df')) (.inl (cA, n, rx_bu xa j va)) := by
                refine ⟨rfl, List.mem_of_getElem? htys, ?_⟩
                rw [ht2]
                exact rx_aR_up hxa hfv h1 h2
              exact K _ (List.mem_singleton.mpr rfl) H1 locs1 ls _ (rx_setc hE hG hH hK hl hv hst hws hcc hP1 hD1 hS1)
            split at h
            · rename_i hlh
              have hlh := Nat.eq_of_beq_eq_true hlh
              subst hlh
              obtain rfl : j = lo := by omega
              obtain ⟨ex', q1, q2⟩ := rx_ups_ok df ex j (.inl v) (fun ex => rx_setR T.2.1 r (.inr (t, n, ex, df)) (fun h => some [((T.1, h, T.2.2.1, i.1 + i.2.2.1, T.2.2.2.2.1, sa) : rx_T)]))
              have h := q1.symm.trans h
              rw [rx_setR_eq] at h
              refine fin ex' df (fun i z hi hij hz => ?_) (fun z hz => ?_) (Option.some.inj h).symm
              · rw [q2 i, if_neg hij]
                exact hz
              · rw [q2 j, if_pos rfl]
                exact hz
            · rw [rx_z_eq, rx_z_eq] at h
              obtain ⟨ex', q1, q2, q3⟩ := rx_jw_ok T.1 ((rx_iv T.1 v).1, (rx_iv T.1 v).2) lo hi ex 0 (fun ex' => match Nat.ble (rx_lenR ex) hi with
                | true => rx_jn T.1 ((rx_iv T.1 v).1, (rx_iv T.1 v).2) df (fun df => rx_setR T.2.1 r (.inr (t, n, ex', df)) (fun h => some [((T.1, h, T.2.2.1, i.1 + i.2.2.1, T.2.2.2.2.1, sa) : rx_T)]))
                | false => rx_setR T.2.1 r (.inr (t, n, ex', df)) (fun h => some [((T.1, h, T.2.2.1, i.1 + i.2.2.1, T.2.2.2.2.1, sa) : rx_T)]))
              have h := q1.symm.trans h
              rw [rx_lenR_eq] at h
              have jo : ∀ (u : rx_V) (z : Int), rx_rv g u z → rx_rv g (rx_jnv (rx_min (rx_evb T.1 u).1 (rx_iv T.1 v).1) (rx_max (rx_evb T.1 u).2 (rx_iv T.1 v).2)) z := fun u z hz => by
                have w1 := rx_evb_ok hG hz
                have w2 := rx_min_ok (rx_evb T.1 u).1 (rx_iv T.1 v).1
                have w3 := rx_max_ok (rx_evb T.1 u).2 (rx_iv T.1 v).2
                exact rx_jnv_ok (by omega) (by omega)
              have jv : ∀ (u : rx_V) (z : Int), rx_ev g v z → rx_rv g (rx_jnv (rx_min (rx_evb T.1 u).1 (rx_iv T.1 v).1) (rx_max (rx_evb T.1 u).2 (rx_iv T.1 v).2)) z := fun u z hz => by
                have w1 := ivb z hz
                have w2 := rx_min_ok (rx_evb T.1 u).1 (rx_iv T.1 v).1
                have w3 := rx_max_ok (rx_evb T.1 u).2 (rx_iv T.1 v).2
                exact rx_jnv_ok (by omega) (by omega)
              have ele : ∀ (df' : rx_V) (i : Nat) (u : rx_V), ex[i]? = some u → (rx_el ex' df' i = u ∧ ¬ (lo ≤ i ∧ i ≤ hi)) ∨ rx_el ex' df' i = rx_jnv (rx_min (rx_evb T.1 u).1 (rx_iv T.1 v).1) (rx_max (rx_evb T.1 u).2 (rx_iv T.1 v).2) := by
                intro df' i u hu
                obtain ⟨u', w1, w2⟩ := q3 i u hu
                rw [Nat.zero_add] at w2
                unfold rx_el
                rw [w1]
                exact w2
              have eln : ∀ (df' : rx_V) (i : Nat), ex[i]? = none → rx_el ex' df' i = df' := by
                intro df' i hu
                have : ex'[i]? = none := by
                  rw [List.getElem?_eq_none_iff, q2]
                  exact List.getElem?_eq_none_iff.mp hu
                unfold rx_el
                rw [this]
              have elo : ∀ (i : Nat), (∃ u, ex[i]? = some u ∧ rx_el ex df i = u) ∨ (ex[i]? = none ∧ rx_el ex df i = df) := by
                intro i
                cases hu : ex[i]? with
                | some u => exact Or.inl ⟨u, rfl, by unfold rx_el; rw [hu]⟩
                | none => exact Or.inr ⟨rfl, by unfold rx_el; rw [hu]⟩
              cases hb : Nat.ble ex.length hi with
              | true =>
                rw [hb] at h
                dsimp only at h
                rw [rx_jn_eq, rx_setR_eq] at h
                refine fin ex' _ (fun i z hi2 hij hz => ?_) (fun z hz => ?_) (Option.some.inj h).symm
                · rcases elo i with ⟨u, w1, w2⟩ | ⟨w1, w2⟩
                  · rw [w2] at hz
                    rcases ele _ i u w1 with ⟨w3, -⟩ | w3
                    · rw [w3]; exact hz
                    · rw [w3]; exact jo u z hz
                  · rw [eln _ i w1]
                    rw [w2] at hz
                    exact jo df z hz
                · rcases elo j with ⟨u, w1, w2⟩ | ⟨w1, w2⟩
                  · rcases ele _ j u w1 with ⟨w3, w4⟩ | w3
                    · exact absurd ⟨i1, i2⟩ w4
                    · rw [w3]; exact jv u z hz
                  · rw [eln _ j w1]
                    exact jv df z hz
              | false =>
                rw [hb] at h
                dsimp only at h
                rw [rx_setR_eq] at h
                have hlt : hi < ex.length := by
                  rcases Nat.lt_or_ge hi ex.length with w | w
                  · exact w
                  · rw [Nat.ble_eq_true_of_le w] at hb; cases hb
                refine fin ex' df (fun i z hi2 hij hz => ?_) (fun z hz => ?_) (Option.some.inj h).symm
                · rcases elo i with ⟨u, w1, w2⟩ | ⟨w1, w2⟩
                  · rw [w2] at hz
                    rcases ele _ i u w1 with ⟨w3, -⟩ | w3
                    · rw [w3]; exact hz
                    · rw [w3]; exact jo u z hz
                  · rw [eln _ i w1]
                    rw [w2] at hz
                    exact hz
                · rcases elo j with ⟨u, w1, w2⟩ | ⟨w1, w2⟩
                  · rcases ele _ j u w1 with ⟨w3, w4⟩ | w3
                    · exact absurd ⟨i1, i2⟩ w4
                    · rw [w3]; exact jv u z hz
                  · have := List.getElem?_eq_none_iff.mp w1
                    omega
          · cases h
        · cases h
      · cases h
    · cases h
  · cases h
theorem rx_mth_ok {mc ms : Nat} {i : rx_E} {T : rx_T} {L : List rx_T} (C : rx_Cx p s m args c cc own nL) (hd : rx_dc cc i) {idx : Nat} (hi : i.2.1 = .invokestatic idx) (hok : rx_okN own i) (hR : R.cells = mc ∧ R.slots = ms ∧ 1 ≤ R.frames ∧ 60 ≤ R.locals) (hpc : T.2.2.2.1 = i.1) (h : rx_mth mc ms i T = some L) (K : ∀ T' ∈ L, rx_Go p l e R s m args below meth c b D A g0 a0 t0 nL Q T') : rx_Go p l e R s m args below meth c b D A g0 a0 t0 nL Q T := by
  obtain ⟨pc, ins, len, u, w, x, z⟩ := i
  dsimp only at hi
  subst hi
  obtain ⟨hx, hb, hml, hown, hts, hpr⟩ := C
  have hlen := rx_len hd rfl
  subst hlen
  unfold rx_mth at h
  dsimp only at h
  split at h
  · rename_i hx1
    obtain ⟨hl1, hl2, hl3, hl4⟩ := hok.2.1 (Nat.eq_of_beq_eq_true hx1)
    split at h
    · rename_i y0 x0 sa hsa
      split at h
      · rename_i hall
        simp only [Bool.and_eq_true] at hall
        obtain ⟨h8, hcc, hss⟩ := hall
        have h8 := Nat.le_of_ble_eq_true h8
        have hcc := Nat.le_of_ble_eq_true hcc
        have hss := Nat.le_of_ble_eq_true hss
        cases h
        intro H locs ls st hat
        rw [hpc]
        obtain ⟨g, tys, ws, lv, hE, hG, hH, hK, hP, hD, hS, hl, hv, hst⟩ := hat
        rw [hsa] at hst
        obtain ⟨v1, st1, rfl, ⟨yv, rfl, hy⟩, hst1⟩ := rx_vs_cons hst
        obtain ⟨v2, st', rfl, ⟨xv, rfl, hx1v⟩, hst2⟩ := rx_vs_cons hst1
        have hloc : (st'.map fun v => v.category).sum + 13 ≤ R.locals := by rw [rx_cats_ok hst2]; have := hR.2.2.2; omega
        refine va_mmax hx hb (hml.trans hv.1.symm) hown (hts _ hl1) (hts _ hl2) (hts _ hl3) (hts _ hl4) hR.2.2.1 hloc (by rw [hR.1]; exact hcc) (by rw [hR.2.1]; exact hss) hd.1 ?_
        by_cases hlt : xv < yv
        · rw [if_pos hlt]
          obtain ⟨sy', h1, h2⟩ := rx_br_ok .lt hG hx1v hy (rx_lt32.mp hlt)
          exact K (sy', T.2.1, T.2.2.1, pc + 3, T.2.2.2.2.1, .inl y0 :: sa) (List.mem_append_left _ (List.mem_map.mpr ⟨sy', h1, rfl⟩)) H locs ls _ ⟨g, tys, ws, lv, hE, h2, hH, hK, hP, hD, hS, hl, hv, ⟨yv, rfl, hy⟩, hst2⟩
        · rw [if_neg hlt]
          obtain ⟨sy', h1, h2⟩ := rx_br_ok .ge hG hx1v hy (show yv.toInt ≤ xv.toInt from Int.not_lt.mp fun q => hlt (rx_lt32.mpr q))
          exact K (sy', T.2.1, T.2.2.1, pc + 3, T.2.2.2.2.1, .inl x0 :: sa) (List.mem_append_right _ (List.mem_map.mpr ⟨sy', h1, rfl⟩)) H locs ls _ ⟨g, tys, ws, lv, hE, h2, hH, hK, hP, hD, hS, hl, hv, ⟨xv, rfl, hx1v⟩, hst2⟩
      · cases h
    · cases h
  · split at h
    · rename_i hx1
      obtain ⟨hl1, hl2, hl3, hl4⟩ := hok.2.2 (Nat.eq_of_beq_eq_true hx1)
      split at h
      · rename_i x0 sa hsa
        split at h
        · rename_i hall
          simp only [Bool.and_eq_true] at hall
          obtain ⟨h8, hcc, hss⟩ := hall
          have h8 := Nat.le_of_ble_eq_true h8
          have hcc := Nat.le_of_ble_eq_true hcc
          have hss := Nat.le_of_ble_eq_true hss
          intro H locs ls st hat
          rw [hpc]
          rw [hsa] at hat
          have hat0 := hat
          obtain ⟨g', tys, ws, lv, hE, hG', hH, hK, hP, hD, hS, hl, hv, hst0⟩ := hat0
          obtain ⟨xv, st', g, rfl, hG, hxv, hat', -, -⟩ := hat.one
          obtain ⟨v9, st9, e9, -, hst2⟩ := rx_vs_cons hst0
          cases e9
          have hloc : (st'.map fun v => v.category).sum + 13 ≤ R.locals := by rw [rx_cats_ok hst2]; have := hR.2.2.2; omega
          refine va_mabs hx hb (hml.trans hv.1.symm) hown (hts _ hl1) (hts _ hl2) (hts _ hl3) (hts _ hl4) hR.2.2.1 hloc (by rw [hR.1]; exact hcc) (by rw [hR.2.1]; exact hss) hd.1 ?_
          have z0 : (0 : Int32).toInt = 0 := rfl
          split at h
          · rename_i hr
            have r1 := (rx_ile_iff _ _).mp hr
            have ix := rx_iv_ok hG hxv
            have e1 : (if 0 ≤ xv then xv else 0 - xv).toInt = if 0 ≤ xv.toInt then xv.toInt else -xv.toInt := by
              by_cases h0 : 0 ≤ xv
              · have h0' := rx_le32.mp h0
                rw [z0] at h0'
                rw [if_pos h0, if_pos h0']
              · have h0' : ¬ 0 ≤ xv.toInt := fun q => h0 (rx_le32.mpr (by rw [z0]; exact q))
                have h9 := fb_rng xv
                rw [if_neg h0, if_neg h0', fb_subI (by rw [z0]; omega) (by rw [z0]; omega), z0]
                omega
            split at h
            · rename_i a ha
              have e2 := rx_cs_ok hG hxv ha
              rw [rx_z_eq] at h
              refine rx_out_ok h K (hat'.push ?_)
              rw [e1, e2]
              unfold rx_max
              cases hq : rx_ile a (-a) with
              | true =>
                have := (rx_ile_iff _ _).mp hq
                dsimp only
                split <;> omega
              | false =>
                have := rx_ile_f hq
                dsimp only
                split <;> omega
            · split at h
              · rename_i hp
                have hp := (rx_ile_iff _ _).mp hp
                cases h
                have e3 : (if 0 ≤ xv then xv else 0 - xv) = xv := if_pos (rx_le32.mpr (by rw [z0]; omega))
                rw [e3]
                exact K _ (List.mem_singleton.mpr rfl) H locs ls _ hat
              · rw [rx_z_eq] at h
                have m1 := rx_max_ok (rx_iv T.1 x0).2 (-(rx_iv T.1 x0).1)
                refine rx_fresh_ok h K hat' _ ?_ ?_
                · rw [e1]; split <;> omega
                · rw [e1]; split <;> omega
          · exact rx_any_ok h K hat' _
        · cases h
      · cases h
    · cases h
theorem rx_cpy_ok {mc ms : Nat} {i : rx_E} {T : rx_T} {L : List rx_T} (C : rx_Cx p s m args c cc own nL) (hd : rx_dc cc i) {idx : Nat} (hi : i.2.1 = .invokestatic idx) (hok : rx_okN own i) (hR : R.cells = mc ∧ R.slots = ms ∧ 1 ≤ R.frames ∧ 60 ≤ R.locals) (hx2 : i.2.2.2.2.2.1 = 2) (hpc : T.2.2.2.1 = i.1) (h : rx_cpy i T = some L) (K : ∀ T' ∈ L, rx_Go p l e R s m args below meth c b D A g0 a0 t0 nL Q T') : rx_Go p l e R s m args below meth c b D A g0 a0 t0 nL Q T := by
  obtain ⟨pc, ins, len, u, w, x, z⟩ := i
  dsimp only at hi
  subst hi
  obtain ⟨hx, hb, hml, hown, hts, hpr⟩ := C
  have hlen := rx_len hd rfl
  subst hlen
  obtain ⟨hl1, hl2, hl3, hl4⟩ := hok.1 hx2
  unfold rx_cpy at h
  split at h
  · rename_i n d r f o sa hsa
    split at h
    · rename_i nn hnn
      split at h
      · rename_i hd0
        split at h
        · rename_i hf0
          rw [rx_nth_eq, rx_nth_eq] at h
          split at h
          · rename_i t n0 ex0 df0 hro
            split at h
            · rename_i t1 n1 ex1 df1 hrr
              split at h
              · rename_i hall
                simp only [Bool.and_eq_true, Bool.or_eq_true] at hall
                obtain ⟨⟨htk, ht, ht2⟩, hn0, hn1, hnm, hc8⟩ := hall
                have htk := Nat.le_of_ble_eq_true htk
                have ht := Nat.eq_of_beq_eq_true ht
                have hn0 := Nat.eq_of_beq_eq_true hn0
                have hn1 := Nat.eq_of_beq_eq_true hn1
                have hnm := Nat.le_of_ble_eq_true hnm
                have h8 := Nat.le_of_ble_eq_true hc8
                subst ht
                have ht0 : rx_ty t = rx_ty0 (t - 1000) := by
                  rw [← rx_ty_hi, Nat.sub_add_cancel htk]
                have hta : ∀ {as : List Nat} {g : List Int} {n : Nat} {ex : List rx_V} {df : rx_V} {a : rx_B}, rx_a b as g t n ex df a = rx_aR g (t - 1000) n ex df a := rx_a_hi htk
                generalize t - 1000 = t1 at ht2 ht0 hta
                rw [rx_setR_eq] at h
                cases h
                intro H locs ls st hat
                rw [hpc]
                obtain ⟨g, tys, ws, lv, hE, hG, hH, hK, hP, hD, hS, hl, hv, hst⟩ := hat
                rw [hsa] at hst
                obtain ⟨v, st', rfl, ⟨xn, rfl, hqn⟩, hst1⟩ := rx_vs_cons hst
                obtain ⟨v, st', rfl, ⟨xd, rfl, hqd⟩, hst2⟩ := rx_vs_cons hst1
                obtain ⟨v, st', rfl, ⟨ar, har, rfl⟩, hst3⟩ := rx_vs_cons hst2
                obtain ⟨v, st', rfl, ⟨xf, rfl, hqf⟩, hst4⟩ := rx_vs_cons hst3
                obtain ⟨v, st', rfl, ⟨ao, hao, rfl⟩, hst5⟩ := rx_vs_cons hst4
                clear hst hst1 hst2 hst3 hst4
                have hst := hst5
                have e1 : xn.toInt = (nn : Int) := rx_cs_ok hG hqn hnn
                have e2 : xd.toInt = 0 := rx_cs_ok hG hqd hd0
                have e3 : xf.toInt = 0 := rx_cs_ok hG hqf hf0
                have c1 : xn.toNatClampNeg = nn := by show xn.toInt.toNat = nn; omega
                have c2 : xd.toNatClampNeg = 0 := by show xd.toInt.toNat = 0; omega
                have c3 : xf.toNatClampNeg = 0 := by show xf.toInt.toNat = 0; omega
                have neg : ∀ y : Int32, 0 ≤ y.toInt → ¬ y < 0 := fun y hy h0 => by
                  have h1 := rx_lt32.mp h0
                  have h2 : (0 : Int32).toInt = 0 := rfl
                  omega
                have hsum := rx_cats_ok hst
                have hnat : nativeFrameWords "java/lang/System" "arraycopy" 5 = 7 := by decide +kernel
                have hloc : (st'.map fun v => v.category).sum + (nativeFrameWords "java/lang/System" "arraycopy" 5 + 11) ≤ R.locals := by rw [hsum, hnat]; have := hR.2.2.2; omega
                obtain ⟨cA0, xa0, t9, hws0, htys0, hxa0⟩ := hH.arr hro hao
                obtain ⟨cA1, xa1, t8, hws1, htys1, hxa1⟩ := hH.arr hrr har
                rw [hta] at hxa0 hxa1
                rw [ht0] at htys0 htys1
                rcases ht2 with ht2 | ht2
                · have ht2 := Nat.eq_of_beq_eq_true ht2
                  subst ht2
                  rcases xa0 with f0 | f0 | f0 | f0 | f0
                  · rcases xa1 with f1 | f1 | f1 | f1 | f1
                    · refine va_copyi hx hb (hml.trans hv.1.symm) hown (hts _ hl1) (hts _ hl2) (hts _ hl3) (hts _ hl4) hK hP hD hS o r t9 t8 hws0 hws1 htys0 htys1 rfl (neg _ (by omega)) (neg _ (by omega)) (neg _ (by omega)) (by rw [c1, c3]; omega) (by rw [c1, c2]; omega) (fun _ _ => rfl) hR.2.2.1 hloc hd.1 fun H1 locs1 hP1 hD1 hS1 => ?_
                      rw [c1, c2, c3] at hP1 hD1
                      have hcc : rx_c b (ws.map Prod.fst) g tys (.inr (t, n1, ex0, df0)) (.inl (cA1, n1, .inl (va_cpy f0 f1 0 0 nn))) := by
                        refine ⟨rfl, by rw [ht0]; exact List.mem_of_getElem? htys1, ?_⟩
                        rw [hta]
                        refine ⟨(by omega), fun j hj => ?_⟩
                        have e9 : va_cpy f0 f1 0 0 nn j = f0 j := by
                          rw [pk_cpy_in (by omega) (by omega)]
                          congr 1
                          omega
                        rw [e9]
                        exact hxa0.2 j (by omega)
                      exact K _ (List.mem_singleton.mpr rfl) H1 locs1 ls st' (rx_setc hE hG hH hK hl hv hst hws1 hcc hP1 hD1 hS1)
                    · exact absurd hxa1.1 (by decide)
                    · exact hxa1.elim
                    · exact hxa1.elim
                    · exact hxa1.elim
                  · exact absurd hxa0.1 (by decide)
                  · exact hxa0.elim
                  · exact hxa0.elim
                  · exact hxa0.elim
                · have ht2 := Nat.eq_of_beq_eq_true ht2
                  subst ht2
                  rcases xa0 with f0 | f0 | f0 | f0 | f0
                  · exact absurd hxa0.1 (by decide)
                  · rcases xa1 with f1 | f1 | f1 | f1 | f1
                    · exact absurd hxa1.1 (by decide)
                    · refine va_copyl hx hb (hml.trans hv.1.symm) hown (hts _ hl1) (hts _ hl2) (hts _ hl3) (hts _ hl4) hK hP hD hS o r t9 t8 hws0 hws1 htys0 htys1 rfl (neg _ (by omega)) (neg _ (by omega)) (neg _ (by omega)) (by rw [c1, c3]; omega) (by rw [c1, c2]; omega) (fun _ _ => rfl) hR.2.2.1 hloc hd.1 fun H1 locs1 hP1 hD1 hS1 => ?_
                      rw [c1, c2, c3] at hP1 hD1
                      have hcc : rx_c b (ws.map Prod.fst) g tys (.inr (t, n1, ex0, df0)) (.inl (cA1, n1, .inr (.inl (va_cpy f0 f1 0 0 nn)))) := by
                        refine ⟨rfl, by rw [ht0]; exact List.mem_of_getElem? htys1, ?_⟩
                        rw [hta]
                        refine ⟨rfl, fun j hj => ?_⟩
                        have e9 : va_cpy f0 f1 0 0 nn j = f0 j := by
                          rw [pk_cpy_in (by omega) (by omega)]
                          congr 1
                          omega
                        rw [e9]
                        exact hxa0.2 j (by omega)
                      exact K _ (List.mem_singleton.mpr rfl) H1 locs1 ls st' (rx_setc hE hG hH hK hl hv hst hws1 hcc hP1 hD1 hS1)
                    · exact hxa1.elim
                    · exact hxa1.elim
                    · exact hxa1.elim
                  · exact hxa0.elim
                  · exact hxa0.elim
                  · exact hxa0.elim
              · cases h
            · cases h
          · cases h
        · cases h
      · cases h
    · cases h
  · cases h
theorem rx_inc0_ok {i : rx_E} {T : rx_T} {L : List rx_T} {k : Nat} {n : Int} (C : rx_Cx p s m args c cc own nL) (hd : rx_dc cc i) (hi : i.2.1 = .iinc k n) (hpc : T.2.2.2.1 = i.1) (h : rx_inc0 i T k n = some L) (K : ∀ T' ∈ L, rx_Go p l e R s m args below meth c b D A g0 a0 t0 nL Q T') : rx_Go p l e R s m args below meth c b D A g0 a0 t0 nL Q T := by
  obtain ⟨hx, hb, hml, hown, hts, hpr⟩ := C
  unfold rx_inc0 at h
  split at h
  · rename_i q hq
    split at h
    · cases h
    · obtain ⟨pc, ins, len, u, w, x, z⟩ := i
      dsimp only at hi
      subst hi
      have hlen := rx_len hd rfl
      subst hlen
      intro H locs ls st hat
      obtain ⟨g, tys, ws, lv, hE, hG, hH, hK, hP, hD, hS, hl, hv, hst⟩ := hat
      rw [hpc]
      obtain ⟨j, v, h1, y, rfl, h2⟩ := rx_lk_ok hl hq
      have hk : k < nL := by
        have h3 := lv_at hv j h1
        have h4 := hv.1
        rcases Nat.lt_or_ge k ls.size with h5 | h5
        · omega
        · rw [Array.getElem?_eq_none h5] at h3
          cases h3
      obtain ⟨l', h3, h4⟩ := rx_f1_ok k (fun lc => rx_fr T.1 (-2147483648) 2147483647 (fun s q' => some [((s, T.2.1, T.2.2.1, pc + rx_ln (.iinc k n), (k, .inl q') :: lc, T.2.2.2.2.2) : rx_T)])) hl
      have h3 := h3.symm.trans h
      rw [rx_fr_eq] at h3
      cases h3
      refine lv_iinc hx hb hd.1 hv h1 rfl hk rfl fun ls' hv' => ?_
      have hg : rx_le g (g ++ [(y + Int32.ofInt n).toInt]) := rx_le.app _
      have hv1 : rx_v b (ws.map Prod.fst) (g ++ [(y + Int32.ofInt n).toInt]) (.inl (T.1.1.length + 1, 0)) (.int (y + Int32.ofInt n)) := by
        refine ⟨y + Int32.ofInt n, rfl, (y + Int32.ofInt n).toInt, ?_, ?_⟩
        · rw [← hG.1.1]
          exact rx_snocg g _
        · omega
      have hls : rx_ls b (ws.map Prod.fst) (g ++ [(y + Int32.ofInt n).toInt]) ((k, .inl (T.1.1.length + 1, 0)) :: l') ((k, .int (y + Int32.ofInt n)) :: lv.filter (fun q => !(q.1 == k) && !(q.1 + 1 == k && q.2.category == 2))) := ⟨⟨rfl, hv1⟩, h4.mono rx_le.rf hg⟩
      exact K _ (List.mem_singleton.mpr rfl) H locs ls' st ⟨g ++ [(y + Int32.ofInt n).toInt], tys, ws, _, ⟨hE.1.tr hg, hE.2⟩, hG.push (fb_rng (y + Int32.ofInt n)).1 (Int.le_of_lt_add_one (fb_rng (y + Int32.ofInt n)).2), hH.mono hg (fun _ q => q), hK, hP, hD, hS, hls, hv', hst.mono rx_le.rf hg⟩
  · cases h
theorem rx_sN_ok {mc ms : Nat} {i : rx_E} {T : rx_T} {L : List rx_T} (C : rx_Cx p s m args c cc own nL) (hX : rx_Xf b A s s.heap) (hd : rx_dc cc i) (hokX : rx_okX own i) (hok : rx_okN own i) (hR : R.cells = mc ∧ R.slots = ms ∧ 1 ≤ R.frames ∧ 60 ≤ R.locals) (hpc : T.2.2.2.1 = i.1) (h : rx_sN mc ms i T = some L) (K : ∀ T' ∈ L, rx_Go p l e R s m args below meth c b D A g0 a0 t0 nL Q T') : rx_Go p l e R s m args below meth c b D A g0 a0 t0 nL Q T := by
  have C0 := C
  obtain ⟨hx, hb, hml, hown, hts, hpr⟩ := C
  have ne0 : ∀ {iy : Int × Int} {y : Int32}, iy.1 ≤ y.toInt ∧ y.toInt ≤ iy.2 → 1 ≤ iy.1 → ¬ y = 0 := fun hy h1 q => by
    rw [q] at hy
    have : (0 : Int32).toInt = 0 := rfl
    omega
  have dv1 : ∀ {ix iy r : Int × Int}, rx_rdiv ix iy = some r → 1 ≤ iy.1 := fun h => by
    unfold rx_rdiv at h
    split at h
    · rename_i hq; exact (rx_ile_iff _ _).mp hq
    · cases h
  have rm1 : ∀ {ix iy r : Int × Int}, rx_rrem ix iy = some r → 1 ≤ iy.1 := fun h => by
    unfold rx_rrem at h
    split at h
    · rename_i hq; exact (rx_ile_iff _ _).mp hq
    · cases h
  cases hi : i.2.1 with
  | iinc k n =>
    have h' : rx_inc0 i T k n = some L := by
      unfold rx_sN at h
      rw [hi] at h
      exact h
    exact rx_inc0_ok C0 hd hi hpc h' K
  | invokestatic idx =>
    have h' : (match Nat.beq i.2.2.2.2.2.1 2 with | true => rx_cpy i T | false => rx_mth mc ms i T) = some L := by
      unfold rx_sN at h
      rw [hi] at h
      exact h
    split at h'
    · rename_i h2
      exact rx_cpy_ok C0 hd hi hok hR (Nat.eq_of_beq_eq_true h2) hpc h' K
    · exact rx_mth_ok C0 hd hi hok hR hpc h' K
  | ldc_w idx =>
    have h' : (match i.2.2.2.2.2.1 with | 1 => some [rx_nx i T (.inl (0, i.2.2.2.2.2.2) :: T.2.2.2.2.2)] | _ => none) = some L := by
      unfold rx_sN at h
      rw [hi] at h
      exact h
    obtain ⟨pc, ins, len, u, w, x, z⟩ := i
    dsimp only at hi
    subst hi
    have hlen := rx_len hd rfl
    subst hlen
    dsimp only at h'
    split at h'
    · cases h'
      obtain ⟨q1, q2, q3⟩ := hok rfl
      dsimp only at q1 q2 q3
      intro H locs ls st hat
      rw [hpc]
      refine lv_ldcw hx hb hown (hts _ q1) hd.1 ?_
      obtain ⟨g, tys, ws, lv, hE, hG, hH, hK, hP, hD, hS, hl, hv, hst⟩ := hat
      exact K _ (List.mem_singleton.mpr rfl) H locs ls _ ⟨g, tys, ws, lv, hE, hG, hH, hK, hP, hD, hS, hl, hv, ⟨_, rfl, fb_ofI q2 q3⟩, hst⟩
    · cases h'
  | lshl =>
    have h' : (match rx_sX i T with | some L => some L | none => rx_lsh i T) = some L := by
      unfold rx_sN at h
      rw [hi] at h
      exact h
    split at h'
    · rename_i L' hL'
      cases h'
      exact rx_sX_ok C0 hX hd hokX hpc hL' K
    · obtain ⟨pc, ins, len, u, w, x, z⟩ := i
      dsimp only at hi
      subst hi
      have hlen := rx_len hd rfl
      subst hlen
      exact rx_lsh_ok (f := fun x y => x <<< (y.toInt64 &&& 63)) hpc (fun x y k => lv_lshl hx hb hd.1 rfl k) h' K
  | iaload =>
    have h' : rx_ldR i T (fun t => Nat.beq t 0) = some L := by
      unfold rx_sN at h
      rw [hi] at h
      exact h
    obtain ⟨pc, ins, len, u, w, x, z⟩ := i
    dsimp only at hi
    subst hi
    have hlen := rx_len hd rfl
    subst hlen
    exact rx_ldR_ok (k := fun t => Nat.beq t 0) hpc (fun {H locs cells slots ls st g ws tys r t9 o t n ex df cA a xv} hk hK hP hws ha ht hin k => by
              have hk := Nat.eq_of_beq_eq_true hk
              subst hk
              rcases a with f | f | f | f | f
              · exact va_iald hx hb hK hP r t9 hws ht hin hd.1 k
              · exact absurd ha.1 (by decide)
              · exact ha.elim
              · exact ha.elim
              · exact ha.elim) h' K
  | baload =>
    have h' : rx_ldR i T (fun t => Nat.beq t 1 || Nat.beq t 2) = some L := by
      unfold rx_sN at h
      rw [hi] at h
      exact h
    obtain ⟨pc, ins, len, u, w, x, z⟩ := i
    dsimp only at hi
    subst hi
    have hlen := rx_len hd rfl
    subst hlen
    exact rx_ldR_ok (k := fun t => Nat.beq t 1 || Nat.beq t 2) hpc (fun {H locs cells slots ls st g ws tys r t9 o t n ex df cA a xv} hk hK hP hws ha ht hin k => by
              rw [Bool.or_eq_true] at hk
              rcases hk with hk | hk
              · have hk := Nat.eq_of_beq_eq_true hk
                subst hk
                rcases a with f | f | f | f | f
                · exact va_bald hx hb hK hP r t9 hws ht hin hd.1 k
                · exact absurd ha.1 (by decide)
                · exact ha.elim
                · exact ha.elim
                · exact ha.elim
              · have hk := Nat.eq_of_beq_eq_true hk
                subst hk
                rcases a with f | f | f | f | f
                · exact va_zald hx hb hK hP r t9 hws ht hin hd.1 k
                · exact absurd ha.1 (by decide)
                · exact ha.elim
                · exact ha.elim
                · exact ha.elim) h' K
  | laload =>
    have h' : rx_ldR i T (fun t => Nat.beq t 3) = some L := by
      unfold rx_sN at h
      rw [hi] at h
      exact h
    obtain ⟨pc, ins, len, u, w, x, z⟩ := i
    dsimp only at hi
    subst hi
    have hlen := rx_len hd rfl
    subst hlen
    exact rx_ldR_ok (k := fun t => Nat.beq t 3) hpc (fun {H locs cells slots ls st g ws tys r t9 o t n ex df cA a xv} hk hK hP hws ha ht hin k => by
              have hk := Nat.eq_of_beq_eq_true hk
              subst hk
              rcases a with f | f | f | f | f
              · exact absurd ha.1 (by decide)
              · exact va_lald hx hb hK hP r t9 hws ht hin hd.1 k
              · exact ha.elim
              · exact ha.elim
              · exact ha.elim) h' K
  | iastore =>
    have h' : rx_stR i T (fun t => Nat.beq t 0) = some L := by
      unfold rx_sN at h
      rw [hi] at h
      exact h
    obtain ⟨pc, ins, len, u, w, x, z⟩ := i
    dsimp only at hi
    subst hi
    have hlen := rx_len hd rfl
    subst hlen
    exact rx_stR_ok (k := fun t => Nat.beq t 0) (fun t ht => by have := Nat.eq_of_beq_eq_true ht; omega) hpc (fun {H locs cells slots ls st g sy as ws tys r t9 o t n ex df av cA a xv v q} hk hfit hG hv hfv hK hP hD hS hws ha ht hin k => by
              have hk := Nat.eq_of_beq_eq_true hk
              subst hk
              rcases hfv with ⟨-, y, rfl, -⟩ | ⟨q3, -⟩
              · rcases a with f | f | f | f | f
                · exact va_iast hx hb hK hP hD hS r t9 hws ht hin hd.1 k
                · exact absurd ha.1 (by decide)
                · exact ha.elim
                · exact ha.elim
                · exact ha.elim
              · exact absurd q3 (by decide)) h' K
  | bastore =>
    have h' : rx_stR i T (fun t => Nat.beq t 1 || Nat.beq t 2) = some L := by
      unfold rx_sN at h
      rw [hi] at h
      exact h
    obtain ⟨pc, ins, len, u, w, x, z⟩ := i
    dsimp only at hi
    subst hi
    have hlen := rx_len hd rfl
    subst hlen
    exact rx_stR_ok (k := fun t => Nat.beq t 1 || Nat.beq t 2) (fun t ht => by
              rw [Bool.or_eq_true] at ht
              rcases ht with ht | ht <;> (have := Nat.eq_of_beq_eq_true ht; omega)) hpc (fun {H locs cells slots ls st g sy as ws tys r t9 o t n ex df av cA a xv v q} hk hfit hG hv hfv hK hP hD hS hws ha ht hin k => by
              rw [Bool.or_eq_true] at hk
              rcases hk with hk | hk
              · have hk := Nat.eq_of_beq_eq_true hk
                subst hk
                rcases hfv with ⟨-, y, rfl, -⟩ | ⟨q3, -⟩
                · rcases a with f | f | f | f | f
                  · refine va_bast hx hb hK hP hD hS r t9 hws ht hin hd.1 fun H1 locs1 hP1 hD1 hS1 => ?_
                    rw [rx_naro hfit hG hv rfl] at hP1 hD1
                    exact k H1 locs1 hP1 hD1 hS1
                  · exact absurd ha.1 (by decide)
                  · exact ha.elim
                  · exact ha.elim
                  · exact ha.elim
                · exact absurd q3 (by decide)
              · have hk := Nat.eq_of_beq_eq_true hk
                subst hk
                rcases hfv with ⟨-, y, rfl, -⟩ | ⟨q3, -⟩
                · rcases a with f | f | f | f | f
                  · refine va_zast hx hb hK hP hD hS r t9 hws ht hin hd.1 fun H1 locs1 hP1 hD1 hS1 => ?_
                    rw [rx_naro hfit hG hv rfl] at hP1 hD1
                    exact k H1 locs1 hP1 hD1 hS1
                  · exact absurd ha.1 (by decide)
                  · exact ha.elim
                  · exact ha.elim
                  · exact ha.elim
                · exact absurd q3 (by decide)) h' K
  | lastore =>
    have h' : rx_stR i T (fun t => Nat.beq t 3) = some L := by
      unfold rx_sN at h
      rw [hi] at h
      exact h
    obtain ⟨pc, ins, len, u, w, x, z⟩ := i
    dsimp only at hi
    subst hi
    have hlen := rx_len hd rfl
    subst hlen
    exact rx_stR_ok (k := fun t => Nat.beq t 3) (fun t ht => by have := Nat.eq_of_beq_eq_true ht; omega) hpc (fun {H locs cells slots ls st g sy as ws tys r t9 o t n ex df av cA a xv v q} hk hfit hG hv hfv hK hP hD hS hws ha ht hin k => by
              have hk := Nat.eq_of_beq_eq_true hk
              subst hk
              rcases hfv with ⟨q3, -⟩ | ⟨-, y, rfl, -⟩
              · exact absurd q3 (by decide)
              · rcases a with f | f | f | f | f
                · exact absurd ha.1 (by decide)
                · exact va_last hx hb hK hP hD hS r t9 hws ht hin hd.1 k
                · exact ha.elim
                · exact ha.elim
                · exact ha.elim) h' K
  | _ =>
    obtain ⟨pc, ins, len, u, w, x, z⟩ := i
    dsimp only at hi
    subst hi
    first
      | (cases h; done)
      | (have hlen := rx_len hd rfl
         subst hlen
         first
          | exact rx_rb_ok hpc rx_radd_ok (fun _ _ _ x y _ _ k => lv_iadd hx hb hd.1 k) h K
          | (have h' : (match rx_sub0 (pc, Instr.isub, rx_ln .isub, u, w, x, z) T with | some L => some L | none => rx_rb (pc, Instr.isub, rx_ln .isub, u, w, x, z) T rx_rsub (fun _ b => b)) = some L := h
             split at h'
             · rename_i L' hL'
               cases h'
               exact rx_sub0_ok hpc (fun x y k => lv_isub hx hb hd.1 k) hL' K
             · exact rx_rb_ok hpc rx_rsub_ok (fun _ _ _ x y _ _ k => lv_isub hx hb hd.1 k) h' K)
          | exact rx_rb_ok hpc rx_rmul_ok (fun _ _ _ x y _ _ k => lv_imul hx hb hd.1 k) h K
          | exact rx_rb_ok hpc rx_rand_ok (fun _ _ _ x y _ _ k => lv_iand hx hb hd.1 k) h K
          | exact rx_rb_ok hpc rx_ror_ok (fun _ _ _ x y _ _ k => lv_ior hx hb hd.1 k) h K
          | exact rx_rb_ok hpc rx_rxr_ok (fun _ _ _ x y _ _ k => lv_ixor hx hb hd.1 k) h K
          | exact rx_rb_ok hpc rx_rshl_ok (fun _ _ _ x y _ _ k => lv_ishl hx hb hd.1 k) h K
          | exact rx_rb_ok hpc rx_rshr_ok (fun _ _ _ x y _ _ k => lv_ishr hx hb hd.1 k) h K
          | exact rx_rb_ok hpc rx_rdiv_ok (fun _ _ _ x y hr hy k => lv_idiv hx hb hd.1 (ne0 hy (dv1 hr)) k) h K
          | exact rx_rb_ok hpc rx_rrem_ok (fun _ _ _ x y hr hy k => lv_irem hx hb hd.1 (ne0 hy (rm1 hr)) k) h K
          | exact rx_ng_ok hpc (fun x k => lv_ineg hx hb hd.1 k) h K
          | exact rx_lany_ok hpc (fun x y k => lv_ladd hx hb hd.1 k) h K
          | exact rx_lany_ok hpc (fun x y k => lv_lsub hx hb hd.1 k) h K
          | exact rx_lany_ok hpc (fun x y k => lv_lmul hx hb hd.1 k) h K
          | exact rx_lany_ok hpc (fun x y k => lv_lor hx hb hd.1 k) h K
          | exact rx_ldv_ok hpc (fun x y hn k => lv_ldiv hx hb hd.1 hn k) h K
          | exact rx_lrm_ok hpc (fun x y hn k => lv_lrem hx hb hd.1 hn k) h K
          | exact rx_lsh_ok (f := fun x y => x >>> (y.toInt64 &&& 63)) hpc (fun x y k => lv_lshr hx hb hd.1 rfl k) h K
          | exact rx_lcp_ok hpc (fun x y k => W.lcmp hx hb hd.1 k) h K
          | exact rx_l2_ok hpc (fun x k => lv_l2i hx hb hd.1 rfl k) h K)
end RXN3
