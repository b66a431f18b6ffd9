/-! ===== the loop's head: facts found side by side ===== -/
noncomputable def rp_w1 (sy : rx_Y) (th : List rx_I) (f : rx_F) (ih : Nat → List rx_I → List rx_F → Bool) (k : List rx_F) (p : Nat) (L : List rx_I) : Bool := match rp_fnd p L th f k with
  | some t => ih p L t
  | none => match rp_fnd p L th f sy.2 with
    | some t => ih p L t
    | none => match rp_fOK sy th f with
      | true => ih p L k
      | false => false
noncomputable def rp_fw (sy : rx_Y) (th : List rx_I) (l : List rx_F) : Nat → List rx_I → List rx_F → Bool := @List.rec rx_F (fun _ => Nat → List rx_I → List rx_F → Bool) (fun _ _ _ => true) (fun f _ ih p L k => match Nat.ble p (rp_lo f) with
  | true => rp_adv (rp_lo f - p) L (fun M => rp_w1 sy th f ih k (rp_lo f) M)
  | false => rp_adv (rp_lo f) th (fun M => rp_w1 sy th f ih k (rp_lo f) M)) l
theorem rp_fw_ok {sy : rx_Y} {th : List rx_I} {g g0 : List Int} (hG : rx_g sy g) (hT : rx_Th th g g0) {l : List rx_F} : ∀ {p : Nat} {L : List rx_I} {k : List rx_F}, L = th.drop p → (∀ f ∈ k, f ∈ sy.2) → rp_fw sy th l p L k = true → ∀ f ∈ l, rx_f g0 f := by
  induction l with
  | nil => exact fun _ _ _ f hf => by cases hf
  | cons a l ih =>
    intro p L k hL hk h f hf
    have key : ∀ (r : Nat) (M : List rx_I), M = th.drop r → rp_w1 sy th a (rp_fw sy th l) k r M = true → rx_f g0 f := by
      intro r M hM h
      unfold rp_w1 at h
      split at h
      · rename_i t ht
        have q := rp_fnd_ok hM hT (fun x hx => hG.2 x (hk x hx)) ht
        rcases List.mem_cons.mp hf with rfl | hf
        · exact q.1
        · exact ih hM (fun x hx => hk x (q.2 x hx)) h f hf
      · split at h
        · rename_i t ht
          have q := rp_fnd_ok hM hT (fun x hx => hG.2 x hx) ht
          rcases List.mem_cons.mp hf with rfl | hf
          · exact q.1
          · exact ih hM (fun x hx => q.2 x hx) h f hf
        · split at h
          · rename_i hs
            rcases List.mem_cons.mp hf with rfl | hf
            · exact rp_fOK_ok hG hT hs
            · exact ih hM hk h f hf
          · cases h
    have h : (match Nat.ble p (rp_lo a) with
      | true => rp_adv (rp_lo a - p) L (fun M => rp_w1 sy th a (rp_fw sy th l) k (rp_lo a) M)
      | false => rp_adv (rp_lo a) th (fun M => rp_w1 sy th a (rp_fw sy th l) k (rp_lo a) M)) = true := h
    split at h
    · rename_i hp
      have hp := Nat.le_of_ble_eq_true hp
      rw [rp_adv_eq] at h
      refine key _ _ ?_ h
      rw [hL, List.drop_drop]
      congr 1
      omega
    · rw [rp_adv_eq] at h
      exact key _ _ rfl h

noncomputable def rs_subV (T S : rx_T) (th : List rx_I) (pi : List Nat) (ch : List Nat) : Bool :=
  (ry_bB (rx_lenR T.1.1) T.1 th S.1.1 T.1.1 0 && rp_fw T.1 th S.1.2 0 th T.1.2) && ((ry_hB (ry_okc (fun k => @Bool.rec (fun _ => Bool) true false (rx_isin ch k) && Nat.ble (k + 1) (rx_lenR th)) T.1 th pi) T.2.1 pi S.2.1 && rx_ndp pi) && (rx_lsub T.1 th pi S.2.2.2.2.1 T.2.2.2.2.1 && rx_all2 (rx_mV T.1 th pi []) S.2.2.2.2.2 T.2.2.2.2.2))
noncomputable def rs_subG (T S : rx_T) (th : List rx_I) (pi : List Nat) : Bool := rs_subV T S th pi (ry_ch th 0)
theorem rs_subG_ok {T S : rx_T} {th : List rx_I} {pi : List Nat} {b : (Nat → Option Nat) × List Int} (hb2 : b.2 = []) {D : va_G} {A : Nat → Prop} {g : List Int} {tys : List (ClassId × FieldType)} {ws : va_W} {lv : List (Nat × Value)} {ls : Array Slot} {nL : Nat} {st : List Value} {H : Heap} (hk : rs_subG T S th pi = true) (hG : rx_g T.1 g) (hH : rx_h b g tys T.2.1 ws) (hP : va_P D vwCl ws H) (hD : va_D A ws) (hl : rx_ls b (ws.map Prod.fst) g T.2.2.2.2.1 lv) (hv : lv_has ls nL lv) (hst : rx_vs b (ws.map Prod.fst) g T.2.2.2.2.2 st) :
    ∃ (g0 : List Int) (ws0 : va_W) (lv0 : List (Nat × Value)), rx_Th th g g0 ∧ rx_g S.1 g0 ∧ rx_h b g0 tys S.2.1 ws0 ∧ va_P D vwCl ws0 H ∧ va_D A ws0 ∧ rx_ls b (ws0.map Prod.fst) g0 S.2.2.2.2.1 lv0 ∧ lv_has ls nL lv0 ∧ rx_vs b (ws0.map Prod.fst) g0 S.2.2.2.2.2 st := by
  unfold rs_subG rs_subV at hk
  rw [rx_lenR_eq, rx_lenR_eq] at hk
  generalize hok : (fun k : Nat => @Bool.rec (fun _ => Bool) true false (rx_isin (ry_ch th 0) k) && Nat.ble (k + 1) th.length) = ok at hk
  simp only [Bool.and_eq_true] at hk
  obtain ⟨⟨k1, k3⟩, ⟨k4, k7⟩, k5, k6⟩ := hk
  obtain ⟨k1, k2⟩ := ry_bB_ok hG hG.1.1.symm (fun j u hu => by rw [Nat.zero_add]; exact hu) k1
  obtain ⟨g0, hg0⟩ : ∃ g0, g0 = th.map (rx_vl g) := ⟨_, rfl⟩
  have hat : ∀ (j : Nat) (q : rx_I), th[j]? = some q → q.1 ≤ g.length := by
    intro j q hq
    have hj : j < S.1.1.length := by rw [k1]; exact (List.getElem?_eq_some_iff.mp hq).1
    exact (k2 j q _ hq (List.getElem?_eq_getElem hj)).1
  have hT : rx_Th th g g0 := by
    refine ⟨by rw [hg0, List.length_map], fun j z hz => ?_⟩
    rw [hg0, List.getElem?_map] at hz
    cases hq : th[j]? with
    | none => rw [hq] at hz; cases hz
    | some q =>
      rw [hq] at hz
      have hz : some (rx_vl g q) = some z := hz
      cases hz
      exact ⟨q, rfl, ry_vle (hat j q hq)⟩
  have hlo : ∀ k, ok k = true → g0[k]? = g[k]? := by
    intro k hk
    rw [← hok] at hk
    dsimp only at hk
    rw [Bool.and_eq_true] at hk
    have hkt : k < th.length := Nat.le_of_ble_eq_true hk.2
    have hin : rx_isin (ry_ch th 0) k = false := by
      cases h : rx_isin (ry_ch th 0) k with
      | false => rfl
      | true => rw [h] at hk; cases hk.1
    have e := ry_ch_ok (n := 0) (List.getElem?_eq_getElem hkt) (by rw [Nat.zero_add]; exact hin)
    rw [Nat.zero_add] at e
    have hkg : k < g.length := by
      have := hat k _ (List.getElem?_eq_getElem hkt)
      rw [e] at this
      exact this
    rw [hg0, List.getElem?_map, List.getElem?_eq_getElem hkt, e, List.getElem?_eq_getElem hkg]
    show some (g.getD k 0 + 0) = _
    rw [List.getD_eq_getElem?_getD, List.getElem?_eq_getElem hkg]
    show some (g[k] + 0) = _
    rw [Int.add_zero]
  have hG0 : rx_g S.1 g0 := by
    refine ⟨⟨by rw [hg0, List.length_map, k1], fun k z q hz hq => ?_⟩, fun f hf => ?_⟩
    · rw [hg0, List.getElem?_map] at hz
      cases hqk : th[k]? with
      | none => rw [hqk] at hz; cases hz
      | some q' =>
        rw [hqk] at hz
        have hz : some (rx_vl g q') = some z := hz
        cases hz
        exact (k2 k q' q hqk hq).2
    · exact rp_fw_ok hG hT List.drop_zero.symm (fun x hx => hx) k3 f hf
  obtain ⟨hpl, hmh⟩ := ry_hB_ok k4
  have hin : ∀ i j : Nat, pi[i]? = some j → j < ws.length := by
    intro i j hij
    have hi : i < S.2.1.length := by rw [← hpl]; exact (List.getElem?_eq_some_iff.mp hij).1
    obtain ⟨j', c, h1, h2, -⟩ := hmh i _ (List.getElem?_eq_getElem hi)
    rw [hij] at h1
    cases h1
    rw [← hH.1]
    exact (List.getElem?_eq_some_iff.mp h2).1
  obtain ⟨ws0, hws0⟩ : ∃ ws0 : va_W, ws0 = pi.map (fun j => ws.getD j rx_dW) := ⟨_, rfl⟩
  have hw0 : ∀ i j : Nat, pi[i]? = some j → ws0[i]? = ws[j]? := by
    intro i j hij
    rw [hws0, List.getElem?_map, hij, rx_gtD (hin i j hij)]
    rfl
  have hw0l : ws0.length = pi.length := by rw [hws0, List.length_map]
  have hw1 : ∀ (i : Nat) (q : Nat × va_E), ws0[i]? = some q → ∃ j, pi[i]? = some j ∧ ws[j]? = some q := by
    intro i q hq
    have hi : i < pi.length := by rw [← hw0l]; exact (List.getElem?_eq_some_iff.mp hq).1
    refine ⟨pi[i], List.getElem?_eq_getElem hi, ?_⟩
    rw [← hw0 i _ (List.getElem?_eq_getElem hi)]
    exact hq
  have hA : ∀ (i j r : Nat), pi[i]? = some j → (ws.map Prod.fst)[j]? = some r → (ws0.map Prod.fst)[i]? = some r := by
    intro i j r hij hr
    rw [List.getElem?_map] at hr ⊢
    rw [hw0 i j hij]
    exact hr
  have hmv : ∀ v0 v w, rx_mV T.1 th pi [] v0 v = true → rx_v b (ws.map Prod.fst) g v w → rx_v b (ws0.map Prod.fst) g0 v0 w := by
    intro v0 v w h1 h2
    have := rx_mV_ok (b := b) hG hT hA h1 h2
    rw [rx_b0_nil] at this
    exact this
  have hby : ∀ (k : Nat) (q : Nat × va_E), ws0[k]? = some q → ws[pi.getD k 0]? = some q := by
    intro k q hq
    obtain ⟨j, h1, h2⟩ := hw1 k q hq
    rw [List.getD_eq_getElem?_getD, h1]
    exact h2
  have hinj : ∀ i j : Nat, i < ws0.length → j < ws0.length → pi.getD i 0 = pi.getD j 0 → i = j := by
    intro i j hi hj hij
    rw [hw0l] at hi hj
    rw [List.getD_eq_getElem?_getD, List.getD_eq_getElem?_getD, List.getElem?_eq_getElem hi, List.getElem?_eq_getElem hj] at hij
    have hij : pi[i] = pi[j] := hij
    exact rx_ndp_ok k7 i j pi[j] (by rw [List.getElem?_eq_getElem hi, hij]) (List.getElem?_eq_getElem hj)
  have hH0 : rx_h b g0 tys S.2.1 ws0 := by
    refine ⟨by rw [hw0l, hpl], fun i c0 hc0 => ?_, by rw [hb2]; exact fun i x hx => by simp at hx⟩
    obtain ⟨j, c, h1, h2, h3⟩ := hmh i c0 hc0
    obtain ⟨a, e, h4, h5⟩ := hH.2.1 j c h2
    exact ⟨a, e, by rw [hw0 i j h1]; exact h4, ry_okc_ok hG hT hlo hA h3 h5⟩
  have hls : ∃ lv0 : List (Nat × Value), rx_ls b (ws0.map Prod.fst) g0 S.2.2.2.2.1 lv0 ∧ ∀ q ∈ lv0, q ∈ lv := by
    have k5 := rx_allR_ok k5
    generalize S.2.2.2.2.1 = lc0 at k5
    induction lc0 with
    | nil => exact ⟨[], trivial, fun q hq => by cases hq⟩
    | cons q lc0 ih =>
      obtain ⟨lv1, h1, h2⟩ := ih (fun a ha => k5 a (List.mem_cons_of_mem _ ha))
      have h3 := k5 q List.mem_cons_self
      rw [rx_lkR_eq] at h3
      split at h3
      · rename_i v hv9
        obtain ⟨k, w, h4, h5⟩ := rx_lk_ok hl hv9
        refine ⟨(q.1, w) :: lv1, ⟨⟨rfl, hmv _ _ _ h3 h5⟩, h1⟩, fun a ha => ?_⟩
        rcases List.mem_cons.mp ha with rfl | ha
        · exact List.mem_of_getElem? h4
        · exact h2 a ha
      · cases h3
  obtain ⟨lv0, hl0, hlv⟩ := hls
  exact ⟨g0, ws0, lv0, hT, hG0, hH0, hP.by _ hby, hD.by _ hby hinj, hl0, ⟨hv.1, hv.2.1, fun q hq => hv.2.2 q (hlv q hq)⟩, rx_all2_ok hmv k6 hst⟩

noncomputable def rs_hdB (S : rx_T) (cps sps : List (Nat × Nat)) (LE IS : Nat) (T : rx_T) : Bool := match Nat.beq T.2.2.2.1 23 && (Nat.ble T.2.2.1.1 1 && (Nat.ble T.2.2.1.2 6 && T.2.2.2.2.2.isEmpty)) with
  | false => false
  | true => (rx_gpT T cps [] (fun pi => rx_gth (rx_gT T pi) sps S.1.1 (fun tt => rx_apR tt [(LE + 1, 0)] (fun th => some ((rx_isP th IS (IS + 1, 6) && rx_isP th LE (LE + 1, 0)) && rs_subG T S th pi))))).getD false
theorem rs_hdB_ok {S : rx_T} {cps sps : List (Nat × Nat)} {LE IS : Nat} {T : rx_T} (h : rs_hdB S cps sps LE IS T = true) : (T.2.2.2.1 = 23 ∧ T.2.2.1.1 ≤ 1 ∧ T.2.2.1.2 ≤ 6 ∧ T.2.2.2.2.2 = []) ∧ ∃ th pi, th[IS]? = some (IS + 1, 6) ∧ th[LE]? = some (LE + 1, 0) ∧ rs_subG T S th pi = true := by
  unfold rs_hdB at h
  split at h
  · cases h
  · rename_i hb
    simp only [Bool.and_eq_true] at hb
    refine ⟨⟨Nat.eq_of_beq_eq_true hb.1, Nat.le_of_ble_eq_true hb.2.1, Nat.le_of_ble_eq_true hb.2.2.1, List.isEmpty_iff.mp hb.2.2.2⟩, ?_⟩
    obtain ⟨pi, h1⟩ := rx_gpT_ok (rx_gtd (f := fun x : Bool => x) h)
    obtain ⟨tt, h2⟩ := rx_gth_ok h1
    rw [rx_apR_eq] at h2
    have h2 := Option.some.inj h2
    simp only [Bool.and_eq_true] at h2
    exact ⟨_, pi, rx_isP_ok h2.1.1, rx_isP_ok h2.1.2, h2.2⟩

section RSO2
variable {p : Program} {l : Launch} {e : Env} {s : State} {m : MethodId} {args : Array Value} {below : List Frame} {meth : Method} {c : Code} {bb : (Nat → Option Nat) × List Int} {D : va_G} {sz0 L i0 : Nat} {xs : Nat → Int32} {LE IS V0 N6 : Nat} {S : rx_T}
theorem rs_head (hb2 : bb.2 = []) {cps sps : List (Nat × Nat)} {T : rx_T} (h : rs_hdB S cps sps LE IS T = true) (hstk : S.2.2.2.2.2 = []) (hi : i0 + 6 ≤ L) (g : List Int) : rx_GL p l e s m args below meth c bb D sz0 (rx_Q1 p l e s m args below meth c bb D sz0 S LE IS L (i0 + 6)) (rx_Ps L i0 xs LE IS V0 N6) T g := by
  obtain ⟨⟨hpc, hc1, hc2, hst0⟩, th, pi, hIS, hLE, hsub⟩ := rs_hdB_ok h
  intro hPg hG1 a0 t0 H locs ls1 st hat
  obtain ⟨g', tys', ws', lv', hE', hG', hH', hK', hP', hD', hS', hl', hv', hst'⟩ := hat
  have e1 : g' = g := rx_le_eq hE'.1 (by rw [hG'.1.1, hG1.1.1])
  subst e1
  rw [hst0] at hst'
  obtain ⟨g2, ws2, lv2, hTh, hG2, hH2, hP2, hD2, hl2, hv2, hst2⟩ := rs_subG_ok hb2 hsub hG' hH' hP' hD' hl' hv' (by rw [hst0]; exact hst')
  rw [hstk] at hst2
  have val : ∀ (k j : Nat) (d z : Int), th[k]? = some (j + 1, d) → g'[j]? = some z → g2[k]? = some (z + d) := by
    intro k j d z h1 hz
    have h2 : k < g2.length := by rw [hTh.1]; exact (List.getElem?_eq_some_iff.mp h1).1
    obtain ⟨r, h3, h4⟩ := hTh.2 k _ (List.getElem?_eq_getElem h2)
    rw [h1] at h3
    cases h3
    obtain ⟨y, h5, h6⟩ := h4
    rw [hz] at h5
    cases h5
    rw [List.getElem?_eq_getElem h2, h6]
  cases st with
  | cons v w => exact hst2.elim
  | nil =>
    rw [hpc]
    intro T1 hT1 X
    refine ⟨T1.setTop (F0 m 23 ls1 []), Steps.refl _, T1, ls1, locs, _, _, X, ⟨hc1, hc2⟩, by rw [hT1]; exact hS', Or.inl ⟨rfl, hi, g2, tys', ws2, lv2, hG2, ⟨?_, ?_⟩, hH2, hK', by rw [hT1]; exact hP2, hD2, hl2, hv2⟩⟩
    · have := val LE LE 0 (L : Int) hLE hPg.1
      rw [this, Int.add_zero]
    · have := val IS IS 6 (i0 : Int) hIS hPg.2.1
      rw [this]
      rfl
end RSO2
