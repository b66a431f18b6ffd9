/-! ===== a contract, at a call ===== -/
theorem rx_Met_imp {l : Launch} {y : MethodName} {ws : List Cond} {rm : Room} {P P' : Array Value → State → Prop} {Q Q' : Array Value → State → Outcome → State → Prop} {mc ms : Nat} {f f' : Addr → Prop} (h : Met l y ws rm P Q mc ms f) (hP : ∀ a s, P' a s → P a s) (hQ : ∀ a s o t, P' a s → Q a s o t → Q' a s o t) (hf : ∀ q, f q → f' q) : Met l y ws rm P' Q' mc ms f' := by
  intro p e ha hc hk s m args below hfr happ hp hK
  obtain ⟨n, o, h1, h2, h3, h4, L, h5, h6⟩ := h p e ha hc hk s m args below hfr happ (hP _ _ hp) hK
  exact ⟨n, o, h1, h2, h3, hQ _ _ _ _ hp h4, L, h5, fun q hq => hf _ (h6 q hq)⟩
/-- all unlike -/
noncomputable def rx_ndp (l : List Nat) : Bool := @List.rec Nat (fun _ => Bool) true (fun a t ih => @Bool.rec (fun _ => Bool) ih false (rx_isin t a)) l
theorem rx_isin_ok {l : List Nat} {k : Nat} : rx_isin l k = true ↔ k ∈ l := by
  induction l with
  | nil => exact ⟨(fun h => by cases h), (fun h => by cases h)⟩
  | cons a l ih =>
    have e : rx_isin (a :: l) k = @Bool.rec (fun _ => Bool) (rx_isin l k) true (Nat.beq k a) := rfl
    rw [e]
    cases hb : Nat.beq k a with
    | true =>
      have := Nat.eq_of_beq_eq_true hb
      subst this
      exact ⟨fun _ => List.mem_cons_self, fun _ => rfl⟩
    | false =>
      constructor
      · exact fun h => List.mem_cons_of_mem _ (ih.mp h)
      · intro h
        rcases List.mem_cons.mp h with rfl | h
        · rw [Nat.beq_refl] at hb; cases hb
        · exact ih.mpr h
theorem rx_ndp_ok {l : List Nat} (h : rx_ndp l = true) : ∀ (i j a : Nat), l[i]? = some a → l[j]? = some a → i = j := by
  induction l with
  | nil => exact fun i j a hi => by simp at hi
  | cons x l ih =>
    have e : rx_ndp (x :: l) = @Bool.rec (fun _ => Bool) (rx_ndp l) false (rx_isin l x) := rfl
    rw [e] at h
    cases hb : rx_isin l x with
    | true => rw [hb] at h; cases h
    | false =>
      rw [hb] at h
      intro i j a hi hj
      have no : ∀ k : Nat, l[k]? = some x → False := fun k hk => by
        rw [rx_isin_ok.mpr (List.mem_of_getElem? hk)] at hb
        cases hb
      cases i with
      | zero =>
        rw [List.getElem?_cons_zero] at hi
        cases hi
        cases j with
        | zero => rfl
        | succ j =>
          rw [List.getElem?_cons_succ] at hj
          exact (no j hj).elim
      | succ i =>
        rw [List.getElem?_cons_succ] at hi
        cases j with
        | zero =>
          rw [List.getElem?_cons_zero] at hj
          cases hj
          exact (no i hi).elim
        | succ j =>
          rw [List.getElem?_cons_succ] at hj
          rw [ih h i j a hi hj]
/-- cells left open: no numbers, cells that are there -/
noncomputable def rx_xok (n : Nat) (v : rx_V) : Bool := match v with
  | .inr (.inr (.inl (some r))) => Nat.ble (r + 1) n
  | .inr (.inr (.inl none)) => true
  | .inr (.inr (.inr _)) => true
  | _ => false
noncomputable def rx_chkI (sy : rx_Y) (h : List rx_C) (as : List rx_V) (th : List rx_I) (pi : List Nat) (xi : List rx_V) (sy0 : rx_Y) (h0 : List rx_C) (as0 : List rx_V) : Bool := rx_all2 (rx_mV sy th pi xi) as0 as && (rx_mY sy th sy0 && (rx_mH sy th pi xi h pi h0 && (rx_ndp pi && rx_allR (rx_xok (rx_lenR h)) xi)))
/-- the symbols, where those of the callee have new bounds -/
noncomputable def rx_rfn (th : List rx_I) : List (Int × Int) → rx_Y → List rx_Y := @List.rec rx_I (fun _ => List (Int × Int) → rx_Y → List rx_Y) (fun _ sy => [sy]) (fun q _ ih l sy => match l with
  | [] => [sy]
  | r :: t => match q with
    | (0, c) => match rx_ile r.1 c && rx_ile c r.2 with
      | true => ih t sy
      | false => []
    | (k + 1, c) => (rx_lo sy k (r.1 - c)).flatMap (fun s => (rx_hi s k (r.2 - c)).flatMap (fun s => ih t s))) th
theorem rx_rfn_ok {th : List rx_I} : ∀ {g g0 : List Int} {l : List (Int × Int)} {sy : rx_Y}, rx_g sy g → (∀ (j : Nat) (q : rx_I), th[j]? = some q → ∃ z, g0[j]? = some z ∧ rx_ev g q z) → (∀ (j : Nat) (z : Int) (r : Int × Int), j < th.length → g0[j]? = some z → l[j]? = some r → r.1 ≤ z ∧ z ≤ r.2) → ∃ s ∈ rx_rfn th l sy, rx_g s g := by
  induction th with
  | nil => exact fun hG _ _ => ⟨_, List.mem_singleton.mpr rfl, hG⟩
  | cons q th ih =>
    intro g g0 l sy hG hT hb
    cases l with
    | nil => exact ⟨_, List.mem_singleton.mpr rfl, hG⟩
    | cons r l =>
      obtain ⟨z, hz1, hz2⟩ := hT 0 q rfl
      have hz3 := hb 0 z r (Nat.succ_pos _) hz1 rfl
      have step : ∀ s, rx_g s g → ∃ s' ∈ rx_rfn th l s, rx_g s' g := by
        intro s hs
        refine ih (g0 := g0.drop 1) hs (fun j q' hj => ?_) (fun j z' r' hj hz' hr' => ?_)
        · obtain ⟨z', h1, h2⟩ := hT (j + 1) q' (by rw [List.getElem?_cons_succ]; exact hj)
          exact ⟨z', by rw [List.getElem?_drop, Nat.add_comm]; exact h1, h2⟩
        · rw [List.getElem?_drop, Nat.add_comm] at hz'
          exact hb (j + 1) z' r' (Nat.succ_lt_succ hj) hz' (by rw [List.getElem?_cons_succ]; exact hr')
      obtain ⟨k, c⟩ := q
      cases k with
      | zero =>
        have hz2 : z = c := hz2
        subst hz2
        have e : rx_rfn ((0, z) :: th) (r :: l) sy = (match rx_ile r.1 z && rx_ile z r.2 with | true => rx_rfn th l sy | false => []) := rfl
        rw [e, (rx_ile_iff _ _).mpr hz3.1, (rx_ile_iff _ _).mpr hz3.2]
        exact step sy hG
      | succ k =>
        obtain ⟨y, h1, h2⟩ := hz2
        obtain ⟨s1, q1, q2⟩ := rx_lo_ok (v := r.1 - c) hG h1 (by omega)
        obtain ⟨s2, q3, q4⟩ := rx_hi_ok (v := r.2 - c) q2 h1 (by omega)
        obtain ⟨s3, q5, q6⟩ := step s2 q4
        exact ⟨s3, List.mem_flatMap.mpr ⟨s1, q1, List.mem_flatMap.mpr ⟨s2, q3, q5⟩⟩, q6⟩
/-- a fact by its other names -/
noncomputable def rx_rF (th : List rx_I) (f : rx_F) : Option rx_F := match rx_rT th f.2.1 with
  | none => none
  | some r => match f.1 with
    | [] => rx_z (r.2 + f.2.2) (fun c => some ([], r.1, c))
    | q :: l => match l with
      | [] => match rx_nth th q.1 with
        | some (0, c) => match rx_ile c q.2 with
          | true => rx_z (r.2 + f.2.2) (fun c => some ([], r.1, c))
          | false => none
        | some (k + 1, c) => rx_z (q.2 - c) (fun v => rx_z (r.2 + f.2.2) (fun c => some ([(k, v)], r.1, c)))
        | none => none
      | _ :: _ => none
theorem rx_rF_ok {th : List rx_I} {g g0 : List Int} (hT : rx_Th th g g0) {f f' : rx_F} (h : rx_rF th f = some f') (hf : rx_f g0 f) : rx_f g f' := by
  unfold rx_rF at h
  split at h
  · cases h
  · rename_i r hr
    obtain ⟨z0, z, h1, h2, h3⟩ := rx_rT_ok hT hr
    have fin : (∀ q ∈ f.1, ∀ y, g0[q.1]? = some y → y ≤ q.2) → 0 ≤ z + (r.2 + f.2.2) := by
      intro hq
      obtain ⟨z0', h4, h5⟩ := hf hq
      rw [rx_lin.one h4 h1] at h5
      omega
    split at h
    · rename_i he
      rw [rx_z_eq] at h
      cases h
      exact fun _ => ⟨z, h2, fin (fun q hq => by rw [he] at hq; cases hq)⟩
    · rename_i q l he
      split at h
      · rw [rx_nth_eq] at h
        split at h
        · rename_i c hc
          split at h
          · rename_i hb
            have hb := (rx_ile_iff _ _).mp hb
            rw [rx_z_eq] at h
            cases h
            refine fun _ => ⟨z, h2, fin (fun q' hq' y hy => ?_)⟩
            rw [he] at hq'
            cases List.mem_singleton.mp hq'
            obtain ⟨r', h5, h6⟩ := hT.2 _ _ hy
            rw [hc] at h5
            cases h5
            have h6 : y = c := h6
            omega
          · cases h
        · rename_i k c hc
          rw [rx_z_eq, rx_z_eq] at h
          cases h
          refine fun hg => ⟨z, h2, fin (fun q' hq' y hy => ?_)⟩
          rw [he] at hq'
          cases List.mem_singleton.mp hq'
          obtain ⟨r', h5, h6⟩ := hT.2 _ _ hy
          rw [hc] at h5
          cases h5
          obtain ⟨y', h7, h8⟩ := h6
          have h9 : y' ≤ q.2 - c := hg _ (List.mem_singleton.mpr rfl) y' h7
          omega
        · cases h
      · cases h
noncomputable def rx_apR {α β : Type} (l m : List α) : (List α → β) → β := @List.rec α (fun _ => (List α → β) → β) (fun k => match m with
  | [] => k []
  | a :: t => k (a :: t)) (fun a _ ih k => ih (fun t => k (a :: t))) l
theorem rx_apR_eq {α β : Type} (l m : List α) : ∀ k : List α → β, rx_apR l m k = k (l ++ m) := by
  induction l with
  | nil => intro k; cases m <;> rfl
  | cons a l ih => exact fun k => ih (fun t => k (a :: t))
/-- names of what is new -/
def rx_fn (a m : Nat) : List rx_I := (List.range m).map (fun i => (a + i + 1, 0))
def rx_fp (a m : Nat) : List Nat := (List.range m).map (fun i => a + i)
/-- the states behind a call, from one of the callee's ends -/
noncomputable def rx_mkO (sy : rx_Y) (h : List rx_C) (th : List rx_I) (pi : List Nat) (xi : List rx_V) (o : rx_T) : Option (List rx_T) :=
  rx_apR th (rx_fn (rx_lenR sy.1) (rx_lenR o.1.1 - rx_lenR th)) (fun th1 => rx_apR pi (rx_fp (rx_lenR h) (rx_lenR o.2.1 - rx_lenR pi)) (fun pi1 =>
    rx_bkH th1 pi1 xi o.2.1 h 0 (fun h1 => rx_rCs th1 pi1 xi (o.2.1.drop (rx_lenR pi)) (fun h2 => rx_rL (rx_rV th1 pi1 xi) o.2.2.2.2.2 (fun st => rx_apR h1 h2 (fun h3 =>
      some ((rx_rfn th o.1.1 sy).map (fun s => rx_apR s.1 (o.1.1.drop (rx_lenR th)) (fun s1 => ((s1, s.2 ++ o.1.2.filterMap (rx_rF th1)), h3, (0, 0), 0, [], st))))))))))
/-- from each end -/
noncomputable def rx_mkOs (sy : rx_Y) (h : List rx_C) (th : List rx_I) (pi : List Nat) (xi : List rx_V) (os : List rx_T) : Option (List rx_T) := @List.rec rx_T (fun _ => Option (List rx_T)) (some []) (fun o _ ih => match rx_mkO sy h th pi xi o with
  | some a => match ih with
    | some d => some (a ++ d)
    | none => none
  | none => none) os
theorem rx_mkOs_ok {sy : rx_Y} {h : List rx_C} {th : List rx_I} {pi : List Nat} {xi : List rx_V} {os : List rx_T} : ∀ {L : List rx_T}, rx_mkOs sy h th pi xi os = some L → ∀ o ∈ os, ∃ a, rx_mkO sy h th pi xi o = some a ∧ ∀ x ∈ a, x ∈ L := by
  induction os with
  | nil => exact fun _ o ho => by cases ho
  | cons o os ih =>
    intro L hL o' ho'
    have e : rx_mkOs sy h th pi xi (o :: os) = (match rx_mkO sy h th pi xi o with | some a => (match rx_mkOs sy h th pi xi os with | some d => some (a ++ d) | none => none) | none => none) := rfl
    rw [e] at hL
    split at hL
    · rename_i a ha
      split at hL
      · rename_i d hd
        cases hL
        rcases List.mem_cons.mp ho' with rfl | ho'
        · exact ⟨a, ha, fun x hx => List.mem_append_left _ hx⟩
        · obtain ⟨a', h1, h2⟩ := ih hd o' ho'
          exact ⟨a', h1, fun x hx => List.mem_append_right _ (h2 x hx)⟩
      · cases hL
    · cases hL
section RXI
def rx_dW : Nat × va_E := (0, .inr (0, []))
theorem rx_gtD {ws : va_W} {j : Nat} (h : j < ws.length) : ws[j]? = some (ws.getD j rx_dW) := by
  rw [List.getD_eq_getElem?_getD, List.getElem?_eq_getElem h]
  rfl
theorem rx_fst_at {ws : va_W} {i r : Nat} (h : (ws.map Prod.fst)[i]? = some r) : ∃ e, ws[i]? = some (r, e) := by
  rw [List.getElem?_map] at h
  cases hi : ws[i]? with
  | none => rw [hi] at h; cases h
  | some q =>
    rw [hi] at h
    cases h
    exact ⟨q.2, rfl⟩
theorem rx_inst_ok {l : Launch} {D : va_G} {Zb : (Nat → Option Nat) × List Int → State → Heap → Prop} {sz0 d : Nat} {M : rx_Md} {b : (Nat → Option Nat) × List Int} {sy sy0 : rx_Y} {h h0 : List rx_C} {as as0 : List rx_V} {th : List rx_I} {pi : List Nat} {xi : List rx_V} {outs0 outs : List rx_T}
    (hZb : ∀ (b b0 : (Nat → Option Nat) × List Int) (U : State) (H : Heap), (∀ u, u < 100 → b0.1 u = b.1 u) → b0.2 = b.2 → Zb b U H → Zb b0 U H) (hb2 : b.2 = [])
    (hC : ∀ b0 : (Nat → Option Nat) × List Int, b0.2 = [] → rx_Ct l b0 D (Zb b0) sz0 d M as0 sy0 h0 outs0) (hk : rx_chkI sy h as th pi xi sy0 h0 as0 = true) (ho : rx_mkOs sy h th pi xi outs0 = some outs) : rx_Ct l b D (Zb b) sz0 d M as sy h outs := by
  intro g tys ws vs sz hG hH hvs
  unfold rx_chkI at hk
  simp only [Bool.and_eq_true] at hk
  obtain ⟨k1, k2, k3, k4, k5⟩ := hk
  obtain ⟨g0, hT, hG0⟩ := rx_mY_ok hG k2
  obtain ⟨hpl, hmh⟩ := rx_mH_ok k3
  have hxi := rx_allR_ok k5
  rw [rx_lenR_eq] at hxi
  -- the callee's cells
  have hin : ∀ i j : Nat, pi[i]? = some j → j < ws.length := by
    intro i j hij
    have hi : i < h0.length := by rw [← hpl]; exact (List.getElem?_eq_some_iff.mp hij).1
    obtain ⟨j', c, h1, h2, -⟩ := hmh i _ (List.getElem?_eq_getElem hi)
    rw [hij] at h1
    cases h1
    rw [← hH.1]
    exact (List.getElem?_eq_some_iff.mp h2).1
  obtain ⟨ws0, hws0⟩ : ∃ ws0 : va_W, ws0 = pi.map (fun j => ws.getD j rx_dW) := ⟨_, rfl⟩
  have hw0 : ∀ i j : Nat, pi[i]? = some j → ws0[i]? = ws[j]? := by
    intro i j hij
    rw [hws0, List.getElem?_map, hij, rx_gtD (hin i j hij)]
    rfl
  have hw0l : ws0.length = pi.length := by rw [hws0, List.length_map]
  have hw1 : ∀ (i : Nat) (q : Nat × va_E), ws0[i]? = some q → ∃ j, pi[i]? = some j ∧ ws[j]? = some q := by
    intro i q hq
    have hi : i < pi.length := by rw [← hw0l]; exact (List.getElem?_eq_some_iff.mp hq).1
    refine ⟨pi[i], List.getElem?_eq_getElem hi, ?_⟩
    rw [← hw0 i _ (List.getElem?_eq_getElem hi)]
    exact hq
  have hA : ∀ (i j r : Nat), pi[i]? = some j → (ws.map Prod.fst)[j]? = some r → (ws0.map Prod.fst)[i]? = some r := by
    intro i j r hij hr
    rw [List.getElem?_map] at hr ⊢
    rw [hw0 i j hij]
    exact hr
  obtain ⟨b0, hb0⟩ : ∃ b0, b0 = rx_b0 b (ws.map Prod.fst) xi := ⟨_, rfl⟩
  have hb02 : b0.2 = [] := by rw [hb0]; exact hb2
  have hH0 : rx_h b0 g0 tys h0 ws0 := by
    refine ⟨by rw [hw0l, hpl], fun i c0 hc0 => ?_, by rw [hb02]; exact fun i x hx => by simp at hx⟩
    obtain ⟨j, c, h1, h2, h3⟩ := hmh i c0 hc0
    obtain ⟨a, e, h4, h5⟩ := hH.2.1 j c h2
    refine ⟨a, e, by rw [hw0 i j h1]; exact h4, ?_⟩
    rw [hb0]
    exact rx_mC_ok hG hT hA h3 h5
  have hvs0 : rx_vs b0 (ws0.map Prod.fst) g0 as0 vs := by
    rw [hb0]
    exact rx_all2_ok (fun v0 v w => rx_mV_ok hG hT hA) k1 hvs
  have met := hC b0 hb02 g0 tys ws0 vs sz hG0 hH0 hvs0
  have hby : ∀ (k : Nat) (q : Nat × va_E), ws0[k]? = some q → ws[pi.getD k 0]? = some q := by
    intro k q hq
    obtain ⟨j, h1, h2⟩ := hw1 k q hq
    rw [List.getD_eq_getElem?_getD, h1]
    exact h2
  have hinj : ∀ i j : Nat, i < ws0.length → j < ws0.length → pi.getD i 0 = pi.getD j 0 → i = j := by
    intro i j hi hj hij
    rw [hw0l] at hi hj
    rw [List.getD_eq_getElem?_getD, List.getD_eq_getElem?_getD, List.getElem?_eq_getElem hi, List.getElem?_eq_getElem hj] at hij
    have hij : pi[i] = pi[j] := hij
    exact rx_ndp_ok k4 i j pi[j] (by rw [List.getElem?_eq_getElem hi, hij]) (List.getElem?_eq_getElem hj)
  have hsub : ∀ q, va_A ws0 sz q → va_A ws sz q := by
    intro q hq
    rcases hq with ⟨k, e, hk⟩ | hq
    · obtain ⟨j, h1, h2⟩ := hw1 k _ hk
      exact Or.inl ⟨j, e, h2⟩
    · exact Or.inr hq
  refine rx_Met_imp met (fun a U hp => ?_) (fun a st oc t hp hq => ?_) hsub
  · obtain ⟨p1, p2, p3, p4, p5, p6, p7, p8⟩ := hp
    refine ⟨p1, p2, p3.by _ hby, p4, p5.by _ hby hinj, p6, p7, hZb b b0 U _ ?_ (by rw [hb02, hb2]) p8⟩
    intro u hu
    rw [hb0]
    exact rx_b0_lo hu
  · obtain ⟨p1, p2, p3, p4, p5, p6, p7, p8⟩ := hp
    obtain ⟨⟨o, hoo, g1, tys1, ws1, v, hoc, ⟨le1, le2, le3⟩, hG1, hH1, hv1, hK1, hP1, hD1⟩, hF⟩ := hq
    obtain ⟨Lo, hLo, hLs⟩ := rx_mkOs_ok ho o hoo
    unfold rx_mkO at hLo
    simp only [rx_lenR_eq] at hLo
    rw [rx_apR_eq, rx_apR_eq] at hLo
    -- lengths
    have n0 : g0.length = th.length := hT.1
    have n1 : g1.length = o.1.1.length := hG1.1.1
    have n2 : th.length ≤ g1.length := by
      rw [← n0]
      rcases Nat.eq_zero_or_pos g0.length with q | q
      · omega
      · have q1 : g0.length - 1 < g0.length := by omega
        have q2 := le1 _ _ (List.getElem?_eq_getElem q1)
        have := (List.getElem?_eq_some_iff.mp q2).1
        omega
    have n3 : ws1.length = o.2.1.length := hH1.1.symm
    have n4 : pi.length ≤ ws1.length := by
      rw [← hw0l]
      rcases Nat.eq_zero_or_pos ws0.length with q | q
      · omega
      · have q1 : ws0.length - 1 < (ws0.map Prod.fst).length := by rw [List.length_map]; omega
        have q2 := le2 _ _ (List.getElem?_eq_getElem q1)
        have := (List.getElem?_eq_some_iff.mp q2).1
        rw [List.length_map] at this
        omega
    have n5 : h.length = ws.length := hH.1
    have n6 : g.length = sy.1.length := hG.1.1
    obtain ⟨th1, hth1⟩ : ∃ th1, th1 = th ++ rx_fn sy.1.length (o.1.1.length - th.length) := ⟨_, rfl⟩
    obtain ⟨pi1, hpi1⟩ : ∃ pi1, pi1 = pi ++ rx_fp h.length (o.2.1.length - pi.length) := ⟨_, rfl⟩
    rw [← hth1, ← hpi1] at hLo
    obtain ⟨h1, hLo, hl1, hc1⟩ := rx_bkH_ok hLo
    obtain ⟨h2, hLo, hl2, hc2⟩ := rx_rCs_ok hLo
    obtain ⟨st', hLo, hl3, hc3⟩ := rx_rL_ok (P := fun v v' => ∀ {b b0 : (Nat → Option Nat) × List Int} {as as0 : List Nat} {g g0 : List Int} {w : Value}, rx_Nm th1 pi1 xi b b0 as as0 g g0 → rx_v b0 as0 g0 v w → rx_v b as g v' w) (fun v k x hv => rx_rV_ok hv) hLo
    rw [rx_apR_eq] at hLo
    have hLo := Option.some.inj hLo
    -- symbols
    obtain ⟨g', hg'⟩ : ∃ g', g' = g ++ g1.drop th.length := ⟨_, rfl⟩
    have hgl : rx_le g g' := by rw [hg']; exact rx_le.app _
    have hT1 : rx_Th th1 g' g1 := by
      refine ⟨by rw [hth1, List.length_append, rx_fn, List.length_map, List.length_range, n1]; omega, fun j z hj => ?_⟩
      by_cases hjn : j < th.length
      · have hj0 : g0[j]? = some z := by
          have q1 : j < g0.length := by omega
          have q2 := le1 j _ (List.getElem?_eq_getElem q1)
          rw [hj] at q2
          rw [List.getElem?_eq_getElem q1, ← q2]
        obtain ⟨r, q3, q4⟩ := hT.2 j z hj0
        exact ⟨r, by rw [hth1, List.getElem?_append_left hjn]; exact q3, q4.mono hgl⟩
      · have hj1 := (List.getElem?_eq_some_iff.mp hj).1
        refine ⟨(sy.1.length + (j - th.length) + 1, 0), ?_, z, ?_, by omega⟩
        · rw [hth1, List.getElem?_append_right (by omega), rx_fn, List.getElem?_map, List.getElem?_range (by omega)]
          rfl
        · rw [hg', List.getElem?_append_right (by omega), List.getElem?_drop, ← n6, show th.length + (g.length + (j - th.length) - g.length) = j by omega]
          exact hj
    obtain ⟨s, hs1, hs2⟩ := rx_rfn_ok (th := th) (g := g) (g0 := g1) (l := o.1.1) hG (fun j q hj => by
      have hjn := (List.getElem?_eq_some_iff.mp hj).1
      have q1 : j < g0.length := by omega
      have q2 := le1 j _ (List.getElem?_eq_getElem q1)
      obtain ⟨r, q3, q4⟩ := hT.2 j _ (List.getElem?_eq_getElem q1)
      rw [hj] at q3
      cases q3
      exact ⟨_, q2, q4⟩) (fun j z r _ hz hr => hG1.1.2 j z r hz hr)
    have hsl : s.1.length = sy.1.length := by rw [← hs2.1.1, n6]
    have hG' : rx_g (s.1 ++ o.1.1.drop th.length, s.2 ++ o.1.2.filterMap (rx_rF th1)) g' := by
      refine ⟨⟨?_, fun j z r hj hr => ?_⟩, fun f hf => ?_⟩
      · dsimp only
        rw [hg', List.length_append, List.length_append, List.length_drop, List.length_drop, hs2.1.1, n1]
      · dsimp only at hr
        by_cases hjl : j < g.length
        · rw [hg', List.getElem?_append_left hjl] at hj
          rw [List.getElem?_append_left (by omega)] at hr
          exact hs2.1.2 j z r hj hr
        · rw [hg', List.getElem?_append_right (by omega), List.getElem?_drop] at hj
          rw [List.getElem?_append_right (by omega), List.getElem?_drop, hsl, ← n6] at hr
          exact hG1.1.2 _ z r hj hr
      · rcases List.mem_append.mp hf with hf | hf
        · exact (hs2.2 f hf).mono hgl
        · obtain ⟨f0, q1, q2⟩ := List.mem_filterMap.mp hf
          exact rx_rF_ok hT1 q2 (hG1.2 f0 q1)
    -- cells
    have hn1 : ∀ (i : Nat), i < pi.length → ∃ j a e e1, pi[i]? = some j ∧ ws[j]? = some (a, e) ∧ ws1[i]? = some (a, e1) := by
      intro i hi
      have q1 : ws0[i]? = ws[pi[i]]? := hw0 i _ (List.getElem?_eq_getElem hi)
      have q2 := hin i _ (List.getElem?_eq_getElem hi)
      have q3 : ws[pi[i]]? = some ws[pi[i]] := List.getElem?_eq_getElem q2
      have q4 : (ws0.map Prod.fst)[i]? = some ws[pi[i]].1 := by rw [List.getElem?_map, q1, q3]; rfl
      obtain ⟨e1, q5⟩ := rx_fst_at (le2 _ _ q4)
      exact ⟨pi[i], ws[pi[i]].1, ws[pi[i]].2, e1, List.getElem?_eq_getElem hi, q3, q5⟩
    obtain ⟨wsA, hwsA⟩ : ∃ wsA : va_W, wsA = (List.range ws.length).map (fun k => match rx_fnd k pi 0 with
      | some i => ws1.getD i rx_dW
      | none => ws.getD k rx_dW) := ⟨_, rfl⟩
    have hAl : wsA.length = ws.length := by rw [hwsA, List.length_map, List.length_range]
    have hA1 : ∀ (k : Nat) (q : Nat × va_E), wsA[k]? = some q → k < ws.length ∧ (∃ e, ws[k]? = some (q.1, e)) ∧ ((∃ i : Nat, pi[i]? = some k ∧ ws1[i]? = some q) ∨ ((∀ i : Nat, pi[i]? ≠ some k) ∧ ws[k]? = some q)) := by
      intro k q hq
      have hk1 : k < ws.length := by rw [← hAl]; exact (List.getElem?_eq_some_iff.mp hq).1
      rw [hwsA, List.getElem?_map, List.getElem?_range hk1] at hq
      have hq := Option.some.inj hq
      dsimp only at hq
      cases hfd : rx_fnd k pi 0 with
      | some i =>
        have q1 := (rx_fnd_ok (k := k) (pi := pi) (j := 0)).1 i hfd
        rw [Nat.sub_zero] at q1
        obtain ⟨j, a, e, e1, r1, r2, r3⟩ := hn1 i (List.getElem?_eq_some_iff.mp q1.2).1
        rw [q1.2] at r1
        cases r1
        rw [hfd] at hq
        dsimp only at hq
        rw [List.getD_eq_getElem?_getD, r3] at hq
        have hq : (a, e1) = q := hq
        rw [← hq]
        exact ⟨hk1, ⟨e, r2⟩, Or.inl ⟨i, q1.2, r3⟩⟩
      | none =>
        have q1 := (rx_fnd_ok (k := k) (pi := pi) (j := 0)).2 hfd
        rw [hfd] at hq
        dsimp only at hq
        have q2 := rx_gtD hk1
        rw [hq] at q2
        exact ⟨hk1, ⟨q.2, q2⟩, Or.inr ⟨q1, q2⟩⟩
    obtain ⟨ws', hws'⟩ : ∃ ws' : va_W, ws' = wsA ++ ws1.drop pi.length := ⟨_, rfl⟩
    have has : rx_le (ws.map Prod.fst) (ws'.map Prod.fst) := by
      intro k r hr
      obtain ⟨e, q1⟩ := rx_fst_at hr
      have hk1 := (List.getElem?_eq_some_iff.mp q1).1
      have q2 : wsA[k]? = some wsA[k] := List.getElem?_eq_getElem (by rw [hAl]; exact hk1)
      obtain ⟨-, ⟨e', q3⟩, -⟩ := hA1 k _ q2
      rw [q1] at q3
      rw [hws', List.map_append, List.getElem?_append_left (by rw [List.length_map, hAl]; exact hk1), List.getElem?_map, q2]
      show some wsA[k].1 = some r
      have q3 := congrArg Prod.fst (Option.some.inj q3)
      exact congrArg some q3.symm
    have hdr : ∀ (i : Nat) (q : Nat × va_E), pi.length ≤ i → ws1[i]? = some q → ws'[ws.length + (i - pi.length)]? = some q := by
      intro i q hi hq
      rw [hws', List.getElem?_append_right (by omega), hAl, List.getElem?_drop, show pi.length + (ws.length + (i - pi.length) - ws.length) = i by omega]
      exact hq
    have hNm : rx_Nm th1 pi1 xi b b0 (ws'.map Prod.fst) (ws1.map Prod.fst) g' g1 := by
      refine ⟨hT1, fun i j r hij hr => ?_, fun u hu => by rw [hb0]; exact rx_b0_lo hu, fun u hu hx => ?_, fun u v hu hx => ?_⟩
      · obtain ⟨e, q1⟩ := rx_fst_at hr
        by_cases hi : i < pi.length
        · rw [hpi1, List.getElem?_append_left hi] at hij
          obtain ⟨j', a, e', e1, r1, r2, r3⟩ := hn1 i hi
          rw [hij] at r1
          cases r1
          rw [q1] at r3
          cases r3
          exact has j _ (by rw [List.getElem?_map, r2]; rfl)
        · have hi1 : i < ws1.length := (List.getElem?_eq_some_iff.mp q1).1
          rw [hpi1, List.getElem?_append_right (by omega), rx_fp, List.getElem?_map, List.getElem?_range (by omega)] at hij
          have hij : h.length + (i - pi.length) = j := Option.some.inj hij
          rw [List.getElem?_map, ← hij, n5, hdr i _ (by omega) q1]
          rfl
      · rw [hb0]
        unfold rx_b0
        dsimp only
        rw [Nat.ble_eq_true_of_le hu, hx]
      · have e1 : b0.1 u = rx_wa b (ws.map Prod.fst) v := by
          rw [hb0]
          unfold rx_b0
          dsimp only
          rw [Nat.ble_eq_true_of_le hu, hx]
        rw [e1]
        have q1 := hxi v (List.mem_of_getElem? hx)
        rcases v with q | q | (_ | r) | k
        · cases q1
        · cases q1
        · rfl
        · have q2 : r < ws.length := by rw [← n5]; exact Nat.le_of_ble_eq_true q1
          have q3 : (ws.map Prod.fst)[r]? = some ws[r].1 := by rw [List.getElem?_map, List.getElem?_eq_getElem q2]; rfl
          refine ⟨ws[r].1, has r _ q3, ?_⟩
          show va_rf ((ws.map Prod.fst)[r]?) = _
          rw [q3]
          rfl
        · rfl
    have hlen' : (h1 ++ h2).length = ws'.length := by
      rw [List.length_append, hl1, hl2, List.length_drop, hws', List.length_append, hAl, List.length_drop, n5, n3]
    have hH' : rx_h b g' tys1 (h1 ++ h2) ws' := by
      refine ⟨hlen', fun i c hi => ?_, by rw [hb2]; exact fun i x hx => by simp at hx⟩
      by_cases hil : i < h1.length
      · rw [List.getElem?_append_left hil] at hi
        have hiw : i < ws.length := by rw [← n5, ← hl1]; exact hil
        have q2 : wsA[i]? = some wsA[i] := List.getElem?_eq_getElem (by rw [hAl]; exact hiw)
        have q3 : ws'[i]? = some wsA[i] := by rw [hws', List.getElem?_append_left (by rw [hAl]; exact hiw)]; exact q2
        obtain ⟨-, -, q4⟩ := hA1 i _ q2
        refine ⟨wsA[i].1, wsA[i].2, q3, ?_⟩
        have c1 := hc1 i c hi
        rw [Nat.zero_add] at c1
        rcases c1 with ⟨p, c0, r1, r2, r3⟩ | ⟨r1, r2⟩
        · have hp : p < pi.length := by
            rcases Nat.lt_or_ge p pi.length with q | q
            · exact q
            · exfalso
              have hp1 := (List.getElem?_eq_some_iff.mp r1).1
              rw [hpi1, List.length_append, rx_fp, List.length_map, List.length_range] at hp1
              rw [hpi1, List.getElem?_append_right q, rx_fp, List.getElem?_map, List.getElem?_range (by omega)] at r1
              have r1 : h.length + (p - pi.length) = i := Option.some.inj r1
              omega
          rw [hpi1, List.getElem?_append_left hp] at r1
          rcases q4 with ⟨i', s1, s2⟩ | ⟨s1, -⟩
          · have := rx_ndp_ok k4 p i' i r1 s1
            subst this
            obtain ⟨a, e, t1, t2⟩ := hH1.2.1 p c0 r2
            rw [s2] at t1
            rw [Option.some.inj t1]
            exact r3 hNm t2
          · exact absurd r1 (s1 p)
        · rcases q4 with ⟨i', s1, s2⟩ | ⟨s1, s2⟩
          · refine absurd ?_ (r1 i')
            rw [hpi1, List.getElem?_append_left (List.getElem?_eq_some_iff.mp s1).1]
            exact s1
          · obtain ⟨a, e, t1, t2⟩ := hH.2.1 i c r2
            rw [s2] at t1
            rw [Option.some.inj t1]
            exact t2.mono has hgl le3
      · have hil2 : h1.length ≤ i := by omega
        rw [List.getElem?_append_right hil2] at hi
        have hi2 := (List.getElem?_eq_some_iff.mp hi).1
        rw [hl2, List.length_drop] at hi2
        have q5 : pi.length + (i - h1.length) < o.2.1.length := by omega
        obtain ⟨c', r1, r2⟩ := hc2 (i - h1.length) (o.2.1[pi.length + (i - h1.length)]) (by rw [List.getElem?_drop]; exact List.getElem?_eq_getElem q5)
        rw [hi] at r1
        cases r1
        obtain ⟨a, e, t1, t2⟩ := hH1.2.1 _ _ (List.getElem?_eq_getElem q5)
        refine ⟨a, e, ?_, r2 hNm t2⟩
        have q6 := hdr _ _ (by omega) t1
        rw [show ws.length + (pi.length + (i - h1.length) - pi.length) = i by omega] at q6
        exact q6
    have hst' : rx_vs b (ws'.map Prod.fst) g' st' v.toList := by
      refine rx_vs_map hv1 hl3 fun i u hu => ?_
      obtain ⟨u', q1, q2⟩ := hc3 i u hu
      exact ⟨u', q1, fun w hw => q2 hNm hw⟩
    -- the world
    have hlt : ∀ (k : Nat) (q : Nat × va_E), ws[k]? = some q → q.1 < sz := by
      intro k q hq
      rw [← p2]
      exact (p3 k q hq).lt
    have hkeep : ∀ (k : Nat) (q : Nat × va_E), (∀ i : Nat, pi[i]? ≠ some k) → ws[k]? = some q → ¬ va_A ws0 sz q.1 := by
      intro k q hno hq hA9
      rcases hA9 with ⟨i, e, hi⟩ | hi
      · obtain ⟨j, r1, r2⟩ := hw1 i _ hi
        have := p5.1 j k _ _ r2 hq rfl
        subst this
        exact hno i r1
      · have := hlt k q hq
        omega
    have hP' : va_P D vwCl ws' t.heap := by
      intro k q hq
      by_cases hkl : k < wsA.length
      · rw [hws', List.getElem?_append_left hkl] at hq
        obtain ⟨hk1, -, q4⟩ := hA1 k q hq
        rcases q4 with ⟨i, s1, s2⟩ | ⟨s1, s2⟩
        · exact hP1 i q s2
        · exact (p3 k q s2).kept (hF.2 q.1 (by rw [p2]; exact hlt k q s2) (hkeep k q s1 s2))
      · rw [hws', List.getElem?_append_right (by omega), List.getElem?_drop] at hq
        exact hP1 _ q hq
    have hnew : ∀ (i : Nat) (q : Nat × va_E), pi.length ≤ i → ws1[i]? = some q → sz ≤ q.1 := by
      intro i q hi hq
      rcases hD1.2 i q hq with ⟨k, e, hk⟩ | hk
      · exfalso
        have hkl : k < pi.length := by rw [← hw0l]; exact (List.getElem?_eq_some_iff.mp hk).1
        obtain ⟨j, a, e', e1, r1, r2, r3⟩ := hn1 k hkl
        rw [hw0 k j r1, r2] at hk
        cases hk
        have := hD1.1 i k q _ hq r3 rfl
        omega
      · exact hk
    have hD' : va_D (va_A ws sz) ws' := by
      have inA : ∀ (k : Nat) (q : Nat × va_E), ws'[k]? = some q → (k < ws.length ∧ ∃ e, ws[k]? = some (q.1, e)) ∨ (ws.length ≤ k ∧ ws1[pi.length + (k - ws.length)]? = some q) := by
        intro k q hq
        by_cases hkl : k < wsA.length
        · rw [hws', List.getElem?_append_left hkl] at hq
          obtain ⟨hk1, hk2, -⟩ := hA1 k q hq
          exact Or.inl ⟨hk1, hk2⟩
        · rw [hws', List.getElem?_append_right (by omega), List.getElem?_drop, hAl] at hq
          exact Or.inr ⟨by omega, hq⟩
      refine ⟨fun i j q q' hi hj hqq => ?_, fun k q hq => ?_⟩
      · rcases inA i q hi with ⟨i1, e, i2⟩ | ⟨i1, i2⟩
        · rcases inA j q' hj with ⟨j1, e', j2⟩ | ⟨j1, j2⟩
          · exact p5.1 i j _ _ i2 j2 hqq
          · have := hlt i _ i2
            have := hnew _ q' (by omega) j2
            dsimp only at *
            omega
        · rcases inA j q' hj with ⟨j1, e', j2⟩ | ⟨j1, j2⟩
          · have := hlt j _ j2
            have := hnew _ q (by omega) i2
            dsimp only at *
            omega
          · have := hD1.1 _ _ _ _ i2 j2 hqq
            omega
      · rcases inA k q hq with ⟨i1, e, i2⟩ | ⟨i1, i2⟩
        · exact Or.inl ⟨k, e, i2⟩
        · exact Or.inr (hnew _ q (by omega) i2)
    refine ⟨⟨_, hLs _ (by rw [← hLo]; exact List.mem_map.mpr ⟨s, hs1, rfl⟩), g', tys1, ws', v, hoc, ⟨hgl, has, le3⟩, ?_, ?_, ?_, hK1, hP', hD'⟩, hF.1, fun q q1 q2 => hF.2 q q1 (fun q3 => q2 (hsub q q3))⟩
    · rw [rx_apR_eq]
      exact hG'
    · rw [rx_apR_eq]
      exact hH'
    · rw [rx_apR_eq]
      exact hst'
end RXI
