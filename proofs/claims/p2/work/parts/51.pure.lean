/-! ===== all values of a box ===== -/
noncomputable def rx_ints (a b : Int) : List Int := (List.range (b - a + 1).toNat).map (fun k => a + Int.ofNat k)
theorem rx_ints_ok {a b z : Int} (h1 : a ≤ z) (h2 : z ≤ b) : z ∈ rx_ints a b := by
  refine List.mem_map.mpr ⟨(z - a).toNat, List.mem_range.mpr (by omega), ?_⟩
  show a + ((z - a).toNat : Int) = z
  omega
noncomputable def rx_box : List (Int × Int) → List (List Int)
  | [] => [[]]
  | q :: l => (rx_ints q.1 q.2).flatMap (fun z => (rx_box l).map (fun t => z :: t))
theorem rx_box_ok : ∀ {l : List (Int × Int)} {g : List Int}, rx_g1 l g → g ∈ rx_box l
  | [], [], _ => List.mem_singleton.mpr rfl
  | [], _ :: _, h => by have := h.1; simp at this
  | _ :: _, [], h => by have := h.1; simp at this
  | q :: l, z :: g, h => by
    have h0 := h.2 0 z q rfl rfl
    refine List.mem_flatMap.mpr ⟨z, rx_ints_ok h0.1 h0.2, List.mem_map.mpr ⟨g, rx_box_ok ⟨?_, fun k y r hy hr => h.2 (k + 1) y r (by rw [List.getElem?_cons_succ]; exact hy) (by rw [List.getElem?_cons_succ]; exact hr)⟩, rfl⟩⟩
    have := h.1
    simp only [List.length_cons] at this
    omega
noncomputable def rx_outs (O : rx_T) (F : List Int → Prop) : List rx_T := ((rx_box O.1.1).filter (fun g => @decide (F g ∧ rx_g O.1 g) (Classical.propDecidable _))).map (fun g => ((g.map (fun z => (z, z)), []), O.2))
theorem rx_exact {g : List Int} : rx_g (g.map (fun z => (z, z)), []) g := by
  refine ⟨⟨(List.length_map _).symm, fun k z q hz hq => ?_⟩, fun f hf => by cases hf⟩
  rw [List.getElem?_map, hz] at hq
  cases hq
  exact ⟨Int.le_refl _, Int.le_refl _⟩
theorem rx_exact_eq {g g' : List Int} (h : rx_g (g.map (fun z => (z, z)), []) g') : g' = g := by
  have hl : g'.length = g.length := by rw [h.1.1, List.length_map]
  apply List.ext_getElem hl
  intro k h1 h2
  have := h.1.2 k g'[k] (g[k], g[k]) (List.getElem?_eq_getElem h1) (by rw [List.getElem?_map, List.getElem?_eq_getElem h2]; rfl)
  dsimp only at this
  omega
theorem rx_outs_in {O : rx_T} {F : List Int → Prop} {g : List Int} (h : rx_g O.1 g) (hF : F g) : ((g.map (fun z => (z, z)), []), O.2) ∈ rx_outs O F :=
  List.mem_map.mpr ⟨g, List.mem_filter.mpr ⟨rx_box_ok h.1, @decide_eq_true _ (Classical.propDecidable _) ⟨hF, h⟩⟩, rfl⟩
theorem rx_outs_of {O : rx_T} {F : List Int → Prop} {o : rx_T} (h : o ∈ rx_outs O F) : ∃ g, o = ((g.map (fun z => (z, z)), []), O.2) ∧ F g ∧ rx_g O.1 g := by
  obtain ⟨g, h1, h2⟩ := List.mem_map.mp h
  have h3 := @of_decide_eq_true _ (Classical.propDecidable _) (List.mem_filter.mp h1).2
  exact ⟨g, h2.symm, h3.1, h3.2⟩
/-! ===== a bit of a number ===== -/
noncomputable def rx_hv (z k : Int) : Int := ((Int32.ofInt z >>> (Int32.ofInt k &&& 31)) &&& Int32.ofInt 1).toInt
noncomputable def rx_hb (z k : Int) : Bool := decide (rx_hv z k = 1)
noncomputable def rx_hO (sy : rx_Y) (h : List rx_C) (r : Int) : rx_T := (sy, h, (0, 0), 0, [], [.inl (0, r)])
noncomputable def rx_hK (mi : Nat) (sy : rx_Y) (h : List rx_C) (ko kl : Nat) : rx_KE := ((mi, 2), ([], [], []), (sy, h, [.inl (ko + 1, 0), .inl (kl + 1, 0)]), rx_outs (rx_hO sy h 1) (fun g => rx_hb (g.getD ko 0) (g.getD kl 0) = true) ++ rx_outs (rx_hO sy h 0) (fun g => rx_hb (g.getD ko 0) (g.getD kl 0) = false))
noncomputable def rx_hl (ko kl : Nat) : rx_L := rx_args 0 [.inl (ko + 1, 0), .inl (kl + 1, 0)]
noncomputable def rx_hs (sy : rx_Y) : rx_Y := (sy.1 ++ [(-2147483648, 2147483647)], sy.2)
noncomputable def rx_h5 (sy : rx_Y) (h : List rx_C) (ko kl : Nat) : rx_T := (rx_hs (rx_hs sy), h, (0, 0), 5, rx_hl ko kl, [.inl ((rx_hs sy).1.length + 1, 0)])
noncomputable def rx_hchk (mi : Nat) (M0 : rx_Md) (sy : rx_Y) (h : List rx_C) (ko kl : Nat) : Bool :=
  (rx_leg [] 2 (rx_flag [] M0) h.length sy.1.length sy.1.length [2] 50 (rx_ent (rx_hK mi sy h ko kl) ([], 0)).1 [((sy, h, (0, 0), 2, rx_hl ko kl, [.inl (kl + 1, 0), .inl (ko + 1, 0)]), [], some [], [])] &&
  rx_leg [] 2 (rx_flag [] M0) h.length sy.1.length sy.1.length [4] 50 (rx_hs sy, h, (0, 0), 3, rx_hl ko kl, [.inl (sy.1.length + 1, 0)]) [((rx_hs sy, h, (0, 0), 4, rx_hl ko kl, [.inl (0, 1), .inl (sy.1.length + 1, 0)]), [(0, 1001)], some [], [])]) &&
  (rx_leg [] 2 (rx_flag [] M0) h.length sy.1.length sy.1.length [] 50 (rx_nar (rx_h5 sy h ko kl) [(sy.1.length + 1, 1, 1)]) [(rx_hO sy h 1, [], some [], [])] &&
  (rx_leg [] 2 (rx_flag [] M0) h.length sy.1.length sy.1.length [] 50 (rx_nar (rx_h5 sy h ko kl) [(sy.1.length + 1, -2147483648, 0)]) [(rx_hO sy h 0, [], some [], [])] &&
  rx_leg [] 2 (rx_flag [] M0) h.length sy.1.length sy.1.length [] 50 (rx_nar (rx_h5 sy h ko kl) [(sy.1.length + 1, 2, 2147483647)]) [(rx_hO sy h 0, [], some [], [])]))
theorem rx_sn1 (g : List Int) (z : Int) : (g ++ [z]).getD g.length 0 = z := by
  rw [List.getD_eq_getElem?_getD, rx_snocg]
  rfl
theorem rx_hasP {mi : Nat} {M0 : rx_Md} {sy : rx_Y} {h : List rx_C} {ko kl : Nat} {i2 i4 : rx_E} (hM : rx_MT[mi]? = some M0) (hcats : Nat.ble 2 M0.2.2.1 = true) (hf2 : rx_fe (rx_flag [] M0).2.2.2.2.2.2.2.2 2 = some i2) (h2 : i2.2.1 = .ishr) (hf4 : rx_fe (rx_flag [] M0).2.2.2.2.2.2.2.2 4 = some i4) (h4 : i4.2.1 = .iand) (hko : ko < sy.1.length) (hkl : kl < sy.1.length) (hc : rx_hchk mi M0 sy h ko kl = true) : rx_OK (rx_hK mi sy h ko kl) := by
  refine rx_okP (KT := []) (fl := []) rx_oknil hM hcats fun GG R g hg => ?_
  unfold rx_hchk at hc
  simp only [Bool.and_eq_true] at hc
  obtain ⟨⟨c1, c2⟩, c3, c4, c5⟩ := hc
  have hgl : g.length = sy.1.length := hg.1.1
  refine rx_leg_ok R c1 hg fun t ht g2 hg2 hE => ?_
  cases List.mem_singleton.mp ht
  refine ⟨fun _ => ?_, fun q => by cases q⟩
  have e : g2 = g := rx_EP_id hE (by rw [hgl]; exact hg2.1.1)
  subst e
  refine R.2.2.2.2.2.2.1 _ g2 i2 (kl + 1, 0) (ko + 1, 0) [] (fun (x y : Int32) => x >>> (y &&& 31)) hf2 (Or.inl ⟨h2, rfl⟩) rfl fun xv yv hx hy => ?_
  have hg3 : rx_g (rx_hs sy) (g2 ++ [(xv >>> (yv &&& 31)).toInt]) := rx_g.push hg (by have := fb_rng (xv >>> (yv &&& 31)); dsimp only; omega) (by have := fb_rng (xv >>> (yv &&& 31)); dsimp only; omega)
  refine rx_leg_ok R c2 hg3 fun t ht g4 hg4 hE => ?_
  cases List.mem_singleton.mp ht
  refine ⟨fun _ => ?_, fun q => by cases q⟩
  have e : g4 = g2 ++ [(xv >>> (yv &&& 31)).toInt] := rx_EP_id hE (by rw [hg3.1.1]; exact hg4.1.1)
  subst e
  have hv1 : (g2 ++ [(xv >>> (yv &&& 31)).toInt]).length = sy.1.length + 1 := by rw [List.length_append, hgl]; rfl
  refine R.2.2.2.2.2.2.1 _ _ i4 (0, 1) (sy.1.length + 1, 0) [] (fun (x y : Int32) => x &&& y) hf4 (Or.inr ⟨h4, rfl⟩) rfl fun wv uv hw hu => ?_
  have ew : wv = xv >>> (yv &&& 31) := by
    obtain ⟨y0, h5, h6⟩ := hw
    rw [← hgl, rx_snocg] at h5
    cases h5
    apply Int32.toInt_inj.1
    omega
  have eu : uv = Int32.ofInt 1 := by
    have hu : uv.toInt = 1 := hu
    apply Int32.toInt_inj.1
    rw [hu]
    rfl
  have ex : xv = Int32.ofInt (g2.getD ko 0) := by
    have := rx_vl_ev hx
    rw [← fb_asI xv, ← this]
    show Int32.ofInt (g2.getD ko 0 + 0) = _
    rw [Int.add_zero]
  have ey : yv = Int32.ofInt (g2.getD kl 0) := by
    have := rx_vl_ev hy
    rw [← fb_asI yv, ← this]
    show Int32.ofInt (g2.getD kl 0 + 0) = _
    rw [Int.add_zero]
  have hval : (wv &&& uv).toInt = rx_hv (g2.getD ko 0) (g2.getD kl 0) := by
    unfold rx_hv
    rw [ew, eu, ex, ey]
  dsimp only
  rw [hval]
  generalize hG5 : (g2 ++ [(xv >>> (yv &&& 31)).toInt]) ++ [rx_hv (g2.getD ko 0) (g2.getD kl 0)] = g5
  have hg5 : rx_g (rx_h5 sy h ko kl).1 g5 := by
    rw [← hG5, ← hval]
    exact rx_g.push hg3 (by have := fb_rng (wv &&& uv); dsimp only; omega) (by have := fb_rng (wv &&& uv); dsimp only; omega)
  have hle : rx_le g2 g5 := by rw [← hG5, List.append_assoc]; exact rx_le.app _
  have hlast : g5.getD (sy.1.length + 1) 0 = rx_hv (g2.getD ko 0) (g2.getD kl 0) := by
    rw [← hG5, ← hv1]
    exact rx_sn1 _ _
  have hrng : -2147483648 ≤ rx_hv (g2.getD ko 0) (g2.getD kl 0) ∧ rx_hv (g2.getD ko 0) (g2.getD kl 0) ≤ 2147483647 := by
    rw [← hval]
    have := fb_rng (wv &&& uv)
    omega
  have same : ∀ {r : Int} {g6 : List Int}, rx_g (rx_hO sy h r).1 g6 → rx_EP g5 g6 (some []) [] → g6 = g2 := by
    intro r g6 h6 hE6
    have hl6 : g6.length = g2.length := by rw [hgl]; exact h6.1.1
    apply List.ext_getElem hl6
    intro k k1 k2
    have := hE6.1 k (k + 1, 0) k1 rfl
    rw [rx_getD_at k1] at this
    rw [this]
    show g5.getD k 0 + 0 = g2[k]
    rw [rx_getD_le hle k2, rx_getD_at k2]
    omega
  by_cases hv : rx_hv (g2.getD ko 0) (g2.getD kl 0) = 1
  · have hn := rx_nar_ok [(sy.1.length + 1, 1, 1)] hg5 (fun x hx => by cases List.mem_singleton.mp hx; dsimp only; rw [hlast]; omega)
    refine R.2.1 (rx_h5 sy h ko kl) g5 _ hn ?_
    refine rx_leg_ok R c3 hn fun t ht g6 hg6 hE6 => ?_
    cases List.mem_singleton.mp ht
    refine ⟨(fun q => by cases q), fun _ => ?_⟩
    have e := same hg6 hE6
    subst e
    exact ⟨_, List.mem_append_left _ (rx_outs_in hg6 (by unfold rx_hb; exact decide_eq_true hv)), rx_exact⟩
  · have fin : ∀ g6, rx_g (rx_hO sy h 0).1 g6 → rx_EP g5 g6 (some []) [] → ∃ sy' : rx_Y, (sy', (rx_hO sy h 0).2) ∈ (rx_hK mi sy h ko kl).2.2.2 ∧ rx_g sy' g6 := by
      intro g6 hg6 hE6
      have e := same hg6 hE6
      subst e
      exact ⟨_, List.mem_append_right _ (rx_outs_in hg6 (by unfold rx_hb; exact decide_eq_false hv)), rx_exact⟩
    rcases Int.lt_or_le (rx_hv (g2.getD ko 0) (g2.getD kl 0)) 1 with q | q
    · have hn := rx_nar_ok [(sy.1.length + 1, -2147483648, 0)] hg5 (fun x hx => by cases List.mem_singleton.mp hx; dsimp only; rw [hlast]; omega)
      refine R.2.1 (rx_h5 sy h ko kl) g5 _ hn ?_
      refine rx_leg_ok R c4 hn fun t ht g6 hg6 hE6 => ?_
      cases List.mem_singleton.mp ht
      exact ⟨(fun q => by cases q), fun _ => fin g6 hg6 hE6⟩
    · have hn := rx_nar_ok [(sy.1.length + 1, 2, 2147483647)] hg5 (fun x hx => by cases List.mem_singleton.mp hx; dsimp only; rw [hlast]; omega)
      refine R.2.1 (rx_h5 sy h ko kl) g5 _ hn ?_
      refine rx_leg_ok R c5 hn fun t ht g6 hg6 hE6 => ?_
      cases List.mem_singleton.mp ht
      exact ⟨(fun q => by cases q), fun _ => fin g6 hg6 hE6⟩
/-! ===== how far each room is: what the rounds keep ===== -/
noncomputable def bf_s (f : Nat → Int) : Int := f 0 + f 1 + f 2 + f 3 + f 4 + f 5
noncomputable def bf_u (f : Nat → Int) (i : Nat) (v : Int) : Nat → Int := fun k => if k = i then v else f k
theorem bf_six {i : Nat} (h : i < 6) : i = 0 ∨ i = 1 ∨ i = 2 ∨ i = 3 ∨ i = 4 ∨ i = 5 := by omega
theorem bf_su (f : Nat → Int) {i : Nat} (v : Int) (h : i < 6) : bf_s (bf_u f i v) = bf_s f - f i + v := by
  rcases bf_six h with rfl | rfl | rfl | rfl | rfl | rfl <;> simp [bf_s, bf_u] <;> omega
noncomputable def bf_C (f : Nat → Int) : Prop := ∀ r, r < 6 → (0 ≤ f r ∧ f r ≤ 1000) ∧ (f r ≤ 999 → 990 * f r + bf_s f ≤ 5000)
theorem bf_s0 {f : Nat → Int} (h : bf_C f) : 0 ≤ bf_s f := by
  have h0 := (h 0 (by omega)).1
  have h1 := (h 1 (by omega)).1
  have h2 := (h 2 (by omega)).1
  have h3 := (h 3 (by omega)).1
  have h4 := (h 4 (by omega)).1
  have h5 := (h 5 (by omega)).1
  unfold bf_s
  omega
theorem bf_C5 {f : Nat → Int} (h : bf_C f) {r : Nat} (hr : r < 6) (h9 : f r ≤ 999) : f r ≤ 5 := by
  have h1 := (h r hr).2 h9
  have h2 := bf_s0 h
  omega
theorem bf_Cu {f : Nat → Int} (h : bf_C f) {i j : Nat} (hi : i < 6) (hj : j < 6) (hle : f j + 1 ≤ f i) : bf_C (bf_u f i (f j + 1)) := by
  have hs := bf_su f (f j + 1) hi
  have h1 := h i hi
  have h2 := h j hj
  have h3 := bf_C5 h hj (by omega)
  have h4 := h2.2 (by omega)
  intro r hr
  rw [hs]
  by_cases e : r = i
  · have e1 : bf_u f i (f j + 1) r = f j + 1 := if_pos e
    rw [e1]
    refine ⟨by omega, fun _ => ?_⟩
    rcases Int.lt_or_le (f i) 1000 with q | q
    · have := h1.2 (by omega)
      omega
    · omega
  · have e1 : bf_u f i (f j + 1) r = f r := if_neg e
    rw [e1]
    have h5 := h r hr
    exact ⟨h5.1, fun q => by have := h5.2 q; omega⟩
noncomputable def bf_R (f : Nat → Int) (A B : Nat → Nat) (O : Nat → Bool) (LM t l : Int) : Prop := ∀ k : Nat, (k : Int) < LM → O k = true → (f (A k) < t ∨ ((k : Int) < l ∧ f (A k) < t + 1)) → f (B k) ≤ f (A k) + 1
noncomputable def bf_W (f : Nat → Int) (A B : Nat → Nat) (O : Nat → Bool) (LM : Int) : Prop := ∀ r : Nat, r < 6 → f r ≤ 999 → f r = 0 ∨ ∃ k : Nat, (k : Int) < LM ∧ O k = true ∧ ((A k = r ∧ f (B k) + 1 ≤ f r) ∨ (B k = r ∧ f (A k) + 1 ≤ f r))
noncomputable def bf_I (f : Nat → Int) (A B : Nat → Nat) (O : Nat → Bool) (LM t l : Int) : Prop := bf_C f ∧ bf_W f A B O LM ∧ bf_R f A B O LM t l ∧ bf_R f B A O LM t l
theorem bf_sw {f : Nat → Int} {A B : Nat → Nat} {O : Nat → Bool} {LM t l : Int} (h : bf_I f A B O LM t l) : bf_I f B A O LM t l := by
  refine ⟨h.1, fun r hr h9 => ?_, h.2.2.2, h.2.2.1⟩
  rcases h.2.1 r hr h9 with q | ⟨k, q1, q2, q3⟩
  · exact Or.inl q
  · exact Or.inr ⟨k, q1, q2, q3.symm⟩
theorem bf_skip {f : Nat → Int} {A B : Nat → Nat} {O : Nat → Bool} {LM t : Int} {k0 : Nat} (h : bf_I f A B O LM t k0) (hO : O k0 = true → f (A k0) ≤ f (B k0) + 1 ∧ f (B k0) ≤ f (A k0) + 1) : bf_I f A B O LM t (k0 + 1) := by
  refine ⟨h.1, h.2.1, fun k hk hOk hc => ?_, fun k hk hOk hc => ?_⟩
  · by_cases e : k = k0
    · subst e
      exact (hO hOk).2
    · exact h.2.2.1 k hk hOk (by omega)
  · by_cases e : k = k0
    · subst e
      exact (hO hOk).1
    · exact h.2.2.2 k hk hOk (by omega)
theorem bf_set {f : Nat → Int} {A B : Nat → Nat} {O : Nat → Bool} {LM t : Int} {k0 : Nat} (h : bf_I f A B O LM t k0) (hk0 : (k0 : Int) < LM) (hO : O k0 = true) (hA : A k0 < 6) (hB : B k0 < 6) (hle : f (B k0) + 1 ≤ f (A k0)) : bf_I (bf_u f (A k0) (f (B k0) + 1)) A B O LM t (k0 + 1) := by
  obtain ⟨hC, hW, hR1, hR2⟩ := h
  rcases Int.lt_or_le (f (B k0) + 1) (f (A k0)) with hlt | hge
  · have hjt : t ≤ f (B k0) := by
      rcases Int.lt_or_le (f (B k0)) t with q | q
      · have := hR2 k0 hk0 hO (Or.inl q)
        omega
      · exact q
    have hne : B k0 ≠ A k0 := fun e => by rw [e] at hlt; omega
    have fi : bf_u f (A k0) (f (B k0) + 1) (A k0) = f (B k0) + 1 := if_pos rfl
    have fo : ∀ r, r ≠ A k0 → bf_u f (A k0) (f (B k0) + 1) r = f r := fun r hr => if_neg hr
    have fle : ∀ r, bf_u f (A k0) (f (B k0) + 1) r ≤ f r := fun r => by
      by_cases e : r = A k0
      · rw [e, fi]; omega
      · rw [fo r e]; omega
    have hCu := bf_Cu hC hA hB hle
    generalize bf_u f (A k0) (f (B k0) + 1) = f' at *
    refine ⟨hCu, fun r hr h9 => ?_, fun k hk hOk hc => ?_, fun k hk hOk hc => ?_⟩
    · by_cases e : r = A k0
      · refine Or.inr ⟨k0, hk0, hO, Or.inl ⟨e.symm, ?_⟩⟩
        rw [fo _ hne, e, fi]
        omega
      · rw [fo r e] at h9 ⊢
        rcases hW r hr h9 with q | ⟨k, q1, q2, q3⟩
        · exact Or.inl q
        · refine Or.inr ⟨k, q1, q2, ?_⟩
          rcases q3 with ⟨q4, q5⟩ | ⟨q4, q5⟩
          · exact Or.inl ⟨q4, by have := fle (B k); omega⟩
          · exact Or.inr ⟨q4, by have := fle (A k); omega⟩
    · by_cases e : A k = A k0
      · rw [e, fi] at hc
        omega
      · rw [fo _ e] at hc ⊢
        have e2 : k ≠ k0 := fun q => e (by rw [q])
        have := hR1 k hk hOk (by omega)
        have := fle (B k)
        omega
    · by_cases e : B k = A k0
      · rw [e, fi] at hc
        omega
      · rw [fo _ e] at hc ⊢
        by_cases e2 : k = k0
        · rw [e2, fi]
          omega
        · have := hR2 k hk hOk (by omega)
          have := fle (A k)
          omega
  · have e : bf_u f (A k0) (f (B k0) + 1) = f := by
      funext r
      by_cases e : r = A k0
      · have : bf_u f (A k0) (f (B k0) + 1) r = f (B k0) + 1 := if_pos e
        rw [this, e]
        omega
      · exact if_neg e
    rw [e]
    exact bf_skip ⟨hC, hW, hR1, hR2⟩ (fun _ => by omega)
theorem bf_next {f : Nat → Int} {A B : Nat → Nat} {O : Nat → Bool} {LM t l : Int} (h : bf_I f A B O LM t l) (hl : LM ≤ l) : bf_I f A B O LM (t + 1) 0 := by
  refine ⟨h.1, h.2.1, fun k hk hOk hc => h.2.2.1 k hk hOk ?_, fun k hk hOk hc => h.2.2.2 k hk hOk ?_⟩
  · rcases hc with q | q <;> exact Or.inr (by omega)
  · rcases hc with q | q <;> exact Or.inr (by omega)
/-- from a room on there is a lock that leads nearer -/
noncomputable def bf_F (f : Nat → Int) (A B : Nat → Nat) (O : Nat → Bool) (LM : Int) : Prop := ∀ r : Nat, r < 6 → 0 < f r → f r ≤ 999 → ∃ k : Nat, (k : Int) < LM ∧ O k = true ∧ ((A k = r ∧ f (B k) = f r - 1) ∨ (A k ≠ r ∧ B k = r ∧ f (A k) = f r - 1))
theorem bf_end {f : Nat → Int} {A B : Nat → Nat} {O : Nat → Bool} {LM t l : Int} (h : bf_I f A B O LM t l) (hl : LM ≤ l) (ht : 5 ≤ t) : bf_F f A B O LM := by
  intro r hr h0 h9
  have h5 := bf_C5 h.1 hr h9
  rcases h.2.1 r hr h9 with q | ⟨k, q1, q2, q3⟩
  · omega
  · refine ⟨k, q1, q2, ?_⟩
    rcases q3 with ⟨q4, q5⟩ | ⟨q4, q5⟩
    · have := h.2.2.2 k q1 q2 (Or.inr (by omega))
      rw [q4] at this
      exact Or.inl ⟨q4, by omega⟩
    · have := h.2.2.1 k q1 q2 (Or.inr (by omega))
      rw [q4] at this
      refine Or.inr ⟨fun e => ?_, q4, by omega⟩
      rw [e] at q5
      omega
theorem bf_init {f : Nat → Int} {A B : Nat → Nat} {O : Nat → Bool} {LM : Int} {to : Nat} (hto : to < 6) (hf : ∀ r, r < 6 → f r = if r = to then 0 else 1000) (hA : ∀ k, A k < 6) (hB : ∀ k, B k < 6) : bf_I f A B O LM 0 0 := by
  have hr : ∀ r, r < 6 → (0 ≤ f r ∧ f r ≤ 1000) := fun r h => by
    rw [hf r h]
    split <;> omega
  have hs : bf_s f = 5000 := by
    unfold bf_s
    rw [hf 0 (by omega), hf 1 (by omega), hf 2 (by omega), hf 3 (by omega), hf 4 (by omega), hf 5 (by omega)]
    rcases bf_six hto with rfl | rfl | rfl | rfl | rfl | rfl <;> decide
  refine ⟨fun r h => ⟨hr r h, fun h9 => ?_⟩, fun r h h9 => ?_, fun k hk hOk hc => ?_, fun k hk hOk hc => ?_⟩
  · rw [hf r h] at h9 ⊢
    split at h9
    · rw [if_pos ‹_›, hs]; omega
    · omega
  · rw [hf r h] at h9 ⊢
    split at h9
    · exact Or.inl (if_pos ‹_›)
    · omega
  · have := hr _ (hA k)
    omega
  · have := hr _ (hB k)
    omega
