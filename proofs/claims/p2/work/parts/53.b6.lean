theorem wy_all {f : Nat → Nat → Nat → Bool} (h : (List.range 6).all (fun r => (List.range 6).all (fun i => (List.range 6).all (fun j => f r i j))) = true) {r i j : Nat} (hr : r < 6) (hi : i < 6) (hj : j < 6) : f r i j = true :=
  List.all_eq_true.mp (List.all_eq_true.mp (List.all_eq_true.mp h r (List.mem_range.mpr hr)) i (List.mem_range.mpr hi)) j (List.mem_range.mpr hj)
theorem wy_all5 {f : Nat → Nat → Nat → Bool} (h : (List.range 6).all (fun r => (List.range 6).all (fun i => (List.range 5).all (fun j => f r i j))) = true) {r i j : Nat} (hr : r < 6) (hi : i < 6) (hj : j < 5) : f r i j = true :=
  List.all_eq_true.mp (List.all_eq_true.mp (List.all_eq_true.mp h r (List.mem_range.mpr hr)) i (List.mem_range.mpr hi)) j (List.mem_range.mpr hj)
theorem wy_l4 {k r i j : Nat} (hk : k < 6) (hr : r < 6) (hi : i < 6) (hj : j < 6) : wy_g4 k r i j = true := by
  rcases bf_six hk with rfl | rfl | rfl | rfl | rfl | rfl
  · exact wy_all wy_l4_0 hr hi hj
  · exact wy_all wy_l4_1 hr hi hj
  · exact wy_all wy_l4_2 hr hi hj
  · exact wy_all wy_l4_3 hr hi hj
  · exact wy_all wy_l4_4 hr hi hj
  · exact wy_all wy_l4_5 hr hi hj
theorem wy_l7 {k r i j : Nat} (hk : k < 6) (hr : r < 6) (hi : i < 6) (hj : j < 6) : wy_g7 k r i j = true := by
  rcases bf_six hk with rfl | rfl | rfl | rfl | rfl | rfl
  · exact wy_all wy_l7_0 hr hi hj
  · exact wy_all wy_l7_1 hr hi hj
  · exact wy_all wy_l7_2 hr hi hj
  · exact wy_all wy_l7_3 hr hi hj
  · exact wy_all wy_l7_4 hr hi hj
  · exact wy_all wy_l7_5 hr hi hj
/-- at the head of the search for a lock -/
noncomputable def wy_I (g : List Int) : Prop := ly_P g ∧ ly_f 179 g (g.getD 185 0).toNat = g.getD 188 0 - g.getD 186 0 ∧ g.getD 186 0 < g.getD 188 0 ∧ ∀ k : Nat, (k : Int) < g.getD 187 0 → ¬ bf_c (ly_f 179 g) (ly_a 7 g) (ly_a 13 g) (ly_o 178 g) k (g.getD 185 0).toNat
theorem wy_out {g : List Int} (h : rx_g wy_O.1 g) : ∃ sy' : rx_Y, (sy', wy_O.2) ∈ rc_way_k.2.2.2 ∧ rx_g sy' g := ⟨wy_O.1, List.mem_singleton.mpr rfl, h⟩
theorem wy_vw {g g2 : List Int} {spec : List (Nat × Option rx_I)} {pos : List (List (Int × Nat) × Int)} (h : rx_EP g g2 (some spec) pos) (hl : 185 ≤ g2.length) (hs : ∀ q ∈ spec, 185 ≤ q.1) : (ly_P g → ly_P g2) ∧ ly_f 179 g2 = ly_f 179 g ∧ ly_a 7 g2 = ly_a 7 g ∧ ly_a 13 g2 = ly_a 13 g ∧ ly_o 178 g2 = ly_o 178 g := by
  have h0 : ∀ k, k < 185 → g2.getD k 0 = g.getD k 0 := fun k hk => rx_sam h (by omega) (rx_look2_lo hs hk)
  obtain ⟨v1, v2, v3, v4⟩ := ly_vw (g := g) (g2 := g2) (fun k hk => h0 k (by omega))
  have ef : ly_f 179 g2 = ly_f 179 g := ly_fe fun r hr => h0 _ (by omega)
  refine ⟨fun hP => ?_, ef, v1, v2, v3⟩
  unfold ly_P at hP ⊢
  rw [ef, v1, v2, v3, v4]
  exact hP
theorem rc_way_ok : rx_OK rc_way_k := by
  have hJ : rx_OK (rx_hK 170 wy_V93.1 wy_hV 178 187) := rx_hasP rfl rfl rfl rfl rfl rfl (by rw [wy_lV93]; omega) (by rw [wy_lV93]; omega) wy_h93
  refine rx_okP (KT := wy_KT) (fl := []) wy_KTok rfl rfl fun GG R g0 hg0 => ?_
  have loop : ∀ (n : Nat) (g : List Int), rx_g wy_V.1 g → wy_I g → ((6 - g.getD 186 0) * 8 + (7 - g.getD 187 0)).toNat < n → GG wy_V g := by
    intro n
    induction n with
    | zero => exact fun g _ _ h => absurd h (Nat.not_lt_zero _)
    | succ n ih =>
      intro g hg hI hn
      have bR := rx_gb hg (k := 185) (lo := 0) (hi := 5) rfl
      have bK := rx_gb hg (k := 186) (lo := 0) (hi := 4) rfl
      have bL := rx_gb hg (k := 187) (lo := 0) (hi := 6) rfl
      have bG := rx_gb hg (k := 188) (lo := 1) (hi := 5) rfl
      have bM := rx_gb hg (k := 1) (lo := 0) (hi := 6) rfl
      obtain ⟨hP, hf, hkg, hno⟩ := hI
      obtain ⟨r, hr⟩ : ∃ r : Nat, (r : Int) = g.getD 185 0 := ⟨(g.getD 185 0).toNat, by omega⟩
      have hr6 : r < 6 := by omega
      have ern : (g.getD 185 0).toNat = r := by omega
      rw [ern] at hf hno
      -- there is a lock, not yet met
      have hl5 : g.getD 187 0 ≤ 5 := by
        obtain ⟨k, k1, k2, k3⟩ := hP.2 r hr6 (by omega) (by omega)
        rcases Int.lt_or_le (k : Int) (g.getD 187 0) with q | q
        · exact absurd ⟨k2, k3⟩ (hno k q)
        · omega
      have hn2 := rx_nar_ok (T := wy_V) [(187, 0, 5)] hg (fun x hx => by cases List.mem_singleton.mp hx; dsimp only; omega)
      refine R.2.1 wy_V g _ hn2 ?_
      refine rx_leg2_ok R wy_l2 hn2 fun t ht g2 hg2 hE => ?_
      unfold wy_t2 at ht
      cases List.mem_singleton.mp ht
      refine ⟨fun _ => ?_, fun q => absurd (show (93 : Nat) = 0 from q) (by decide)⟩
      have hlg : g.length = 189 := by rw [hg.1.1]; exact wy_lV
      have hlg2 : g2.length = 189 := by rw [hg2.1.1]; exact wy_lV93
      have e : g2 = g := rx_EP_id hE (by omega)
      subst e
      have next : ∀ (A : rx_T), rx_g A.1 g2 → wy_lg [89] A wy_tn = true → ¬ bf_c (ly_f 179 g2) (ly_a 7 g2) (ly_a 13 g2) (ly_o 178 g2) (g2.getD 187 0).toNat r → GG A g2 := by
        intro A hA hleg hnc
        refine rx_leg2_ok R hleg hA fun t ht g4 hg4 hE4 => ?_
        unfold wy_tn at ht
        cases List.mem_singleton.mp ht
        refine ⟨fun _ => ?_, fun q => absurd (show (89 : Nat) = 0 from q) (by decide)⟩
        have hl4 : g4.length = 189 := by rw [hg4.1.1]; exact wy_lV
        obtain ⟨w1, w2, w3, w4, w5⟩ := wy_vw hE4 (by omega) (by decide)
        have eR := rx_sam hE4 (k := 185) (by omega) rfl
        have eK := rx_sam hE4 (k := 186) (by omega) rfl
        have eG := rx_sam hE4 (k := 188) (by omega) rfl
        have eL := rx_ref hE4 (k := 187) (j := 187) (c := 1) (by omega) rfl
        refine ih g4 hg4 ⟨w1 hP, ?_, ?_, ?_⟩ (by omega)
        · rw [w2, eR, eG, eK, ern]
          exact hf
        · omega
        · rw [w2, w3, w4, w5, eR, eL, ern]
          intro k hk
          by_cases q : (k : Int) < g2.getD 187 0
          · exact hno k q
          · have e3 : k = (g2.getD 187 0).toNat := by omega
            rw [e3]
            exact hnc
      refine R.2.2.2.2.2.2.2.2 wy_V93 g2 _ _ _ [] hJ (by decide) rfl rfl rfl rfl rfl (by decide) (by decide) fun o ho g' hle hgo => ?_
      have hnext : ∀ (bt : Int) (F : List Int → Prop), o ∈ rx_outs (rx_hO wy_V93.1 wy_hV bt) F → (F g2 → GG (wy_V96 bt) g2) → GG (rx_back wy_V93 (93, .invokestatic 257, 3, 170, 2, 0, 0) [] 0 0 o) g' := by
        intro bt F hF kk
        obtain ⟨g3, e3, hF3, hg3⟩ := rx_outs_of hF
        subst e3
        have e4 := rx_exact_eq hgo
        subst e4
        have e5 : g' = g2 := rx_le_eq hle (by rw [hg3.1.1, hg2.1.1]; rfl)
        subst e5
        exact R.2.1 _ g' wy_V93.1 hg3 (kk hF3)
      obtain ⟨k, hk⟩ : ∃ k : Nat, (k : Int) = g2.getD 187 0 := ⟨(g2.getD 187 0).toNat, by omega⟩
      have ekn : (g2.getD 187 0).toNat = k := by omega
      rw [ekn] at next
      rcases List.mem_append.mp ho with ho | ho
      · refine hnext 1 _ ho fun hb => ?_
        have hk6 : k < 6 := by omega
        obtain ⟨ba, la⟩ := ly_ab hg2 7 (fun k hk => by rcases bf_six hk with rfl | rfl | rfl | rfl | rfl | rfl <;> rfl)
        obtain ⟨bb, lb⟩ := ly_ab hg2 13 (fun k hk => by rcases bf_six hk with rfl | rfl | rfl | rfl | rfl | rfl <;> rfl)
        have ea := ly_ar (n := 7) hk6 (ba k hk6).1
        have eb := ly_ar (n := 13) hk6 (bb k hk6).1
        have hbk : ly_o 178 g2 k = true := by
          unfold ly_o
          rw [hk]
          exact hb
        have hi := la k
        have hj := lb k
        have hnar : ∀ T : rx_T, rx_g T.1 g2 → rx_g (wy_n4 T k r (ly_a 7 g2 k) (ly_a 13 g2 k)).1 g2 := fun T hT => rx_nar_ok (T := T) _ hT (fun x hx => by
          simp only [List.mem_cons, List.not_mem_nil, or_false] at hx
          rcases hx with rfl | rfl | rfl | rfl <;> dsimp only <;> omega)
        have hleg := wy_l4 hk6 hr6 hi hj
        unfold wy_g4 at hleg
        refine R.2.1 (wy_V96 1) g2 _ (hnar _ hg2) ?_
        -- the lock's other room
        have other : ∀ oo : Nat, oo < 6 → (ly_a 7 g2 k = r ∧ ly_a 13 g2 k = oo) ∨ (ly_a 7 g2 k ≠ r ∧ ly_a 13 g2 k = r ∧ ly_a 7 g2 k = oo) → GG (wy_V133 r oo) g2 := by
          intro oo hoo hor
          have hc : bf_c (ly_f 179 g2) (ly_a 7 g2) (ly_a 13 g2) (ly_o 178 g2) k r ↔ ly_f 179 g2 oo = ly_f 179 g2 r - 1 := by
            unfold bf_c
            rcases hor with ⟨q1, q2⟩ | ⟨q1, q2, q3⟩
            · rw [q2]
              exact ⟨fun h => by rcases h.2 with h | h; exact h.2; exact absurd q1 h.1, fun h => ⟨hbk, Or.inl ⟨q1, h⟩⟩⟩
            · rw [q3]
              rw [q3] at q1
              exact ⟨fun h => by rcases h.2 with h | h; exact absurd h.1 q1; exact h.2.2, fun h => ⟨hbk, Or.inr ⟨q1, q2, h⟩⟩⟩
          have fr := ly_fr (n := 179) (g := g2) hr6
          have fo := ly_fr (n := 179) (g := g2) hoo
          have b0 := (hP.1 oo hoo).1
          by_cases hq : ly_f 179 g2 oo = ly_f 179 g2 r - 1
          · -- it leads nearer
            refine R.2.2.2.2.2.2.2.1 (wy_V133 r oo) g2 [.inl (179 + r + 1, -1), .inl (179 + r + 1, -1)] (fun b as st hst => ?_) ?_
            · obtain ⟨v1, w1, rfl, h1, hst1⟩ := rx_vs_cons hst
              obtain ⟨v2, w2, rfl, ⟨y, rfl, hy⟩, hst2⟩ := rx_vs_cons hst1
              refine ⟨h1, ⟨y, rfl, ?_⟩, hst2⟩
              have ey := rx_vl_ev hy
              have hlt : 179 + r < g2.length := by omega
              refine ⟨g2[179 + r], List.getElem?_eq_getElem hlt, ?_⟩
              rw [← rx_getD_at hlt]
              have ey : g2.getD (179 + oo) 0 + 0 = y.toInt := ey
              omega
            · have hleg7 := wy_l7 hk6 hr6 hi hj
              unfold wy_g7 at hleg7
              have hoj : ly_a 7 g2 k = r ∨ ly_a 13 g2 k = r := by
                rcases hor with ⟨q1, q2⟩ | ⟨q1, q2, q3⟩
                · exact Or.inl q1
                · exact Or.inr q2
              rw [if_pos hoj] at hleg7
              refine R.2.1 (wy_V1m r) g2 _ (hnar _ hg2) ?_
              refine rx_leg2_ok R hleg7 (hnar (wy_V1m r) hg2) fun t ht g4 hg4 hE4 => ?_
              unfold wy_t7 at ht
              simp only [List.mem_cons, List.not_mem_nil, or_false] at ht
              rcases ht with rfl | rfl
              · refine ⟨fun _ => ?_, fun q => absurd (show (89 : Nat) = 0 from q) (by decide)⟩
                have hl4 : g4.length = 189 := by rw [hg4.1.1]; exact wy_lV
                obtain ⟨w1, w2, w3, w4, w5⟩ := wy_vw hE4 (by omega) (fun q hq => by
                  simp only [List.mem_cons, List.not_mem_nil, or_false] at hq
                  rcases hq with rfl | rfl | rfl <;> dsimp only <;> omega)
                have eL := rx_con hE4 (k := 187) (c := 0) (by omega) rfl
                have eG := rx_sam hE4 (k := 188) (by omega) rfl
                have eK := rx_ref hE4 (k := 186) (j := 186) (c := 1) (by omega) rfl
                have p1 := hE4.2 _ List.mem_cons_self
                simp only [rx_sm] at p1
                have eR : g4.getD 185 0 = (oo : Int) := by
                  rcases hor with ⟨q1, q2⟩ | ⟨q1, q2, q3⟩
                  · rw [rx_ref hE4 (k := 185) (j := 13 + k) (c := 0) (by omega) (by rw [rx_look2_cons, if_neg (by omega), rx_look2_cons, if_pos rfl, if_pos q1])]
                    omega
                  · rw [rx_ref hE4 (k := 185) (j := 7 + k) (c := 0) (by omega) (by rw [rx_look2_cons, if_neg (by omega), rx_look2_cons, if_pos rfl, if_neg q1])]
                    omega
                have ero : (g4.getD 185 0).toNat = oo := by omega
                refine ih g4 hg4 ⟨w1 hP, ?_, ?_, ?_⟩ (by omega)
                · rw [w2, ero, eG, eK, hq]
                  omega
                · omega
                · rw [eL]
                  exact fun k hk => absurd hk (by omega)
              · exact ⟨fun q => absurd (show (0 : Nat) ∈ [89] from q) (by decide), fun _ => wy_out hg4⟩
          · -- it doesn't
            obtain ⟨u, hu⟩ : ∃ u : Nat, (u : Int) + 1 = ly_f 179 g2 r := ⟨(ly_f 179 g2 r - 1).toNat, by omega⟩
            have hu5 : u < 5 := by omega
            have hnc : ¬ bf_c (ly_f 179 g2) (ly_a 7 g2) (ly_a 13 g2) (ly_o 178 g2) k r := fun h => hq (hc.mp h)
            rcases Int.lt_or_le (ly_f 179 g2 oo) (ly_f 179 g2 r) with q | q
            · have hor2 : ¬ (oo = r ∨ u = 0) := by
                intro h
                rcases h with rfl | h
                · omega
                · omega
              have hleg6 := wy_all5 wy_l6 hr6 hoo hu5
              unfold wy_g6 at hleg6
              rw [if_neg hor2] at hleg6
              have hn6 := rx_nar_ok (T := wy_V133 r oo) [(179 + r, (u : Int) + 1, (u : Int) + 1), (179 + oo, 0, (u : Int) - 1)] hg2 (fun x hx => by
                simp only [List.mem_cons, List.not_mem_nil, or_false] at hx
                rcases hx with rfl | rfl <;> dsimp only <;> omega)
              exact R.2.1 (wy_V133 r oo) g2 _ hn6 (next _ hn6 hleg6 hnc)
            · have hleg5 := wy_all5 wy_l5 hr6 hoo hu5
              unfold wy_g5 at hleg5
              have hn5 := rx_nar_ok (T := wy_V133 r oo) [(179 + r, (u : Int) + 1, (u : Int) + 1), (179 + oo, (u : Int) + 1, 1000)] hg2 (fun x hx => by
                simp only [List.mem_cons, List.not_mem_nil, or_false] at hx
                rcases hx with rfl | rfl <;> dsimp only <;> omega)
              exact R.2.1 (wy_V133 r oo) g2 _ hn5 (next _ hn5 hleg5 hnc)
        by_cases q1 : ly_a 7 g2 k = r
        · unfold wy_t4 at hleg
          rw [if_pos q1] at hleg
          refine rx_leg2_ok R hleg (hnar (wy_V96 1) hg2) fun t ht g4 hg4 hE4 => ?_
          cases List.mem_singleton.mp ht
          refine ⟨fun _ => ?_, fun q => absurd (show (133 : Nat) = 0 from q) (by decide)⟩
          have hl4 : g4.length = 189 := by rw [hg4.1.1]; exact wy_lV93
          have e4 : g4 = g2 := rx_EP_id hE4 (by omega)
          subst e4
          exact other _ hj (Or.inl ⟨q1, rfl⟩)
        · by_cases q2 : ly_a 13 g2 k = r
          · unfold wy_t4 at hleg
            rw [if_neg q1, if_pos q2] at hleg
            refine rx_leg2_ok R hleg (hnar (wy_V96 1) hg2) fun t ht g4 hg4 hE4 => ?_
            cases List.mem_singleton.mp ht
            refine ⟨fun _ => ?_, fun q => absurd (show (133 : Nat) = 0 from q) (by decide)⟩
            have hl4 : g4.length = 189 := by rw [hg4.1.1]; exact wy_lV93
            have e4 : g4 = g2 := rx_EP_id hE4 (by omega)
            subst e4
            exact other _ hi (Or.inr ⟨q1, q2, rfl⟩)
          · unfold wy_t4 at hleg
            rw [if_neg q1, if_neg q2] at hleg
            refine rx_leg2_ok R hleg (hnar (wy_V96 1) hg2) fun t ht g4 hg4 hE4 => ?_
            unfold wy_tn at ht
            cases List.mem_singleton.mp ht
            refine ⟨fun _ => ?_, fun q => absurd (show (89 : Nat) = 0 from q) (by decide)⟩
            have hl4 : g4.length = 189 := by rw [hg4.1.1]; exact wy_lV
            obtain ⟨w1, w2, w3, w4, w5⟩ := wy_vw hE4 (by omega) (by decide)
            have eR := rx_sam hE4 (k := 185) (by omega) rfl
            have eK := rx_sam hE4 (k := 186) (by omega) rfl
            have eG := rx_sam hE4 (k := 188) (by omega) rfl
            have eL := rx_ref hE4 (k := 187) (j := 187) (c := 1) (by omega) rfl
            refine ih g4 hg4 ⟨w1 hP, ?_, ?_, ?_⟩ (by omega)
            · rw [w2, eR, eG, eK, ern]
              exact hf
            · omega
            · rw [w2, w3, w4, w5, eR, eL, ern]
              intro k' hk'
              by_cases q : (k' : Int) < g2.getD 187 0
              · exact hno k' q
              · have e3 : k' = k := by omega
                rw [e3]
                intro hc
                rcases hc.2 with h | h
                · exact q1 h.1
                · exact q2 h.2.1
      · refine hnext 0 _ ho fun hb => ?_
        refine next (wy_V96 0) hg2 wy_l3 fun hc => ?_
        have hbk : ly_o 178 g2 k = false := by
          unfold ly_o
          rw [hk]
          exact hb
        have := hc.1
        rw [hbk] at this
        cases this
  -- the beginning
  refine rx_leg2_ok R wy_l0 hg0 fun t ht g2 hg2 hE => ?_
  unfold wy_t0 at ht
  simp only [List.mem_cons, List.not_mem_nil, or_false] at ht
  rcases ht with rfl | rfl
  · refine ⟨fun _ => ?_, fun q => absurd (show (44 : Nat) = 0 from q) (by decide)⟩
    refine R.2.2.2.2.2.2.2.2 wy_T44 g2 _ _ _ [] ly_ok (by decide) rfl rfl rfl rfl rfl (by decide) (by decide) fun o ho g' hle hgo => ?_
    rw [ly_Ko] at ho
    obtain ⟨g3, e3, hP, hg3⟩ := rx_outs_of ho
    subst e3
    have e4 := rx_exact_eq hgo
    subst e4
    refine R.2.1 _ g' ly_O.1 hg3 ?_
    show GG wy_T47 g'
    have ba := rx_gb hg3 (k := 175) (lo := 0) (hi := 5) rfl
    obtain ⟨a, ha⟩ : ∃ a : Nat, (a : Int) = g'.getD 175 0 := ⟨(g'.getD 175 0).toNat, by omega⟩
    have ha6 : a < 6 := by omega
    have hleg := List.all_eq_true.mp wy_l1 a (List.mem_range.mpr ha6)
    unfold wy_g1 at hleg
    rw [Bool.and_eq_true] at hleg
    have fa := ly_fr (n := 179) (g := g') ha6
    have hC := hP.1 a ha6
    rcases Int.lt_or_le (ly_f 179 g' a) 1000 with q | q
    · have h5 := bf_C5 hP.1 ha6 (by omega)
      have hn1 := rx_nar_ok (T := wy_T47) [(175, (a : Int), (a : Int)), (179 + a, 0, 5)] hg3 (fun x hx => by
        simp only [List.mem_cons, List.not_mem_nil, or_false] at hx
        rcases hx with rfl | rfl <;> dsimp only <;> omega)
      refine R.2.1 wy_T47 g' _ hn1 ?_
      refine rx_leg2_ok R hleg.1 hn1 fun t ht g4 hg4 hE4 => ?_
      unfold wy_t1 at ht
      simp only [List.mem_cons, List.not_mem_nil, or_false] at ht
      rcases ht with rfl | rfl
      · refine ⟨fun _ => ?_, fun q => absurd (show (89 : Nat) = 0 from q) (by decide)⟩
        have hl4 : g4.length = 189 := by rw [hg4.1.1]; exact wy_lV
        obtain ⟨w1, w2, w3, w4, w5⟩ := wy_vw hE4 (by omega) (fun q hq => by
          simp only [List.mem_cons, List.not_mem_nil, or_false] at hq
          rcases hq with rfl | rfl | rfl | rfl <;> dsimp only <;> omega)
        have eR := rx_ref hE4 (k := 185) (j := 175) (c := 0) (by omega) rfl
        have eK := rx_con hE4 (k := 186) (c := 0) (by omega) rfl
        have eL := rx_con hE4 (k := 187) (c := 0) (by omega) rfl
        have eG := rx_ref hE4 (k := 188) (j := 179 + a) (c := 0) (by omega) rfl
        have p1 := hE4.2 _ List.mem_cons_self
        simp only [rx_sm] at p1
        have ern : (g4.getD 185 0).toNat = a := by omega
        refine loop _ g4 hg4 ⟨w1 hP, ?_, ?_, ?_⟩ (Nat.lt_succ_self _)
        · rw [w2, ern, eG, eK, fa]
          omega
        · omega
        · rw [eL]
          exact fun k hk => absurd hk (by omega)
      · exact ⟨fun q => absurd (show (0 : Nat) ∈ [89] from q) (by decide), fun _ => wy_out hg4⟩
    · have hn1 := rx_nar_ok (T := wy_T47) [(175, (a : Int), (a : Int)), (179 + a, 1000, 1000)] hg3 (fun x hx => by
        simp only [List.mem_cons, List.not_mem_nil, or_false] at hx
        rcases hx with rfl | rfl <;> dsimp only <;> omega)
      refine R.2.1 wy_T47 g' _ hn1 ?_
      refine rx_leg2_ok R hleg.2 hn1 fun t ht g4 hg4 hE4 => ?_
      unfold wy_tO at ht
      cases List.mem_singleton.mp ht
      exact ⟨fun q => absurd (show (0 : Nat) ∈ [89] from q) (by decide), fun _ => wy_out hg4⟩
  · exact ⟨fun q => absurd (show (0 : Nat) ∈ [44] from q) (by decide), fun _ => wy_out hg2⟩
