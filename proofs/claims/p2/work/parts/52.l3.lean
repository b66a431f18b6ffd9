theorem ly_l3 {k i j : Nat} (hk : k < 6) (hi : i < 6) (hj : j < 6) : ly_g3 k i j = true := by
  rcases bf_six hk with rfl | rfl | rfl | rfl | rfl | rfl
  · exact List.all_eq_true.mp (List.all_eq_true.mp ly_l3_0 i (List.mem_range.mpr hi)) j (List.mem_range.mpr hj)
  · exact List.all_eq_true.mp (List.all_eq_true.mp ly_l3_1 i (List.mem_range.mpr hi)) j (List.mem_range.mpr hj)
  · exact List.all_eq_true.mp (List.all_eq_true.mp ly_l3_2 i (List.mem_range.mpr hi)) j (List.mem_range.mpr hj)
  · exact List.all_eq_true.mp (List.all_eq_true.mp ly_l3_3 i (List.mem_range.mpr hi)) j (List.mem_range.mpr hj)
  · exact List.all_eq_true.mp (List.all_eq_true.mp ly_l3_4 i (List.mem_range.mpr hi)) j (List.mem_range.mpr hj)
  · exact List.all_eq_true.mp (List.all_eq_true.mp ly_l3_5 i (List.mem_range.mpr hi)) j (List.mem_range.mpr hj)
/-- bounds of the locks' rooms -/
theorem ly_ab {sy : rx_Y} {g : List Int} (hg : rx_g sy g) (n : Nat) (h : ∀ k, k < 6 → rx_nth sy.1 (n + k) = some (0, 5)) : (∀ k, k < 6 → (0 ≤ g.getD (n + k) 0 ∧ g.getD (n + k) 0 ≤ 5)) ∧ (∀ k, ly_a n g k < 6) := by
  have h1 : ∀ k, k < 6 → (0 ≤ g.getD (n + k) 0 ∧ g.getD (n + k) 0 ≤ 5) := fun k hk => rx_gb hg (h k hk)
  refine ⟨h1, fun k => ?_⟩
  unfold ly_a
  split
  · rename_i q
    have := h1 k q
    omega
  · omega
/-- what a leg leaves as it was -/
theorem ly_lo {g g2 : List Int} {spec : List (Nat × Option rx_I)} {pos : List (List (Int × Nat) × Int)} (h : rx_EP g g2 (some spec) pos) (hl : 179 ≤ g2.length) (hs : ∀ q ∈ spec, 179 ≤ q.1) : ∀ k, k < 179 → g2.getD k 0 = g.getD k 0 := fun k hk => rx_sam h (by omega) (rx_look2_lo hs hk)
theorem ly_vw {g g2 : List Int} (h : ∀ k, k < 179 → g2.getD k 0 = g.getD k 0) : ly_a 7 g2 = ly_a 7 g ∧ ly_a 13 g2 = ly_a 13 g ∧ ly_o 178 g2 = ly_o 178 g ∧ g2.getD 1 0 = g.getD 1 0 := by
  refine ⟨ly_ae fun r hr => h _ (by omega), ly_ae fun r hr => h _ (by omega), ?_, h _ (by omega)⟩
  unfold ly_o
  rw [h 178 (by omega)]
theorem ly_out0 {O : rx_T} {F : List Int → Prop} {K : rx_KE} (hK : K.2.2.2 = rx_outs O F) {g : List Int} (h : rx_g O.1 g) (hP : F g) : ∃ sy' : rx_Y, (sy', O.2) ∈ K.2.2.2 ∧ rx_g sy' g := by
  rw [hK]
  exact ⟨_, rx_outs_in h hP, rx_exact⟩
theorem ly_Ko : ly_K.2.2.2 = rx_outs ly_O ly_P := by
  unfold ly_K
  generalize rx_outs ly_O ly_P = L
  rfl
theorem ly_ok : rx_OK ly_K := by
  have hJ : rx_OK (rx_hK 170 ly_S57.1 ly_hF 178 186) := rx_hasP rfl rfl rfl rfl rfl rfl (by rw [ly_l57]; omega) (by rw [ly_l57]; omega) ly_h57
  refine rx_okP (KT := []) (fl := []) rx_oknil rfl rfl fun GG R g0 hg0 => ?_
  have loop : ∀ (n : Nat) (g : List Int), rx_g ly_S.1 g → ly_I g → ((6 - g.getD 185 0) * 8 + (7 - g.getD 186 0)).toNat < n → GG ly_S g := by
    intro n
    induction n with
    | zero => exact fun g _ _ h => absurd h (Nat.not_lt_zero _)
    | succ n ih =>
      intro g hg hI hn
      have bR := rx_gb hg (k := 185) (lo := 0) (hi := 5) rfl
      have bL := rx_gb hg (k := 186) (lo := 0) (hi := 6) rfl
      have bM := rx_gb hg (k := 1) (lo := 0) (hi := 6) rfl
      refine rx_leg_ok R ly_l1 hg fun t ht g2 hg2 hE => ?_
      unfold ly_t1 at ht
      simp only [List.mem_cons, List.not_mem_nil, or_false] at ht
      rcases ht with rfl | rfl | rfl
      · refine ⟨fun _ => ?_, fun q => absurd (show (43 : Nat) = 0 from q) (by decide)⟩
        have hl : g2.length = 187 := by rw [hg2.1.1]; exact ly_lS
        obtain ⟨v1, v2, v3, v4⟩ := ly_vw (ly_lo hE (by omega) (by decide))
        have eL := rx_con hE (k := 186) (c := 0) (by omega) rfl
        have eR := rx_ref hE (k := 185) (j := 185) (c := 1) (by omega) rfl
        have ef : ly_f 179 g2 = ly_f 179 g := ly_fe fun r hr => by
          rcases bf_six hr with rfl | rfl | rfl | rfl | rfl | rfl <;> exact rx_sam hE (by omega) rfl
        have p1 := hE.2 _ List.mem_cons_self
        have p2 := hE.2 _ (List.mem_cons_of_mem _ List.mem_cons_self)
        simp only [rx_sm] at p1 p2
        refine ih g2 hg2 ?_ (by omega)
        unfold ly_I
        rw [ef, v1, v2, v3, v4, eL, eR]
        exact bf_next hI (by omega)
      · refine ⟨fun q => absurd (show (0 : Nat) ∈ [43, 57] from q) (by decide), fun _ => ?_⟩
        have hl : g2.length = 185 := by rw [hg2.1.1]; exact ly_lO
        obtain ⟨v1, v2, v3, v4⟩ := ly_vw (ly_lo hE (by omega) (by decide))
        have ef : ly_f 179 g2 = ly_f 179 g := ly_fe fun r hr => rx_sam hE (by omega) rfl
        have p1 := hE.2 _ List.mem_cons_self
        have p2 := hE.2 _ (List.mem_cons_of_mem _ List.mem_cons_self)
        simp only [rx_sm] at p1 p2
        have hP2 : ly_P g2 := by
          unfold ly_P
          rw [ef, v1, v2, v3, v4]
          exact ⟨hI.1, bf_end hI (by omega) (by omega)⟩
        exact ly_out0 ly_Ko hg2 hP2
      · refine ⟨fun _ => ?_, fun q => absurd (show (57 : Nat) = 0 from q) (by decide)⟩
        have hl : g2.length = 187 := by rw [hg2.1.1]; exact ly_l57
        have hl1 : g.length = 187 := by rw [hg.1.1]; exact ly_lS
        have e : g2 = g := rx_EP_id hE (by rw [hl, hl1])
        subst e
        have p1 := hE.2 _ List.mem_cons_self
        simp only [rx_sm] at p1
        refine R.2.2.2.2.2.2.2.2 ly_S57 g2 _ _ _ [] hJ (by decide) rfl rfl rfl rfl rfl (by decide) (by decide) fun o ho g' hle hgo => ?_
        have b5 := rx_gb hg2 (k := 186) (lo := 0) (hi := 5) rfl
        have hnext : ∀ (bt : Int) (F : List Int → Prop), o ∈ rx_outs (rx_hO ly_S57.1 ly_hF bt) F → (F g2 → GG (ly_S60 bt) g2) → GG (rx_back ly_S57 (57, .invokestatic 257, 3, 170, 2, 0, 0) [] 0 0 o) g' := by
          intro bt F hF kk
          obtain ⟨g3, e3, hF3, hg3⟩ := rx_outs_of hF
          subst e3
          have e4 := rx_exact_eq hgo
          subst e4
          have e5 : g' = g2 := rx_le_eq hle (by rw [hg3.1.1, hg2.1.1]; rfl)
          subst e5
          exact R.2.1 _ g' ly_S57.1 hg3 (kk hF3)
        rcases List.mem_append.mp ho with ho | ho
        · refine hnext 1 _ ho fun hb => ?_
          obtain ⟨k, hk⟩ : ∃ k : Nat, (k : Int) = g2.getD 186 0 := ⟨(g2.getD 186 0).toNat, by omega⟩
          have hk6 : k < 6 := by omega
          obtain ⟨ba, la⟩ := ly_ab hg2 7 (fun k hk => by rcases bf_six hk with rfl | rfl | rfl | rfl | rfl | rfl <;> rfl)
          obtain ⟨bb, lb⟩ := ly_ab hg2 13 (fun k hk => by rcases bf_six hk with rfl | rfl | rfl | rfl | rfl | rfl <;> rfl)
          have ea := ly_ar (n := 7) hk6 (ba k hk6).1
          have eb := ly_ar (n := 13) hk6 (bb k hk6).1
          have hI6 : bf_I (ly_f 179 g2) (ly_a 7 g2) (ly_a 13 g2) (ly_o 178 g2) (g2.getD 1 0) (g2.getD 185 0) (k : Int) := by rw [hk]; exact hI
          have hbk : ly_o 178 g2 k = true := by
            unfold ly_o
            rw [hk]
            exact hb
          have hi := la k
          have hj := lb k
          have hn3 := rx_nar_ok (T := ly_S60 1) [(186, (k : Int), (k : Int)), (7 + k, (ly_a 7 g2 k : Int), (ly_a 7 g2 k : Int)), (13 + k, (ly_a 13 g2 k : Int), (ly_a 13 g2 k : Int))] hg2 (fun x hx => by
            simp only [List.mem_cons, List.not_mem_nil, or_false] at hx
            rcases hx with rfl | rfl | rfl <;> dsimp only <;> omega)
          refine R.2.1 (ly_S60 1) g2 _ hn3 ?_
          have hleg := ly_l3 hk6 hi hj
          unfold ly_g3 at hleg
          refine rx_leg_ok R hleg hn3 fun t ht g4 hg4 hE4 => ?_
          have hl4 : t.1 = ly_S → g4.length = 187 := fun e => by rw [hg4.1.1, e]; exact ly_lS
          unfold ly_t3 at ht
          simp only [List.mem_cons, List.not_mem_nil, or_false] at ht
          rcases ht with rfl | rfl | rfl
          · refine ⟨fun _ => ?_, fun q => absurd (show (43 : Nat) = 0 from q) (by decide)⟩
            have hl4 := hl4 rfl
            obtain ⟨v1, v2, v3, v4⟩ := ly_vw (ly_lo hE4 (by omega) (by decide))
            have eL := rx_ref hE4 (k := 186) (j := 186) (c := 1) (by omega) rfl
            have eR := rx_sam hE4 (k := 185) (by omega) rfl
            have ef : ly_f 179 g4 = ly_f 179 g2 := ly_fe fun r hr => by
              rcases bf_six hr with rfl | rfl | rfl | rfl | rfl | rfl <;> exact rx_sam hE4 (by omega) rfl
            have p1 := hE4.2 _ List.mem_cons_self
            have p2 := hE4.2 _ (List.mem_cons_of_mem _ List.mem_cons_self)
            simp only [rx_sm] at p1 p2
            refine ih g4 hg4 ?_ (by omega)
            unfold ly_I
            rw [ef, v1, v2, v3, v4, eL, eR, ← hk]
            refine bf_skip hI6 fun _ => ?_
            rw [ly_fr hi, ly_fr hj]
            omega
          · refine ⟨fun _ => ?_, fun q => absurd (show (43 : Nat) = 0 from q) (by decide)⟩
            have hl4 := hl4 rfl
            obtain ⟨v1, v2, v3, v4⟩ := ly_vw (ly_lo hE4 (by omega) (fun q hq => by
              simp only [List.mem_cons, List.not_mem_nil, or_false] at hq
              rcases hq with rfl | rfl <;> dsimp only <;> omega))
            have eL := rx_ref hE4 (k := 186) (j := 186) (c := 1) (by omega) rfl
            have eR := rx_sam hE4 (k := 185) (by omega) (by rw [rx_look2_cons, if_neg (by omega), rx_look2_cons, if_neg (by omega)]; rfl)
            have p1 := hE4.2 _ List.mem_cons_self
            simp only [rx_sm] at p1
            have ef : ly_f 179 g4 = bf_u (ly_f 179 g2) (ly_a 7 g2 k) (ly_f 179 g2 (ly_a 13 g2 k) + 1) := by
              funext r
              unfold bf_u
              by_cases hr : r < 6
              · by_cases er : r = ly_a 7 g2 k
                · rw [if_pos er, ly_fr hr, ly_fr hj, er]
                  exact rx_ref hE4 (by omega) (by rw [rx_look2_cons, if_neg (by omega), rx_look2_cons, if_pos rfl])
                · rw [if_neg er, ly_fr hr, ly_fr hr]
                  exact rx_sam hE4 (by omega) (by rw [rx_look2_cons, if_neg (by omega), rx_look2_cons, if_neg (by omega)]; rfl)
              · have er : r ≠ ly_a 7 g2 k := by omega
                rw [if_neg er]
                unfold ly_f
                rw [if_neg hr, if_neg hr]
            refine ih g4 hg4 ?_ (by omega)
            unfold ly_I
            rw [ef, v1, v2, v3, v4, eL, eR, ← hk]
            refine bf_set hI6 (by omega) hbk hi hj ?_
            rw [ly_fr hi, ly_fr hj]
            omega
          · refine ⟨fun _ => ?_, fun q => absurd (show (43 : Nat) = 0 from q) (by decide)⟩
            have hl4 := hl4 rfl
            obtain ⟨v1, v2, v3, v4⟩ := ly_vw (ly_lo hE4 (by omega) (fun q hq => by
              simp only [List.mem_cons, List.not_mem_nil, or_false] at hq
              rcases hq with rfl | rfl <;> dsimp only <;> omega))
            have eL := rx_ref hE4 (k := 186) (j := 186) (c := 1) (by omega) rfl
            have eR := rx_sam hE4 (k := 185) (by omega) (by rw [rx_look2_cons, if_neg (by omega), rx_look2_cons, if_neg (by omega)]; rfl)
            have p1 := hE4.2 _ List.mem_cons_self
            simp only [rx_sm] at p1
            have ef : ly_f 179 g4 = bf_u (ly_f 179 g2) (ly_a 13 g2 k) (ly_f 179 g2 (ly_a 7 g2 k) + 1) := by
              funext r
              unfold bf_u
              by_cases hr : r < 6
              · by_cases er : r = ly_a 13 g2 k
                · rw [if_pos er, ly_fr hr, ly_fr hi, er]
                  exact rx_ref hE4 (by omega) (by rw [rx_look2_cons, if_neg (by omega), rx_look2_cons, if_pos rfl])
                · rw [if_neg er, ly_fr hr, ly_fr hr]
                  exact rx_sam hE4 (by omega) (by rw [rx_look2_cons, if_neg (by omega), rx_look2_cons, if_neg (by omega)]; rfl)
              · have er : r ≠ ly_a 13 g2 k := by omega
                rw [if_neg er]
                unfold ly_f
                rw [if_neg hr, if_neg hr]
            refine ih g4 hg4 ?_ (by omega)
            unfold ly_I
            rw [ef, v1, v2, v3, v4, eL, eR, ← hk]
            refine bf_sw (bf_set (bf_sw hI6) (by omega) hbk hj hi ?_)
            rw [ly_fr hi, ly_fr hj]
            omega
        · refine hnext 0 _ ho fun hb => ?_
          refine rx_leg_ok R ly_l2 (A := ly_S60 0) hg2 fun t ht g4 hg4 hE4 => ?_
          unfold ly_t2 at ht
          cases List.mem_singleton.mp ht
          refine ⟨fun _ => ?_, fun q => absurd (show (43 : Nat) = 0 from q) (by decide)⟩
          have hl4 : g4.length = 187 := by rw [hg4.1.1]; exact ly_lS
          obtain ⟨k, hk⟩ : ∃ k : Nat, (k : Int) = g2.getD 186 0 := ⟨(g2.getD 186 0).toNat, by omega⟩
          have hI6 : bf_I (ly_f 179 g2) (ly_a 7 g2) (ly_a 13 g2) (ly_o 178 g2) (g2.getD 1 0) (g2.getD 185 0) (k : Int) := by rw [hk]; exact hI
          have hbk : ly_o 178 g2 k = false := by
            unfold ly_o
            rw [hk]
            exact hb
          obtain ⟨v1, v2, v3, v4⟩ := ly_vw (ly_lo hE4 (by omega) (by decide))
          have eL := rx_ref hE4 (k := 186) (j := 186) (c := 1) (by omega) rfl
          have eR := rx_sam hE4 (k := 185) (by omega) rfl
          have ef : ly_f 179 g4 = ly_f 179 g2 := ly_fe fun r hr => by
            rcases bf_six hr with rfl | rfl | rfl | rfl | rfl | rfl <;> exact rx_sam hE4 (by omega) rfl
          refine ih g4 hg4 ?_ (by omega)
          unfold ly_I
          rw [ef, v1, v2, v3, v4, eL, eR, ← hk]
          exact bf_skip hI6 fun q => by rw [hbk] at q; cases q
  -- the beginning
  have bT := rx_gb hg0 (k := 176) (lo := 0) (hi := 5) rfl
  obtain ⟨t, ht⟩ : ∃ t : Nat, (t : Int) = g0.getD 176 0 := ⟨(g0.getD 176 0).toNat, by omega⟩
  have hn0 := rx_nar_ok (T := (rx_ent ly_K ([], 0)).1) [(176, (t : Int), (t : Int))] hg0 (fun x hx => by cases List.mem_singleton.mp hx; dsimp only; omega)
  refine R.2.1 _ g0 _ hn0 ?_
  have hleg := List.all_eq_true.mp ly_l0 t (List.mem_range.mpr (by omega))
  refine rx_leg_ok R hleg hn0 fun u hu g2 hg2 hE => ?_
  unfold ly_t0 at hu
  cases List.mem_singleton.mp hu
  refine ⟨fun _ => ?_, fun q => absurd (show (43 : Nat) = 0 from q) (by decide)⟩
  have hl : g2.length = 187 := by rw [hg2.1.1]; exact ly_lS
  obtain ⟨v1, v2, v3, v4⟩ := ly_vw (ly_lo hE (by omega) (by simp))
  have eL := rx_con hE (k := 186) (c := 0) (by omega) rfl
  have eR := rx_con hE (k := 185) (c := 0) (by omega) rfl
  obtain ⟨-, la⟩ := ly_ab hg2 7 (fun k hk => by rcases bf_six hk with rfl | rfl | rfl | rfl | rfl | rfl <;> rfl)
  obtain ⟨-, lb⟩ := ly_ab hg2 13 (fun k hk => by rcases bf_six hk with rfl | rfl | rfl | rfl | rfl | rfl <;> rfl)
  refine loop _ g2 hg2 ?_ (Nat.lt_succ_self _)
  unfold ly_I
  rw [eL, eR]
  refine bf_init (to := t) (by omega) (fun r hr => ?_) la lb
  rw [ly_fr hr]
  rcases bf_six hr with rfl | rfl | rfl | rfl | rfl | rfl
  · rw [rx_con hE (k := 179 + 0) (c := if t = 0 then 0 else 1000) (by omega) rfl]; split <;> split <;> omega
  · rw [rx_con hE (k := 179 + 1) (c := if t = 1 then 0 else 1000) (by omega) rfl]; split <;> split <;> omega
  · rw [rx_con hE (k := 179 + 2) (c := if t = 2 then 0 else 1000) (by omega) rfl]; split <;> split <;> omega
  · rw [rx_con hE (k := 179 + 3) (c := if t = 3 then 0 else 1000) (by omega) rfl]; split <;> split <;> omega
  · rw [rx_con hE (k := 179 + 4) (c := if t = 4 then 0 else 1000) (by omega) rfl]; split <;> split <;> omega
  · rw [rx_con hE (k := 179 + 5) (c := if t = 5 then 0 else 1000) (by omega) rfl]; split <;> split <;> omega
