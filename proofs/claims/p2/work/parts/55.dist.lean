noncomputable def rc_q8_h : List rx_C := [
  .inl (3, [.inr (.inr (.inl (some 1))), .inr (.inr (.inl (some 2))), .inr (.inr (.inl (some 3))), .inr (.inr (.inl (some 4))), .inr (.inr (.inl (some 5))), .inl (1, 0), .inr (.inr (.inl (some 6)))]),
  .inr (1000, 6, [], .inr (.inl (5, 0))),
  .inr (1000, 1792, [], .inr (.inl (4294967295, (-2147483648)))),
  .inr (1000, 6, [], .inr (.inl (8, (-1)))),
  .inr (1000, 6, [], .inr (.inl (1000, 0))),
  .inr (1000, 6, [], .inr (.inl (5, 0))),
  .inr (1000, 8, [], .inr (.inl (63, 0))),
  .inl (8, [.inl (2, 0), .inl (3, 0), .inl (4, 0), .inl (5, 0), .inl (6, 0), .inr (.inr (.inl (some 8))), .inr (.inr (.inr 100)), .inr (.inr (.inl (some 9))), .inr (.inr (.inl (some 10))), .inr (.inr (.inl (some 11))), .inr (.inr (.inl (some 12))), .inr (.inr (.inl (some 13))), .inl (7, 0), .inr (.inr (.inr 101)), .inr (.inr (.inr 102)), .inr (.inr (.inr 103)), .inr (.inr (.inr 104)), .inr (.inr (.inl (some 14)))]),
  .inr (1000, 4, [.inl (8, 0), .inl (9, 0), .inl (10, 0), .inl (11, 0)], .inr (.inl (0, 0))),
  .inr (1000, 6, [], .inr (.inl (5, 0))),
  .inr (1000, 6, [], .inr (.inl (5, 0))),
  .inr (1000, 6, [], .inr (.inl (5, 0))),
  .inr (1000, 6, [], .inr (.inl (5, 0))),
  .inr (1000, 6, [], .inr (.inl (63, 0))),
  .inr (1000, 36, [], .inr (.inl (6, (-1))))]
noncomputable def td_h : List rx_C := [
  .inl (3, [.inr (.inr (.inl (some 1))), .inr (.inr (.inl (some 2))), .inr (.inr (.inl (some 3))), .inr (.inr (.inl (some 4))), .inr (.inr (.inl (some 5))), .inl (1, 0), .inr (.inr (.inl (some 6)))]),
  .inr (1000, 6, [], .inr (.inl (5, 0))),
  .inr (1000, 1792, [], .inr (.inl (4294967295, (-2147483648)))),
  .inr (1000, 6, [], .inr (.inl (8, (-1)))),
  .inr (1000, 6, [.inl (14, 0), .inl (15, 0), .inl (16, 0), .inl (17, 0), .inl (18, 0), .inl (19, 0)], .inr (.inl (1000, 0))),
  .inr (1000, 6, [], .inr (.inl (5, 0))),
  .inr (1000, 8, [], .inr (.inl (63, 0))),
  .inl (8, [.inl (2, 0), .inl (3, 0), .inl (4, 0), .inl (5, 0), .inl (6, 0), .inr (.inr (.inl (some 8))), .inr (.inr (.inr 100)), .inr (.inr (.inl (some 9))), .inr (.inr (.inl (some 10))), .inr (.inr (.inl (some 11))), .inr (.inr (.inl (some 12))), .inr (.inr (.inl (some 13))), .inl (7, 0), .inr (.inr (.inr 101)), .inr (.inr (.inr 102)), .inr (.inr (.inr 103)), .inr (.inr (.inr 104)), .inr (.inr (.inl (some 14)))]),
  .inr (1000, 4, [.inl (8, 0), .inl (9, 0), .inl (10, 0), .inl (11, 0)], .inr (.inl (0, 0))),
  .inr (1000, 6, [], .inr (.inl (5, 0))),
  .inr (1000, 6, [], .inr (.inl (5, 0))),
  .inr (1000, 6, [], .inr (.inl (5, 0))),
  .inr (1000, 6, [], .inr (.inl (5, 0))),
  .inr (1000, 6, [], .inr (.inl (63, 0))),
  .inr (1000, 36, [], .inr (.inl (6, (-1))))]
noncomputable def td_O : rx_T := (([(0, 6), (2, 6), (2, 6), (1, 9), (0, 1), (0, 1), ((-2147483648), 2147483647), (0, 6), (0, 6), (0, 5), (0, 8), ((-2147483648), 2147483647), (0, 5), (0, 1000), (0, 1000), (0, 1000), (0, 1000), (0, 1000), (0, 1000)], []), td_h, (0, 0), 0, [], [])
noncomputable def td_F : List rx_F := [([(13, 999)], [((-1), 13)], 5), ([(14, 999)], [((-1), 14)], 5), ([(15, 999)], [((-1), 15)], 5), ([(16, 999)], [((-1), 16)], 5), ([(17, 999)], [((-1), 17)], 5), ([(18, 999)], [((-1), 18)], 5)]
noncomputable def rc_q8_k : rx_KE := ((65, 12), ([(0, 0), (1, 0), (1, 1), (1, 2), (1, 3), (1, 4), (1, 6), (0, 1), (8, 5), (8, 7), (8, 8), (8, 9), (8, 10), (8, 11), (8, 17)], [(1, 5), (8, 0), (8, 1), (8, 2), (8, 3), (8, 4), (8, 12), (9, 0), (9, 1), (9, 2), (9, 3), (0, 2), (0, 3)], [(8, 6), (8, 13), (8, 14), (8, 15), (8, 16)]), (([(0, 6), (2, 6), (2, 6), (1, 9), (0, 1), (0, 1), ((-2147483648), 2147483647), (0, 6), (0, 6), (0, 5), (0, 8), ((-2147483648), 2147483647), (0, 5)], []), rc_q8_h, [.inr (.inr (.inl (some 0))), .inr (.inr (.inl (some 7))), .inl (12, 0), .inl (13, 0)]), [((td_O.1.1, td_F), td_O.2)])
noncomputable def td_S : rx_T := (([(0, 6), (2, 6), (2, 6), (1, 9), (0, 1), (0, 1), ((-2147483648), 2147483647), (0, 6), (0, 6), (0, 5), (0, 8), ((-2147483648), 2147483647), (0, 5), (0, 1000), (0, 1000), (0, 1000), (0, 1000), (0, 1000), (0, 1000), (0, 5), (0, 6)], []), td_h, (0, 0), 34, [(0, .inr (.inr (.inl (some 0)))), (1, .inr (.inr (.inl (some 7)))), (2, .inl (12, 0)), (3, .inl (13, 0)), (4, .inl (20, 0)), (5, .inl (21, 0))], [])
noncomputable def td_S73 : rx_T := (([(0, 6), (2, 6), (2, 6), (1, 9), (0, 1), (0, 1), ((-2147483648), 2147483647), (0, 6), (0, 6), (0, 5), (0, 8), ((-2147483648), 2147483647), (0, 5), (0, 1000), (0, 1000), (0, 1000), (0, 1000), (0, 1000), (0, 1000), (0, 5), (0, 5), (0, 5), (0, 5)], []), td_h, (0, 0), 73, [(0, .inr (.inr (.inl (some 0)))), (1, .inr (.inr (.inl (some 7)))), (2, .inl (12, 0)), (3, .inl (13, 0)), (4, .inl (20, 0)), (5, .inl (21, 0)), (6, .inl (22, 0)), (7, .inl (23, 0))], [])
noncomputable def td_p : List (Nat × Nat) := [(5, 0), (5, 1), (5, 2), (5, 3), (5, 4), (5, 5), (0, 4), (0, 5)]
noncomputable def td_p73 : List (Nat × Nat) := [(5, 0), (5, 1), (5, 2), (5, 3), (5, 4), (5, 5), (0, 4), (0, 5), (0, 6), (0, 7)]
noncomputable def td_pO : List (Nat × Nat) := [(5, 0), (5, 1), (5, 2), (5, 3), (5, 4), (5, 5)]
noncomputable def td_KT : List rx_KE := [rc_jf_k]
theorem td_KTok : ∀ K ∈ td_KT, rx_OK K := rx_okcons rc_jf_ok (rx_oknil)

noncomputable def td_lg (stops : List Nat) (A : rx_T) (ts : List rx_Le) : Bool := rx_leg2 td_KT 12 (rx_flag [] rx_m65) 15 13 stops 2000 A ts
noncomputable def td_sp (t : Nat) : List (Nat × Option rx_I) := [(13, some (0, if t = 0 then 0 else 1000)), (13 + 1, some (0, if t = 1 then 0 else 1000)), (13 + 2, some (0, if t = 2 then 0 else 1000)), (13 + 3, some (0, if t = 3 then 0 else 1000)), (13 + 4, some (0, if t = 4 then 0 else 1000)), (13 + 5, some (0, if t = 5 then 0 else 1000))]
noncomputable def td_t0 (t : Nat) : List rx_Le := [(td_S, td_p, some (td_sp t ++ [(13 + 6, some (0, 0)), (13 + 7, some (0, 0))]), []), (td_O, td_pO, some (td_sp t), [])]
noncomputable def td_t1 : List rx_Le := [(td_S, td_p, some [(13 + 7, some (13 + 8, 1))], []), (td_S, td_p, some [(13 + 7, some (0, 0)), (13 + 6, some (13 + 7, 1))], []), (td_O, td_pO, some [], []), (td_S73, td_p73, some [(13 + 8, none), (13 + 9, none)], [])]
noncomputable def td_t2 (i j : Nat) : List rx_Le := [(td_S, td_p, some [(13 + 7, some (13 + 8, 1))], []), (td_S, td_p, some [(13 + 7, some (13 + 8, 1)), (13 + i, some (13 + j + 1, 1))], [([(1, 13 + i), (-1, 13 + j)], -1)]), (td_S, td_p, some [(13 + 7, some (13 + 8, 1)), (13 + j, some (13 + i + 1, 1))], [([(1, 13 + j), (-1, 13 + i)], -1)])]
theorem td_l0 : (List.range 6).all (fun t => td_lg [34] (rx_nar (rx_ent rc_q8_k ([], 0)).1 [(12, (t : Int), (t : Int))]) (td_t0 t)) = true := by decide +kernel
theorem td_l1 : td_lg [34, 73] td_S td_t1 = true := by decide +kernel
theorem td_l2 : (List.range 6).all (fun i => (List.range 6).all (fun j => td_lg [34] (rx_nar td_S73 [(13 + 8, (i : Int), (i : Int)), (13 + 9, (j : Int), (j : Int))]) (td_t2 i j))) = true := by decide +kernel
theorem td_nS : td_S.1.1.length = 13 + 8 := by decide +kernel
theorem td_n73 : td_S73.1.1.length = 13 + 10 := by decide +kernel
theorem td_nO : td_O.1.1.length = 13 + 6 := by decide +kernel
theorem td_fk {g : List Int} {k : Nat} (hk : k < g.length) (h : g.getD k 0 ≤ 999 → g.getD k 0 ≤ 5) : rx_f g ([(k, 999)], [(-1, k)], 5) := by
  intro hq
  have e := rx_getD_at hk
  have h1 := hq (k, 999) (List.mem_singleton.mpr rfl) g[k] (List.getElem?_eq_getElem hk)
  dsimp only at h1
  refine ⟨-1 * g[k] + 0, ⟨g[k], 0, List.getElem?_eq_getElem hk, rfl, rfl⟩, ?_⟩
  dsimp only
  omega
theorem td_out {g : List Int} (h : rx_g td_O.1 g) (hC : bf_C (ly_f 13 g)) : ∃ sy' : rx_Y, (sy', td_O.2) ∈ rc_q8_k.2.2.2 ∧ rx_g sy' g := by
  refine ⟨(td_O.1.1, td_F), List.mem_singleton.mpr rfl, h.1, fun f hf => ?_⟩
  have hl : g.length = 13 + 6 := by rw [h.1.1]; exact td_nO
  have key : ∀ r, r < 6 → rx_f g ([(13 + r, 999)], [(-1, 13 + r)], 5) := fun r hr => td_fk (by omega) (fun q => by
    have := bf_C5 hC hr (by rw [ly_fr hr]; exact q)
    rw [ly_fr hr] at this
    exact this)
  unfold td_F at hf
  simp only [List.mem_cons, List.not_mem_nil, or_false] at hf
  rcases hf with rfl | rfl | rfl | rfl | rfl | rfl
  · exact key 0 (by omega)
  · exact key 1 (by omega)
  · exact key 2 (by omega)
  · exact key 3 (by omega)
  · exact key 4 (by omega)
  · exact key 5 (by omega)
theorem td_init {g g2 : List Int} {t : Nat} (ht : t < 6) {spec : List (Nat × Option rx_I)} {pos : List (List (Int × Nat) × Int)} (h : rx_EP g g2 (some spec) pos) (hl : 13 + 6 ≤ g2.length) (hs : ∀ r, r < 6 → rx_look2 (13 + r) spec = some (0, if t = r then 0 else 1000)) : bf_C (ly_f 13 g2) :=
  (bf_init (f := ly_f 13 g2) (A := fun _ => 0) (B := fun _ => 0) (O := fun _ => false) (LM := 0) ht (fun r hr => by
    rw [ly_fr hr, rx_con h (by omega) (hs r hr)]
    split <;> split <;> omega) (fun _ => by omega) (fun _ => by omega)).1
theorem rc_q8_ok : rx_OK rc_q8_k := by
  refine rx_okP (KT := td_KT) (fl := []) td_KTok rfl rfl fun GG R g0 hg0 => ?_
  have loop : ∀ (n : Nat) (g : List Int), rx_g td_S.1 g → bf_C (ly_f 13 g) → ((7 - g.getD (13 + 6) 0) * 8 + (7 - g.getD (13 + 7) 0)).toNat < n → GG td_S g := by
    intro n
    induction n with
    | zero => exact fun g _ _ h => absurd h (Nat.not_lt_zero _)
    | succ n ih =>
      intro g hg hC hn
      have bR := rx_gb hg (k := 13 + 6) (lo := 0) (hi := 5) rfl
      have bL := rx_gb hg (k := 13 + 7) (lo := 0) (hi := 6) rfl
      have six : ∀ {g2 : List Int} {spec : List (Nat × Option rx_I)} {pos : List (List (Int × Nat) × Int)} {g1 : List Int}, rx_EP g1 g2 (some spec) pos → 13 + 6 ≤ g2.length → (∀ q ∈ spec, 13 + 6 ≤ q.1) → ly_f 13 g2 = ly_f 13 g1 := fun h hl hs => ly_fe fun r hr => rx_sam h (by omega) (rx_look2_lo hs (by omega))
      refine rx_leg2_ok R td_l1 hg fun t ht g2 hg2 hE => ?_
      unfold td_t1 at ht
      simp only [List.mem_cons, List.not_mem_nil, or_false] at ht
      rcases ht with rfl | rfl | rfl | rfl
      · refine ⟨fun _ => ?_, fun q => absurd (show (34 : Nat) = 0 from q) (by decide)⟩
        have hl : g2.length = 13 + 8 := by rw [hg2.1.1]; exact td_nS
        have eL := rx_ref hE (k := 13 + 7) (j := 13 + 7) (c := 1) (by omega) rfl
        have eR := rx_sam hE (k := 13 + 6) (by omega) rfl
        exact ih g2 hg2 (by rw [six hE (by omega) (by decide)]; exact hC) (by omega)
      · refine ⟨fun _ => ?_, fun q => absurd (show (34 : Nat) = 0 from q) (by decide)⟩
        have hl : g2.length = 13 + 8 := by rw [hg2.1.1]; exact td_nS
        have eL := rx_con hE (k := 13 + 7) (c := 0) (by omega) rfl
        have eR := rx_ref hE (k := 13 + 6) (j := 13 + 6) (c := 1) (by omega) rfl
        exact ih g2 hg2 (by rw [six hE (by omega) (by decide)]; exact hC) (by omega)
      · refine ⟨fun q => absurd (show (0 : Nat) ∈ [34, 73] from q) (by decide), fun _ => ?_⟩
        have hl : g2.length = 13 + 6 := by rw [hg2.1.1]; exact td_nO
        exact td_out hg2 (by rw [six hE (by omega) (by decide)]; exact hC)
      · refine ⟨fun _ => ?_, fun q => absurd (show (73 : Nat) = 0 from q) (by decide)⟩
        have hl : g2.length = 13 + 10 := by rw [hg2.1.1]; exact td_n73
        have eL := rx_sam hE (k := 13 + 7) (by omega) rfl
        have eR := rx_sam hE (k := 13 + 6) (by omega) rfl
        have hC2 : bf_C (ly_f 13 g2) := by rw [six hE (by omega) (by decide)]; exact hC
        have bA := rx_gb hg2 (k := 13 + 8) (lo := 0) (hi := 5) rfl
        have bB := rx_gb hg2 (k := 13 + 9) (lo := 0) (hi := 5) rfl
        have bL5 := rx_gb hg2 (k := 13 + 7) (lo := 0) (hi := 5) rfl
        obtain ⟨i, hi⟩ : ∃ i : Nat, (i : Int) = g2.getD (13 + 8) 0 := ⟨(g2.getD (13 + 8) 0).toNat, by omega⟩
        obtain ⟨j, hj⟩ : ∃ j : Nat, (j : Int) = g2.getD (13 + 9) 0 := ⟨(g2.getD (13 + 9) 0).toNat, by omega⟩
        have hi6 : i < 6 := by omega
        have hj6 : j < 6 := by omega
        have hn3 := rx_nar_ok (T := td_S73) [(13 + 8, (i : Int), (i : Int)), (13 + 9, (j : Int), (j : Int))] hg2 (fun x hx => by
          simp only [List.mem_cons, List.not_mem_nil, or_false] at hx
          rcases hx with rfl | rfl <;> dsimp only <;> omega)
        refine R.2.1 td_S73 g2 _ hn3 ?_
        have hleg := List.all_eq_true.mp (List.all_eq_true.mp td_l2 i (List.mem_range.mpr hi6)) j (List.mem_range.mpr hj6)
        refine rx_leg2_ok R hleg hn3 fun t ht g4 hg4 hE4 => ?_
        have hl4 : t.1 = td_S → g4.length = 13 + 8 := fun e => by rw [hg4.1.1, e]; exact td_nS
        unfold td_t2 at ht
        simp only [List.mem_cons, List.not_mem_nil, or_false] at ht
        rcases ht with rfl | rfl | rfl
        · refine ⟨fun _ => ?_, fun q => absurd (show (34 : Nat) = 0 from q) (by decide)⟩
          have hl4 := hl4 rfl
          have fL := rx_ref hE4 (k := 13 + 7) (j := 13 + 7) (c := 1) (by omega) rfl
          have fR := rx_sam hE4 (k := 13 + 6) (by omega) rfl
          exact ih g4 hg4 (by rw [six hE4 (by omega) (by decide)]; exact hC2) (by omega)
        · refine ⟨fun _ => ?_, fun q => absurd (show (34 : Nat) = 0 from q) (by decide)⟩
          have hl4 := hl4 rfl
          have fL := rx_ref hE4 (k := 13 + 7) (j := 13 + 7) (c := 1) (by omega) rfl
          have fR := rx_sam hE4 (k := 13 + 6) (by omega) (by rw [rx_look2_cons, if_neg (by omega), rx_look2_cons, if_neg (by omega)]; rfl)
          have p1 := hE4.2 _ List.mem_cons_self
          simp only [rx_sm] at p1
          have ef : ly_f 13 g4 = bf_u (ly_f 13 g2) i (ly_f 13 g2 j + 1) := by
            funext r
            unfold bf_u
            by_cases hr : r < 6
            · by_cases er : r = i
              · rw [if_pos er, ly_fr hr, ly_fr hj6, er]
                exact rx_ref hE4 (by omega) (by rw [rx_look2_cons, if_neg (by omega), rx_look2_cons, if_pos rfl])
              · rw [if_neg er, ly_fr hr, ly_fr hr]
                exact rx_sam hE4 (by omega) (by rw [rx_look2_cons, if_neg (by omega), rx_look2_cons, if_neg (by omega)]; rfl)
            · have er : r ≠ i := by omega
              rw [if_neg er]
              unfold ly_f
              rw [if_neg hr, if_neg hr]
          exact ih g4 hg4 (by rw [ef]; exact bf_Cu hC2 hi6 hj6 (by rw [ly_fr hi6, ly_fr hj6]; omega)) (by omega)
        · refine ⟨fun _ => ?_, fun q => absurd (show (34 : Nat) = 0 from q) (by decide)⟩
          have hl4 := hl4 rfl
          have fL := rx_ref hE4 (k := 13 + 7) (j := 13 + 7) (c := 1) (by omega) rfl
          have fR := rx_sam hE4 (k := 13 + 6) (by omega) (by rw [rx_look2_cons, if_neg (by omega), rx_look2_cons, if_neg (by omega)]; rfl)
          have p1 := hE4.2 _ List.mem_cons_self
          simp only [rx_sm] at p1
          have ef : ly_f 13 g4 = bf_u (ly_f 13 g2) j (ly_f 13 g2 i + 1) := by
            funext r
            unfold bf_u
            by_cases hr : r < 6
            · by_cases er : r = j
              · rw [if_pos er, ly_fr hr, ly_fr hi6, er]
                exact rx_ref hE4 (by omega) (by rw [rx_look2_cons, if_neg (by omega), rx_look2_cons, if_pos rfl])
              · rw [if_neg er, ly_fr hr, ly_fr hr]
                exact rx_sam hE4 (by omega) (by rw [rx_look2_cons, if_neg (by omega), rx_look2_cons, if_neg (by omega)]; rfl)
            · have er : r ≠ j := by omega
              rw [if_neg er]
              unfold ly_f
              rw [if_neg hr, if_neg hr]
          exact ih g4 hg4 (by rw [ef]; exact bf_Cu hC2 hj6 hi6 (by rw [ly_fr hi6, ly_fr hj6]; omega)) (by omega)
  -- the beginning
  have bT := rx_gb hg0 (k := 12) (lo := 0) (hi := 5) rfl
  obtain ⟨t, ht⟩ : ∃ t : Nat, (t : Int) = g0.getD 12 0 := ⟨(g0.getD 12 0).toNat, by omega⟩
  have ht6 : t < 6 := by omega
  have hn0 := rx_nar_ok (T := (rx_ent rc_q8_k ([], 0)).1) [(12, (t : Int), (t : Int))] hg0 (fun x hx => by cases List.mem_singleton.mp hx; dsimp only; omega)
  refine R.2.1 _ g0 _ hn0 ?_
  have hleg := List.all_eq_true.mp td_l0 t (List.mem_range.mpr ht6)
  refine rx_leg2_ok R hleg hn0 fun u hu g2 hg2 hE => ?_
  unfold td_t0 at hu
  simp only [List.mem_cons, List.not_mem_nil, or_false] at hu
  rcases hu with rfl | rfl
  · refine ⟨fun _ => ?_, fun q => absurd (show (34 : Nat) = 0 from q) (by decide)⟩
    have hl : g2.length = 13 + 8 := by rw [hg2.1.1]; exact td_nS
    exact loop _ g2 hg2 (td_init ht6 hE (by omega) (fun r hr => by rcases bf_six hr with rfl | rfl | rfl | rfl | rfl | rfl <;> rfl)) (Nat.lt_succ_self _)
  · refine ⟨fun q => absurd (show (0 : Nat) ∈ [34] from q) (by decide), fun _ => ?_⟩
    have hl : g2.length = 13 + 6 := by rw [hg2.1.1]; exact td_nO
    exact td_out hg2 (td_init ht6 hE (by omega) (fun r hr => by rcases bf_six hr with rfl | rfl | rfl | rfl | rfl | rfl <;> rfl))
