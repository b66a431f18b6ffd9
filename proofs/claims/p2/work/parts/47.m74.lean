theorem bk_aall : ∀ c, c < 40 → ∃ KT : List rx_KE, (∀ K ∈ KT, rx_OK K) ∧ bk_lg KT (bk_A c []) (bk_tA c) = true
  | 0, _ => ⟨_, rx_okcons rc_m9200_ok (rx_okcons rc_m60_ok rx_oknil), bk_a0⟩
  | 1, _ => ⟨_, rx_okcons rc_m9201_ok (rx_okcons rc_m60_ok rx_oknil), bk_a1⟩
  | 2, _ => ⟨_, rx_okcons rc_m9202_ok (rx_okcons rc_m60_ok rx_oknil), bk_a2⟩
  | 3, _ => ⟨_, rx_okcons rc_m9203_ok (rx_okcons rc_m60_ok rx_oknil), bk_a3⟩
  | 4, _ => ⟨_, rx_okcons rc_m9204_ok (rx_okcons rc_m60_ok rx_oknil), bk_a4⟩
  | 5, _ => ⟨_, rx_okcons rc_m9205_ok (rx_okcons rc_m60_ok rx_oknil), bk_a5⟩
  | 6, _ => ⟨_, rx_okcons rc_m9206_ok (rx_okcons rc_m60_ok rx_oknil), bk_a6⟩
  | 7, _ => ⟨_, rx_okcons rc_m9207_ok (rx_okcons rc_m60_ok rx_oknil), bk_a7⟩
  | 8, _ => ⟨_, rx_okcons rc_m9208_ok (rx_okcons rc_m60_ok rx_oknil), bk_a8⟩
  | 9, _ => ⟨_, rx_okcons rc_m9209_ok (rx_okcons rc_m60_ok rx_oknil), bk_a9⟩
  | 10, _ => ⟨_, rx_okcons rc_m9210_ok (rx_okcons rc_m60_ok rx_oknil), bk_a10⟩
  | 11, _ => ⟨_, rx_okcons rc_m9211_ok (rx_okcons rc_m60_ok rx_oknil), bk_a11⟩
  | 12, _ => ⟨_, rx_okcons rc_m9212_ok (rx_okcons rc_m60_ok rx_oknil), bk_a12⟩
  | 13, _ => ⟨_, rx_okcons rc_m9213_ok (rx_okcons rc_m60_ok rx_oknil), bk_a13⟩
  | 14, _ => ⟨_, rx_okcons rc_m9214_ok (rx_okcons rc_m60_ok rx_oknil), bk_a14⟩
  | 15, _ => ⟨_, rx_okcons rc_m9215_ok (rx_okcons rc_m60_ok rx_oknil), bk_a15⟩
  | 16, _ => ⟨_, rx_okcons rc_m9216_ok (rx_okcons rc_m60_ok rx_oknil), bk_a16⟩
  | 17, _ => ⟨_, rx_okcons rc_m9217_ok (rx_okcons rc_m60_ok rx_oknil), bk_a17⟩
  | 18, _ => ⟨_, rx_okcons rc_m9218_ok (rx_okcons rc_m60_ok rx_oknil), bk_a18⟩
  | 19, _ => ⟨_, rx_okcons rc_m9219_ok (rx_okcons rc_m60_ok rx_oknil), bk_a19⟩
  | 20, _ => ⟨_, rx_okcons rc_m9220_ok (rx_okcons rc_m60_ok rx_oknil), bk_a20⟩
  | 21, _ => ⟨_, rx_okcons rc_m9221_ok (rx_okcons rc_m60_ok rx_oknil), bk_a21⟩
  | 22, _ => ⟨_, rx_okcons rc_m9222_ok (rx_okcons rc_m60_ok rx_oknil), bk_a22⟩
  | 23, _ => ⟨_, rx_okcons rc_m9223_ok (rx_okcons rc_m60_ok rx_oknil), bk_a23⟩
  | 24, _ => ⟨_, rx_okcons rc_m9224_ok (rx_okcons rc_m60_ok rx_oknil), bk_a24⟩
  | 25, _ => ⟨_, rx_okcons rc_m9225_ok (rx_okcons rc_m60_ok rx_oknil), bk_a25⟩
  | 26, _ => ⟨_, rx_okcons rc_m9226_ok (rx_okcons rc_m60_ok rx_oknil), bk_a26⟩
  | 27, _ => ⟨_, rx_okcons rc_m9227_ok (rx_okcons rc_m60_ok rx_oknil), bk_a27⟩
  | 28, _ => ⟨_, rx_okcons rc_m9228_ok (rx_okcons rc_m60_ok rx_oknil), bk_a28⟩
  | 29, _ => ⟨_, rx_okcons rc_m9229_ok (rx_okcons rc_m60_ok rx_oknil), bk_a29⟩
  | 30, _ => ⟨_, rx_okcons rc_m9230_ok (rx_okcons rc_m60_ok rx_oknil), bk_a30⟩
  | 31, _ => ⟨_, rx_okcons rc_m9231_ok (rx_okcons rc_m60_ok rx_oknil), bk_a31⟩
  | 32, _ => ⟨_, rx_okcons rc_m9232_ok (rx_okcons rc_m60_ok rx_oknil), bk_a32⟩
  | 33, _ => ⟨_, rx_okcons rc_m9233_ok (rx_okcons rc_m60_ok rx_oknil), bk_a33⟩
  | 34, _ => ⟨_, rx_okcons rc_m9234_ok (rx_okcons rc_m60_ok rx_oknil), bk_a34⟩
  | 35, _ => ⟨_, rx_okcons rc_m9235_ok (rx_okcons rc_m60_ok rx_oknil), bk_a35⟩
  | 36, _ => ⟨_, rx_okcons rc_m9236_ok (rx_okcons rc_m60_ok rx_oknil), bk_a36⟩
  | 37, _ => ⟨_, rx_okcons rc_m9237_ok (rx_okcons rc_m60_ok rx_oknil), bk_a37⟩
  | 38, _ => ⟨_, rx_okcons rc_m9238_ok (rx_okcons rc_m60_ok rx_oknil), bk_a38⟩
  | 39, _ => ⟨_, rx_okcons rc_m9239_ok (rx_okcons rc_m60_ok rx_oknil), bk_a39⟩
  | c + 40, h => absurd h (by omega)
theorem bk_ball : ∀ j, j < 40 → ∃ KT : List rx_KE, (∀ K ∈ KT, rx_OK K) ∧ bk_lg KT (bk_B j [bk_F j]) (bk_tB j) = true
  | 0, _ => ⟨_, rx_okcons rc_m9300_ok rx_oknil, bk_b0⟩
  | 1, _ => ⟨_, rx_okcons rc_m9301_ok rx_oknil, bk_b1⟩
  | 2, _ => ⟨_, rx_okcons rc_m9302_ok rx_oknil, bk_b2⟩
  | 3, _ => ⟨_, rx_okcons rc_m9303_ok rx_oknil, bk_b3⟩
  | 4, _ => ⟨_, rx_okcons rc_m9304_ok rx_oknil, bk_b4⟩
  | 5, _ => ⟨_, rx_okcons rc_m9305_ok rx_oknil, bk_b5⟩
  | 6, _ => ⟨_, rx_okcons rc_m9306_ok rx_oknil, bk_b6⟩
  | 7, _ => ⟨_, rx_okcons rc_m9307_ok rx_oknil, bk_b7⟩
  | 8, _ => ⟨_, rx_okcons rc_m9308_ok rx_oknil, bk_b8⟩
  | 9, _ => ⟨_, rx_okcons rc_m9309_ok rx_oknil, bk_b9⟩
  | 10, _ => ⟨_, rx_okcons rc_m9310_ok rx_oknil, bk_b10⟩
  | 11, _ => ⟨_, rx_okcons rc_m9311_ok rx_oknil, bk_b11⟩
  | 12, _ => ⟨_, rx_okcons rc_m9312_ok rx_oknil, bk_b12⟩
  | 13, _ => ⟨_, rx_okcons rc_m9313_ok rx_oknil, bk_b13⟩
  | 14, _ => ⟨_, rx_okcons rc_m9314_ok rx_oknil, bk_b14⟩
  | 15, _ => ⟨_, rx_okcons rc_m9315_ok rx_oknil, bk_b15⟩
  | 16, _ => ⟨_, rx_okcons rc_m9316_ok rx_oknil, bk_b16⟩
  | 17, _ => ⟨_, rx_okcons rc_m9317_ok rx_oknil, bk_b17⟩
  | 18, _ => ⟨_, rx_okcons rc_m9318_ok rx_oknil, bk_b18⟩
  | 19, _ => ⟨_, rx_okcons rc_m9319_ok rx_oknil, bk_b19⟩
  | 20, _ => ⟨_, rx_okcons rc_m9320_ok rx_oknil, bk_b20⟩
  | 21, _ => ⟨_, rx_okcons rc_m9321_ok rx_oknil, bk_b21⟩
  | 22, _ => ⟨_, rx_okcons rc_m9322_ok rx_oknil, bk_b22⟩
  | 23, _ => ⟨_, rx_okcons rc_m9323_ok rx_oknil, bk_b23⟩
  | 24, _ => ⟨_, rx_okcons rc_m9324_ok rx_oknil, bk_b24⟩
  | 25, _ => ⟨_, rx_okcons rc_m9325_ok rx_oknil, bk_b25⟩
  | 26, _ => ⟨_, rx_okcons rc_m9326_ok rx_oknil, bk_b26⟩
  | 27, _ => ⟨_, rx_okcons rc_m9327_ok rx_oknil, bk_b27⟩
  | 28, _ => ⟨_, rx_okcons rc_m9328_ok rx_oknil, bk_b28⟩
  | 29, _ => ⟨_, rx_okcons rc_m9329_ok rx_oknil, bk_b29⟩
  | 30, _ => ⟨_, rx_okcons rc_m9330_ok rx_oknil, bk_b30⟩
  | 31, _ => ⟨_, rx_okcons rc_m9331_ok rx_oknil, bk_b31⟩
  | 32, _ => ⟨_, rx_okcons rc_m9332_ok rx_oknil, bk_b32⟩
  | 33, _ => ⟨_, rx_okcons rc_m9333_ok rx_oknil, bk_b33⟩
  | 34, _ => ⟨_, rx_okcons rc_m9334_ok rx_oknil, bk_b34⟩
  | 35, _ => ⟨_, rx_okcons rc_m9335_ok rx_oknil, bk_b35⟩
  | 36, _ => ⟨_, rx_okcons rc_m9336_ok rx_oknil, bk_b36⟩
  | 37, _ => ⟨_, rx_okcons rc_m9337_ok rx_oknil, bk_b37⟩
  | 38, _ => ⟨_, rx_okcons rc_m9338_ok rx_oknil, bk_b38⟩
  | 39, _ => ⟨_, rx_okcons rc_m9339_ok rx_oknil, bk_b39⟩
  | j + 40, h => absurd h (by omega)
theorem bk_out {g : List Int} (h : rx_g bk_O.1.1 g) : ∃ sy' : rx_Y, (sy', bk_O.1.2) ∈ rc_m95_k.2.2.2 ∧ rx_g sy' g :=
  ⟨(rc_m95_o.getD 0 default).1.1, List.mem_map.mpr ⟨(rc_m95_o.getD 0 default), List.mem_of_getElem? (show rc_m95_o[0]? = some _ from rfl), rfl⟩, h⟩
theorem bk_o0 : bk_O.1.2.2.2.1 = 0 := rfl
theorem bk_oo {GG : rx_T → List Int → Prop} {g : List Int} (h : rx_g bk_O.1.1 g) : (bk_O.1.2.2.2.1 ∈ [30, 85, 103] → GG bk_O.1 g) ∧ (bk_O.1.2.2.2.1 = 0 → ∃ sy' : rx_Y, (sy', bk_O.1.2) ∈ rc_m95_k.2.2.2 ∧ rx_g sy' g) := by
  refine ⟨fun q => ?_, fun _ => bk_out h⟩
  rw [bk_o0] at q
  exact absurd q (by decide)
set_option maxRecDepth 100000 in
theorem rc_m95_ok : rx_OK rc_m95_k := by
  refine rx_okA (fl := []) rfl rfl fun GG RR g0 hg0 => ?_
  have hX : ∀ g, rx_g bk_X.1 g → GG bk_X g := by
    intro g hg
    refine rx_leg2_ok (RR [rc_m94_k] (rx_okcons rc_m94_ok rx_oknil)) bk_x hg fun t ht g2 hg2 _ => ?_
    cases List.mem_singleton.mp ht
    exact bk_oo hg2
  have hB : ∀ (n j : Nat), j + n = 40 → ∀ g, rx_g (bk_B j []).1 g → (∀ i : Nat, i < 40 → (i : Int) < g.getD 336 0 → rx_f g (bk_F i)) → GG (bk_B j []) g := by
    intro n
    induction n with
    | zero =>
      intro j hj g hg _
      have b := rx_gb hg (k := 336) (lo := (j : Int) + 1) (hi := 40) rfl
      omega
    | succ n ih =>
      intro j hj g hg hq
      have b := rx_gb hg (k := 336) (lo := (j : Int) + 1) (hi := 40) rfl
      have hl : g.length = 343 := by rw [hg.1.1]; exact bk_nB j
      have hF := hq j (by omega) (by omega)
      have hg' : rx_g (bk_B j [bk_F j]).1 g := ⟨hg.1, fun f hf => by
        cases List.mem_singleton.mp hf
        exact hF⟩
      refine (RR [] rx_oknil).2.1 (bk_B j []) g (bk_B j [bk_F j]).1 hg' ?_
      obtain ⟨KT, hKT, hleg⟩ := bk_ball j (by omega)
      refine rx_leg2_ok (A := bk_B j [bk_F j]) (RR KT hKT) hleg hg' fun t ht g2 hg2 hE => ?_
      unfold bk_tB at ht
      simp only [List.mem_cons, List.not_mem_nil, or_false] at ht
      rcases ht with rfl | rfl
      · refine ⟨fun _ => ih (j + 1) (by omega) g2 hg2 fun i hi hlt => ?_, fun q => absurd (show (85 : Nat) = 0 from q) (by decide)⟩
        have hl2 : g2.length = 343 := by rw [hg2.1.1]; exact bk_nB (j + 1)
        have eM := (hE.1 336 _ (by omega) (bk_lB (by omega))).trans bk_vl
        have e0 := (hE.1 (256 + 2 * i) _ (by omega) (bk_lB (by omega))).trans bk_vl
        have e1 := (hE.1 (256 + 2 * i + 1) _ (by omega) (bk_lB (by omega))).trans bk_vl
        exact bk_tr (by omega) (by omega) hi e0 e1 (hq i hi (by omega))
      · exact ⟨fun _ => hX g2 hg2, fun q => absurd (show (103 : Nat) = 0 from q) (by decide)⟩
  have hE0 : ∀ (c : Nat) (g : List Int), c ≤ 40 → g.length = 343 → (∀ i, i < c → rx_f g (bk_F i)) → ∀ t ∈ bk_tE c, ∀ g2, rx_g t.1.1 g2 → rx_EP g g2 t.2.2.1 t.2.2.2 → (t.1.2.2.2.1 ∈ [30, 85, 103] → GG t.1 g2) ∧ (t.1.2.2.2.1 = 0 → ∃ sy' : rx_Y, (sy', t.1.2) ∈ rc_m95_k.2.2.2 ∧ rx_g sy' g2) := by
    intro c g hc hl hq t ht g2 hg2 hE
    unfold bk_tE at ht
    simp only [List.mem_cons, List.not_mem_nil, or_false] at ht
    rcases ht with rfl | rfl | rfl
    · refine ⟨fun _ => hB 40 0 rfl g2 hg2 fun i hi hlt => ?_, fun q => absurd (show (85 : Nat) = 0 from q) (by decide)⟩
      have hl2 : g2.length = 343 := by rw [hg2.1.1]; exact bk_nB 0
      have eM : g2.getD 336 0 = (c : Int) := hE.1 336 (0, (c : Int)) (by omega) rfl
      have e0 := (hE.1 (256 + 2 * i) _ (by omega) (bk_lE (by omega))).trans bk_vl
      have e1 := (hE.1 (256 + 2 * i + 1) _ (by omega) (bk_lE (by omega))).trans bk_vl
      exact bk_tr (by omega) (by omega) hi e0 e1 (hq i (by omega))
    · exact ⟨fun _ => hX g2 hg2, fun q => absurd (show (103 : Nat) = 0 from q) (by decide)⟩
    · exact bk_oo hg2
  have hA : ∀ (n c : Nat), c + n = 40 → ∀ g, rx_g (bk_A c []).1 g → (∀ i, i < c → rx_f g (bk_F i)) → GG (bk_A c []) g := by
    intro n
    induction n with
    | zero =>
      intro c hc g hg hq
      have hl : g.length = 343 := by rw [hg.1.1]; exact bk_nA
      obtain rfl : c = 40 := by omega
      exact rx_leg2_ok (A := bk_A 40 []) (RR _ (rx_okcons rc_m9240_ok (rx_okcons rc_m60_ok rx_oknil))) bk_a40 hg (hE0 40 g (by omega) hl hq)
    | succ n ih =>
      intro c hc g hg hq
      have hl : g.length = 343 := by rw [hg.1.1]; exact bk_nA
      obtain ⟨KT, hKT, hleg⟩ := bk_aall c (by omega)
      refine rx_leg2_ok (A := bk_A c []) (RR KT hKT) hleg hg fun t ht g2 hg2 hE => ?_
      unfold bk_tA at ht
      rcases List.mem_cons.mp ht with rfl | ht
      · refine ⟨fun _ => ?_, fun q => absurd (show (30 : Nat) = 0 from q) (by decide)⟩
        have hl2 : g2.length = 343 := by rw [hg2.1.1]; exact bk_nA
        have hg3 : rx_g (bk_A (c + 1) []).1 g2 := ⟨hg2.1, fun f hf => by cases hf⟩
        refine (RR [] rx_oknil).2.1 (bk_A (c + 1) [bk_F c]) g2 (bk_A (c + 1) []).1 hg3 (ih (c + 1) (by omega) g2 hg3 fun i hi => ?_)
        by_cases hic : i = c
        · rw [hic]
          exact hg2.2 (bk_F c) (List.mem_singleton.mpr rfl)
        · have e0 := (hE.1 (256 + 2 * i) _ (by omega) (bk_lA (by omega) (by omega))).trans bk_vl
          have e1 := (hE.1 (256 + 2 * i + 1) _ (by omega) (bk_lA (by omega) (by omega))).trans bk_vl
          exact bk_tr (by omega) (by omega) (by omega) e0 e1 (hq i (by omega))
      · exact hE0 c g (by omega) hl hq t ht g2 hg2 hE
  refine rx_leg2_ok (RR [rc_m11_k] (rx_okcons rc_m11_ok rx_oknil)) bk_e hg0 fun t ht g2 hg2 hE => ?_
  simp only [List.mem_cons, List.not_mem_nil, or_false] at ht
  rcases ht with rfl | rfl
  · exact ⟨fun _ => hA 40 0 rfl g2 hg2 fun i hi => absurd hi (Nat.not_lt_zero i), fun q => absurd (show (30 : Nat) = 0 from q) (by decide)⟩
  · exact bk_oo hg2
