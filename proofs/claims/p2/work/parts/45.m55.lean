theorem ca_all {f : Nat → Nat → Bool} {n : Nat} (h0 : (List.range n).all (f 0) = true) (h1 : (List.range n).all (f 1) = true) (h2 : (List.range n).all (f 2) = true) (h3 : (List.range n).all (f 3) = true) (h4 : (List.range n).all (f 4) = true) (h5 : (List.range n).all (f 5) = true) {l t : Nat} (hl : l < 6) (ht : t < n) : f l t = true := by
  have h6 : l = 0 ∨ l = 1 ∨ l = 2 ∨ l = 3 ∨ l = 4 ∨ l = 5 := by omega
  rcases h6 with rfl | rfl | rfl | rfl | rfl | rfl
  · exact List.all_eq_true.mp h0 t (List.mem_range.mpr ht)
  · exact List.all_eq_true.mp h1 t (List.mem_range.mpr ht)
  · exact List.all_eq_true.mp h2 t (List.mem_range.mpr ht)
  · exact List.all_eq_true.mp h3 t (List.mem_range.mpr ht)
  · exact List.all_eq_true.mp h4 t (List.mem_range.mpr ht)
  · exact List.all_eq_true.mp h5 t (List.mem_range.mpr ht)
theorem ca_out {g : List Int} (h : rx_g ca_O.1 g) : ∃ sy' : rx_Y, (sy', ca_O.2) ∈ rc_m66_k.2.2.2 ∧ rx_g sy' g := ⟨ca_O.1, List.mem_singleton.mpr rfl, h⟩
theorem rc_m66_ok : rx_OK rc_m66_k := by
  refine rx_okP (KT := ca_KT) (fl := []) ca_KTok rfl rfl fun GG R g0 hg0 => ?_
  have loop : ∀ (n : Nat) (g : List Int), rx_g ca_S.1 g → (256 - g.getD (178 + 1) 0).toNat < n → GG ca_S g := by
    intro n
    induction n with
    | zero => exact fun g _ h => absurd h (Nat.not_lt_zero _)
    | succ n ih =>
      intro g hg hn
      have bI := rx_gb hg (k := 178 + 1) (lo := 0) (hi := 255) rfl
      have bW := rx_gb hg (k := 178) (lo := 0) (hi := 63) rfl
      have bL := rx_gb hg (k := 176) (lo := 0) (hi := 5) rfl
      obtain ⟨l, hl⟩ : ∃ l : Nat, (l : Int) = g.getD 176 0 := ⟨(g.getD 176 0).toNat, by omega⟩
      have hl6 : l < 6 := by omega
      have bD : 0 ≤ g.getD (19 + l) 0 ∧ g.getD (19 + l) 0 ≤ 63 := by
        have h6 : l = 0 ∨ l = 1 ∨ l = 2 ∨ l = 3 ∨ l = 4 ∨ l = 5 := by omega
        rcases h6 with rfl | rfl | rfl | rfl | rfl | rfl <;> exact rx_gb hg rfl
      have next : ∀ A : rx_T, rx_g A.1 g → ca_lg A ca_t1 = true → GG A g := by
        intro A hA hleg
        refine rx_leg2_ok R hleg hA fun t ht g2 hg2 hE => ?_
        unfold ca_t1 at ht
        simp only [List.mem_cons, List.not_mem_nil, or_false] at ht
        rcases ht with rfl | rfl
        · refine ⟨fun _ => ?_, fun q => absurd (show (6 : Nat) = 0 from q) (by decide)⟩
          have hlg : g2.length = 178 + 2 := by rw [hg2.1.1]; exact ca_nS
          have eI := hE.1 (178 + 1) (178 + 2, 1) (by omega) rfl
          have eI : g2.getD (178 + 1) 0 = g.getD (178 + 1) 0 + 1 := eI
          exact ih g2 hg2 (by omega)
        · exact ⟨fun q => absurd (show (0 : Nat) ∈ [6] from q) (by decide), fun _ => ca_out hg2⟩
      rcases Int.lt_or_le (g.getD 178 0) (g.getD (19 + l) 0) with q | q
      · obtain ⟨t, ht⟩ : ∃ t : Nat, (t : Int) = g.getD 178 0 := ⟨(g.getD 178 0).toNat, by omega⟩
        have hleg := ca_all (f := ca_g1) ca_l1_0 ca_l1_1 ca_l1_2 ca_l1_3 ca_l1_4 ca_l1_5 hl6 (show t < 63 by omega)
        unfold ca_g1 at hleg
        have hn1 := rx_nar_ok (T := ca_S) [(176, (l : Int), (l : Int)), (178, 0, (t : Int)), (19 + l, (t : Int) + 1, 63)] hg (fun x hx => by
          simp only [List.mem_cons, List.not_mem_nil, or_false] at hx
          rcases hx with rfl | rfl | rfl <;> dsimp only <;> omega)
        exact R.2.1 ca_S g _ hn1 (next _ hn1 hleg)
      · rcases Int.lt_or_le (g.getD (19 + l) 0) (g.getD 178 0) with q2 | q2
        · obtain ⟨t, ht⟩ : ∃ t : Nat, (t : Int) = g.getD (19 + l) 0 := ⟨(g.getD (19 + l) 0).toNat, by omega⟩
          have hleg := ca_all (f := ca_g2) ca_l2_0 ca_l2_1 ca_l2_2 ca_l2_3 ca_l2_4 ca_l2_5 hl6 (show t < 63 by omega)
          unfold ca_g2 at hleg
          have hn1 := rx_nar_ok (T := ca_S) [(176, (l : Int), (l : Int)), (178, (t : Int) + 1, 63), (19 + l, 0, (t : Int))] hg (fun x hx => by
            simp only [List.mem_cons, List.not_mem_nil, or_false] at hx
            rcases hx with rfl | rfl | rfl <;> dsimp only <;> omega)
          exact R.2.1 ca_S g _ hn1 (next _ hn1 hleg)
        · obtain ⟨t, ht⟩ : ∃ t : Nat, (t : Int) = g.getD 178 0 := ⟨(g.getD 178 0).toNat, by omega⟩
          have hleg := ca_all (f := ca_g3) ca_l3_0 ca_l3_1 ca_l3_2 ca_l3_3 ca_l3_4 ca_l3_5 hl6 (show t < 64 by omega)
          unfold ca_g3 at hleg
          have hn1 := rx_nar_ok (T := ca_S) [(176, (l : Int), (l : Int)), (178, (t : Int), (t : Int)), (19 + l, (t : Int), (t : Int))] hg (fun x hx => by
            simp only [List.mem_cons, List.not_mem_nil, or_false] at hx
            rcases hx with rfl | rfl | rfl <;> dsimp only <;> omega)
          refine R.2.1 ca_S g _ hn1 ?_
          refine rx_leg2_ok R hleg hn1 fun t ht g2 hg2 hE => ?_
          unfold ca_t3 at ht
          cases List.mem_singleton.mp ht
          exact ⟨fun q => absurd (show (0 : Nat) ∈ [6] from q) (by decide), fun _ => ca_out hg2⟩
  refine rx_leg2_ok R ca_l0 hg0 fun t ht g2 hg2 hE => ?_
  unfold ca_t0 at ht
  cases List.mem_singleton.mp ht
  exact ⟨fun _ => loop _ g2 hg2 (Nat.lt_succ_self _), fun q => absurd (show (6 : Nat) = 0 from q) (by decide)⟩
