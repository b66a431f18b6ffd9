/-! ===== legs whose ends have their own number of names that stay ===== -/
noncomputable def rx_legW (na n0 nA : Nat) (M : rx_Md) (stop : Bool) (T : rx_T) (t : rx_Le) : Bool := rx_legT na n0 (rx_lenR t.1.1.1 - rx_lenR t.2.1) nA M stop T t
noncomputable def rx_leg2 (KT : List rx_KE) (d : Nat) (M : rx_Md) (na n0 : Nat) (stops : List Nat) (fuel : Nat) (A : rx_T) (ts : List rx_Le) : Bool := match rx_run1 KT d M stops fuel A with
  | none => false
  | some L => rx_allR (fun T => ts.any (fun t => rx_legW na n0 (rx_lenR A.1.1) M (rx_isin stops T.2.2.2.1) T t)) L
theorem rx_leg2_ok {KT : List rx_KE} {d : Nat} {M : rx_Md} {na n0 : Nat} {outs : List rx_T} {GG : rx_T → List Int → Prop} (R : rx_Rl KT d M na n0 outs GG) {stops : List Nat} {fuel : Nat} {A : rx_T} {ts : List rx_Le} (h : rx_leg2 KT d M na n0 stops fuel A ts = true) {g : List Int} (hg : rx_g A.1 g)
    (H : ∀ t ∈ ts, ∀ g2, rx_g t.1.1 g2 → rx_EP g g2 t.2.2.1 t.2.2.2 → (t.1.2.2.2.1 ∈ stops → GG t.1 g2) ∧ (t.1.2.2.2.1 = 0 → ∃ sy' : rx_Y, (sy', t.1.2) ∈ outs ∧ rx_g sy' g2)) : GG A g := by
  unfold rx_leg2 at h
  split at h
  · cases h
  · rename_i L hL
    rw [rx_lenR_eq] at h
    have h := rx_allR_ok h
    refine R.1 stops fuel A g L hL fun T hT hse g' hle hG' => ?_
    obtain ⟨t, ht, h1⟩ := List.any_eq_true.mp (h T hT)
    have hn : g.length = A.1.1.length := hg.1.1
    unfold rx_legW at h1
    generalize rx_lenR t.1.1.1 - rx_lenR t.2.1 = m at h1
    cases hst : rx_isin stops T.2.2.2.1 with
    | true =>
      rw [hst] at h1
      unfold rx_legT at h1
      dsimp only at h1
      split at h1
      · rename_i hb
        simp only [Bool.and_eq_true] at hb
        obtain ⟨tt, hna, hn0, hE, hsub⟩ := rx_legU_ok h1
        have hpc := Nat.eq_of_beq_eq_true hb.1
        refine R.2.2.1 T t.1 m tt g' hpc (Nat.le_of_ble_eq_true hb.2.1) (Nat.le_of_ble_eq_true hb.2.2) hsub hna hn0 fun g2 hTh hG2 => ?_
        refine (H t ht g2 hG2 (rx_EB_ok hE hn hle hG' hTh)).1 ?_
        rw [← hpc]
        exact rx_isin_ok.mp hst
      · cases h1
    | false =>
      rw [hst] at h1
      unfold rx_legT at h1
      dsimp only at h1
      split at h1
      · rename_i hb
        simp only [Bool.and_eq_true] at hb
        obtain ⟨tt, hna, hn0, hE, hsub⟩ := rx_legU_ok h1
        have hend : rx_ends M T = true := by
          rcases hse with q | q
          · rw [hst] at q; cases q
          · exact q
        have hlc : t.1.2.2.2.2.1 = [] := by
          have := hb.2.2
          unfold rx_isnil at this
          split at this
          · rename_i e; exact e
          · cases this
        refine R.2.2.2.1 T t.1 m tt g' hend (Nat.le_of_ble_eq_true hb.2.1.1) (Nat.le_of_ble_eq_true hb.2.1.2) hlc hsub hna hn0 fun g2 hTh hG2 => ?_
        exact (H t ht g2 hG2 (rx_EB_ok hE hn hle hG' hTh)).2 (Nat.eq_of_beq_eq_true hb.1).symm
      · cases h1
def bf_c (f : Nat → Int) (A B : Nat → Nat) (O : Nat → Bool) (k r : Nat) : Prop := O k = true ∧ ((A k = r ∧ f (B k) = f r - 1) ∨ (A k ≠ r ∧ B k = r ∧ f (A k) = f r - 1))
