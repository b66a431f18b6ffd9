/-! ===== narrower bounds; all values of a box ===== -/
noncomputable def rx_nar (T : rx_T) (xs : List (Nat × Int × Int)) : rx_T := ((xs.foldl (fun b x => rx_setR b x.1 (x.2.1, x.2.2) (fun l => l)) T.1.1, T.1.2), T.2)
theorem rx_getD_at {g : List Int} {k : Nat} (h : k < g.length) : g.getD k 0 = g[k] := by
  rw [List.getD_eq_getElem?_getD, List.getElem?_eq_getElem h]
  rfl
theorem rx_nar_ok {T : rx_T} {g : List Int} (xs : List (Nat × Int × Int)) (hG : rx_g T.1 g) (h : ∀ x ∈ xs, x.2.1 ≤ g.getD x.1 0 ∧ g.getD x.1 0 ≤ x.2.2) : rx_g (rx_nar T xs).1 g := by
  obtain ⟨⟨b, f⟩, T2⟩ := T
  show rx_g (xs.foldl (fun b x => rx_setR b x.1 (x.2.1, x.2.2) (fun l => l)) b, f) g
  dsimp only at hG
  induction xs generalizing b with
  | nil => exact hG
  | cons x xs ih =>
    rw [List.foldl_cons]
    refine ih (fun y hy => h y (List.mem_cons_of_mem _ hy)) _ ?_
    rw [rx_setR_eq]
    have hx := h x List.mem_cons_self
    rcases Nat.lt_or_ge x.1 g.length with q | q
    · rw [rx_getD_at q] at hx
      exact rx_g.set (sy := (b, f)) (q := (x.2.1, x.2.2)) hG (List.getElem?_eq_getElem q) hx.1 hx.2
    · rw [List.set_eq_of_length_le (by have := hG.1.1; dsimp only at this; omega)]
      exact hG
/-- a symbol's bounds -/
theorem rx_gb {sy : rx_Y} {g : List Int} (h : rx_g sy g) {k : Nat} {lo hi : Int} (e : rx_nth sy.1 k = some (lo, hi)) : lo ≤ g.getD k 0 ∧ g.getD k 0 ≤ hi := by
  rw [rx_nth_eq] at e
  have hk : k < g.length := by rw [h.1.1]; exact (List.getElem?_eq_some_iff.mp e).1
  rw [rx_getD_at hk]
  exact h.1.2 k g[k] (lo, hi) (List.getElem?_eq_getElem hk) e
theorem rx_EP_id {g g2 : List Int} {pos : List (List (Int × Nat) × Int)} (h : rx_EP g g2 (some []) pos) (hl : g2.length = g.length) : g2 = g := by
  apply List.ext_getElem hl
  intro k h1 h2
  have := h.1 k (k + 1, 0) h1 rfl
  rw [rx_getD_at h1] at this
  rw [this]
  show g.getD k 0 + 0 = g[k]
  rw [rx_getD_at h2]
  omega
/-! ===== legs whose ends have their own number of names that stay ===== -/
noncomputable def rx_legW (na n0 nA : Nat) (M : rx_Md) (stop : Bool) (T : rx_T) (t : rx_Le) : Bool := rx_legT na n0 (rx_lenR t.1.1.1 - rx_lenR t.2.1) nA M stop T t
noncomputable def rx_leg2 (KT : List rx_KE) (d : Nat) (M : rx_Md) (na n0 : Nat) (stops : List Nat) (fuel : Nat) (A : rx_T) (ts : List rx_Le) : Bool := match rx_run1 KT d M stops fuel A with
  | none => false
  | some L => rx_allR (fun T => ts.any (fun t => rx_legW na n0 (rx_lenR A.1.1) M (rx_isin stops T.2.2.2.1) T t)) L
theorem rx_leg2_ok {KT : List rx_KE} {d : Nat} {M : rx_Md} {na n0 : Nat} {outs : List rx_T} {GG : rx_T → List Int → Prop} (R : rx_Rl KT d M na n0 outs GG) {stops : List Nat} {fuel : Nat} {A : rx_T} {ts : List rx_Le} (h : rx_leg2 KT d M na n0 stops fuel A ts = true) {g : List Int} (hg : rx_g A.1 g)
    (H : ∀ t ∈ ts, ∀ g2, rx_g t.1.1 g2 → rx_EP g g2 t.2.2.1 t.2.2.2 → (t.1.2.2.2.1 ∈ stops → GG t.1 g2) ∧ (t.1.2.2.2.1 = 0 → ∃ sy' : rx_Y, (sy', t.1.2) ∈ outs ∧ rx_g sy' g2)) : GG A g := by
  unfold rx_leg2 at h
  split at h
  · cases h
  · rename_i L hL
    rw [rx_lenR_eq] at h
    have h := rx_allR_ok h
    refine R.1 stops fuel A g L hL fun T hT hse g' hle hG' => ?_
    obtain ⟨t, ht, h1⟩ := List.any_eq_true.mp (h T hT)
    have hn : g.length = A.1.1.length := hg.1.1
    unfold rx_legW at h1
    generalize rx_lenR t.1.1.1 - rx_lenR t.2.1 = m at h1
    cases hst : rx_isin stops T.2.2.2.1 with
    | true =>
      rw [hst] at h1
      unfold rx_legT at h1
      dsimp only at h1
      split at h1
      · rename_i hb
        simp only [Bool.and_eq_true] at hb
        obtain ⟨tt, hna, hn0, hE, hsub⟩ := rx_legU_ok h1
        have hpc := Nat.eq_of_beq_eq_true hb.1
        refine R.2.2.1 T t.1 m tt g' hpc (Nat.le_of_ble_eq_true hb.2.1) (Nat.le_of_ble_eq_true hb.2.2) hsub hna hn0 fun g2 hTh hG2 => ?_
        refine (H t ht g2 hG2 (rx_EB_ok hE hn hle hG' hTh)).1 ?_
        rw [← hpc]
        exact rx_isin_ok.mp hst
      · cases h1
    | false =>
      rw [hst] at h1
      unfold rx_legT at h1
      dsimp only at h1
      split at h1
      · rename_i hb
        simp only [Bool.and_eq_true] at hb
        obtain ⟨tt, hna, hn0, hE, hsub⟩ := rx_legU_ok h1
        have hend : rx_ends M T = true := by
          rcases hse with q | q
          · rw [hst] at q; cases q
          · exact q
        have hlc : t.1.2.2.2.2.1 = [] := by
          have := hb.2.2
          unfold rx_isnil at this
          split at this
          · rename_i e; exact e
          · cases this
        refine R.2.2.2.1 T t.1 m tt g' hend (Nat.le_of_ble_eq_true hb.2.1.1) (Nat.le_of_ble_eq_true hb.2.1.2) hlc hsub hna hn0 fun g2 hTh hG2 => ?_
        exact (H t ht g2 hG2 (rx_EB_ok hE hn hle hG' hTh)).2 (Nat.eq_of_beq_eq_true hb.1).symm
      · cases h1
/-- a row of states, each a leg from the next: what a loop with a known count does -/
theorem rx_chain {KT : List rx_KE} {d : Nat} {M : rx_Md} {na n0 : Nat} {outs : List rx_T} {GG : rx_T → List Int → Prop} (R : rx_Rl KT d M na n0 outs GG) {S : Nat → rx_T} {sy : rx_Y} {pc fuel n : Nat} (hsy : ∀ i, (S i).1 = sy) (hpc : ∀ i, (S i).2.2.2.1 = pc) (hp0 : pc ≠ 0) (h : ∀ i, i < n → rx_leg2 KT d M na n0 [pc] fuel (S i) [(S (i + 1), [], some [], [])] = true) {g : List Int} (hg : rx_g sy g) (hn : GG (S n) g) : GG (S 0) g := by
  have key : ∀ j, j ≤ n → GG (S (n - j)) g := by
    intro j
    induction j with
    | zero => exact fun _ => hn
    | succ j ih =>
      intro hj
      have e : n - j = n - (j + 1) + 1 := by omega
      refine rx_leg2_ok R (h (n - (j + 1)) (by omega)) (by rw [hsy]; exact hg) fun t ht g2 hg2 hE => ?_
      cases List.mem_singleton.mp ht
      dsimp only at hg2 hE
      rw [hsy] at hg2
      have e2 : g2 = g := rx_EP_id hE (by rw [hg2.1.1, hg.1.1])
      subst e2
      exact ⟨fun _ => by rw [← e]; exact ih (by omega), fun q => absurd ((hpc _).symm.trans q) hp0⟩
  have := key n (Nat.le_refl n)
  rw [Nat.sub_self] at this
  exact this
