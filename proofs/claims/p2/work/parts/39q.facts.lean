/-! ===== bounds by facts that speak of the same symbols ===== -/
noncomputable def rp_any (p : rx_F → Bool) (l : List rx_F) : Bool := @List.rec rx_F (fun _ => Bool) false (fun F _ ih => match p F with
  | true => true
  | false => ih) l
theorem rp_any_ok {p : rx_F → Bool} {l : List rx_F} (h : rp_any p l = true) : ∃ F, F ∈ l ∧ p F = true := by
  induction l with
  | nil => cases h
  | cons F l ih =>
    have h : (match p F with | true => true | false => rp_any p l) = true := h
    split at h
    · rename_i hb
      exact ⟨F, List.mem_cons_self, hb⟩
    · obtain ⟨E, h1, h2⟩ := ih h
      exact ⟨E, List.mem_cons_of_mem _ h1, h2⟩
noncomputable def rp_in (k : Nat) (l : List (Int × Nat)) : Bool := @List.rec (Int × Nat) (fun _ => Bool) false (fun t _ ih => match Nat.beq t.2 k with
  | true => true
  | false => ih) l
noncomputable def rp_rel (l m : List (Int × Nat)) : Bool := match l with
  | [] => true
  | _ :: _ => @List.rec (Int × Nat) (fun _ => Bool) false (fun t _ ih => match rp_in t.2 l with
    | true => true
    | false => ih) m
noncomputable def rp_f1 (sy : rx_Y) (G : Option (Nat × Int)) (l : List (Int × Nat)) (c : Int) (F : rx_F) : Bool := match rp_rel l F.2.1 with
  | true => rx_ap sy G F && rx_ps0 sy (l ++ rx_ngt F.2.1) (c - F.2.2)
  | false => false
noncomputable def rp_f2 (sy : rx_Y) (G : Option (Nat × Int)) (l : List (Int × Nat)) (c : Int) (F : rx_F) : Bool := match rp_rel l F.2.1 with
  | true => rx_ap sy G F && rp_any (rp_f1 sy G (l ++ rx_ngt F.2.1) (c - F.2.2)) sy.2
  | false => false
noncomputable def rp_pos (sy : rx_Y) (G : Option (Nat × Int)) (l : List (Int × Nat)) (c : Int) : Bool := match rx_ps0 sy l c with
  | true => true
  | false => match rp_any (rp_f1 sy G l c) sy.2 with
    | true => true
    | false => rp_any (rp_f2 sy G l c) sy.2
theorem rp_f1_ok {sy : rx_Y} {g : List Int} (hG : rx_g sy g) {G : Option (Nat × Int)} (hg : ∀ p, G = some p → ∀ y, g[p.1]? = some y → y ≤ p.2) {l : List (Int × Nat)} {c z : Int} (h : rp_any (rp_f1 sy G l c) sy.2 = true) (hz : rx_lin g l z) : 0 ≤ z + c := by
  obtain ⟨F, hF, h2⟩ := rp_any_ok h
  unfold rp_f1 at h2
  split at h2
  · rw [Bool.and_eq_true] at h2
    obtain ⟨zf, h3, h4⟩ := rx_ap_ok hG hg h2.1 (hG.2 F hF)
    have := rx_ps0_ok hG h2.2 (rx_lin.app (rx_ngt_ok h3) hz)
    omega
  · cases h2
theorem rp_pos_ok {sy : rx_Y} {g : List Int} (hG : rx_g sy g) {G : Option (Nat × Int)} (hg : ∀ p, G = some p → ∀ y, g[p.1]? = some y → y ≤ p.2) {l : List (Int × Nat)} {c z : Int} (h : rp_pos sy G l c = true) (hz : rx_lin g l z) : 0 ≤ z + c := by
  unfold rp_pos at h
  split at h
  · rename_i h1
    exact rx_ps0_ok hG h1 hz
  · split at h
    · rename_i h1
      exact rp_f1_ok hG hg h1 hz
    · obtain ⟨F, hF, h2⟩ := rp_any_ok h
      unfold rp_f2 at h2
      split at h2
      · rw [Bool.and_eq_true] at h2
        obtain ⟨zf, h3, h4⟩ := rx_ap_ok hG hg h2.1 (hG.2 F hF)
        have := rp_f1_ok hG hg h2.2 (rx_lin.app (rx_ngt_ok h3) hz)
        omega
      · cases h2

/-- a fact that is asked for -/
noncomputable def rp_fO1 (sy : rx_Y) (th : List rx_I) (f : rx_F) : Bool := match rx_rT th f.2.1 with
  | none => false
  | some r => match f.1 with
    | [] => rp_pos sy none r.1 (r.2 + f.2.2)
    | q :: l => match l with
      | [] => match rx_nth th q.1 with
        | some (0, c) => match rx_ile c q.2 with
          | true => rp_pos sy none r.1 (r.2 + f.2.2)
          | false => true
        | some (k + 1, c) => match rx_ile (rx_iv sy (k + 1, c)).1 q.2 with
          | true => rp_pos sy (some (k, q.2 - c)) r.1 (r.2 + f.2.2)
          | false => true
        | none => false
      | _ :: _ => false
theorem rp_fO1_ok {sy : rx_Y} {th : List rx_I} {g g0 : List Int} (hG : rx_g sy g) (hT : rx_Th th g g0) {f : rx_F} (h : rp_fO1 sy th f = true) : rx_f g0 f := by
  intro hq
  unfold rp_fO1 at h
  split at h
  · cases h
  · rename_i r hr
    obtain ⟨z0, z, h1, h2, h3⟩ := rx_rT_ok hT hr
    refine ⟨z0, h1, ?_⟩
    have nn : ∀ p : Nat × Int, (none : Option (Nat × Int)) = some p → ∀ y, g[p.1]? = some y → y ≤ p.2 := fun p hp => by cases hp
    split at h
    · have := rp_pos_ok hG nn h h2
      omega
    · rename_i q l he
      split at h
      · have hq1 := hq q (by rw [he]; exact List.mem_singleton.mpr rfl)
        rw [rx_nth_eq] at h
        split at h
        · rename_i c hc
          have hl : q.1 < g0.length := by rw [hT.1]; exact (List.getElem?_eq_some_iff.mp hc).1
          have h4 : g0[q.1]? = some g0[q.1] := List.getElem?_eq_getElem hl
          obtain ⟨q', h5, h6⟩ := hT.2 _ _ h4
          rw [hc] at h5
          cases h5
          have h6 : g0[q.1] = c := h6
          have h7 := hq1 _ h4
          split at h
          · have := rp_pos_ok hG nn h h2
            omega
          · rename_i hb
            have := rx_ile_f hb
            omega
        · rename_i k c hc
          have hl : q.1 < g0.length := by rw [hT.1]; exact (List.getElem?_eq_some_iff.mp hc).1
          have h4 : g0[q.1]? = some g0[q.1] := List.getElem?_eq_getElem hl
          obtain ⟨q', h5, h6⟩ := hT.2 _ _ h4
          rw [hc] at h5
          cases h5
          have h7 := hq1 _ h4
          have h9 : (rx_iv sy (k + 1, c)).1 ≤ g0[q.1] ∧ g0[q.1] ≤ (rx_iv sy (k + 1, c)).2 := rx_iv_ok hG h6
          obtain ⟨y, h10, h11⟩ := h6
          split at h
          · have := rp_pos_ok hG (G := some (k, q.2 - c)) (fun p hp y' hy' => by
              cases hp
              dsimp only at hy' ⊢
              rw [h10] at hy'
              cases hy'
              omega) h h2
            omega
          · rename_i hb
            have := rx_ile_f hb
            omega
        · cases h
      · cases h
noncomputable def rp_fOK (sy : rx_Y) (th : List rx_I) (f : rx_F) : Bool := match rp_fO1 sy th f with
  | true => true
  | false => rx_fOK sy th f
theorem rp_fOK_ok {sy : rx_Y} {th : List rx_I} {g g0 : List Int} (hG : rx_g sy g) (hT : rx_Th th g g0) {f : rx_F} (h : rp_fOK sy th f = true) : rx_f g0 f := by
  unfold rp_fOK at h
  split at h
  · rename_i hb
    exact rp_fO1_ok hG hT hb
  · exact rx_fOK_ok hG hT h

noncomputable def rp_g1 (sy : rx_Y) (k : Nat) (e c : Int) (F : rx_F) : Bool := match rp_in k F.2.1 with
  | true => rx_ap sy none F && rx_z (rx_cf k F.2.1) (fun m => rx_ps0 sy ((m * e, k) :: rx_ngt F.2.1) (m * c + (m - 1) - F.2.2))
  | false => false
noncomputable def rp_pos1 (sy : rx_Y) (k : Nat) (e : Int) (c : Int) : Bool := rp_any (rp_g1 sy k e c) sy.2
theorem rp_pos1_ok {sy : rx_Y} {g : List Int} (hG : rx_g sy g) {k : Nat} {e c y : Int} (h : rp_pos1 sy k e c = true) (hy : g[k]? = some y) : 0 ≤ e * y + c := by
  unfold rp_pos1 at h
  obtain ⟨F, hF, h2⟩ := rp_any_ok h
  unfold rp_g1 at h2
  split at h2
  · rw [Bool.and_eq_true, rx_z_eq] at h2
    obtain ⟨zf, h3, h4⟩ := rx_ap_ok hG (fun p hp => by cases hp) h2.1 (hG.2 F hF)
    have hm := rx_cf_ok k F.2.1
    have h5 := rx_ps0_ok hG h2.2 (z := rx_cf k F.2.1 * e * y + -zf) ⟨y, -zf, hy, rx_ngt_ok h3, rfl⟩
    generalize rx_cf k F.2.1 = m at hm h5
    rcases Int.lt_or_le (e * y + c) 0 with h6 | h6
    · have h7 : m * (e * y + c) ≤ m * (-1) := Int.mul_le_mul_of_nonneg_left (by omega) (by omega)
      rw [Int.mul_add, ← Int.mul_assoc] at h7
      omega
    · exact h6
  · cases h2
noncomputable def rp_pos2 (sy : rx_Y) (q : rx_I) (e c : Int) : Bool := match q.1 with
  | 0 => false
  | k + 1 => rp_pos1 sy k e c
/-- a value between two numbers: by its bounds, or by a fact -/
noncomputable def rp_inr (sy : rx_Y) (q : rx_I) (lo hi : Int) : Bool := (match rx_ile lo (rx_iv sy q).1 with
  | true => true
  | false => rp_pos2 sy q 1 (q.2 - lo)) && (match rx_ile (rx_iv sy q).2 hi with
  | true => true
  | false => rp_pos2 sy q (-1) (hi - q.2))
theorem rp_pos2_ok {sy : rx_Y} {g : List Int} (hG : rx_g sy g) {q : rx_I} {e c z : Int} (h : rp_pos2 sy q e c = true) (hz : rx_ev g q z) : 0 ≤ e * (z - q.2) + c := by
  obtain ⟨k, d⟩ := q
  cases k with
  | zero => cases h
  | succ k =>
    obtain ⟨y, h1, h2⟩ := hz
    have h3 := rp_pos1_ok hG h h1
    have e1 : z - d = y := by omega
    dsimp only
    rw [e1]
    exact h3
theorem rp_inr_ok {sy : rx_Y} {g : List Int} (hG : rx_g sy g) {q : rx_I} {lo hi z : Int} (h : rp_inr sy q lo hi = true) (hz : rx_ev g q z) : lo ≤ z ∧ z ≤ hi := by
  unfold rp_inr at h
  rw [Bool.and_eq_true] at h
  have i1 := rx_iv_ok hG hz
  obtain ⟨h1, h2⟩ := h
  constructor
  · split at h1
    · rename_i hb
      have := (rx_ile_iff _ _).mp hb
      omega
    · have := rp_pos2_ok hG h1 hz
      omega
  · split at h2
    · rename_i hb
      have := (rx_ile_iff _ _).mp hb
      omega
    · have := rp_pos2_ok hG h2 hz
      omega
noncomputable def rp_bnd (sy : rx_Y) (th : List rx_I) : List (Int × Int) → Bool := @List.rec rx_I (fun _ => List (Int × Int) → Bool) (fun l => match l with
  | [] => true
  | _ :: _ => false) (fun q _ ih l => match l with
  | [] => false
  | r :: t => (Nat.ble q.1 (rx_lenR sy.1) && rp_inr sy q r.1 r.2) && ih t) th
theorem rp_bnd_ok {sy : rx_Y} {g : List Int} (hG : rx_g sy g) {th : List rx_I} : ∀ {l : List (Int × Int)}, rp_bnd sy th l = true → ∃ g0, rx_Th th g g0 ∧ rx_g1 l g0 := by
  induction th with
  | nil =>
    intro l h
    cases l with
    | nil => exact ⟨[], ⟨rfl, fun j z h => by simp at h⟩, rfl, fun j z q h => by simp at h⟩
    | cons r l => cases h
  | cons q th ih =>
    intro l h
    cases l with
    | nil => cases h
    | cons r l =>
      have h : ((Nat.ble q.1 (rx_lenR sy.1) && rp_inr sy q r.1 r.2) && rp_bnd sy th l) = true := h
      rw [Bool.and_eq_true, Bool.and_eq_true, rx_lenR_eq] at h
      obtain ⟨⟨h1, h2⟩, h4⟩ := h
      obtain ⟨g0, h5, h6⟩ := ih h4
      obtain ⟨z, hz⟩ := rx_ev_ex hG (Nat.le_of_ble_eq_true h1)
      have i1 := rp_inr_ok hG h2 hz
      refine ⟨z :: g0, ⟨by rw [List.length_cons, List.length_cons, h5.1], fun j y hj => ?_⟩, by rw [List.length_cons, List.length_cons, h6.1], fun j y r' hj hr => ?_⟩
      · cases j with
        | zero =>
          rw [List.getElem?_cons_zero] at hj
          cases hj
          exact ⟨q, rfl, hz⟩
        | succ j =>
          rw [List.getElem?_cons_succ] at hj
          obtain ⟨r1, h7, h8⟩ := h5.2 j y hj
          exact ⟨r1, by rw [List.getElem?_cons_succ]; exact h7, h8⟩
      · cases j with
        | zero =>
          rw [List.getElem?_cons_zero] at hj hr
          cases hj
          cases hr
          exact ⟨by omega, by omega⟩
        | succ j =>
          rw [List.getElem?_cons_succ] at hj hr
          exact h6.2 j y r' hj hr

/-! ===== facts found side by side, also under other names; the newest first ===== -/
noncomputable def rp_nh (p : Nat) (L th : List rx_I) (k : Nat) : Option rx_I := match Nat.ble p k with
  | true => rx_nth L (k - p)
  | false => rx_nth th k
theorem rp_nh_eq {p : Nat} {L th : List rx_I} (hL : L = th.drop p) {k : Nat} : rp_nh p L th k = th[k]? := by
  unfold rp_nh
  split
  · rename_i hp
    rw [rx_nth_eq, hL, List.getElem?_drop, Nat.add_sub_cancel' (Nat.le_of_ble_eq_true hp)]
  · rw [rx_nth_eq]
noncomputable def rp_at (p : Nat) (L th : List rx_I) (k u : Nat) : Bool := match rp_nh p L th k with
  | some q => Nat.beq q.1 (u + 1) && rx_ieq q.2 0
  | none => false
theorem rp_at_ok {p : Nat} {L th : List rx_I} (hL : L = th.drop p) {k u : Nat} (h : rp_at p L th k u = true) : th[k]? = some (u + 1, 0) := by
  unfold rp_at at h
  rw [rp_nh_eq hL] at h
  split at h
  · rename_i q hq
    rw [Bool.and_eq_true] at h
    rw [hq]
    exact congrArg some (Prod.ext (Nat.eq_of_beq_eq_true h.1) (rx_ieq_t h.2))
  · cases h
noncomputable def rp_tm (p : Nat) (L th : List rx_I) (l : List (Int × Nat)) : List (Int × Nat) → Bool := @List.rec (Int × Nat) (fun _ => List (Int × Nat) → Bool) (fun m => match m with
  | [] => true
  | _ :: _ => false) (fun t _ ih m => match m with
  | [] => false
  | u :: m => match rx_ieq t.1 u.1 && rp_at p L th t.2 u.2 with
    | true => ih m
    | false => false) l
theorem rp_val {th : List rx_I} {g g0 : List Int} (hT : rx_Th th g g0) {k u : Nat} (h : th[k]? = some (u + 1, 0)) : ∃ y, g0[k]? = some y ∧ g[u]? = some y := by
  have hl : k < g0.length := by rw [hT.1]; exact (List.getElem?_eq_some_iff.mp h).1
  have h4 : g0[k]? = some g0[k] := List.getElem?_eq_getElem hl
  obtain ⟨r, h5, h6⟩ := hT.2 _ _ h4
  rw [h] at h5
  cases h5
  obtain ⟨y, h7, h8⟩ := h6
  refine ⟨y, ?_, h7⟩
  rw [h4, h8, Int.add_zero]
theorem rp_tm_ok {p : Nat} {L th : List rx_I} (hL : L = th.drop p) {g g0 : List Int} (hT : rx_Th th g g0) {l : List (Int × Nat)} : ∀ {m : List (Int × Nat)} {z : Int}, rp_tm p L th l m = true → rx_lin g m z → rx_lin g0 l z := by
  induction l with
  | nil =>
    intro m z h hz
    cases m with
    | nil => exact hz
    | cons u m => cases h
  | cons t l ih =>
    intro m z h hz
    cases m with
    | nil => cases h
    | cons u m =>
      have h : (match rx_ieq t.1 u.1 && rp_at p L th t.2 u.2 with | true => rp_tm p L th l m | false => false) = true := h
      split at h
      · rename_i hb
        rw [Bool.and_eq_true] at hb
        obtain ⟨y, z1, h1, h2, h3⟩ := hz
        obtain ⟨y2, h4, h5⟩ := rp_val hT (rp_at_ok hL hb.2)
        rw [h1] at h5
        have e := Option.some.inj h5
        refine ⟨y, z1, ?_, ih h h2, ?_⟩
        · rw [h4, e]
        · rw [h3, rx_ieq_t hb.1]
      · cases h
noncomputable def rp_gm (p : Nat) (L th : List rx_I) (l m : List (Nat × Int)) : Bool := match l with
  | [] => match m with
    | [] => true
    | _ :: _ => false
  | q :: l => match l with
    | _ :: _ => false
    | [] => match m with
      | [] => false
      | w :: m => match m with
        | _ :: _ => false
        | [] => rx_ieq q.2 w.2 && rp_at p L th q.1 w.1
noncomputable def rp_me (p : Nat) (L th : List rx_I) (f k : rx_F) : Bool := match rx_ieq f.2.2 k.2.2 with
  | true => match rp_tm p L th f.2.1 k.2.1 with
    | true => rp_gm p L th f.1 k.1
    | false => false
  | false => false
theorem rp_gm_ok {p : Nat} {L th : List rx_I} (hL : L = th.drop p) {g g0 : List Int} (hT : rx_Th th g g0) {l m : List (Nat × Int)} (h : rp_gm p L th l m = true) (hl : ∀ q ∈ l, ∀ y, g0[q.1]? = some y → y ≤ q.2) : ∀ q ∈ m, ∀ y, g[q.1]? = some y → y ≤ q.2 := by
  cases l with
  | nil =>
    cases m with
    | nil => exact fun q hq => by cases hq
    | cons w m => cases h
  | cons q l =>
    cases l with
    | cons q2 l => cases h
    | nil =>
      cases m with
      | nil => cases h
      | cons w m =>
        cases m with
        | cons w2 m => cases h
        | nil =>
          have h : (rx_ieq q.2 w.2 && rp_at p L th q.1 w.1) = true := h
          rw [Bool.and_eq_true] at h
          intro q1 hq1 y hy
          cases List.mem_singleton.mp hq1
          obtain ⟨y2, h4, h5⟩ := rp_val hT (rp_at_ok hL h.2)
          rw [hy] at h5
          have e := Option.some.inj h5
          have h6 := hl q (List.mem_singleton.mpr rfl) y2 h4
          rw [e, ← rx_ieq_t h.1]
          exact h6
theorem rp_me_ok {p : Nat} {L th : List rx_I} (hL : L = th.drop p) {g g0 : List Int} (hT : rx_Th th g g0) {f k : rx_F} (h : rp_me p L th f k = true) (hk : rx_f g k) : rx_f g0 f := by
  unfold rp_me at h
  split at h
  · rename_i h1
    split at h
    · rename_i h2
      intro hq
      obtain ⟨z, h3, h4⟩ := hk (rp_gm_ok hL hT h hq)
      exact ⟨z, rp_tm_ok hL hT h2 h3, by rw [rx_ieq_t h1]; exact h4⟩
    · cases h
  · cases h
noncomputable def rp_fnd (p : Nat) (L th : List rx_I) (f : rx_F) (l : List rx_F) : Option (List rx_F) := @List.rec rx_F (fun _ => Option (List rx_F)) none (fun k t ih => match rp_me p L th f k with
  | true => some t
  | false => ih) l
theorem rp_fnd_ok {p : Nat} {L th : List rx_I} (hL : L = th.drop p) {g g0 : List Int} (hT : rx_Th th g g0) {f : rx_F} {l t : List rx_F} (hg : ∀ k ∈ l, rx_f g k) (h : rp_fnd p L th f l = some t) : rx_f g0 f ∧ ∀ k ∈ t, k ∈ l := by
  induction l with
  | nil => cases h
  | cons k l ih =>
    have h : (match rp_me p L th f k with | true => some l | false => rp_fnd p L th f l) = some t := h
    split at h
    · rename_i hb
      cases h
      exact ⟨rp_me_ok hL hT hb (hg k List.mem_cons_self), fun x hx => List.mem_cons_of_mem _ hx⟩
    · have q := ih (fun x hx => hg x (List.mem_cons_of_mem _ hx)) h
      exact ⟨q.1, fun x hx => List.mem_cons_of_mem _ (q.2 x hx)⟩
/-- the list behind its first n, at hand -/
noncomputable def rp_adv {α β : Type} (n : Nat) : List α → (List α → β) → β := @Nat.rec (fun _ => List α → (List α → β) → β) (fun l k => k l) (fun _ ih l k => match l with
  | [] => k []
  | _ :: t => ih t k) n
theorem rp_adv_eq {α β : Type} : ∀ (n : Nat) (l : List α) (k : List α → β), rp_adv n l k = k (l.drop n)
  | 0, _, _ => rfl
  | n + 1, [], k => by
    rw [List.drop_nil]
    rfl
  | n + 1, a :: l, k => by
    have e : rp_adv (n + 1) (a :: l) k = rp_adv n l k := rfl
    rw [e, rp_adv_eq n l k, List.drop_succ_cons]
/-- a fact's place: its guard's symbol, or the last of its sum -/
noncomputable def rp_lo (f : rx_F) : Nat := match f.1 with
  | q :: _ => q.1
  | [] => @List.rec (Int × Nat) (fun _ => Nat → Nat) (fun a => a) (fun t _ ih _ => ih t.2) f.2.1 0
noncomputable def rp_fs (sy : rx_Y) (th : List rx_I) (l : List rx_F) : Nat → List rx_I → List rx_F → Bool := @List.rec rx_F (fun _ => Nat → List rx_I → List rx_F → Bool) (fun _ _ _ => true) (fun f _ ih p L k => match Nat.ble p (rp_lo f) with
  | true => rp_adv (rp_lo f - p) L (fun L2 => match rp_fnd (rp_lo f) L2 th f k with
    | some t => ih (rp_lo f) L2 t
    | none => match rp_fOK sy th f with
      | true => ih (rp_lo f) L2 k
      | false => false)
  | false => match rp_fnd p L th f k with
    | some t => ih p L t
    | none => match rp_fOK sy th f with
      | true => ih p L k
      | false => false) l
theorem rp_fs_ok {sy : rx_Y} {th : List rx_I} {g g0 : List Int} (hG : rx_g sy g) (hT : rx_Th th g g0) {l : List rx_F} : ∀ {p : Nat} {L : List rx_I} {k : List rx_F}, L = th.drop p → (∀ f ∈ k, f ∈ sy.2) → rp_fs sy th l p L k = true → ∀ f ∈ l, rx_f g0 f := by
  induction l with
  | nil => exact fun _ _ _ f hf => by cases hf
  | cons a l ih =>
    intro p L k hL hk h f hf
    have key : ∀ (p2 : Nat) (L2 : List rx_I), L2 = th.drop p2 → (match rp_fnd p2 L2 th a k with
        | some t => rp_fs sy th l p2 L2 t
        | none => match rp_fOK sy th a with
          | true => rp_fs sy th l p2 L2 k
          | false => false) = true → rx_f g0 f := by
      intro p2 L2 hL2 h
      split at h
      · rename_i t ht
        have q := rp_fnd_ok hL2 hT (fun x hx => hG.2 x (hk x hx)) ht
        rcases List.mem_cons.mp hf with rfl | hf
        · exact q.1
        · exact ih hL2 (fun x hx => hk x (q.2 x hx)) h f hf
      · split at h
        · rename_i hs
          rcases List.mem_cons.mp hf with rfl | hf
          · exact rp_fOK_ok hG hT hs
          · exact ih hL2 hk h f hf
        · cases h
    have h : (match Nat.ble p (rp_lo a) with
      | true => rp_adv (rp_lo a - p) L (fun L2 => match rp_fnd (rp_lo a) L2 th a k with
        | some t => rp_fs sy th l (rp_lo a) L2 t
        | none => match rp_fOK sy th a with
          | true => rp_fs sy th l (rp_lo a) L2 k
          | false => false)
      | false => match rp_fnd p L th a k with
        | some t => rp_fs sy th l p L t
        | none => match rp_fOK sy th a with
          | true => rp_fs sy th l p L k
          | false => false) = true := h
    split at h
    · rename_i hp
      have hp := Nat.le_of_ble_eq_true hp
      rw [rp_adv_eq] at h
      refine key _ _ ?_ h
      rw [hL, List.drop_drop]
      congr 1
      omega
    · exact key _ _ hL h
noncomputable def rs_mY (sy : rx_Y) (th : List rx_I) (sy0 : rx_Y) : Bool := rp_bnd sy th sy0.1 && rp_fs sy th sy0.2 0 th sy.2
theorem rs_mY_ok {sy : rx_Y} {g : List Int} (hG : rx_g sy g) {th : List rx_I} {sy0 : rx_Y} (h : rs_mY sy th sy0 = true) : ∃ g0, rx_Th th g g0 ∧ rx_g sy0 g0 := by
  unfold rs_mY at h
  rw [Bool.and_eq_true] at h
  obtain ⟨g0, h1, h2⟩ := rp_bnd_ok hG h.1
  exact ⟨g0, h1, h2, rp_fs_ok hG h1 List.drop_zero.symm (fun f hf => hf) h.2⟩

noncomputable def rs_chkI (sy : rx_Y) (h : List rx_C) (as : List rx_V) (th : List rx_I) (pi : List Nat) (xi : List rx_V) (sy0 : rx_Y) (h0 : List rx_C) (as0 : List rx_V) : Bool := rx_all2 (rx_mV sy th pi xi) as0 as && (rs_mY sy th sy0 && (rx_mH sy th pi xi h pi h0 && (rx_ndp pi && rx_allR (rx_xok (rx_lenR h)) xi)))

/-- the states behind a call, from one of the callee's ends -/
noncomputable def rs_mkO (sy : rx_Y) (h : List rx_C) (th : List rx_I) (pi : List Nat) (xi : List rx_V) (o : rx_T) : Option (List rx_T) :=
  rx_apR th (rx_fn (rx_lenR sy.1) (rx_lenR o.1.1 - rx_lenR th)) (fun th1 => rx_apR pi (rx_fp (rx_lenR h) (rx_lenR o.2.1 - rx_lenR pi)) (fun pi1 =>
    rx_bkH th1 pi1 xi o.2.1 h 0 (fun h1 => rx_rCs th1 pi1 xi (o.2.1.drop (rx_lenR pi)) (fun h2 => rx_rL (rx_rV th1 pi1 xi) o.2.2.2.2.2 (fun st => rx_apR h1 h2 (fun h3 =>
      some ((rx_rfn th o.1.1 sy).map (fun s => rx_apR s.1 (o.1.1.drop (rx_lenR th)) (fun s1 => ((s1, o.1.2.filterMap (rx_rF th1) ++ s.2), h3, (0, 0), 0, [], st))))))))))
/-- from each end -/
noncomputable def rs_mkOs (sy : rx_Y) (h : List rx_C) (th : List rx_I) (pi : List Nat) (xi : List rx_V) (os : List rx_T) : Option (List rx_T) := @List.rec rx_T (fun _ => Option (List rx_T)) (some []) (fun o _ ih => match rs_mkO sy h th pi xi o with
  | some a => match ih with
    | some d => some (a ++ d)
    | none => none
  | none => none) os
theorem rs_mkOs_ok {sy : rx_Y} {h : List rx_C} {th : List rx_I} {pi : List Nat} {xi : List rx_V} {os : List rx_T} : ∀ {L : List rx_T}, rs_mkOs sy h th pi xi os = some L → ∀ o ∈ os, ∃ a, rs_mkO sy h th pi xi o = some a ∧ ∀ x ∈ a, x ∈ L := by
  induction os with
  | nil => exact fun _ o ho => by cases ho
  | cons o os ih =>
    intro L hL o' ho'
    have e : rs_mkOs sy h th pi xi (o :: os) = (match rs_mkO sy h th pi xi o with | some a => (match rs_mkOs sy h th pi xi os with | some d => some (a ++ d) | none => none) | none => none) := rfl
    rw [e] at hL
    split at hL
    · rename_i a ha
      split at hL
      · rename_i d hd
        cases hL
        rcases List.mem_cons.mp ho' with rfl | ho'
        · exact ⟨a, ha, fun x hx => List.mem_append_left _ hx⟩
        · obtain ⟨a', h1, h2⟩ := ih hd o' ho'
          exact ⟨a', h1, fun x hx => List.mem_append_right _ (h2 x hx)⟩
      · cases hL
    · cases hL

theorem rs_inst_ok {l : Launch} {D : va_G} {Zb : (Nat → Option Nat) × List Int → State → Heap → Prop} {sz0 d : Nat} {M : rx_Md} {b : (Nat → Option Nat) × List Int} {sy sy0 : rx_Y} {h h0 : List rx_C} {as as0 : List rx_V} {th : List rx_I} {pi : List Nat} {xi : List rx_V} {outs0 outs : List rx_T}
    (hZb : ∀ (b b0 : (Nat → Option Nat) × List Int) (U : State) (H : Heap), (∀ u, u < 100 → b0.1 u = b.1 u) → b0.2 = b.2 → Zb b U H → Zb b0 U H) (hb2 : b.2 = [])
    (hC : ∀ b0 : (Nat → Option Nat) × List Int, b0.2 = [] → rx_Ct l b0 D (Zb b0) sz0 d M as0 sy0 h0 outs0) (hk : rs_chkI sy h as th pi xi sy0 h0 as0 = true) (ho : rs_mkOs sy h th pi xi outs0 = some outs) : rx_Ct l b D (Zb b) sz0 d M as sy h outs := by
  intro g tys ws vs sz hG hH hvs
  unfold rs_chkI at hk
  simp only [Bool.and_eq_true] at hk
  obtain ⟨k1, k2, k3, k4, k5⟩ := hk
  obtain ⟨g0, hT, hG0⟩ := rs_mY_ok hG k2
  obtain ⟨hpl, hmh⟩ := rx_mH_ok k3
  have hxi := rx_allR_ok k5
  rw [rx_lenR_eq] at hxi
  -- the callee's cells
  have hin : ∀ i j : Nat, pi[i]? = some j → j < ws.length := by
    intro i j hij
    have hi : i < h0.length := by rw [← hpl]; exact (List.getElem?_eq_some_iff.mp hij).1
    obtain ⟨j', c, h1, h2, -⟩ := hmh i _ (List.getElem?_eq_getElem hi)
    rw [hij] at h1
    cases h1
    rw [← hH.1]
    exact (List.getElem?_eq_some_iff.mp h2).1
  obtain ⟨ws0, hws0⟩ : ∃ ws0 : va_W, ws0 = pi.map (fun j => ws.getD j rx_dW) := ⟨_, rfl⟩
  have hw0 : ∀ i j : Nat, pi[i]? = some j → ws0[i]? = ws[j]? := by
    intro i j hij
    rw [hws0, List.getElem?_map, hij, rx_gtD (hin i j hij)]
    rfl
  have hw0l : ws0.length = pi.length := by rw [hws0, List.length_map]
  have hw1 : ∀ (i : Nat) (q : Nat × va_E), ws0[i]? = some q → ∃ j, pi[i]? = some j ∧ ws[j]? = some q := by
    intro i q hq
    have hi : i < pi.length := by rw [← hw0l]; exact (List.getElem?_eq_some_iff.mp hq).1
    refine ⟨pi[i], List.getElem?_eq_getElem hi, ?_⟩
    rw [← hw0 i _ (List.getElem?_eq_getElem hi)]
    exact hq
  have hA : ∀ (i j r : Nat), pi[i]? = some j → (ws.map Prod.fst)[j]? = some r → (ws0.map Prod.fst)[i]? = some r := by
    intro i j r hij hr
    rw [List.getElem?_map] at hr ⊢
    rw [hw0 i j hij]
    exact hr
  obtain ⟨b0, hb0⟩ : ∃ b0, b0 = rx_b0 b (ws.map Prod.fst) xi := ⟨_, rfl⟩
  have hb02 : b0.2 = [] := by rw [hb0]; exact hb2
  have hH0 : rx_h b0 g0 tys h0 ws0 := by
    refine ⟨by rw [hw0l, hpl], fun i c0 hc0 => ?_, by rw [hb02]; exact fun i x hx => by simp at hx⟩
    obtain ⟨j, c, h1, h2, h3⟩ := hmh i c0 hc0
    obtain ⟨a, e, h4, h5⟩ := hH.2.1 j c h2
    refine ⟨a, e, by rw [hw0 i j h1]; exact h4, ?_⟩
    rw [hb0]
    exact rx_mC_ok hG hT hA h3 h5
  have hvs0 : rx_vs b0 (ws0.map Prod.fst) g0 as0 vs := by
    rw [hb0]
    exact rx_all2_ok (fun v0 v w => rx_mV_ok hG hT hA) k1 hvs
  have met := hC b0 hb02 g0 tys ws0 vs sz hG0 hH0 hvs0
  have hby : ∀ (k : Nat) (q : Nat × va_E), ws0[k]? = some q → ws[pi.getD k 0]? = some q := by
    intro k q hq
    obtain ⟨j, h1, h2⟩ := hw1 k q hq
    rw [List.getD_eq_getElem?_getD, h1]
    exact h2
  have hinj : ∀ i j : Nat, i < ws0.length → j < ws0.length → pi.getD i 0 = pi.getD j 0 → i = j := by
    intro i j hi hj hij
    rw [hw0l] at hi hj
    rw [List.getD_eq_getElem?_getD, List.getD_eq_getElem?_getD, List.getElem?_eq_getElem hi, List.getElem?_eq_getElem hj] at hij
    have hij : pi[i] = pi[j] := hij
    exact rx_ndp_ok k4 i j pi[j] (by rw [List.getElem?_eq_getElem hi, hij]) (List.getElem?_eq_getElem hj)
  have hsub : ∀ q, va_A ws0 sz q → va_A ws sz q := by
    intro q hq
    rcases hq with ⟨k, e, hk⟩ | hq
    · obtain ⟨j, h1, h2⟩ := hw1 k _ hk
      exact Or.inl ⟨j, e, h2⟩
    · exact Or.inr hq
  refine rx_Met_imp met (fun a U hp => ?_) (fun a st oc t hp hq => ?_) hsub
  · obtain ⟨p1, p2, p3, p4, p5, p6, p7, p8⟩ := hp
    refine ⟨p1, p2, p3.by _ hby, p4, p5.by _ hby hinj, p6, p7, hZb b b0 U _ ?_ (by rw [hb02, hb2]) p8⟩
    intro u hu
    rw [hb0]
    exact rx_b0_lo hu
  · obtain ⟨p1, p2, p3, p4, p5, p6, p7, p8⟩ := hp
    obtain ⟨⟨o, hoo, g1, tys1, ws1, v, hoc, ⟨le1, le2, le3⟩, hG1, hH1, hv1, hK1, hP1, hD1⟩, hF⟩ := hq
    obtain ⟨Lo, hLo, hLs⟩ := rs_mkOs_ok ho o hoo
    unfold rs_mkO at hLo
    simp only [rx_lenR_eq] at hLo
    rw [rx_apR_eq, rx_apR_eq] at hLo
    -- lengths
    have n0 : g0.length = th.length := hT.1
    have n1 : g1.length = o.1.1.length := hG1.1.1
    have n2 : th.length ≤ g1.length := by
      rw [← n0]
      rcases Nat.eq_zero_or_pos g0.length with q | q
      · omega
      · have q1 : g0.length - 1 < g0.length := by omega
        have q2 := le1 _ _ (List.getElem?_eq_getElem q1)
        have := (List.getElem?_eq_some_iff.mp q2).1
        omega
    have n3 : ws1.length = o.2.1.length := hH1.1.symm
    have n4 : pi.length ≤ ws1.length := by
      rw [← hw0l]
      rcases Nat.eq_zero_or_pos ws0.length with q | q
      · omega
      · have q1 : ws0.length - 1 < (ws0.map Prod.fst).length := by rw [List.length_map]; omega
        have q2 := le2 _ _ (List.getElem?_eq_getElem q1)
        have := (List.getElem?_eq_some_iff.mp q2).1
        rw [List.length_map] at this
        omega
    have n5 : h.length = ws.length := hH.1
    have n6 : g.length = sy.1.length := hG.1.1
    obtain ⟨th1, hth1⟩ : ∃ th1, th1 = th ++ rx_fn sy.1.length (o.1.1.length - th.length) := ⟨_, rfl⟩
    obtain ⟨pi1, hpi1⟩ : ∃ pi1, pi1 = pi ++ rx_fp h.length (o.2.1.length - pi.length) := ⟨_, rfl⟩
    rw [← hth1, ← hpi1] at hLo
    obtain ⟨h1, hLo, hl1, hc1⟩ := rx_bkH_ok hLo
    obtain ⟨h2, hLo, hl2, hc2⟩ := rx_rCs_ok hLo
    obtain ⟨st', hLo, hl3, hc3⟩ := rx_rL_ok (P := fun v v' => ∀ {b b0 : (Nat → Option Nat) × List Int} {as as0 : List Nat} {g g0 : List Int} {w : Value}, rx_Nm th1 pi1 xi b b0 as as0 g g0 → rx_v b0 as0 g0 v w → rx_v b as g v' w) (fun v k x hv => rx_rV_ok hv) hLo
    rw [rx_apR_eq] at hLo
    have hLo := Option.some.inj hLo
    -- symbols
    obtain ⟨g', hg'⟩ : ∃ g', g' = g ++ g1.drop th.length := ⟨_, rfl⟩
    have hgl : rx_le g g' := by rw [hg']; exact rx_le.app _
    have hT1 : rx_Th th1 g' g1 := by
      refine ⟨by rw [hth1, List.length_append, rx_fn, List.length_map, List.length_range, n1]; omega, fun j z hj => ?_⟩
      by_cases hjn : j < th.length
      · have hj0 : g0[j]? = some z := by
          have q1 : j < g0.length := by omega
          have q2 := le1 j _ (List.getElem?_eq_getElem q1)
          rw [hj] at q2
          rw [List.getElem?_eq_getElem q1, ← q2]
        obtain ⟨r, q3, q4⟩ := hT.2 j z hj0
        exact ⟨r, by rw [hth1, List.getElem?_append_left hjn]; exact q3, q4.mono hgl⟩
      · have hj1 := (List.getElem?_eq_some_iff.mp hj).1
        refine ⟨(sy.1.length + (j - th.length) + 1, 0), ?_, z, ?_, by omega⟩
        · rw [hth1, List.getElem?_append_right (by omega), rx_fn, List.getElem?_map, List.getElem?_range (by omega)]
          rfl
        · rw [hg', List.getElem?_append_right (by omega), List.getElem?_drop, ← n6, show th.length + (g.length + (j - th.length) - g.length) = j by omega]
          exact hj
    obtain ⟨s, hs1, hs2⟩ := rx_rfn_ok (th := th) (g := g) (g0 := g1) (l := o.1.1) hG (fun j q hj => by
      have hjn := (List.getElem?_eq_some_iff.mp hj).1
      have q1 : j < g0.length := by omega
      have q2 := le1 j _ (List.getElem?_eq_getElem q1)
      obtain ⟨r, q3, q4⟩ := hT.2 j _ (List.getElem?_eq_getElem q1)
      rw [hj] at q3
      cases q3
      exact ⟨_, q2, q4⟩) (fun j z r _ hz hr => hG1.1.2 j z r hz hr)
    have hsl : s.1.length = sy.1.length := by rw [← hs2.1.1, n6]
    have hG' : rx_g (s.1 ++ o.1.1.drop th.length, o.1.2.filterMap (rx_rF th1) ++ s.2) g' := by
      refine ⟨⟨?_, fun j z r hj hr => ?_⟩, fun f hf => ?_⟩
      · dsimp only
        rw [hg', List.length_append, List.length_append, List.length_drop, List.length_drop, hs2.1.1, n1]
      · dsimp only at hr
        by_cases hjl : j < g.length
        · rw [hg', List.getElem?_append_left hjl] at hj
          rw [List.getElem?_append_left (by omega)] at hr
          exact hs2.1.2 j z r hj hr
        · rw [hg', List.getElem?_append_right (by omega), List.getElem?_drop] at hj
          rw [List.getElem?_append_right (by omega), List.getElem?_drop, hsl, ← n6] at hr
          exact hG1.1.2 _ z r hj hr
      · rcases List.mem_append.mp hf with hf | hf
        · obtain ⟨f0, q1, q2⟩ := List.mem_filterMap.mp hf
          exact rx_rF_ok hT1 q2 (hG1.2 f0 q1)
        · exact (hs2.2 f hf).mono hgl
    -- cells
    have hn1 : ∀ (i : Nat), i < pi.length → ∃ j a e e1, pi[i]? = some j ∧ ws[j]? = some (a, e) ∧ ws1[i]? = some (a, e1) := by
      intro i hi
      have q1 : ws0[i]? = ws[pi[i]]? := hw0 i _ (List.getElem?_eq_getElem hi)
      have q2 := hin i _ (List.getElem?_eq_getElem hi)
      have q3 : ws[pi[i]]? = some ws[pi[i]] := List.getElem?_eq_getElem q2
      have q4 : (ws0.map Prod.fst)[i]? = some ws[pi[i]].1 := by rw [List.getElem?_map, q1, q3]; rfl
      obtain ⟨e1, q5⟩ := rx_fst_at (le2 _ _ q4)
      exact ⟨pi[i], ws[pi[i]].1, ws[pi[i]].2, e1, List.getElem?_eq_getElem hi, q3, q5⟩
    obtain ⟨wsA, hwsA⟩ : ∃ wsA : va_W, wsA = (List.range ws.length).map (fun k => match rx_fnd k pi 0 with
      | some i => ws1.getD i rx_dW
      | none => ws.getD k rx_dW) := ⟨_, rfl⟩
    have hAl : wsA.length = ws.length := by rw [hwsA, List.length_map, List.length_range]
    have hA1 : ∀ (k : Nat) (q : Nat × va_E), wsA[k]? = some q → k < ws.length ∧ (∃ e, ws[k]? = some (q.1, e)) ∧ ((∃ i : Nat, pi[i]? = some k ∧ ws1[i]? = some q) ∨ ((∀ i : Nat, pi[i]? ≠ some k) ∧ ws[k]? = some q)) := by
      intro k q hq
      have hk1 : k < ws.length := by rw [← hAl]; exact (List.getElem?_eq_some_iff.mp hq).1
      rw [hwsA, List.getElem?_map, List.getElem?_range hk1] at hq
      have hq := Option.some.inj hq
      dsimp only at hq
      cases hfd : rx_fnd k pi 0 with
      | some i =>
        have q1 := (rx_fnd_ok (k := k) (pi := pi) (j := 0)).1 i hfd
        rw [Nat.sub_zero] at q1
        obtain ⟨j, a, e, e1, r1, r2, r3⟩ := hn1 i (List.getElem?_eq_some_iff.mp q1.2).1
        rw [q1.2] at r1
        cases r1
        rw [hfd] at hq
        dsimp only at hq
        rw [List.getD_eq_getElem?_getD, r3] at hq
        have hq : (a, e1) = q := hq
        rw [← hq]
        exact ⟨hk1, ⟨e, r2⟩, Or.inl ⟨i, q1.2, r3⟩⟩
      | none =>
        have q1 := (rx_fnd_ok (k := k) (pi := pi) (j := 0)).2 hfd
        rw [hfd] at hq
        dsimp only at hq
        have q2 := rx_gtD hk1
        rw [hq] at q2
        exact ⟨hk1, ⟨q.2, q2⟩, Or.inr ⟨q1, q2⟩⟩
    obtain ⟨ws', hws'⟩ : ∃ ws' : va_W, ws' = wsA ++ ws1.drop pi.length := ⟨_, rfl⟩
    have has : rx_le (ws.map Prod.fst) (ws'.map Prod.fst) := by
      intro k r hr
      obtain ⟨e, q1⟩ := rx_fst_at hr
      have hk1 := (List.getElem?_eq_some_iff.mp q1).1
      have q2 : wsA[k]? = some wsA[k] := List.getElem?_eq_getElem (by rw [hAl]; exact hk1)
      obtain ⟨-, ⟨e', q3⟩, -⟩ := hA1 k _ q2
      rw [q1] at q3
      rw [hws', List.map_append, List.getElem?_append_left (by rw [List.length_map, hAl]; exact hk1), List.getElem?_map, q2]
      show some wsA[k].1 = some r
      have q3 := congrArg Prod.fst (Option.some.inj q3)
      exact congrArg some q3.symm
    have hdr : ∀ (i : Nat) (q : Nat × va_E), pi.length ≤ i → ws1[i]? = some q → ws'[ws.length + (i - pi.length)]? = some q := by
      intro i q hi hq
      rw [hws', List.getElem?_append_right (by omega), hAl, List.getElem?_drop, show pi.length + (ws.length + (i - pi.length) - ws.length) = i by omega]
      exact hq
    have hNm : rx_Nm th1 pi1 xi b b0 (ws'.map Prod.fst) (ws1.map Prod.fst) g' g1 := by
      refine ⟨hT1, fun i j r hij hr => ?_, fun u hu => by rw [hb0]; exact rx_b0_lo hu, fun u hu hx => ?_, fun u v hu hx => ?_⟩
      · obtain ⟨e, q1⟩ := rx_fst_at hr
        by_cases hi : i < pi.length
        · rw [hpi1, List.getElem?_append_left hi] at hij
          obtain ⟨j', a, e', e1, r1, r2, r3⟩ := hn1 i hi
          rw [hij] at r1
          cases r1
          rw [q1] at r3
          cases r3
          exact has j _ (by rw [List.getElem?_map, r2]; rfl)
        · have hi1 : i < ws1.length := (List.getElem?_eq_some_iff.mp q1).1
          rw [hpi1, List.getElem?_append_right (by omega), rx_fp, List.getElem?_map, List.getElem?_range (by omega)] at hij
          have hij : h.length + (i - pi.length) = j := Option.some.inj hij
          rw [List.getElem?_map, ← hij, n5, hdr i _ (by omega) q1]
          rfl
      · rw [hb0]
        unfold rx_b0
        dsimp only
        rw [Nat.ble_eq_true_of_le hu, hx]
      · have e1 : b0.1 u = rx_wa b (ws.map Prod.fst) v := by
          rw [hb0]
          unfold rx_b0
          dsimp only
          rw [Nat.ble_eq_true_of_le hu, hx]
        rw [e1]
        have q1 := hxi v (List.mem_of_getElem? hx)
        rcases v with q | q | (_ | r) | k
        · cases q1
        · cases q1
        · rfl
        · have q2 : r < ws.length := by rw [← n5]; exact Nat.le_of_ble_eq_true q1
          have q3 : (ws.map Prod.fst)[r]? = some ws[r].1 := by rw [List.getElem?_map, List.getElem?_eq_getElem q2]; rfl
          refine ⟨ws[r].1, has r _ q3, ?_⟩
          show va_rf ((ws.map Prod.fst)[r]?) = _
          rw [q3]
          rfl
        · rfl
    have hlen' : (h1 ++ h2).length = ws'.length := by
      rw [List.length_append, hl1, hl2, List.length_drop, hws', List.length_append, hAl, List.length_drop, n5, n3]
    have hH' : rx_h b g' tys1 (h1 ++ h2) ws' := by
      refine ⟨hlen', fun i c hi => ?_, by rw [hb2]; exact fun i x hx => by simp at hx⟩
      by_cases hil : i < h1.length
      · rw [List.getElem?_append_left hil] at hi
        have hiw : i < ws.length := by rw [← n5, ← hl1]; exact hil
        have q2 : wsA[i]? = some wsA[i] := List.getElem?_eq_getElem (by rw [hAl]; exact hiw)
        have q3 : ws'[i]? = some wsA[i] := by rw [hws', List.getElem?_append_left (by rw [hAl]; exact hiw)]; exact q2
        obtain ⟨-, -, q4⟩ := hA1 i _ q2
        refine ⟨wsA[i].1, wsA[i].2, q3, ?_⟩
        have c1 := hc1 i c hi
        rw [Nat.zero_add] at c1
        rcases c1 with ⟨p, c0, r1, r2, r3⟩ | ⟨r1, r2⟩
        · have hp : p < pi.length := by
            rcases Nat.lt_or_ge p pi.length with q | q
            · exact q
            · exfalso
              have hp1 := (List.getElem?_eq_some_iff.mp r1).1
              rw [hpi1, List.length_append, rx_fp, List.length_map, List.length_range] at hp1
              rw [hpi1, List.getElem?_append_right q, rx_fp, List.getElem?_map, List.getElem?_range (by omega)] at r1
              have r1 : h.length + (p - pi.length) = i := Option.some.inj r1
              omega
          rw [hpi1, List.getElem?_append_left hp] at r1
          rcases q4 with ⟨i', s1, s2⟩ | ⟨s1, -⟩
          · have := rx_ndp_ok k4 p i' i r1 s1
            subst this
            obtain ⟨a, e, t1, t2⟩ := hH1.2.1 p c0 r2
            rw [s2] at t1
            rw [Option.some.inj t1]
            exact r3 hNm t2
          · exact absurd r1 (s1 p)
        · rcases q4 with ⟨i', s1, s2⟩ | ⟨s1, s2⟩
          · refine absurd ?_ (r1 i')
            rw [hpi1, List.getElem?_append_left (List.getElem?_eq_some_iff.mp s1).1]
            exact s1
          · obtain ⟨a, e, t1, t2⟩ := hH.2.1 i c r2
            rw [s2] at t1
            rw [Option.some.inj t1]
            exact t2.mono has hgl le3
      · have hil2 : h1.length ≤ i := by omega
        rw [List.getElem?_append_right hil2] at hi
        have hi2 := (List.getElem?_eq_some_iff.mp hi).1
        rw [hl2, List.length_drop] at hi2
        have q5 : pi.length + (i - h1.length) < o.2.1.length := by omega
        obtain ⟨c', r1, r2⟩ := hc2 (i - h1.length) (o.2.1[pi.length + (i - h1.length)]) (by rw [List.getElem?_drop]; exact List.getElem?_eq_getElem q5)
        rw [hi] at r1
        cases r1
        obtain ⟨a, e, t1, t2⟩ := hH1.2.1 _ _ (List.getElem?_eq_getElem q5)
        refine ⟨a, e, ?_, r2 hNm t2⟩
        have q6 := hdr _ _ (by omega) t1
        rw [show ws.length + (pi.length + (i - h1.length) - pi.length) = i by omega] at q6
        exact q6
    have hst' : rx_vs b (ws'.map Prod.fst) g' st' v.toList := by
      refine rx_vs_map hv1 hl3 fun i u hu => ?_
      obtain ⟨u', q1, q2⟩ := hc3 i u hu
      exact ⟨u', q1, fun w hw => q2 hNm hw⟩
    -- the world
    have hlt : ∀ (k : Nat) (q : Nat × va_E), ws[k]? = some q → q.1 < sz := by
      intro k q hq
      rw [← p2]
      exact (p3 k q hq).lt
    have hkeep : ∀ (k : Nat) (q : Nat × va_E), (∀ i : Nat, pi[i]? ≠ some k) → ws[k]? = some q → ¬ va_A ws0 sz q.1 := by
      intro k q hno hq hA9
      rcases hA9 with ⟨i, e, hi⟩ | hi
      · obtain ⟨j, r1, r2⟩ := hw1 i _ hi
        have := p5.1 j k _ _ r2 hq rfl
        subst this
        exact hno i r1
      · have := hlt k q hq
        omega
    have hP' : va_P D vwCl ws' t.heap := by
      intro k q hq
      by_cases hkl : k < wsA.length
      · rw [hws', List.getElem?_append_left hkl] at hq
        obtain ⟨hk1, -, q4⟩ := hA1 k q hq
        rcases q4 with ⟨i, s1, s2⟩ | ⟨s1, s2⟩
        · exact hP1 i q s2
        · exact (p3 k q s2).kept (hF.2 q.1 (by rw [p2]; exact hlt k q s2) (hkeep k q s1 s2))
      · rw [hws', List.getElem?_append_right (by omega), List.getElem?_drop] at hq
        exact hP1 _ q hq
    have hnew : ∀ (i : Nat) (q : Nat × va_E), pi.length ≤ i → ws1[i]? = some q → sz ≤ q.1 := by
      intro i q hi hq
      rcases hD1.2 i q hq with ⟨k, e, hk⟩ | hk
      · exfalso
        have hkl : k < pi.length := by rw [← hw0l]; exact (List.getElem?_eq_some_iff.mp hk).1
        obtain ⟨j, a, e', e1, r1, r2, r3⟩ := hn1 k hkl
        rw [hw0 k j r1, r2] at hk
        cases hk
        have := hD1.1 i k q _ hq r3 rfl
        omega
      · exact hk
    have hD' : va_D (va_A ws sz) ws' := by
      have inA : ∀ (k : Nat) (q : Nat × va_E), ws'[k]? = some q → (k < ws.length ∧ ∃ e, ws[k]? = some (q.1, e)) ∨ (ws.length ≤ k ∧ ws1[pi.length + (k - ws.length)]? = some q) := by
        intro k q hq
        by_cases hkl : k < wsA.length
        · rw [hws', List.getElem?_append_left hkl] at hq
          obtain ⟨hk1, hk2, -⟩ := hA1 k q hq
          exact Or.inl ⟨hk1, hk2⟩
        · rw [hws', List.getElem?_append_right (by omega), List.getElem?_drop, hAl] at hq
          exact Or.inr ⟨by omega, hq⟩
      refine ⟨fun i j q q' hi hj hqq => ?_, fun k q hq => ?_⟩
      · rcases inA i q hi with ⟨i1, e, i2⟩ | ⟨i1, i2⟩
        · rcases inA j q' hj with ⟨j1, e', j2⟩ | ⟨j1, j2⟩
          · exact p5.1 i j _ _ i2 j2 hqq
          · have := hlt i _ i2
            have := hnew _ q' (by omega) j2
            dsimp only at *
            omega
        · rcases inA j q' hj with ⟨j1, e', j2⟩ | ⟨j1, j2⟩
          · have := hlt j _ j2
            have := hnew _ q (by omega) i2
            dsimp only at *
            omega
          · have := hD1.1 _ _ _ _ i2 j2 hqq
            omega
      · rcases inA k q hq with ⟨i1, e, i2⟩ | ⟨i1, i2⟩
        · exact Or.inl ⟨k, e, i2⟩
        · exact Or.inr (hnew _ q (by omega) i2)
    refine ⟨⟨_, hLs _ (by rw [← hLo]; exact List.mem_map.mpr ⟨s, hs1, rfl⟩), g', tys1, ws', v, hoc, ⟨hgl, has, le3⟩, ?_, ?_, ?_, hK1, hP', hD'⟩, hF.1, fun q q1 q2 => hF.2 q q1 (fun q3 => q2 (hsub q q3))⟩
    · rw [rx_apR_eq]
      exact hG'
    · rw [rx_apR_eq]
      exact hH'
    · rw [rx_apR_eq]
      exact hst'

noncomputable def rs_try (K : rx_KE) (as : List rx_V) (sy : rx_Y) (h : List rx_C) : Option (List rx_T) := match rx_qA sy K.2.2.1.2.2 as with
  | false => none
  | true => rx_gpi as h K.2.1.1 [] (fun pi => rx_gth (rx_gv as h pi) K.2.1.2.1 K.2.2.1.1.1 (fun th => rx_gxi as h pi K.2.1.2.2 (fun xi => match rs_chkI sy h as th pi xi K.2.2.1.1 K.2.2.1.2.1 K.2.2.1.2.2 with
    | true => rs_mkOs sy h th pi xi K.2.2.2
    | false => none)))
theorem rs_try_ok {K : rx_KE} {as : List rx_V} {sy : rx_Y} {h : List rx_C} {L : List rx_T} (hh : rs_try K as sy h = some L) : ∃ th pi xi, rs_chkI sy h as th pi xi K.2.2.1.1 K.2.2.1.2.1 K.2.2.1.2.2 = true ∧ rs_mkOs sy h th pi xi K.2.2.2 = some L := by
  unfold rs_try at hh
  split at hh
  · cases hh
  · obtain ⟨pi, h1⟩ := rx_gpi_ok hh
    obtain ⟨th, h2⟩ := rx_gth_ok h1
    obtain ⟨xi, h3⟩ := rx_gxi_ok h2
    split at h3
    · rename_i hc
      exact ⟨th, pi, xi, hc, h3⟩
    · cases h3

noncomputable def rs_ext1 (M : rx_Md) (d mi : Nat) (as : List rx_V) (sy : rx_Y) (h : List rx_C) (KT : List rx_KE) : Option rx_O := @List.rec rx_KE (fun _ => Option rx_O) none (fun K _ ih => match Nat.beq K.1.1 mi && Nat.ble K.1.2 d with
  | true => match rs_try K as sy h with
    | some L => some (M.2.2.2.2.2.2.1, M.2.2.2.2.2.2.2.1, L)
    | none => ih
  | false => ih) KT
noncomputable def rs_ext (MT : List rx_Md) (KT : List rx_KE) (d mi : Nat) (as : List rx_V) (sy : rx_Y) (h : List rx_C) : Option rx_O := match rx_nth MT mi with
  | some M => rs_ext1 M d mi as sy h KT
  | none => none

theorem rs_ext_ok {l : Launch} {D : va_G} {Zb : (Nat → Option Nat) × List Int → State → Heap → Prop} {sz0 : Nat} {MT : List rx_Md} {KT : List rx_KE} (hZb : ∀ (b b0 : (Nat → Option Nat) × List Int) (U : State) (H : Heap), (∀ u, u < 100 → b0.1 u = b.1 u) → b0.2 = b.2 → Zb b U H → Zb b0 U H) {b : (Nat → Option Nat) × List Int} (hb2 : b.2 = []) (hK : ∀ K ∈ KT, rx_KV l D Zb sz0 MT K) : rx_Eok l b D (Zb b) sz0 MT (rs_ext MT KT) := by
  intro d mi as sy h r hr
  unfold rs_ext at hr
  rw [rx_nth_eq] at hr
  split at hr
  · rename_i M hM
    have key : ∀ KT : List rx_KE, (∀ K ∈ KT, rx_KV l D Zb sz0 MT K) → rs_ext1 M d mi as sy h KT = some r → ∃ d', d' ≤ d ∧ ∃ M : rx_Md, MT[mi]? = some M ∧ rx_okM M ∧ (r.1 = M.2.2.2.2.2.2.1 ∧ r.2.1 = M.2.2.2.2.2.2.2.1) ∧ rx_Ct l b D (Zb b) sz0 d' M as sy h r.2.2 := by
      intro KT
      induction KT with
      | nil => exact fun _ hh => by cases hh
      | cons K KT ih =>
        intro hK hh
        have e : rs_ext1 M d mi as sy h (K :: KT) = (match Nat.beq K.1.1 mi && Nat.ble K.1.2 d with | true => (match rs_try K as sy h with | some L => some (M.2.2.2.2.2.2.1, M.2.2.2.2.2.2.2.1, L) | none => rs_ext1 M d mi as sy h KT) | false => rs_ext1 M d mi as sy h KT) := rfl
        rw [e] at hh
        have hr9 := fun K hk => hK K (List.mem_cons_of_mem _ hk)
        split at hh
        · rename_i hb
          rw [Bool.and_eq_true] at hb
          have e1 := Nat.eq_of_beq_eq_true hb.1
          have e2 := Nat.le_of_ble_eq_true hb.2
          split at hh
          · rename_i L hL
            cases hh
            obtain ⟨th, pi, xi, h1, h2⟩ := rs_try_ok hL
            obtain ⟨M', h3, h4, h5⟩ := hK K List.mem_cons_self
            rw [e1, hM] at h3
            cases h3
            exact ⟨K.1.2, e2, M, hM, h4, ⟨rfl, rfl⟩, rs_inst_ok hZb hb2 h5 h1 h2⟩
          · exact ih hr9 hh
        · exact ih hr9 hh
    exact key KT hK hr
  · cases hr

noncomputable def rs_subQ (m : Nat) (T S : rx_T) (tt th : List rx_I) (pi : List Nat) : Bool :=
  ((rx_pfB S.1.1 T.1.1 m && rp_bnd T.1 tt (S.1.1.drop m)) && rp_fs T.1 th S.1.2 0 th T.1.2) && (rx_hqB (rx_okc m (rx_lenR S.2.1) T.1 th pi) S.2.1 T.2.1 && (rx_lsub T.1 th pi S.2.2.2.2.1 T.2.2.2.2.1 && rx_all2 (rx_mV T.1 th pi []) S.2.2.2.2.2 T.2.2.2.2.2))
noncomputable def rs_subF (m : Nat) (T S : rx_T) (tt : List rx_I) : Bool := rx_apR (rx_fn 0 m) tt (fun th => rx_apR (rx_fp 0 (rx_lenR S.2.1)) [] (fun pi => rs_subQ m T S tt th pi))
theorem rs_subF_ok {m : Nat} {T S : rx_T} {tt : List rx_I} {b : (Nat → Option Nat) × List Int} (hb2 : b.2 = []) {D : va_G} {A : Nat → Prop} {g : List Int} {tys : List (ClassId × FieldType)} {ws : va_W} {lv : List (Nat × Value)} {ls : Array Slot} {nL : Nat} {st : List Value} {H : Heap} (hk : rs_subF m T S tt = true) (hG : rx_g T.1 g) (hH : rx_h b g tys T.2.1 ws) (hP : va_P D vwCl ws H) (hD : va_D A ws) (hl : rx_ls b (ws.map Prod.fst) g T.2.2.2.2.1 lv) (hv : lv_has ls nL lv) (hst : rx_vs b (ws.map Prod.fst) g T.2.2.2.2.2 st) :
    ∃ (g0 : List Int) (ws0 : va_W) (lv0 : List (Nat × Value)), rx_Th (rx_fn 0 m ++ tt) g g0 ∧ rx_g S.1 g0 ∧ rx_h b g0 tys S.2.1 ws0 ∧ va_P D vwCl ws0 H ∧ va_D A ws0 ∧ rx_ls b (ws0.map Prod.fst) g0 S.2.2.2.2.1 lv0 ∧ lv_has ls nL lv0 ∧ rx_vs b (ws0.map Prod.fst) g0 S.2.2.2.2.2 st ∧ ∀ i r : Nat, i < S.2.1.length → (ws.map Prod.fst)[i]? = some r → (ws0.map Prod.fst)[i]? = some r := by
  unfold rs_subF at hk
  rw [rx_apR_eq, rx_apR_eq, List.append_nil, rx_lenR_eq] at hk
  generalize hpi : rx_fp 0 S.2.1.length = pi at hk
  generalize hth : rx_fn 0 m ++ tt = th at hk ⊢
  unfold rs_subQ at hk
  simp only [Bool.and_eq_true] at hk
  obtain ⟨⟨⟨k1, k2⟩, k3⟩, k4, k5, k6⟩ := hk
  rw [rx_lenR_eq] at k4
  obtain ⟨⟨hm1, hm2⟩, k1⟩ := rx_pfB_ok k1
  obtain ⟨gt, hTt, hGt⟩ := rp_bnd_ok hG k2
  have hgl : g.length = T.1.1.length := hG.1.1
  obtain ⟨g0, hg0⟩ : ∃ g0, g0 = g.take m ++ gt := ⟨_, rfl⟩
  have htl : (g.take m).length = m := by rw [List.length_take]; omega
  have hlo : ∀ k, k < m → g0[k]? = g[k]? := by
    intro k hk
    rw [hg0, List.getElem?_append_left (by omega), List.getElem?_take_of_lt hk]
  have hfl : (rx_fn 0 m).length = m := by unfold rx_fn; rw [List.length_map, List.length_range]
  have hfe : ∀ k, k < m → th[k]? = some (k + 1, 0) := by
    intro k hk
    rw [← hth, List.getElem?_append_left (by omega)]
    unfold rx_fn
    rw [List.getElem?_map, List.getElem?_range hk, Option.map_some]
    simp
  have hT : rx_Th th g g0 := by
    refine ⟨by rw [hg0, ← hth, List.length_append, List.length_append, htl, hfl, hTt.1], fun j z hz => ?_⟩
    rcases Nat.lt_or_ge j m with q | q
    · rw [hlo j q] at hz
      exact ⟨_, hfe j q, z, hz, (Int.add_zero _).symm⟩
    · rw [hg0, List.getElem?_append_right (by omega), htl] at hz
      obtain ⟨r, h1, h2⟩ := hTt.2 _ z hz
      exact ⟨r, by rw [← hth, List.getElem?_append_right (by omega), hfl]; exact h1, h2⟩
  have hG0 : rx_g S.1 g0 := by
    refine ⟨⟨?_, fun k z q hz hq => ?_⟩, fun f hf => ?_⟩
    · rw [hg0, List.length_append, htl, hGt.1, List.length_drop]
      omega
    · rcases Nat.lt_or_ge k m with h | h
      · rw [hlo k h] at hz
        obtain ⟨q', h1, h2, h3⟩ := k1 k q h hq
        have h4 := hG.1.2 k z q' hz h1
        omega
      · rw [hg0, List.getElem?_append_right (by omega), htl] at hz
        refine hGt.2 (k - m) z q hz ?_
        rw [List.getElem?_drop]
        rw [← hq]
        congr 1
        omega
    · exact rp_fs_ok hG hT List.drop_zero.symm (fun x hx => hx) k3 f hf
  obtain ⟨hcl, k4⟩ := rx_hqB_ok k4
  have hwl : T.2.1.length = ws.length := hH.1
  obtain ⟨ws0, hws0⟩ : ∃ ws0 : va_W, ws0 = ws.take S.2.1.length := ⟨_, rfl⟩
  have hw0l : ws0.length = S.2.1.length := by rw [hws0, List.length_take]; omega
  have hw0 : ∀ k, k < S.2.1.length → ws0[k]? = ws[k]? := fun k hk => by rw [hws0, List.getElem?_take_of_lt hk]
  have hby : ∀ (k : Nat) (q : Nat × va_E), ws0[k]? = some q → ws[k]? = some q := by
    intro k q hq
    have : k < ws0.length := (List.getElem?_eq_some_iff.mp hq).1
    rw [← hw0 k (by omega)]
    exact hq
  have hA1 : ∀ i r, i < S.2.1.length → (ws.map Prod.fst)[i]? = some r → (ws0.map Prod.fst)[i]? = some r := by
    intro i r hi hr
    rw [List.getElem?_map] at hr ⊢
    rw [hw0 i hi]
    exact hr
  have hpe : ∀ i, i < S.2.1.length → pi[i]? = some i := by
    intro i hi
    rw [← hpi]
    unfold rx_fp
    rw [List.getElem?_map, List.getElem?_range hi, Option.map_some]
    simp
  have hpl : pi.length = S.2.1.length := by rw [← hpi]; unfold rx_fp; rw [List.length_map, List.length_range]
  have hA : ∀ (i j r : Nat), pi[i]? = some j → (ws.map Prod.fst)[j]? = some r → (ws0.map Prod.fst)[i]? = some r := by
    intro i j r hij hr
    have hi : i < S.2.1.length := by rw [← hpl]; exact (List.getElem?_eq_some_iff.mp hij).1
    rw [hpe i hi] at hij
    cases hij
    exact hA1 i r hi hr
  have hmv : ∀ v0 v w, rx_mV T.1 th pi [] v0 v = true → rx_v b (ws.map Prod.fst) g v w → rx_v b (ws0.map Prod.fst) g0 v0 w := by
    intro v0 v w h1 h2
    have := rx_mV_ok (b := b) hG hT hA h1 h2
    rw [rx_b0_nil] at this
    exact this
  have hH0 : rx_h b g0 tys S.2.1 ws0 := by
    refine ⟨hw0l.symm, fun i c0 hc0 => ?_, by rw [hb2]; exact fun i x hx => by simp at hx⟩
    have hi : i < S.2.1.length := (List.getElem?_eq_some_iff.mp hc0).1
    obtain ⟨c, h2, h3⟩ := k4 i c0 hc0
    obtain ⟨a, e, h4, h5⟩ := hH.2.1 i c h2
    refine ⟨a, e, by rw [hw0 i hi]; exact h4, ?_⟩
    have slow : rx_mC T.1 th pi [] c0 c = true → rx_c b (ws0.map Prod.fst) g0 tys c0 e := by
      intro h3
      have := rx_mC_ok (b := b) hG hT hA h3 h5
      rw [rx_b0_nil] at this
      exact this
    unfold rx_okc at h3
    split at h3
    · rename_i hq
      rw [Bool.and_eq_true] at hq
      have e1 := rx_ceq_t hq.1
      subst e1
      exact rx_cc hlo hA1 hq.2 h5
    · rename_i hfalse
      clear hfalse
      rcases c0 with ⟨ci, fs⟩ | ⟨t0, n0, ex0, df0⟩
      · rcases c with ⟨di, es⟩ | x
        · dsimp only at h3
          split at h3
          · rename_i hq
            simp only [Bool.and_eq_true] at hq
            obtain ⟨⟨q1, q2⟩, q3⟩ := hq
            have e1 := Nat.eq_of_beq_eq_true q1
            have e2 := Nat.le_of_ble_eq_true q2
            subst e1
            have hb : Nat.beq ci 999 = false := by
              cases q : Nat.beq ci 999 with
              | false => rfl
              | true => have := Nat.eq_of_beq_eq_true q; omega
            obtain ⟨q4, q5⟩ := rx_zqB_ok q3
            unfold rx_c at h5
            dsimp only at h5
            rw [hb] at h5
            rcases e with x | ⟨cj, vs⟩
            · exact h5.elim
            · obtain ⟨rfl, h6⟩ := h5
              refine rx_c_obj ?_
              have hp : ∀ v0 v w, rx_v1B m S.2.1.length T.1 th pi v0 v = true → rx_v b (ws.map Prod.fst) g v w → rx_v b (ws0.map Prod.fst) g0 v0 w := by
                intro v0 v w h7 h8
                unfold rx_v1B at h7
                split at h7
                · rename_i hr
                  rw [Bool.and_eq_true] at hr
                  have e3 := rx_veq_t hr.1
                  subst e3
                  exact rx_vc hlo hA1 hr.2 h8
                · exact hmv v0 v w h7 h8
              exact rx_zv_ok hp q4 q5 h6
          · exact slow h3
        · cases h3
      · rcases c with x | ⟨t, n, ex, df⟩
        · cases h3
        · dsimp only at h3
          split at h3
          · rename_i hq
            simp only [Bool.and_eq_true] at hq
            obtain ⟨⟨⟨q1, q2⟩, q3, q4, q5⟩, q6⟩ := hq
            have q1 := Nat.le_of_ble_eq_true q1
            have e1 := Nat.eq_of_beq_eq_true q2
            have e2 := Nat.eq_of_beq_eq_true q3
            have e3 := rx_veq_t q4
            subst e1
            subst e2
            subst e3
            obtain ⟨q7, q8⟩ := rx_zqB_ok q6
            rcases e with ⟨cA, n', x⟩ | x
            · refine ⟨h5.1, h5.2.1, ?_⟩
              have ha := h5.2.2
              rw [rx_a_hi q1] at ha ⊢
              have key : ∀ j z, rx_rv g (rx_el ex df0 j) z → rx_rv g0 (rx_el ex0 df0 j) z := by
                intro j z hz
                unfold rx_el at hz ⊢
                rcases Nat.lt_or_ge j ex0.length with r | r
                · have r2 : j < ex.length := by omega
                  rw [List.getElem?_eq_getElem r2] at hz
                  rw [List.getElem?_eq_getElem r]
                  dsimp only at hz ⊢
                  have h7 := q8 j _ _ (List.getElem?_eq_getElem r) (List.getElem?_eq_getElem r2)
                  unfold rx_e1B at h7
                  split at h7
                  · rename_i hr
                    rw [Bool.and_eq_true] at hr
                    have e4 := rx_veq_t hr.1
                    have h9 := hr.2
                    rw [e4] at h9
                    have h10 := rx_rvc hlo h9 hz
                    rw [← e4] at h10
                    exact h10
                  · exact rx_mE_ok hG hT h7 hz
                · rw [List.getElem?_eq_none (by omega)] at hz
                  rw [List.getElem?_eq_none (by omega)]
                  exact rx_rvc hlo q5 hz
              rcases x with f | f | f | f | f
              · exact ⟨ha.1, fun j hj => key j _ (ha.2 j hj)⟩
              · exact ⟨ha.1, fun j hj => key j _ (ha.2 j hj)⟩
              · exact ha.elim
              · exact ha.elim
              · exact ha.elim
            · exact h5.elim
          · exact slow h3
  have hls : ∃ lv0 : List (Nat × Value), rx_ls b (ws0.map Prod.fst) g0 S.2.2.2.2.1 lv0 ∧ ∀ q ∈ lv0, q ∈ lv := by
    have k5 := rx_allR_ok k5
    generalize S.2.2.2.2.1 = lc0 at k5
    induction lc0 with
    | nil => exact ⟨[], trivial, fun q hq => by cases hq⟩
    | cons q lc0 ih =>
      obtain ⟨lv1, h1, h2⟩ := ih (fun a ha => k5 a (List.mem_cons_of_mem _ ha))
      have h3 := k5 q List.mem_cons_self
      rw [rx_lkR_eq] at h3
      split at h3
      · rename_i v hv9
        obtain ⟨k, w, h4, h5⟩ := rx_lk_ok hl hv9
        refine ⟨(q.1, w) :: lv1, ⟨⟨rfl, hmv _ _ _ h3 h5⟩, h1⟩, fun a ha => ?_⟩
        rcases List.mem_cons.mp ha with rfl | ha
        · exact List.mem_of_getElem? h4
        · exact h2 a ha
      · cases h3
  obtain ⟨lv0, hl0, hlv⟩ := hls
  exact ⟨g0, ws0, lv0, hT, hG0, hH0, hP.by (fun k => k) hby, hD.by (fun k => k) hby (fun i j _ _ h => h), hl0, ⟨hv.1, hv.2.1, fun q hq => hv.2.2 q (hlv q hq)⟩, rx_all2_ok hmv k6 hst, hA1⟩

noncomputable def rs_toC (na n0 : Nat) (mS : List (Int × Nat) × Int) (T : rx_T) (J : rx_Cu) : Bool := match Nat.beq T.2.2.2.1 J.1.2.2.2.1 && (Nat.ble T.2.2.1.1 J.1.2.2.1.1 && Nat.ble T.2.2.1.2 J.1.2.2.1.2) with
  | false => false
  | true => (rq_tt n0 T J.1 J.2.1.2 (fun tt => some (rs_subF n0 T J.1 tt && (rx_apR (rx_fn 0 n0) tt (fun th => rx_dec T.1 th mS J.2.2) && Nat.ble na (rx_lenR J.1.2.1))))).getD false
noncomputable def rs_toO (na n0 : Nat) (T : rx_T) (J : rx_T × (List (Nat × Nat) × List (Nat × Nat))) : Bool := match J.1.2.2.2.2.1 with
  | [] => (rq_tt n0 T J.1 J.2.2 (fun tt => some (rs_subF n0 T J.1 tt && Nat.ble na (rx_lenR J.1.2.1)))).getD false
  | _ :: _ => false
/-- a cut's run: to the next cuts, to ends -/
noncomputable def rs_chkC (N : List (List rx_V)) (call : Nat → List rx_V → rx_Y → List rx_C → Option rx_O) (M : rx_Md) (fuel na n0 : Nat) (stops : List Nat) (cuts : List rx_Cu) (outs : List (rx_T × (List (Nat × Nat) × List (Nat × Nat)))) (J : rx_Cu) : Bool := match rx_by N call M (rx_go N call M stops fuel) (rx_look M J.1.2.2.2.1) J.1.1 J.1.2.1 J.1.2.2.1 J.1.2.2.2.2.1 J.1.2.2.2.2.2 with
  | none => false
  | some L => rx_ps0 J.1.1 J.2.2.1 J.2.2.2 && rx_allR (fun T => match rx_isin stops T.2.2.2.1 with
    | true => cuts.any (fun K => rs_toC na n0 J.2.2 T K)
    | false => (Nat.ble T.2.2.1.1 M.2.2.2.2.2.2.1 && Nat.ble T.2.2.1.2 M.2.2.2.2.2.2.2.1) && outs.any (fun o => rs_toO na n0 T o)) L
section RSU
variable {p : Program} {l : Launch} {e : Env} {R : Room} {s : State} {m : MethodId} {args : Array Value} {below : List Frame} {meth : Method} {c : Code} {b : (Nat → Option Nat) × List Int} {D : va_G} {nL : Nat} {cc : ByteArray} {own nm : String}
theorem rs_cuts_ok {N : List (List rx_V)} {MT : List rx_Md} {M : rx_Md} {Z : State → Heap → Prop} {sz0 fuel : Nat} {stops : List Nat} {call : Nat → List rx_V → rx_Y → List rx_C → Option rx_O} {gE : List Int} {tE : List (ClassId × FieldType)} {wsE : va_W} {cuts : List rx_Cu} {outs : List (rx_T × (List (Nat × Nat) × List (Nat × Nat)))} (hb2 : b.2 = []) (C : rx_Cx p s m args c cc own nL) (hcl : rx_Clok N) (hT : rx_Tok MT cc own nm M) (hmn : meth.name = nm) (hret : meth.sig.returnType = M.2.2.2.1) (hlocks : meth.locks = false) (hR : R.cells = M.2.2.2.2.2.2.1 ∧ R.slots = M.2.2.2.2.2.2.2.1 ∧ 1 ≤ R.frames ∧ 60 ≤ R.locals) (hnL : M.2.2.1 = nL) (hZ : rx_Zp b Z sz0) (hZs : Z s s.heap) (hsz : sz0 ≤ s.heap.size) (hA0 : ∀ q, va_A wsE s.heap.size q → sz0 ≤ q) (hcall : rx_Hc l b D Z sz0 MT R call)
    (hcu : ∀ J ∈ cuts, rs_chkC N call M fuel wsE.length gE.length stops cuts outs J = true) :
    ∀ (n : Nat) (J : rx_Cu), J ∈ cuts → ∀ (g : List Int) (tys : List (ClassId × FieldType)) (ws : va_W) (lv : List (Nat × Value)) (H : Heap) (locs : List Loc) (ls : Array Slot) (st : List Value) (z : Int), (rx_le gE g ∧ rx_le (wsE.map Prod.fst) (ws.map Prod.fst) ∧ ∀ q ∈ tE, q ∈ tys) → rx_g J.1.1 g → rx_h b g tys J.1.2.1 ws → va_K D vwCl tys s → va_P D vwCl ws H → va_D (va_A wsE s.heap.size) ws → va_S (va_A wsE s.heap.size) s.heap H locs → rx_ls b (ws.map Prod.fst) g J.1.2.2.2.2.1 lv → lv_has ls nL lv → rx_vs b (ws.map Prod.fst) g J.1.2.2.2.2.2 st → rx_lin g J.2.2.1 z → (z + J.2.2.2).toNat < n →
      W p l e R s m args below meth c H locs J.1.2.2.1.1 J.1.2.2.1.2 (MQ below (rx_Qc b D gE tE wsE s.heap.size (outs.map Prod.fst)) args s M.2.2.2.2.2.2.1 M.2.2.2.2.2.2.2.1 (va_A wsE s.heap.size)) (F0 m J.1.2.2.2.1 ls st) := by
  intro n
  induction n with
  | zero => exact fun J _ g tys ws lv H locs ls st z _ _ _ _ _ _ _ _ _ _ _ h => absurd h (Nat.not_lt_zero _)
  | succ n ihn =>
    intro J hJ g tys ws lv H locs ls st z hE hG hH hK hP hD hS hl hv hst hz hn
    have hJ1 := hcu J hJ
    unfold rs_chkC at hJ1
    split at hJ1
    · cases hJ1
    · rename_i L hL
      rw [Bool.and_eq_true] at hJ1
      obtain ⟨hps, hall⟩ := hJ1
      have hpos := rx_ps0_ok hG hps hz
      have hall := rx_allR_ok hall
      have hA : ∀ q, s.heap.size ≤ q → va_A wsE s.heap.size q := fun q h => Or.inr h
      have key := rx_by_ok (p := p) (e := e) (below := below) (A := va_A wsE s.heap.size) (g0 := g) (a0 := ws.map Prod.fst) (t0 := tys) (Q := MQ below (rx_Qc b D gE tE wsE s.heap.size (outs.map Prod.fst)) args s M.2.2.2.2.2.2.1 M.2.2.2.2.2.2.2.1 (va_A wsE s.heap.size)) C hcl hT hmn hR hnL hZ hZs hsz hA hA0 hcall (n := fuel) (fun sy h nn pc lc sa L h1 => rx_go_ok C hcl hT hmn hR hnL hZ hZs hsz hA hA0 hcall fuel sy h nn pc lc sa L h1) _ _ _ _ _ _ L hL
      refine key.2 (fun T hTL => ?_) H locs ls st ⟨g, tys, ws, lv, ⟨rx_le.rf, rx_le.rf, fun _ q => q⟩, hG, hH, hK, hP, hD, hS, hl, hv, hst⟩
      have hT1 := hall T hTL
      cases hin : rx_isin stops T.2.2.2.1 with
      | true =>
        rw [hin] at hT1
        obtain ⟨J2, hJ2, h1⟩ := List.any_eq_true.mp hT1
        unfold rs_toC at h1
        split at h1
        · cases h1
        · rename_i hpc
          simp only [Bool.and_eq_true] at hpc
          have e1 := Nat.eq_of_beq_eq_true hpc.1
          have e2 := Nat.le_of_ble_eq_true hpc.2.1
          have e3 := Nat.le_of_ble_eq_true hpc.2.2
          obtain ⟨tt, h2⟩ := rq_tt_ok (rx_gtd (f := fun x : Bool => x) h1)
          have h2 := Option.some.inj h2
          simp only [Bool.and_eq_true] at h2
          obtain ⟨hsub, hdec, hna⟩ := h2
          have hna := Nat.le_of_ble_eq_true hna
          rw [rx_lenR_eq] at hna
          rw [rx_apR_eq] at hdec
          intro H1 locs1 ls1 st1 hat
          obtain ⟨g1, tys1, ws1, lv1, hE1, hG1, hH1, hK1, hP1, hD1, hS1, hl1, hv1, hst1⟩ := hat
          obtain ⟨g2, ws2, lv2, hTh, hG2, hH2, hP2, hD2, hl2, hv2, hst2, hA2⟩ := rs_subF_ok hb2 hsub hG1 hH1 hP1 hD1 hl1 hv1 hst1
          obtain ⟨z2, hz2, hlt⟩ := rx_dec_ok hG1 hTh hdec (hz.mono hE1.1)
          have hps2 : rx_ps0 J2.1.1 J2.2.2.1 J2.2.2.2 = true := by
            have hJ3 := hcu J2 hJ2
            unfold rs_chkC at hJ3
            split at hJ3
            · cases hJ3
            · rw [Bool.and_eq_true] at hJ3
              exact hJ3.1
          have hpos2 := rx_ps0_ok hG2 hps2 hz2
          rw [e1]
          refine W.widen e2 e3 (ihn J2 hJ2 g2 tys1 ws2 lv2 H1 locs1 ls1 st1 z2 ⟨rx_fn_le hTh (Nat.le_refl _) (hE.1.tr hE1.1) rfl, fun i r hr => ?_, fun q hq => hE1.2.2 q (hE.2.2 q hq)⟩ hG2 hH2 hK1 hP2 hD2 hS1 hl2 hv2 hst2 hz2 (by omega))
          have hi : i < wsE.length := by
            have := (List.getElem?_eq_some_iff.mp hr).1
            rw [List.length_map] at this
            exact this
          exact hA2 i r (Nat.lt_of_lt_of_le hi hna) ((hE.2.1.tr hE1.2.1) i r hr)
      | false =>
        rw [hin] at hT1
        rw [Bool.and_eq_true, Bool.and_eq_true] at hT1
        obtain ⟨⟨hc1, hc2⟩, hT2⟩ := hT1
        have hend : rx_ends M T = true := by
          rcases key.1 T hTL with q | q
          · rw [hin] at q; cases q
          · exact q
        obtain ⟨J2, hJ2, h1⟩ := List.any_eq_true.mp hT2
        unfold rs_toO at h1
        split at h1
        · rename_i hlc
          obtain ⟨tt, h2⟩ := rq_tt_ok (rx_gtd (f := fun x : Bool => x) h1)
          have h2 := Option.some.inj h2
          simp only [Bool.and_eq_true] at h2
          obtain ⟨hsub, hna⟩ := h2
          have hna := Nat.le_of_ble_eq_true hna
          rw [rx_lenR_eq] at hna
          refine rx_ret_go2 C hT hret hlocks hend (Nat.le_of_ble_eq_true hc1) (Nat.le_of_ble_eq_true hc2) fun g1 tys1 ws1 v H1 hE1 hG1 hH1 hv1 hP1 hD1 => ?_
          have hl1 : rx_ls b (ws1.map Prod.fst) g1 [] [] := trivial
          have hsub2 : rs_subF gE.length (T.1, T.2.1, T.2.2.1, T.2.2.2.1, [], T.2.2.2.2.2) J2.1 tt = true := by
            unfold rs_subF rs_subQ at hsub ⊢
            rw [hlc] at hsub ⊢
            exact hsub
          obtain ⟨g2, ws2, lv2, hTh, hG2, hH2, hP2, hD2, -, -, hst2, hA2⟩ := rs_subF_ok (nL := nL) (ls := ls) hb2 hsub2 hG1 hH1 hP1 hD1 hl1 ⟨hv.1, hv.2.1, fun q hq => by cases hq⟩ hv1
          refine ⟨J2.1, List.mem_map.mpr ⟨J2, hJ2, rfl⟩, g2, ws2, ⟨rx_fn_le hTh (Nat.le_refl _) (hE.1.tr hE1.1) rfl, fun i r hr => ?_, fun q hq => hE1.2.2 q (hE.2.2 q hq)⟩, hG2, hH2, hst2, hP2, hD2⟩
          have hi : i < wsE.length := by
            have := (List.getElem?_eq_some_iff.mp hr).1
            rw [List.length_map] at this
            exact this
          exact hA2 i r (Nat.lt_of_lt_of_le hi hna) ((hE.2.1.tr hE1.2.1) i r hr)
        · cases h1
end RSU
noncomputable def rs_vfy (KT : List rx_KE) (fuel : Nat) (K : rx_KE) (M : rx_Md) (m0 : List (Int × Nat) × Int) (rest : List rx_Cu) (outs : List (rx_T × (List (Nat × Nat) × List (Nat × Nat)))) : Bool :=
  (Nat.ble (rx_cats K.2.2.1.2.2) M.2.2.1 && rx_isS (rx_lbs K.2.2.1.1 m0.1)) && rx_allR (rs_chkC rx_NW (rx_fcall rx_NW rx_MT (rs_ext rx_MT KT) fuel K.1.2) M fuel (rx_lenR K.2.2.1.2.1) (rx_lenR K.2.2.1.1.1) (rest.map (fun J => J.1.2.2.2.1)) (rx_ent K m0 :: rest) outs) (rx_ent K m0 :: rest)
theorem rs_ok_of {KT : List rx_KE} {fuel : Nat} {K : rx_KE} {M0 : rx_Md} {fl : List Nat} {m0 : List (Int × Nat) × Int} {rest : List rx_Cu} {outs : List (rx_T × (List (Nat × Nat) × List (Nat × Nat)))} (hKT : ∀ K ∈ KT, rx_OK K) (hM : rx_MT[K.1.1]? = some M0) (ho : outs.map Prod.fst = K.2.2.2) (h : rs_vfy KT fuel K (rx_flag fl M0) m0 rest outs = true) : rx_OK K := by
  intro l D sz0 Zb hZC
  obtain ⟨hok, htab0⟩ := rx_mtok _ M0 hM
  refine ⟨M0, hM, hok, fun b hb2 => ?_⟩
  have htab : rx_Tok rx_MT M0.2.1 M0.1.cls M0.1.name (rx_flag fl M0) := rx_flag_tok fl htab0
  obtain ⟨f1, f2, f3, f4, f5, f6⟩ := rx_flag_eq fl M0
  generalize rx_flag fl M0 = M at h htab f1 f2 f3 f4 f5 f6
  unfold rs_vfy at h
  rw [Bool.and_eq_true, Bool.and_eq_true] at h
  obtain ⟨⟨hcats, hlb⟩, hall⟩ := h
  have hall := rx_allR_ok hall
  rw [rx_lenR_eq, rx_lenR_eq] at hall
  intro g tys ws vs sz hG hH hvs
  refine Met.ofW (cc := M0.2.1) (maxL := M0.2.2.1) (ret := M0.2.2.2.1) hok.2.2.2.2.1 rfl ?_
  intro p e s m args below meth c s₁ B hml hv
  obtain ⟨rfl, hsz, hP, hK, hD0, hsz0, hpr, hZs⟩ := hv
  subst hsz
  have hts : ∀ w ∈ rx_Gd, w.before vs.toArray s = true := fun w hw => atoms_spec (ws := rx_ws M0) B.pre w (List.mem_cons_of_mem _ hw)
  have C : rx_Cx p s m vs.toArray c M0.2.1 M0.1.cls M0.2.2.1 := ⟨B.exec, B.bytes, hml, findClass_of_methodNamed B.named, hts, hpr⟩
  have hmn : meth.name = M0.1.name := (name_of_methodNamed B.named B.method).1
  have hl := lv_entry vs (n := M0.2.2.1) (by rw [rx_cats_len hvs, ← f3]; exact Nat.le_of_ble_eq_true hcats)
  rw [lg_entry_eq]
  generalize (lg_sl vs ++ List.replicate (M0.2.2.1 - (lg_sl vs).length) Slot.unset).toArray = ls at hl ⊢
  have hA0 : ∀ q, va_A ws s.heap.size q → sz0 ≤ q := by
    intro q hq
    rcases hq with ⟨k, e', hk⟩ | hq
    · exact hD0.2 k _ hk
    · exact Nat.le_trans hsz0 hq
  have hcall : rx_Hc l b D (Zb b) sz0 rx_MT (headSpec (rx_ws M0) (rx_rm K.1.2 M0)).room (rx_fcall rx_NW rx_MT (rs_ext rx_MT KT) fuel K.1.2) := by
    intro mi' as' sy' h' r' hr'
    obtain ⟨d', hd', M', h1, h2, h3, h4⟩ := rx_fcall_ok rx_clok rx_mtok (hZC.2 b) (rs_ext_ok hZC.1 hb2 (fun K hk => hKT K hk l D sz0 Zb hZC)) K.1.2 mi' as' sy' h' r' hr'
    exact ⟨M', d', h1, h2, h3, ⟨(by show d' + 2 ≤ K.1.2 + 1; omega), (by show 100 * (d' + 2) ≤ 100 * (K.1.2 + 1); omega)⟩, h4⟩
  have hR : (headSpec (rx_ws M0) (rx_rm K.1.2 M0)).room.cells = M.2.2.2.2.2.2.1 ∧ (headSpec (rx_ws M0) (rx_rm K.1.2 M0)).room.slots = M.2.2.2.2.2.2.2.1 ∧ 1 ≤ (headSpec (rx_ws M0) (rx_rm K.1.2 M0)).room.frames ∧ 60 ≤ (headSpec (rx_ws M0) (rx_rm K.1.2 M0)).room.locals := ⟨f5.symm, f6.symm, Nat.succ_le_succ (Nat.zero_le _), by show 60 ≤ 100 * (K.1.2 + 1); omega⟩
  have hwl : K.2.2.1.2.1.length = ws.length := hH.1
  have hgl : K.2.2.1.1.1.length = g.length := hG.1.1.symm
  rw [hwl, hgl] at hall
  obtain ⟨z, hz⟩ : ∃ z, rx_lin g m0.1 z := by
    cases hq : rx_lbs K.2.2.1.1 m0.1 with
    | none => rw [hq] at hlb; cases hlb
    | some m1 => exact rx_lin_ex hG hq
  have key := rs_cuts_ok (p := p) (e := e) (below := below) (gE := g) (tE := tys) (wsE := ws) hb2 C rx_clok htab hmn (B.returns.trans f4.symm) B.notSynchronized hR f3 (hZC.2 b) hZs hsz0 hA0 hcall hall ((z + m0.2).toNat + 1) (rx_ent K m0) List.mem_cons_self g tys ws (lv_args 0 vs) s.heap [] ls [] z ⟨rx_le.rf, rx_le.rf, fun _ q => q⟩ hG hH hK hP hD0.self va_S.rf (rx_args_ok 0 hvs) hl trivial hz (Nat.lt_succ_self _)
  rw [ho, f5, f6] at key
  exact key
