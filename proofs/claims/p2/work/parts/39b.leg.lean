/-! ===== legs: a run from one state to others, with what it does to the symbols ===== -/
/-- the number that a name stands for -/
def rx_vl (g : List Int) (q : rx_I) : Int := match q with
  | (0, c) => c
  | (k + 1, c) => g.getD k 0 + c
theorem rx_vl_ev {g : List Int} {q : rx_I} {z : Int} (h : rx_ev g q z) : rx_vl g q = z := by
  obtain ⟨k, c⟩ := q
  cases k with
  | zero => exact (show z = c from h).symm
  | succ k =>
    obtain ⟨y, h1, h2⟩ := h
    show g.getD k 0 + c = z
    rw [List.getD_eq_getElem?_getD, h1, h2]
    rfl
def rx_sm (g : List Int) : List (Int × Nat) → Int
  | [] => 0
  | t :: l => t.1 * g.getD t.2 0 + rx_sm g l
theorem rx_sm_lin {g : List Int} : ∀ {l : List (Int × Nat)} {z : Int}, rx_lin g l z → rx_sm g l = z
  | [], z, h => (show z = 0 from h).symm
  | t :: l, z, h => by
    obtain ⟨y, z', h1, h2, h3⟩ := h
    show t.1 * g.getD t.2 0 + rx_sm g l = z
    rw [rx_sm_lin h2, List.getD_eq_getElem?_getD, h1, h3]
    rfl
theorem rx_sm_ex {g : List Int} : ∀ {l : List (Int × Nat)}, (∀ t ∈ l, t.2 < g.length) → rx_lin g l (rx_sm g l)
  | [], _ => rfl
  | t :: l, h => by
    have h1 := h t List.mem_cons_self
    refine ⟨g[t.2], rx_sm g l, List.getElem?_eq_getElem h1, rx_sm_ex (fun u hu => h u (List.mem_cons_of_mem _ hu)), ?_⟩
    show t.1 * g.getD t.2 0 + rx_sm g l = _
    rw [List.getD_eq_getElem?_getD, List.getElem?_eq_getElem h1]
    rfl
theorem rx_getD_le {g g' : List Int} (h : rx_le g g') {k : Nat} (hk : k < g.length) : g'.getD k 0 = g.getD k 0 := by
  rw [List.getD_eq_getElem?_getD, List.getD_eq_getElem?_getD, List.getElem?_eq_getElem hk, h k _ (List.getElem?_eq_getElem hk)]
noncomputable def rx_look2 (k : Nat) (l : List (Nat × Option rx_I)) : Option rx_I := @List.rec (Nat × Option rx_I) (fun _ => Option rx_I) (some (k + 1, 0)) (fun q _ ih => @Bool.rec (fun _ => Option rx_I) ih q.2 (Nat.beq q.1 k)) l
noncomputable def rx_specB (nA : Nat) (spec : List (Nat × Option rx_I)) (th : List rx_I) : Nat → Bool := @List.rec rx_I (fun _ => Nat → Bool) (fun _ => true) (fun q _ ih k => match rx_look2 k spec with
  | some r => match (Nat.beq q.1 r.1 && Nat.ble q.1 nA) && rx_ieq q.2 r.2 with
    | true => ih (k + 1)
    | false => false
  | none => ih (k + 1)) th
theorem rx_specB_ok {nA : Nat} {spec : List (Nat × Option rx_I)} {th : List rx_I} : ∀ {n : Nat}, rx_specB nA spec th n = true → ∀ (k : Nat) (q r : rx_I), th[k]? = some q → rx_look2 (n + k) spec = some r → q = r ∧ q.1 ≤ nA := by
  induction th with
  | nil => exact fun _ k q r hq => by simp at hq
  | cons a th ih =>
    intro n h k q r hq hr
    have e : rx_specB nA spec (a :: th) n = (match rx_look2 n spec with
      | some r => match (Nat.beq a.1 r.1 && Nat.ble a.1 nA) && rx_ieq a.2 r.2 with
        | true => rx_specB nA spec th (n + 1)
        | false => false
      | none => rx_specB nA spec th (n + 1)) := rfl
    rw [e] at h
    have key : rx_specB nA spec th (n + 1) = true ∧ (∀ r, rx_look2 n spec = some r → a = r ∧ a.1 ≤ nA) := by
      split at h
      · rename_i r0 hr0
        split at h
        · rename_i hb
          simp only [Bool.and_eq_true] at hb
          refine ⟨h, fun r hr => ?_⟩
          rw [hr0] at hr
          cases hr
          exact ⟨Prod.ext (Nat.eq_of_beq_eq_true hb.1.1) (rx_ieq_t hb.2), Nat.le_of_ble_eq_true hb.1.2⟩
        · cases h
      · rename_i hr0
        refine ⟨h, fun r hr => ?_⟩
        rw [hr0] at hr
        cases hr
    cases k with
    | zero =>
      rw [List.getElem?_cons_zero] at hq
      cases hq
      exact key.2 r hr
    | succ k =>
      rw [List.getElem?_cons_succ] at hq
      exact ih key.1 k q r hq (by rw [← hr]; congr 1; omega)
/-- where a leg may come out: a state, the paths of its symbols, what they were (others: the same), what else is known -/
abbrev rx_Le : Type := rx_T × List (Nat × Nat) × Option (List (Nat × Option rx_I)) × List (List (Int × Nat) × Int)
noncomputable def rx_EB (m nA : Nat) (sy : rx_Y) (tt : List rx_I) (spec : Option (List (Nat × Option rx_I))) (pos : List (List (Int × Nat) × Int)) : Bool := match spec with
  | none => true
  | some spec => (rx_specB nA spec tt m && (Nat.ble m nA && rx_allR (fun q => Nat.ble m q.1) spec)) && rx_allR (fun q => rx_pos sy none q.1 q.2 && rx_allR (fun t => Nat.ble (t.2 + 1) nA) q.1) pos
def rx_isnil (l : rx_L) : Bool := match l with
  | [] => true
  | _ :: _ => false
noncomputable def rx_legU (na n0 m nA : Nat) (T : rx_T) (t : rx_Le) : Bool := (rx_apR (rx_fp 0 (rx_lenR t.1.2.1)) [] (fun pi => rx_gth (rx_gT T pi) t.2.1 (t.1.1.1.drop m) (fun tt => some ((Nat.ble na (rx_lenR t.1.2.1) && Nat.ble n0 m) && (rx_EB m nA T.1 tt t.2.2.1 t.2.2.2 && rx_subF m T t.1 tt))))).getD false
noncomputable def rx_legT (na n0 m nA : Nat) (M : rx_Md) (stop : Bool) (T : rx_T) (t : rx_Le) : Bool := match stop with
  | true => match Nat.beq T.2.2.2.1 t.1.2.2.2.1 && (Nat.ble T.2.2.1.1 t.1.2.2.1.1 && Nat.ble T.2.2.1.2 t.1.2.2.1.2) with
    | true => rx_legU na n0 m nA T t
    | false => false
  | false => match Nat.beq 0 t.1.2.2.2.1 && ((Nat.ble T.2.2.1.1 M.2.2.2.2.2.2.1 && Nat.ble T.2.2.1.2 M.2.2.2.2.2.2.2.1) && rx_isnil t.1.2.2.2.2.1) with
    | true => rx_legU na n0 m nA T t
    | false => false
noncomputable def rx_leg (KT : List rx_KE) (d : Nat) (M : rx_Md) (na n0 m : Nat) (stops : List Nat) (fuel : Nat) (A : rx_T) (ts : List rx_Le) : Bool := match rx_run1 KT d M stops fuel A with
  | none => false
  | some L => rx_allR (fun T => ts.any (fun t => rx_legT na n0 m (rx_lenR A.1.1) M (rx_isin stops T.2.2.2.1) T t)) L
/-- what a leg says of the new values -/
def rx_EP (g g2 : List Int) (spec : Option (List (Nat × Option rx_I))) (pos : List (List (Int × Nat) × Int)) : Prop := match spec with
  | none => True
  | some spec => (∀ k r, k < g2.length → rx_look2 k spec = some r → g2.getD k 0 = rx_vl g r) ∧ ∀ q ∈ pos, 0 ≤ rx_sm g q.1 + q.2
theorem rx_look2_cons (k a : Nat) (v : Option rx_I) (l : List (Nat × Option rx_I)) : rx_look2 k ((a, v) :: l) = if a = k then v else rx_look2 k l := by
  have e : rx_look2 k ((a, v) :: l) = @Bool.rec (fun _ => Option rx_I) (rx_look2 k l) v (Nat.beq a k) := rfl
  rw [e]
  by_cases h : a = k
  · rw [if_pos h, h, Nat.beq_refl]
  · rw [if_neg h]
    cases hb : Nat.beq a k with
    | false => rfl
    | true => exact absurd (Nat.eq_of_beq_eq_true hb) h
theorem rx_look2_lo {m : Nat} : ∀ {l : List (Nat × Option rx_I)}, (∀ q ∈ l, m ≤ q.1) → ∀ {k : Nat}, k < m → rx_look2 k l = some (k + 1, 0)
  | [], _, _, _ => rfl
  | (a, v) :: l, h, k, hk => by
    have := h (a, v) List.mem_cons_self
    rw [rx_look2_cons, if_neg (by dsimp only at this; omega)]
    exact rx_look2_lo (fun q hq => h q (List.mem_cons_of_mem _ hq)) hk
theorem rx_EB_ok {m nA : Nat} {sy : rx_Y} {tt : List rx_I} {spec : Option (List (Nat × Option rx_I))} {pos : List (List (Int × Nat) × Int)} {g g' g2 : List Int} (h : rx_EB m nA sy tt spec pos = true) (hn : g.length = nA) (hle : rx_le g g') (hG : rx_g sy g') (hT : rx_Th (rx_fn 0 m ++ tt) g' g2) : rx_EP g g2 spec pos := by
  unfold rx_EB at h
  unfold rx_EP
  split at h
  · exact trivial
  · rename_i spec
    simp only [Bool.and_eq_true] at h
    obtain ⟨⟨h1, hmA, hsp⟩, h3⟩ := h
    have h3 := rx_allR_ok h3
    have hmA := Nat.le_of_ble_eq_true hmA
    have hfl : (rx_fn 0 m).length = m := by unfold rx_fn; rw [List.length_map, List.length_range]
    refine ⟨fun k r0 hk hr0 => ?_, fun q hq => ?_⟩
    · obtain ⟨r, hr, hev⟩ := hT.2 k _ (List.getElem?_eq_getElem hk)
      have key : r = r0 ∧ r.1 ≤ nA := by
        rcases Nat.lt_or_ge k m with q | q
        · rw [rx_look2_lo (fun q hq => Nat.le_of_ble_eq_true (rx_allR_ok hsp q hq)) q] at hr0
          rw [rx_fn_at q] at hr
          cases hr0
          cases hr
          exact ⟨rfl, by dsimp only; omega⟩
        · rw [List.getElem?_append_right (by omega), hfl] at hr
          exact rx_specB_ok h1 (k - m) r r0 hr (by rw [← hr0]; congr 1; omega)
      obtain ⟨e, hb⟩ := key
      subst e
      rw [List.getD_eq_getElem?_getD, List.getElem?_eq_getElem hk]
      have e2 := rx_vl_ev hev
      show g2[k] = rx_vl g r
      rw [← e2]
      obtain ⟨j, c⟩ := r
      cases j with
      | zero => rfl
      | succ j =>
        show g'.getD j 0 + c = g.getD j 0 + c
        rw [rx_getD_le hle (by dsimp only at hb; omega)]
    · have h4 := h3 q hq
      rw [Bool.and_eq_true] at h4
      have h5 := rx_allR_ok h4.2
      have h6 : ∀ t ∈ q.1, t.2 < g.length := fun t ht => by rw [hn]; exact Nat.le_of_ble_eq_true (h5 t ht)
      have h7 := rx_sm_ex h6
      have h8 := rx_pos_ok hG (G := none) (fun p hp => by cases hp) h4.1 (h7.mono hle)
      exact h8
theorem rx_legU_ok {na n0 m nA : Nat} {T : rx_T} {t : rx_Le} (h : rx_legU na n0 m nA T t = true) : ∃ tt, na ≤ t.1.2.1.length ∧ n0 ≤ m ∧ rx_EB m nA T.1 tt t.2.2.1 t.2.2.2 = true ∧ rx_subF m T t.1 tt = true := by
  unfold rx_legU at h
  rw [rx_apR_eq] at h
  obtain ⟨tt, h2⟩ := rx_gth_ok (rx_gtd (f := fun x : Bool => x) h)
  have h2 := Option.some.inj h2
  simp only [Bool.and_eq_true] at h2
  refine ⟨tt, ?_, Nat.le_of_ble_eq_true h2.1.2, h2.2.1, h2.2.2⟩
  have := Nat.le_of_ble_eq_true h2.1.1
  rw [rx_lenR_eq] at this
  exact this
theorem rx_leg_ok {KT : List rx_KE} {d : Nat} {M : rx_Md} {na n0 m : Nat} {outs : List rx_T} {GG : rx_T → List Int → Prop} (R : rx_Rl KT d M na n0 outs GG) {stops : List Nat} {fuel : Nat} {A : rx_T} {ts : List rx_Le} (h : rx_leg KT d M na n0 m stops fuel A ts = true) {g : List Int} (hg : rx_g A.1 g)
    (H : ∀ t ∈ ts, ∀ g2, rx_g t.1.1 g2 → rx_EP g g2 t.2.2.1 t.2.2.2 → (t.1.2.2.2.1 ∈ stops → GG t.1 g2) ∧ (t.1.2.2.2.1 = 0 → ∃ sy' : rx_Y, (sy', t.1.2) ∈ outs ∧ rx_g sy' g2)) : GG A g := by
  unfold rx_leg at h
  split at h
  · cases h
  · rename_i L hL
    rw [rx_lenR_eq] at h
    have h := rx_allR_ok h
    refine R.1 stops fuel A g L hL fun T hT hse g' hle hG' => ?_
    obtain ⟨t, ht, h1⟩ := List.any_eq_true.mp (h T hT)
    have hn : g.length = A.1.1.length := hg.1.1
    cases hst : rx_isin stops T.2.2.2.1 with
    | true =>
      rw [hst] at h1
      unfold rx_legT at h1
      dsimp only at h1
      split at h1
      · rename_i hb
        simp only [Bool.and_eq_true] at hb
        obtain ⟨tt, hna, hn0, hE, hsub⟩ := rx_legU_ok h1
        have hpc := Nat.eq_of_beq_eq_true hb.1
        refine R.2.2.1 T t.1 m tt g' hpc (Nat.le_of_ble_eq_true hb.2.1) (Nat.le_of_ble_eq_true hb.2.2) hsub hna hn0 fun g2 hTh hG2 => ?_
        refine (H t ht g2 hG2 (rx_EB_ok hE hn hle hG' hTh)).1 ?_
        rw [← hpc]
        exact rx_isin_ok.mp hst
      · cases h1
    | false =>
      rw [hst] at h1
      unfold rx_legT at h1
      dsimp only at h1
      split at h1
      · rename_i hb
        simp only [Bool.and_eq_true] at hb
        obtain ⟨tt, hna, hn0, hE, hsub⟩ := rx_legU_ok h1
        have hend : rx_ends M T = true := by
          rcases hse with q | q
          · rw [hst] at q; cases q
          · exact q
        have hlc : t.1.2.2.2.2.1 = [] := by
          have := hb.2.2
          unfold rx_isnil at this
          split at this
          · rename_i e; exact e
          · cases this
        refine R.2.2.2.1 T t.1 m tt g' hend (Nat.le_of_ble_eq_true hb.2.1.1) (Nat.le_of_ble_eq_true hb.2.1.2) hlc hsub hna hn0 fun g2 hTh hG2 => ?_
        exact (H t ht g2 hG2 (rx_EB_ok hE hn hle hG' hTh)).2 (Nat.eq_of_beq_eq_true hb.1).symm
      · cases h1
