/-! ===== a state under another, most of whose names are the same, cells in another order: quickly ===== -/
section RXQ2
variable {b : (Nat → Option Nat) × List Int} {as as0 : List Nat} {g g0 : List Int} {ok : Nat → Bool} {pi : List Nat}
def ry_ok (ok : Nat → Bool) (q : rx_I) : Bool := match q.1 with
  | 0 => true
  | k + 1 => ok k
theorem ry_evc (h : ∀ k, ok k = true → g0[k]? = g[k]?) {q : rx_I} {z : Int} (hq : ry_ok ok q = true) (hz : rx_ev g q z) : rx_ev g0 q z := by
  obtain ⟨k, c⟩ := q
  cases k with
  | zero => exact hz
  | succ k =>
    obtain ⟨y, h1, h2⟩ := hz
    exact ⟨y, by rw [h k hq]; exact h1, h2⟩
noncomputable def ry_vB (ok : Nat → Bool) (pi : List Nat) (v : rx_V) : Bool := match v with
  | .inl q => ry_ok ok q
  | .inr (.inl q) => ry_ok ok q
  | .inr (.inr (.inl (some i))) => match rx_nth pi i with
    | some j => Nat.beq j i
    | none => false
  | .inr (.inr (.inl none)) => true
  | .inr (.inr (.inr _)) => true
theorem ry_vc (h : ∀ k, ok k = true → g0[k]? = g[k]?) (hA : ∀ i j r : Nat, pi[i]? = some j → as[j]? = some r → as0[i]? = some r) {v : rx_V} {w : Value} (hv : ry_vB ok pi v = true) (hw : rx_v b as g v w) : rx_v b as0 g0 v w := by
  rcases v with q | q | (_ | i) | k
  · obtain ⟨x, rfl, hx⟩ := hw
    exact ⟨x, rfl, ry_evc h hv hx⟩
  · obtain ⟨x, rfl, hx⟩ := hw
    exact ⟨x, rfl, ry_evc h hv hx⟩
  · exact hw
  · obtain ⟨r, h1, h2⟩ := hw
    have hv : (match rx_nth pi i with | some j => Nat.beq j i | none => false) = true := hv
    rw [rx_nth_eq] at hv
    split at hv
    · rename_i j hj
      have e := Nat.eq_of_beq_eq_true hv
      subst e
      exact ⟨r, hA j j r hj h1, h2⟩
    · cases hv
  · exact hw
theorem ry_vsc (h : ∀ k, ok k = true → g0[k]? = g[k]?) (hA : ∀ i j r : Nat, pi[i]? = some j → as[j]? = some r → as0[i]? = some r) : ∀ {l : List rx_V} {w : List Value}, (∀ v ∈ l, ry_vB ok pi v = true) → rx_vs b as g l w → rx_vs b as0 g0 l w
  | [], [], _, _ => trivial
  | v :: l, w :: ws, hv, hw => ⟨ry_vc h hA (hv v List.mem_cons_self) hw.1, ry_vsc h hA (fun u hu => hv u (List.mem_cons_of_mem _ hu)) hw.2⟩
  | [], _ :: _, _, hw => hw.elim
  | _ :: _, [], _, hw => hw.elim
def ry_eB (ok : Nat → Bool) (v : rx_V) : Bool := match v with
  | .inl q => ry_ok ok q
  | _ => true
theorem ry_rvc (h : ∀ k, ok k = true → g0[k]? = g[k]?) {v : rx_V} {z : Int} (hv : ry_eB ok v = true) (hz : rx_rv g v z) : rx_rv g0 v z := by
  rcases v with q | ⟨w, lo⟩ | _ | _
  · exact ry_evc h hv hz
  · exact hz
  · exact hz
  · exact hz
noncomputable def ry_cB (ok : Nat → Bool) (pi : List Nat) (c : rx_C) : Bool := match c with
  | .inl (_, fs) => rx_allR (ry_vB ok pi) fs
  | .inr (t, _, ex, df) => match Nat.ble 1000 t with
    | true => rx_allR (ry_eB ok) ex && ry_eB ok df
    | false => rx_allR (ry_vB ok pi) ex && ry_vB ok pi df
theorem ry_elB {p : rx_V → Bool} {ex : List rx_V} {df : rx_V} (h1 : rx_allR p ex = true) (h2 : p df = true) (j : Nat) : p (rx_el ex df j) = true := by
  unfold rx_el
  cases hj : ex[j]? with
  | none => exact h2
  | some a => exact rx_allR_ok h1 a (List.mem_of_getElem? hj)
theorem ry_cc {tys : List (ClassId × FieldType)} (h : ∀ k, ok k = true → g0[k]? = g[k]?) (hA : ∀ i j r : Nat, pi[i]? = some j → as[j]? = some r → as0[i]? = some r) {c : rx_C} {e : va_E} (hc : ry_cB ok pi c = true) (hw : rx_c b as g tys c e) : rx_c b as0 g0 tys c e := by
  rcases c with ⟨ci, fs⟩ | ⟨t, n, ex, df⟩
  · unfold rx_c at hw ⊢
    dsimp only at hw ⊢
    cases hb : Nat.beq ci 999 with
    | true => trivial
    | false =>
      rw [hb] at hw
      rcases e with x | ⟨cj, vs⟩
      · exact hw.elim
      · exact ⟨hw.1, ry_vsc h hA (rx_allR_ok hc) hw.2⟩
  · rcases e with ⟨cA, n', a⟩ | x
    · refine ⟨hw.1, hw.2.1, ?_⟩
      have ha := hw.2.2
      unfold rx_a at ha ⊢
      unfold ry_cB at hc
      dsimp only at hc
      cases hb : Nat.ble 1000 t with
      | true =>
        rw [hb] at ha hc
        dsimp only at ha hc
        rw [Bool.and_eq_true] at hc
        have key : ∀ j z, rx_rv g (rx_el ex df j) z → rx_rv g0 (rx_el ex df j) z := fun j z hz => ry_rvc h (ry_elB hc.1 hc.2 j) hz
        rcases a with f | f | f | f | f
        · exact ⟨ha.1, fun j hj => key j _ (ha.2 j hj)⟩
        · exact ⟨ha.1, fun j hj => key j _ (ha.2 j hj)⟩
        · exact ha.elim
        · exact ha.elim
        · exact ha.elim
      | false =>
        rw [hb] at ha hc
        dsimp only at ha hc
        rw [Bool.and_eq_true] at hc
        have key : ∀ j w, rx_v b as g (rx_el ex df j) w → rx_v b as0 g0 (rx_el ex df j) w := fun j w hw => ry_vc h hA (ry_elB hc.1 hc.2 j) hw
        rcases a with f | f | f | f | f
        · exact ⟨ha.1, fun j hj => key j _ (ha.2 j hj)⟩
        · exact ⟨ha.1, fun j hj => key j _ (ha.2 j hj)⟩
        · exact ha.elim
        · exact ha.elim
        · exact ⟨ha.1, fun j hj => key j _ (ha.2 j hj)⟩
    · exact hw.elim
theorem ry_linc (h : ∀ k, ok k = true → g0[k]? = g[k]?) : ∀ {l : List (Int × Nat)} {z : Int}, (∀ t ∈ l, ok t.2 = true) → rx_lin g l z → rx_lin g0 l z
  | [], _, _, hz => hz
  | t :: l, z, hl, hz => by
    obtain ⟨y, z', h1, h2, h3⟩ := hz
    exact ⟨y, z', by rw [h t.2 (hl t List.mem_cons_self)]; exact h1, ry_linc h (fun u hu => hl u (List.mem_cons_of_mem _ hu)) h2, h3⟩
noncomputable def ry_fB (ok : Nat → Bool) (f : rx_F) : Bool := rx_allR (fun q => ok q.1) f.1 && rx_allR (fun t => ok t.2) f.2.1
theorem ry_fc (h : ∀ k, ok k = true → g0[k]? = g[k]?) {f : rx_F} (hf : ry_fB ok f = true) (hz : rx_f g f) : rx_f g0 f := by
  unfold ry_fB at hf
  rw [Bool.and_eq_true] at hf
  have h1 := rx_allR_ok hf.1
  have h2 := rx_allR_ok hf.2
  intro hq
  obtain ⟨z, h3, h4⟩ := hz (fun q hq' y hy => hq q hq' y (by rw [h q.1 (h1 q hq')]; exact hy))
  exact ⟨z, ry_linc h (fun t ht => h2 t ht) h3, h4⟩
noncomputable def ry_fqB (ok : Nat → Bool) (slow : rx_F → Bool) (l : List rx_F) : List rx_F → Bool := @List.rec rx_F (fun _ => List rx_F → Bool) (fun _ => true) (fun f _ ih k => match ry_fB ok f with
  | true => match rx_ffnd f k with
    | some t => ih t
    | none => match slow f with
      | true => ih k
      | false => false
  | false => match slow f with
    | true => ih k
    | false => false) l
theorem ry_fqB_ok {slow : rx_F → Bool} {l : List rx_F} : ∀ {k : List rx_F}, ry_fqB ok slow l k = true → ∀ f ∈ l, (ry_fB ok f = true ∧ f ∈ k) ∨ slow f = true := by
  induction l with
  | nil => exact fun _ f hf => by cases hf
  | cons a l ih =>
    intro k h f hf
    have h : (match ry_fB ok a with
      | true => match rx_ffnd a k with
        | some t => ry_fqB ok slow l t
        | none => match slow a with
          | true => ry_fqB ok slow l k
          | false => false
      | false => match slow a with
        | true => ry_fqB ok slow l k
        | false => false) = true := h
    split at h
    · rename_i hB
      split at h
      · rename_i t ht
        have h1 := rx_ffnd_ok ht
        rcases List.mem_cons.mp hf with rfl | hf
        · exact Or.inl ⟨hB, h1.1⟩
        · rcases ih h f hf with q | q
          · exact Or.inl ⟨q.1, h1.2 f q.2⟩
          · exact Or.inr q
      · split at h
        · rename_i hs
          rcases List.mem_cons.mp hf with rfl | hf
          · exact Or.inr hs
          · exact ih h f hf
        · cases h
    · split at h
      · rename_i hs
        rcases List.mem_cons.mp hf with rfl | hf
        · exact Or.inr hs
        · exact ih h f hf
      · cases h
end RXQ2
noncomputable def ry_e1B (ok : Nat → Bool) (sy : rx_Y) (th : List rx_I) (e0 e : rx_V) : Bool := match rx_veq e0 e && ry_eB ok e0 with
  | true => true
  | false => rx_mE sy th e0 e
noncomputable def ry_v1B (ok : Nat → Bool) (sy : rx_Y) (th : List rx_I) (pi : List Nat) (e0 e : rx_V) : Bool := match rx_veq e0 e && ry_vB ok pi e0 with
  | true => true
  | false => rx_mV sy th pi [] e0 e
noncomputable def ry_okc (ok : Nat → Bool) (sy : rx_Y) (th : List rx_I) (pi : List Nat) (c d : rx_C) : Bool := match rx_ceq c d && ry_cB ok pi c with
  | true => true
  | false => match c with
    | .inl (ci, fs) => match d with
      | .inl (di, es) => match (Nat.beq ci di && Nat.ble ci 998) && rx_zqB (ry_v1B ok sy th pi) fs es with
        | true => true
        | false => rx_mC sy th pi [] c d
      | .inr _ => false
    | .inr (t0, n0, ex0, df0) => match d with
      | .inl _ => false
      | .inr (t, n, ex, df) => match ((Nat.ble 1000 t0 && Nat.beq t t0) && (Nat.beq n n0 && (rx_veq df0 df && ry_eB ok df0))) && rx_zqB (ry_e1B ok sy th) ex0 ex with
        | true => true
        | false => rx_mC sy th pi [] c d
theorem ry_okc_ok {ok : Nat → Bool} {sy : rx_Y} {th : List rx_I} {pi : List Nat} {b : (Nat → Option Nat) × List Int} {as as0 : List Nat} {g g0 : List Int} {tys : List (ClassId × FieldType)} (hG : rx_g sy g) (hT : rx_Th th g g0) (hlo : ∀ k, ok k = true → g0[k]? = g[k]?) (hA : ∀ i j r : Nat, pi[i]? = some j → as[j]? = some r → as0[i]? = some r) {c0 c : rx_C} {e : va_E} (h3 : ry_okc ok sy th pi c0 c = true) (h5 : rx_c b as g tys c e) : rx_c b as0 g0 tys c0 e := by
  have hmv : ∀ v0 v w, rx_mV sy th pi [] v0 v = true → rx_v b as g v w → rx_v b as0 g0 v0 w := by
    intro v0 v w h1 h2
    have := rx_mV_ok (b := b) hG hT hA h1 h2
    rw [rx_b0_nil] at this
    exact this
  have slow : rx_mC sy th pi [] c0 c = true → rx_c b as0 g0 tys c0 e := by
    intro h3
    have := rx_mC_ok (b := b) hG hT hA h3 h5
    rw [rx_b0_nil] at this
    exact this
  unfold ry_okc at h3
  split at h3
  · rename_i hq
    rw [Bool.and_eq_true] at hq
    have e1 := rx_ceq_t hq.1
    subst e1
    exact ry_cc hlo hA hq.2 h5
  · rename_i hfalse
    clear hfalse
    rcases c0 with ⟨ci, fs⟩ | ⟨t0, n0, ex0, df0⟩
    · rcases c with ⟨di, es⟩ | x
      · dsimp only at h3
        split at h3
        · rename_i hq
          simp only [Bool.and_eq_true] at hq
          obtain ⟨⟨q1, q2⟩, q3⟩ := hq
          have e1 := Nat.eq_of_beq_eq_true q1
          have e2 := Nat.le_of_ble_eq_true q2
          subst e1
          have hb : Nat.beq ci 999 = false := by
            cases q : Nat.beq ci 999 with
            | false => rfl
            | true => have := Nat.eq_of_beq_eq_true q; omega
          obtain ⟨q4, q5⟩ := rx_zqB_ok q3
          unfold rx_c at h5
          dsimp only at h5
          rw [hb] at h5
          rcases e with x | ⟨cj, vs⟩
          · exact h5.elim
          · obtain ⟨rfl, h6⟩ := h5
            refine rx_c_obj ?_
            have hp : ∀ v0 v w, ry_v1B ok sy th pi v0 v = true → rx_v b as g v w → rx_v b as0 g0 v0 w := by
              intro v0 v w h7 h8
              unfold ry_v1B at h7
              split at h7
              · rename_i hr
                rw [Bool.and_eq_true] at hr
                have e3 := rx_veq_t hr.1
                subst e3
                exact ry_vc hlo hA hr.2 h8
              · exact hmv v0 v w h7 h8
            exact rx_zv_ok hp q4 q5 h6
        · exact slow h3
      · cases h3
    · rcases c with x | ⟨t, n, ex, df⟩
      · cases h3
      · dsimp only at h3
        split at h3
        · rename_i hq
          simp only [Bool.and_eq_true] at hq
          obtain ⟨⟨⟨q1, q2⟩, q3, q4, q5⟩, q6⟩ := hq
          have q1 := Nat.le_of_ble_eq_true q1
          have e1 := Nat.eq_of_beq_eq_true q2
          have e2 := Nat.eq_of_beq_eq_true q3
          have e3 := rx_veq_t q4
          subst e1
          subst e2
          subst e3
          obtain ⟨q7, q8⟩ := rx_zqB_ok q6
          rcases e with ⟨cA, n', x⟩ | x
          · refine ⟨h5.1, h5.2.1, ?_⟩
            have ha := h5.2.2
            rw [rx_a_hi q1] at ha ⊢
            have key : ∀ j z, rx_rv g (rx_el ex df0 j) z → rx_rv g0 (rx_el ex0 df0 j) z := by
              intro j z hz
              unfold rx_el at hz ⊢
              rcases Nat.lt_or_ge j ex0.length with r | r
              · have r2 : j < ex.length := by omega
                rw [List.getElem?_eq_getElem r2] at hz
                rw [List.getElem?_eq_getElem r]
                dsimp only at hz ⊢
                have h7 := q8 j _ _ (List.getElem?_eq_getElem r) (List.getElem?_eq_getElem r2)
                unfold ry_e1B at h7
                split at h7
                · rename_i hr
                  rw [Bool.and_eq_true] at hr
                  have e4 := rx_veq_t hr.1
                  have h9 := hr.2
                  rw [e4] at h9
                  have h10 := ry_rvc hlo h9 hz
                  rw [← e4] at h10
                  exact h10
                · exact rx_mE_ok hG hT h7 hz
              · rw [List.getElem?_eq_none (by omega)] at hz
                rw [List.getElem?_eq_none (by omega)]
                exact ry_rvc hlo q5 hz
            rcases x with f | f | f | f | f
            · exact ⟨ha.1, fun j hj => key j _ (ha.2 j hj)⟩
            · exact ⟨ha.1, fun j hj => key j _ (ha.2 j hj)⟩
            · exact ha.elim
            · exact ha.elim
            · exact ha.elim
          · exact h5.elim
        · exact slow h3
/-- where a name isn't its own -/
noncomputable def ry_ch (th : List rx_I) : Nat → List Nat := @List.rec rx_I (fun _ => Nat → List Nat) (fun _ => []) (fun q _ ih k => match Nat.beq q.1 (k + 1) && rx_ieq q.2 0 with
  | true => ih (k + 1)
  | false => k :: ih (k + 1)) th
theorem ry_ch_ok {th : List rx_I} : ∀ {n k : Nat} {q : rx_I}, th[k]? = some q → rx_isin (ry_ch th n) (n + k) = false → q = (n + k + 1, 0) := by
  induction th with
  | nil => exact fun h => by simp at h
  | cons a th ih =>
    intro n k q hq hin
    have e : ry_ch (a :: th) n = (match Nat.beq a.1 (n + 1) && rx_ieq a.2 0 with | true => ry_ch th (n + 1) | false => n :: ry_ch th (n + 1)) := rfl
    rw [e] at hin
    have sub : rx_isin (ry_ch th (n + 1)) (n + k) = false := by
      split at hin
      · exact hin
      · cases h : rx_isin (ry_ch th (n + 1)) (n + k) with
        | false => rfl
        | true =>
          have h1 := rx_isin_ok.mp h
          have h2 := rx_isin_ok.mpr (List.mem_cons_of_mem n h1)
          rw [h2] at hin
          cases hin
    cases k with
    | zero =>
      rw [List.getElem?_cons_zero] at hq
      cases hq
      split at hin
      · rename_i hb
        rw [Bool.and_eq_true] at hb
        exact Prod.ext (Nat.eq_of_beq_eq_true hb.1) (rx_ieq_t hb.2)
      · have h2 : rx_isin (n :: ry_ch th (n + 1)) (n + 0) = true := rx_isin_ok.mpr List.mem_cons_self
        rw [h2] at hin
        cases hin
    | succ k =>
      rw [List.getElem?_cons_succ] at hq
      have := ih (n := n + 1) hq (by rw [show n + 1 + k = n + (k + 1) by omega]; exact sub)
      rw [this]
      congr 1
      omega
/-- bounds: one's own quickly -/
noncomputable def ry_bB (n : Nat) (sy : rx_Y) (th : List rx_I) : List (Int × Int) → List (Int × Int) → Nat → Bool := @List.rec rx_I (fun _ => List (Int × Int) → List (Int × Int) → Nat → Bool) (fun l _ _ => match l with
  | [] => true
  | _ :: _ => false) (fun q _ ih l t k => match l with
  | [] => false
  | r :: l' => match t with
    | [] => match Nat.ble q.1 n && rx_inr sy q r.1 r.2 with
      | true => ih l' [] (k + 1)
      | false => false
    | u :: t' => match (match Nat.beq q.1 (k + 1) && (rx_ieq q.2 0 && (rx_ile r.1 u.1 && rx_ile u.2 r.2)) with
      | true => true
      | false => Nat.ble q.1 n && rx_inr sy q r.1 r.2) with
      | true => ih l' t' (k + 1)
      | false => false) th
theorem ry_vle {g : List Int} {r : rx_I} (h : r.1 ≤ g.length) : rx_ev g r (rx_vl g r) := by
  obtain ⟨k, c⟩ := r
  cases k with
  | zero => rfl
  | succ k =>
    have h : k + 1 ≤ g.length := h
    refine ⟨g[k], List.getElem?_eq_getElem (by omega), ?_⟩
    show g.getD k 0 + c = _
    rw [List.getD_eq_getElem?_getD, List.getElem?_eq_getElem (by omega)]
    rfl
theorem ry_bB_ok {n : Nat} {sy : rx_Y} {g : List Int} (hG : rx_g sy g) (hn : n = g.length) {th : List rx_I} : ∀ {l t : List (Int × Int)} {k : Nat}, (∀ j u, t[j]? = some u → sy.1[k + j]? = some u) → ry_bB n sy th l t k = true → l.length = th.length ∧ ∀ (j : Nat) (q : rx_I) (r : Int × Int), th[j]? = some q → l[j]? = some r → q.1 ≤ g.length ∧ r.1 ≤ rx_vl g q ∧ rx_vl g q ≤ r.2 := by
  induction th with
  | nil =>
    intro l t k ht h
    cases l with
    | nil => exact ⟨rfl, fun j q r hq => by simp at hq⟩
    | cons a l => cases h
  | cons q th ih =>
    intro l t k ht h
    cases l with
    | nil => cases h
    | cons r l =>
      have slow : (Nat.ble q.1 n && rx_inr sy q r.1 r.2) = true → q.1 ≤ g.length ∧ r.1 ≤ rx_vl g q ∧ rx_vl g q ≤ r.2 := by
        intro h1
        rw [Bool.and_eq_true] at h1
        have h2 : q.1 ≤ g.length := by rw [← hn]; exact Nat.le_of_ble_eq_true h1.1
        exact ⟨h2, rx_inr_ok hG h1.2 (ry_vle h2)⟩
      have fin : ∀ t', (∀ j u, t'[j]? = some u → sy.1[k + 1 + j]? = some u) → (q.1 ≤ g.length ∧ r.1 ≤ rx_vl g q ∧ rx_vl g q ≤ r.2) → ry_bB n sy th l t' (k + 1) = true → (r :: l).length = (q :: th).length ∧ ∀ (j : Nat) (q' : rx_I) (r' : Int × Int), (q :: th)[j]? = some q' → (r :: l)[j]? = some r' → q'.1 ≤ g.length ∧ r'.1 ≤ rx_vl g q' ∧ rx_vl g q' ≤ r'.2 := by
        intro t' ht' h0 h1
        have h2 := ih ht' h1
        refine ⟨by rw [List.length_cons, List.length_cons, h2.1], fun j q' r' hq hr => ?_⟩
        cases j with
        | zero =>
          rw [List.getElem?_cons_zero] at hq hr
          cases hq
          cases hr
          exact h0
        | succ j =>
          rw [List.getElem?_cons_succ] at hq hr
          exact h2.2 j q' r' hq hr
      cases t with
      | nil =>
        have h : (match Nat.ble q.1 n && rx_inr sy q r.1 r.2 with | true => ry_bB n sy th l [] (k + 1) | false => false) = true := h
        split at h
        · rename_i hb
          exact fin [] (fun j u hu => by simp at hu) (slow hb) h
        · cases h
      | cons u t =>
        have h : (match (match Nat.beq q.1 (k + 1) && (rx_ieq q.2 0 && (rx_ile r.1 u.1 && rx_ile u.2 r.2)) with
          | true => true
          | false => Nat.ble q.1 n && rx_inr sy q r.1 r.2) with
          | true => ry_bB n sy th l t (k + 1)
          | false => false) = true := h
        have ht' : ∀ j u', t[j]? = some u' → sy.1[k + 1 + j]? = some u' := by
          intro j u' hu
          have := ht (j + 1) u' (by rw [List.getElem?_cons_succ]; exact hu)
          rw [← this]
          congr 1
          omega
        split at h
        · rename_i hb
          refine fin t ht' ?_ h
          split at hb
          · rename_i hq
            simp only [Bool.and_eq_true] at hq
            have e1 := Nat.eq_of_beq_eq_true hq.1
            have e2 := rx_ieq_t hq.2.1
            have e3 := (rx_ile_iff _ _).mp hq.2.2.1
            have e4 := (rx_ile_iff _ _).mp hq.2.2.2
            have hu := ht 0 u rfl
            have hk : k < g.length := by rw [hG.1.1]; exact (List.getElem?_eq_some_iff.mp hu).1
            have h5 := hG.1.2 k g[k] u (List.getElem?_eq_getElem hk) hu
            obtain ⟨q1, q2⟩ := q
            dsimp only at e1 e2
            subst e1
            subst e2
            refine ⟨hk, ?_⟩
            show r.1 ≤ g.getD k 0 + 0 ∧ g.getD k 0 + 0 ≤ r.2
            rw [List.getD_eq_getElem?_getD, List.getElem?_eq_getElem hk]
            show r.1 ≤ g[k] + 0 ∧ g[k] + 0 ≤ r.2
            omega
          · exact slow hb
        · cases h
noncomputable def ry_hB (okc : rx_C → rx_C → Bool) (h : List rx_C) (ps : List Nat) : List rx_C → Bool := @List.rec Nat (fun _ => List rx_C → Bool) (fun l => match l with
  | [] => true
  | _ :: _ => false) (fun j _ ih l => match l with
  | [] => false
  | c0 :: t => match rx_nth h j with
    | some c => match okc c0 c with
      | true => ih t
      | false => false
    | none => false) ps
theorem ry_hB_ok {okc : rx_C → rx_C → Bool} {h : List rx_C} {ps : List Nat} : ∀ {h0 : List rx_C}, ry_hB okc h ps h0 = true → ps.length = h0.length ∧ ∀ (i : Nat) (c0 : rx_C), h0[i]? = some c0 → ∃ j c, ps[i]? = some j ∧ h[j]? = some c ∧ okc c0 c = true := by
  induction ps with
  | nil =>
    intro h0 hh
    cases h0 with
    | nil => exact ⟨rfl, fun i c0 hc => by simp at hc⟩
    | cons c h0 => cases hh
  | cons j ps ih =>
    intro h0 hh
    cases h0 with
    | nil => cases hh
    | cons c0 h0 =>
      have hh : (match rx_nth h j with
        | some c => match okc c0 c with
          | true => ry_hB okc h ps h0
          | false => false
        | none => false) = true := hh
      rw [rx_nth_eq] at hh
      split at hh
      · rename_i c hc
        split at hh
        · rename_i hb
          have h1 := ih hh
          refine ⟨by rw [List.length_cons, List.length_cons, h1.1], fun i c1 hc1 => ?_⟩
          cases i with
          | zero =>
            rw [List.getElem?_cons_zero] at hc1
            cases hc1
            exact ⟨j, c, rfl, hc, hb⟩
          | succ i =>
            rw [List.getElem?_cons_succ] at hc1
            obtain ⟨j', c', h2, h3, h4⟩ := h1.2 i c1 hc1
            exact ⟨j', c', by rw [List.getElem?_cons_succ]; exact h2, h3, h4⟩
        · cases hh
      · cases hh
noncomputable def ry_subQ (T S : rx_T) (th : List rx_I) (pi : List Nat) (ch : List Nat) : Bool :=
  (ry_bB (rx_lenR T.1.1) T.1 th S.1.1 T.1.1 0 && ry_fqB (fun k => @Bool.rec (fun _ => Bool) true false (rx_isin ch k) && Nat.ble (k + 1) (rx_lenR th)) (rx_fOK T.1 th) S.1.2 T.1.2) && ((ry_hB (ry_okc (fun k => @Bool.rec (fun _ => Bool) true false (rx_isin ch k) && Nat.ble (k + 1) (rx_lenR th)) T.1 th pi) T.2.1 pi S.2.1 && rx_ndp pi) && (rx_lsub T.1 th pi S.2.2.2.2.1 T.2.2.2.2.1 && rx_all2 (rx_mV T.1 th pi []) S.2.2.2.2.2 T.2.2.2.2.2))
noncomputable def ry_subG (T S : rx_T) (th : List rx_I) (pi : List Nat) : Bool := ry_subQ T S th pi (ry_ch th 0)
theorem ry_subG_ok {T S : rx_T} {th : List rx_I} {pi : List Nat} {b : (Nat → Option Nat) × List Int} (hb2 : b.2 = []) {D : va_G} {A : Nat → Prop} {g : List Int} {tys : List (ClassId × FieldType)} {ws : va_W} {lv : List (Nat × Value)} {ls : Array Slot} {nL : Nat} {st : List Value} {H : Heap} (hk : ry_subG T S th pi = true) (hG : rx_g T.1 g) (hH : rx_h b g tys T.2.1 ws) (hP : va_P D vwCl ws H) (hD : va_D A ws) (hl : rx_ls b (ws.map Prod.fst) g T.2.2.2.2.1 lv) (hv : lv_has ls nL lv) (hst : rx_vs b (ws.map Prod.fst) g T.2.2.2.2.2 st) :
    ∃ (g0 : List Int) (ws0 : va_W) (lv0 : List (Nat × Value)), rx_Th th g g0 ∧ rx_g S.1 g0 ∧ rx_h b g0 tys S.2.1 ws0 ∧ va_P D vwCl ws0 H ∧ va_D A ws0 ∧ rx_ls b (ws0.map Prod.fst) g0 S.2.2.2.2.1 lv0 ∧ lv_has ls nL lv0 ∧ rx_vs b (ws0.map Prod.fst) g0 S.2.2.2.2.2 st := by
  unfold ry_subG ry_subQ at hk
  rw [rx_lenR_eq, rx_lenR_eq] at hk
  generalize hok : (fun k : Nat => @Bool.rec (fun _ => Bool) true false (rx_isin (ry_ch th 0) k) && Nat.ble (k + 1) th.length) = ok at hk
  simp only [Bool.and_eq_true] at hk
  obtain ⟨⟨k1, k3⟩, ⟨k4, k7⟩, k5, k6⟩ := hk
  obtain ⟨k1, k2⟩ := ry_bB_ok hG hG.1.1.symm (fun j u hu => by rw [Nat.zero_add]; exact hu) k1
  obtain ⟨g0, hg0⟩ : ∃ g0, g0 = th.map (rx_vl g) := ⟨_, rfl⟩
  have hat : ∀ (j : Nat) (q : rx_I), th[j]? = some q → q.1 ≤ g.length := by
    intro j q hq
    have hj : j < S.1.1.length := by rw [k1]; exact (List.getElem?_eq_some_iff.mp hq).1
    exact (k2 j q _ hq (List.getElem?_eq_getElem hj)).1
  have hT : rx_Th th g g0 := by
    refine ⟨by rw [hg0, List.length_map], fun j z hz => ?_⟩
    rw [hg0, List.getElem?_map] at hz
    cases hq : th[j]? with
    | none => rw [hq] at hz; cases hz
    | some q =>
      rw [hq] at hz
      have hz : some (rx_vl g q) = some z := hz
      cases hz
      exact ⟨q, rfl, ry_vle (hat j q hq)⟩
  have hlo : ∀ k, ok k = true → g0[k]? = g[k]? := by
    intro k hk
    rw [← hok] at hk
    dsimp only at hk
    rw [Bool.and_eq_true] at hk
    have hkt : k < th.length := Nat.le_of_ble_eq_true hk.2
    have hin : rx_isin (ry_ch th 0) k = false := by
      cases h : rx_isin (ry_ch th 0) k with
      | false => rfl
      | true => rw [h] at hk; cases hk.1
    have e := ry_ch_ok (n := 0) (List.getElem?_eq_getElem hkt) (by rw [Nat.zero_add]; exact hin)
    rw [Nat.zero_add] at e
    have hkg : k < g.length := by
      have := hat k _ (List.getElem?_eq_getElem hkt)
      rw [e] at this
      exact this
    rw [hg0, List.getElem?_map, List.getElem?_eq_getElem hkt, e, List.getElem?_eq_getElem hkg]
    show some (g.getD k 0 + 0) = _
    rw [List.getD_eq_getElem?_getD, List.getElem?_eq_getElem hkg]
    show some (g[k] + 0) = _
    rw [Int.add_zero]
  have hG0 : rx_g S.1 g0 := by
    refine ⟨⟨by rw [hg0, List.length_map, k1], fun k z q hz hq => ?_⟩, fun f hf => ?_⟩
    · rw [hg0, List.getElem?_map] at hz
      cases hqk : th[k]? with
      | none => rw [hqk] at hz; cases hz
      | some q' =>
        rw [hqk] at hz
        have hz : some (rx_vl g q') = some z := hz
        cases hz
        exact (k2 k q' q hqk hq).2
    · rcases ry_fqB_ok k3 f hf with ⟨q1, q2⟩ | q
      · exact ry_fc hlo q1 (hG.2 f q2)
      · exact rx_fOK_ok hG hT q
  obtain ⟨hpl, hmh⟩ := ry_hB_ok k4
  have hin : ∀ i j : Nat, pi[i]? = some j → j < ws.length := by
    intro i j hij
    have hi : i < S.2.1.length := by rw [← hpl]; exact (List.getElem?_eq_some_iff.mp hij).1
    obtain ⟨j', c, h1, h2, -⟩ := hmh i _ (List.getElem?_eq_getElem hi)
    rw [hij] at h1
    cases h1
    rw [← hH.1]
    exact (List.getElem?_eq_some_iff.mp h2).1
  obtain ⟨ws0, hws0⟩ : ∃ ws0 : va_W, ws0 = pi.map (fun j => ws.getD j rx_dW) := ⟨_, rfl⟩
  have hw0 : ∀ i j : Nat, pi[i]? = some j → ws0[i]? = ws[j]? := by
    intro i j hij
    rw [hws0, List.getElem?_map, hij, rx_gtD (hin i j hij)]
    rfl
  have hw0l : ws0.length = pi.length := by rw [hws0, List.length_map]
  have hw1 : ∀ (i : Nat) (q : Nat × va_E), ws0[i]? = some q → ∃ j, pi[i]? = some j ∧ ws[j]? = some q := by
    intro i q hq
    have hi : i < pi.length := by rw [← hw0l]; exact (List.getElem?_eq_some_iff.mp hq).1
    refine ⟨pi[i], List.getElem?_eq_getElem hi, ?_⟩
    rw [← hw0 i _ (List.getElem?_eq_getElem hi)]
    exact hq
  have hA : ∀ (i j r : Nat), pi[i]? = some j → (ws.map Prod.fst)[j]? = some r → (ws0.map Prod.fst)[i]? = some r := by
    intro i j r hij hr
    rw [List.getElem?_map] at hr ⊢
    rw [hw0 i j hij]
    exact hr
  have hmv : ∀ v0 v w, rx_mV T.1 th pi [] v0 v = true → rx_v b (ws.map Prod.fst) g v w → rx_v b (ws0.map Prod.fst) g0 v0 w := by
    intro v0 v w h1 h2
    have := rx_mV_ok (b := b) hG hT hA h1 h2
    rw [rx_b0_nil] at this
    exact this
  have hby : ∀ (k : Nat) (q : Nat × va_E), ws0[k]? = some q → ws[pi.getD k 0]? = some q := by
    intro k q hq
    obtain ⟨j, h1, h2⟩ := hw1 k q hq
    rw [List.getD_eq_getElem?_getD, h1]
    exact h2
  have hinj : ∀ i j : Nat, i < ws0.length → j < ws0.length → pi.getD i 0 = pi.getD j 0 → i = j := by
    intro i j hi hj hij
    rw [hw0l] at hi hj
    rw [List.getD_eq_getElem?_getD, List.getD_eq_getElem?_getD, List.getElem?_eq_getElem hi, List.getElem?_eq_getElem hj] at hij
    have hij : pi[i] = pi[j] := hij
    exact rx_ndp_ok k7 i j pi[j] (by rw [List.getElem?_eq_getElem hi, hij]) (List.getElem?_eq_getElem hj)
  have hH0 : rx_h b g0 tys S.2.1 ws0 := by
    refine ⟨by rw [hw0l, hpl], fun i c0 hc0 => ?_, by rw [hb2]; exact fun i x hx => by simp at hx⟩
    obtain ⟨j, c, h1, h2, h3⟩ := hmh i c0 hc0
    obtain ⟨a, e, h4, h5⟩ := hH.2.1 j c h2
    exact ⟨a, e, by rw [hw0 i j h1]; exact h4, ry_okc_ok hG hT hlo hA h3 h5⟩
  have hls : ∃ lv0 : List (Nat × Value), rx_ls b (ws0.map Prod.fst) g0 S.2.2.2.2.1 lv0 ∧ ∀ q ∈ lv0, q ∈ lv := by
    have k5 := rx_allR_ok k5
    generalize S.2.2.2.2.1 = lc0 at k5
    induction lc0 with
    | nil => exact ⟨[], trivial, fun q hq => by cases hq⟩
    | cons q lc0 ih =>
      obtain ⟨lv1, h1, h2⟩ := ih (fun a ha => k5 a (List.mem_cons_of_mem _ ha))
      have h3 := k5 q List.mem_cons_self
      rw [rx_lkR_eq] at h3
      split at h3
      · rename_i v hv9
        obtain ⟨k, w, h4, h5⟩ := rx_lk_ok hl hv9
        refine ⟨(q.1, w) :: lv1, ⟨⟨rfl, hmv _ _ _ h3 h5⟩, h1⟩, fun a ha => ?_⟩
        rcases List.mem_cons.mp ha with rfl | ha
        · exact List.mem_of_getElem? h4
        · exact h2 a ha
      · cases h3
  obtain ⟨lv0, hl0, hlv⟩ := hls
  exact ⟨g0, ws0, lv0, hT, hG0, hH0, hP.by _ hby, hD.by _ hby hinj, hl0, ⟨hv.1, hv.2.1, fun q hq => hv.2.2 q (hlv q hq)⟩, rx_all2_ok hmv k6 hst⟩
