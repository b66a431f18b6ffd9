/-! ===== a state under another whose first names are the same: quickly ===== -/
section RXQ
variable {b : (Nat → Option Nat) × List Int} {as as0 : List Nat} {g g0 : List Int} {m nC : Nat}
theorem rx_evc (h : ∀ k, k < m → g0[k]? = g[k]?) {q : rx_I} {z : Int} (hq : q.1 ≤ m) (hz : rx_ev g q z) : rx_ev g0 q z := by
  obtain ⟨k, c⟩ := q
  cases k with
  | zero => exact hz
  | succ k =>
    obtain ⟨y, h1, h2⟩ := hz
    exact ⟨y, by rw [h k hq]; exact h1, h2⟩
def rx_vB (m nC : Nat) (v : rx_V) : Bool := match v with
  | .inl q => Nat.ble q.1 m
  | .inr (.inl q) => Nat.ble q.1 m
  | .inr (.inr (.inl (some i))) => Nat.ble (i + 1) nC
  | .inr (.inr (.inl none)) => true
  | .inr (.inr (.inr _)) => true
theorem rx_vc (h : ∀ k, k < m → g0[k]? = g[k]?) (hA : ∀ i r, i < nC → as[i]? = some r → as0[i]? = some r) {v : rx_V} {w : Value} (hv : rx_vB m nC v = true) (hw : rx_v b as g v w) : rx_v b as0 g0 v w := by
  rcases v with q | q | (_ | i) | k
  · obtain ⟨x, rfl, hx⟩ := hw
    exact ⟨x, rfl, rx_evc h (Nat.le_of_ble_eq_true hv) hx⟩
  · obtain ⟨x, rfl, hx⟩ := hw
    exact ⟨x, rfl, rx_evc h (Nat.le_of_ble_eq_true hv) hx⟩
  · exact hw
  · obtain ⟨r, h1, h2⟩ := hw
    exact ⟨r, hA i r (Nat.le_of_ble_eq_true hv) h1, h2⟩
  · exact hw
theorem rx_vsc (h : ∀ k, k < m → g0[k]? = g[k]?) (hA : ∀ i r, i < nC → as[i]? = some r → as0[i]? = some r) : ∀ {l : List rx_V} {w : List Value}, (∀ v ∈ l, rx_vB m nC v = true) → rx_vs b as g l w → rx_vs b as0 g0 l w
  | [], [], _, _ => trivial
  | v :: l, w :: ws, hv, hw => ⟨rx_vc h hA (hv v List.mem_cons_self) hw.1, rx_vsc h hA (fun u hu => hv u (List.mem_cons_of_mem _ hu)) hw.2⟩
  | [], _ :: _, _, hw => hw.elim
  | _ :: _, [], _, hw => hw.elim
def rx_eB (m : Nat) (v : rx_V) : Bool := match v with
  | .inl q => Nat.ble q.1 m
  | _ => true
theorem rx_rvc (h : ∀ k, k < m → g0[k]? = g[k]?) {v : rx_V} {z : Int} (hv : rx_eB m v = true) (hz : rx_rv g v z) : rx_rv g0 v z := by
  rcases v with q | ⟨w, lo⟩ | _ | _
  · exact rx_evc h (Nat.le_of_ble_eq_true hv) hz
  · exact hz
  · exact hz
  · exact hz
noncomputable def rx_cB (m nC : Nat) (c : rx_C) : Bool := match c with
  | .inl (_, fs) => rx_allR (rx_vB m nC) fs
  | .inr (t, _, ex, df) => match Nat.ble 1000 t with
    | true => rx_allR (rx_eB m) ex && rx_eB m df
    | false => rx_allR (rx_vB m nC) ex && rx_vB m nC df
theorem rx_elB {p : rx_V → Bool} {ex : List rx_V} {df : rx_V} (h1 : rx_allR p ex = true) (h2 : p df = true) (j : Nat) : p (rx_el ex df j) = true := by
  unfold rx_el
  cases hj : ex[j]? with
  | none => exact h2
  | some a => exact rx_allR_ok h1 a (List.mem_of_getElem? hj)
theorem rx_cc {tys : List (ClassId × FieldType)} (h : ∀ k, k < m → g0[k]? = g[k]?) (hA : ∀ i r, i < nC → as[i]? = some r → as0[i]? = some r) {c : rx_C} {e : va_E} (hc : rx_cB m nC c = true) (hw : rx_c b as g tys c e) : rx_c b as0 g0 tys c e := by
  rcases c with ⟨ci, fs⟩ | ⟨t, n, ex, df⟩
  · unfold rx_c at hw ⊢
    dsimp only at hw ⊢
    cases hb : Nat.beq ci 999 with
    | true => trivial
    | false =>
      rw [hb] at hw
      rcases e with x | ⟨cj, vs⟩
      · exact hw.elim
      · exact ⟨hw.1, rx_vsc h hA (rx_allR_ok hc) hw.2⟩
  · rcases e with ⟨cA, n', a⟩ | x
    · refine ⟨hw.1, hw.2.1, ?_⟩
      have ha := hw.2.2
      unfold rx_a at ha ⊢
      unfold rx_cB at hc
      dsimp only at hc
      cases hb : Nat.ble 1000 t with
      | true =>
        rw [hb] at ha hc
        dsimp only at ha hc
        rw [Bool.and_eq_true] at hc
        have key : ∀ j z, rx_rv g (rx_el ex df j) z → rx_rv g0 (rx_el ex df j) z := fun j z hz => rx_rvc h (rx_elB hc.1 hc.2 j) hz
        rcases a with f | f | f | f | f
        · exact ⟨ha.1, fun j hj => key j _ (ha.2 j hj)⟩
        · exact ⟨ha.1, fun j hj => key j _ (ha.2 j hj)⟩
        · exact ha.elim
        · exact ha.elim
        · exact ha.elim
      | false =>
        rw [hb] at ha hc
        dsimp only at ha hc
        rw [Bool.and_eq_true] at hc
        have key : ∀ j w, rx_v b as g (rx_el ex df j) w → rx_v b as0 g0 (rx_el ex df j) w := fun j w hw => rx_vc h hA (rx_elB hc.1 hc.2 j) hw
        rcases a with f | f | f | f | f
        · exact ⟨ha.1, fun j hj => key j _ (ha.2 j hj)⟩
        · exact ⟨ha.1, fun j hj => key j _ (ha.2 j hj)⟩
        · exact ha.elim
        · exact ha.elim
        · exact ⟨ha.1, fun j hj => key j _ (ha.2 j hj)⟩
    · exact hw.elim
noncomputable def rx_leq (l : List rx_V) : List rx_V → Bool := @List.rec rx_V (fun _ => List rx_V → Bool) (fun k => match k with
  | [] => true
  | _ :: _ => false) (fun a _ ih k => match k with
  | [] => false
  | c :: t => match rx_veq a c with
    | true => ih t
    | false => false) l
theorem rx_leq_t {l : List rx_V} : ∀ {k : List rx_V}, rx_leq l k = true → l = k := by
  induction l with
  | nil =>
    intro k h
    cases k with
    | nil => rfl
    | cons a t => cases h
  | cons a l ih =>
    intro k h
    cases k with
    | nil => cases h
    | cons c t =>
      have h : (match rx_veq a c with | true => rx_leq l t | false => false) = true := h
      split at h
      · rename_i hv
        rw [rx_veq_t hv, ih h]
      · cases h
noncomputable def rx_ceq (c d : rx_C) : Bool := match c with
  | .inl (ci, fs) => match d with
    | .inl (di, es) => match Nat.beq ci di with
      | true => rx_leq fs es
      | false => false
    | .inr _ => false
  | .inr (t, n, ex, df) => match d with
    | .inl _ => false
    | .inr (t', n', ex', df') => match (Nat.beq t t' && Nat.beq n n') && rx_veq df df' with
      | true => rx_leq ex ex'
      | false => false
theorem rx_ceq_t {c d : rx_C} (h : rx_ceq c d = true) : c = d := by
  rcases c with ⟨ci, fs⟩ | ⟨t, n, ex, df⟩
  · rcases d with ⟨di, es⟩ | x
    · unfold rx_ceq at h
      dsimp only at h
      split at h
      · rename_i hb
        rw [Nat.eq_of_beq_eq_true hb, rx_leq_t h]
      · cases h
    · cases h
  · rcases d with x | ⟨t', n', ex', df'⟩
    · cases h
    · unfold rx_ceq at h
      dsimp only at h
      split at h
      · rename_i hb
        simp only [Bool.and_eq_true] at hb
        rw [Nat.eq_of_beq_eq_true hb.1.1, Nat.eq_of_beq_eq_true hb.1.2, rx_veq_t hb.2, rx_leq_t h]
      · cases h
theorem rx_linc (h : ∀ k, k < m → g0[k]? = g[k]?) : ∀ {l : List (Int × Nat)} {z : Int}, (∀ t ∈ l, t.2 < m) → rx_lin g l z → rx_lin g0 l z
  | [], _, _, hz => hz
  | t :: l, z, hl, hz => by
    obtain ⟨y, z', h1, h2, h3⟩ := hz
    exact ⟨y, z', by rw [h t.2 (hl t List.mem_cons_self)]; exact h1, rx_linc h (fun u hu => hl u (List.mem_cons_of_mem _ hu)) h2, h3⟩
noncomputable def rx_fB (m : Nat) (f : rx_F) : Bool := rx_allR (fun q => Nat.ble (q.1 + 1) m) f.1 && rx_allR (fun t => Nat.ble (t.2 + 1) m) f.2.1
theorem rx_fc (h : ∀ k, k < m → g0[k]? = g[k]?) {f : rx_F} (hf : rx_fB m f = true) (hz : rx_f g f) : rx_f g0 f := by
  unfold rx_fB at hf
  rw [Bool.and_eq_true] at hf
  have h1 := rx_allR_ok hf.1
  have h2 := rx_allR_ok hf.2
  intro hq
  obtain ⟨z, h3, h4⟩ := hz (fun q hq' y hy => hq q hq' y (by rw [h q.1 (Nat.le_of_ble_eq_true (h1 q hq'))]; exact hy))
  exact ⟨z, rx_linc h (fun t ht => Nat.le_of_ble_eq_true (h2 t ht)) h3, h4⟩
noncomputable def rx_geq (l : List (Nat × Int)) : List (Nat × Int) → Bool := @List.rec (Nat × Int) (fun _ => List (Nat × Int) → Bool) (fun k => match k with
  | [] => true
  | _ :: _ => false) (fun a _ ih k => match k with
  | [] => false
  | c :: t => match Nat.beq a.1 c.1 && rx_ieq a.2 c.2 with
    | true => ih t
    | false => false) l
theorem rx_geq_t {l : List (Nat × Int)} : ∀ {k : List (Nat × Int)}, rx_geq l k = true → l = k := by
  induction l with
  | nil =>
    intro k h
    cases k with
    | nil => rfl
    | cons a t => cases h
  | cons a l ih =>
    intro k h
    cases k with
    | nil => cases h
    | cons c t =>
      have h : (match Nat.beq a.1 c.1 && rx_ieq a.2 c.2 with | true => rx_geq l t | false => false) = true := h
      split at h
      · rename_i hv
        rw [Bool.and_eq_true] at hv
        rw [Prod.ext (Nat.eq_of_beq_eq_true hv.1) (rx_ieq_t hv.2), ih h]
      · cases h
noncomputable def rx_teq (l : List (Int × Nat)) : List (Int × Nat) → Bool := @List.rec (Int × Nat) (fun _ => List (Int × Nat) → Bool) (fun k => match k with
  | [] => true
  | _ :: _ => false) (fun a _ ih k => match k with
  | [] => false
  | c :: t => match rx_ieq a.1 c.1 && Nat.beq a.2 c.2 with
    | true => ih t
    | false => false) l
theorem rx_teq_t {l : List (Int × Nat)} : ∀ {k : List (Int × Nat)}, rx_teq l k = true → l = k := by
  induction l with
  | nil =>
    intro k h
    cases k with
    | nil => rfl
    | cons a t => cases h
  | cons a l ih =>
    intro k h
    cases k with
    | nil => cases h
    | cons c t =>
      have h : (match rx_ieq a.1 c.1 && Nat.beq a.2 c.2 with | true => rx_teq l t | false => false) = true := h
      split at h
      · rename_i hv
        rw [Bool.and_eq_true] at hv
        rw [Prod.ext (rx_ieq_t hv.1) (Nat.eq_of_beq_eq_true hv.2), ih h]
      · cases h
noncomputable def rx_feq (f k : rx_F) : Bool := match rx_ieq f.2.2 k.2.2 && rx_teq f.2.1 k.2.1 with
  | true => rx_geq f.1 k.1
  | false => false
theorem rx_feq_t {f k : rx_F} (h : rx_feq f k = true) : f = k := by
  unfold rx_feq at h
  split at h
  · rename_i hv
    rw [Bool.and_eq_true] at hv
    exact Prod.ext (rx_geq_t h) (Prod.ext (rx_teq_t hv.2) (rx_ieq_t hv.1))
  · cases h
/-- the facts that stand behind this one, if it is there -/
noncomputable def rx_ffnd (f : rx_F) (l : List rx_F) : Option (List rx_F) := @List.rec rx_F (fun _ => Option (List rx_F)) none (fun k t ih => match rx_feq f k with
  | true => some t
  | false => ih) l
theorem rx_ffnd_ok {f : rx_F} {l t : List rx_F} (h : rx_ffnd f l = some t) : f ∈ l ∧ ∀ k ∈ t, k ∈ l := by
  induction l with
  | nil => cases h
  | cons k l ih =>
    have h : (match rx_feq f k with | true => some l | false => rx_ffnd f l) = some t := h
    split at h
    · rename_i hb
      cases h
      rw [rx_feq_t hb]
      exact ⟨List.mem_cons_self, fun k hk => List.mem_cons_of_mem _ hk⟩
    · have := ih h
      exact ⟨List.mem_cons_of_mem _ this.1, fun k hk => List.mem_cons_of_mem _ (this.2 k hk)⟩
noncomputable def rx_fqB (m : Nat) (slow : rx_F → Bool) (l : List rx_F) : List rx_F → Bool := @List.rec rx_F (fun _ => List rx_F → Bool) (fun _ => true) (fun f _ ih k => match rx_fB m f with
  | true => match rx_ffnd f k with
    | some t => ih t
    | none => match slow f with
      | true => ih k
      | false => false
  | false => match slow f with
    | true => ih k
    | false => false) l
theorem rx_fqB_ok {slow : rx_F → Bool} {l : List rx_F} : ∀ {k : List rx_F}, rx_fqB m slow l k = true → ∀ f ∈ l, (rx_fB m f = true ∧ f ∈ k) ∨ slow f = true := by
  induction l with
  | nil => exact fun _ f hf => by cases hf
  | cons a l ih =>
    intro k h f hf
    have h : (match rx_fB m a with
      | true => match rx_ffnd a k with
        | some t => rx_fqB m slow l t
        | none => match slow a with
          | true => rx_fqB m slow l k
          | false => false
      | false => match slow a with
        | true => rx_fqB m slow l k
        | false => false) = true := h
    split at h
    · rename_i hB
      split at h
      · rename_i t ht
        have h1 := rx_ffnd_ok ht
        rcases List.mem_cons.mp hf with rfl | hf
        · exact Or.inl ⟨hB, h1.1⟩
        · rcases ih h f hf with q | q
          · exact Or.inl ⟨q.1, h1.2 f q.2⟩
          · exact Or.inr q
      · split at h
        · rename_i hs
          rcases List.mem_cons.mp hf with rfl | hf
          · exact Or.inr hs
          · exact ih h f hf
        · cases h
    · split at h
      · rename_i hs
        rcases List.mem_cons.mp hf with rfl | hf
        · exact Or.inr hs
        · exact ih h f hf
      · cases h
/-- the first bounds, each within its own -/
noncomputable def rx_pfB (l : List (Int × Int)) : List (Int × Int) → Nat → Bool := @List.rec (Int × Int) (fun _ => List (Int × Int) → Nat → Bool) (fun _ m => Nat.beq m 0) (fun r _ ih k m => match m with
  | 0 => true
  | m + 1 => match k with
    | [] => false
    | q :: t => match rx_ile r.1 q.1 && rx_ile q.2 r.2 with
      | true => ih t m
      | false => false) l
theorem rx_pfB_ok {l : List (Int × Int)} : ∀ {k : List (Int × Int)} {m : Nat}, rx_pfB l k m = true → (m ≤ l.length ∧ m ≤ k.length) ∧ ∀ (i : Nat) (r : Int × Int), i < m → l[i]? = some r → ∃ q, k[i]? = some q ∧ r.1 ≤ q.1 ∧ q.2 ≤ r.2 := by
  induction l with
  | nil =>
    intro k m h
    have h : Nat.beq m 0 = true := h
    have e := Nat.eq_of_beq_eq_true h
    subst e
    exact ⟨⟨Nat.zero_le _, Nat.zero_le _⟩, fun i r hi => absurd hi (Nat.not_lt_zero _)⟩
  | cons a l ih =>
    intro k m h
    cases m with
    | zero => exact ⟨⟨Nat.zero_le _, Nat.zero_le _⟩, fun i r hi => absurd hi (Nat.not_lt_zero _)⟩
    | succ m =>
      cases k with
      | nil => cases h
      | cons q t =>
        have h : (match rx_ile a.1 q.1 && rx_ile q.2 a.2 with | true => rx_pfB l t m | false => false) = true := h
        split at h
        · rename_i hb
          rw [Bool.and_eq_true] at hb
          have h1 := ih h
          refine ⟨⟨Nat.succ_le_succ h1.1.1, Nat.succ_le_succ h1.1.2⟩, fun i r hi hr => ?_⟩
          cases i with
          | zero =>
            rw [List.getElem?_cons_zero] at hr
            cases hr
            exact ⟨q, rfl, (rx_ile_iff _ _).mp hb.1, (rx_ile_iff _ _).mp hb.2⟩
          | succ i =>
            rw [List.getElem?_cons_succ] at hr ⊢
            exact h1.2 i r (by omega) hr
        · cases h
/-- cells, one beside the other -/
noncomputable def rx_hqB (ok : rx_C → rx_C → Bool) (l : List rx_C) : List rx_C → Bool := @List.rec rx_C (fun _ => List rx_C → Bool) (fun _ => true) (fun c _ ih k => match k with
  | [] => false
  | d :: t => match ok c d with
    | true => ih t
    | false => false) l
theorem rx_hqB_ok {ok : rx_C → rx_C → Bool} {l : List rx_C} : ∀ {k : List rx_C}, rx_hqB ok l k = true → l.length ≤ k.length ∧ ∀ (i : Nat) (c : rx_C), l[i]? = some c → ∃ d, k[i]? = some d ∧ ok c d = true := by
  induction l with
  | nil => exact fun _ => ⟨Nat.zero_le _, fun i c h => by simp at h⟩
  | cons a l ih =>
    intro k h
    cases k with
    | nil => cases h
    | cons d t =>
      have h : (match ok a d with | true => rx_hqB ok l t | false => false) = true := h
      split at h
      · rename_i hb
        have h1 := ih h
        refine ⟨Nat.succ_le_succ h1.1, fun i c hc => ?_⟩
        cases i with
        | zero =>
          rw [List.getElem?_cons_zero] at hc
          cases hc
          exact ⟨d, rfl, hb⟩
        | succ i =>
          rw [List.getElem?_cons_succ] at hc ⊢
          exact h1.2 i c hc
      · cases h
end RXQ
/-- two rows of the same length -/
noncomputable def rx_zqB (p : rx_V → rx_V → Bool) (l : List rx_V) : List rx_V → Bool := @List.rec rx_V (fun _ => List rx_V → Bool) (fun k => match k with
  | [] => true
  | _ :: _ => false) (fun a _ ih k => match k with
  | [] => false
  | c :: t => match p a c with
    | true => ih t
    | false => false) l
theorem rx_zqB_ok {p : rx_V → rx_V → Bool} {l : List rx_V} : ∀ {k : List rx_V}, rx_zqB p l k = true → l.length = k.length ∧ ∀ (j : Nat) (a c : rx_V), l[j]? = some a → k[j]? = some c → p a c = true := by
  induction l with
  | nil =>
    intro k h
    cases k with
    | nil => exact ⟨rfl, fun j a c h => by simp at h⟩
    | cons a t => cases h
  | cons a l ih =>
    intro k h
    cases k with
    | nil => cases h
    | cons c t =>
      have h : (match p a c with | true => rx_zqB p l t | false => false) = true := h
      split at h
      · rename_i hv
        have h1 := ih h
        refine ⟨by rw [List.length_cons, List.length_cons, h1.1], fun j x y hx hy => ?_⟩
        cases j with
        | zero =>
          rw [List.getElem?_cons_zero] at hx hy
          cases hx
          cases hy
          exact hv
        | succ j =>
          rw [List.getElem?_cons_succ] at hx hy
          exact h1.2 j x y hx hy
      · cases h
theorem rx_zv_ok {p : rx_V → rx_V → Bool} {b : (Nat → Option Nat) × List Int} {as as0 : List Nat} {g g0 : List Int} (hp : ∀ v0 v w, p v0 v = true → rx_v b as g v w → rx_v b as0 g0 v0 w) : ∀ {l k : List rx_V} {ws : List Value}, l.length = k.length → (∀ (j : Nat) (a c : rx_V), l[j]? = some a → k[j]? = some c → p a c = true) → rx_vs b as g k ws → rx_vs b as0 g0 l ws
  | [], [], [], _, _, _ => trivial
  | [], [], _ :: _, _, _, h => h.elim
  | [], _ :: _, _, h, _, _ => by cases h
  | _ :: _, [], _, h, _, _ => by cases h
  | v0 :: l, v :: k, [], _, _, h => h.elim
  | v0 :: l, v :: k, w :: ws, hl, hq, h => ⟨hp v0 v w (hq 0 v0 v rfl rfl) h.1, rx_zv_ok hp (by simpa using hl) (fun j a c ha hc => hq (j + 1) a c (by rw [List.getElem?_cons_succ]; exact ha) (by rw [List.getElem?_cons_succ]; exact hc)) h.2⟩
noncomputable def rx_e1B (m : Nat) (sy : rx_Y) (th : List rx_I) (e0 e : rx_V) : Bool := match rx_veq e0 e && rx_eB m e0 with
  | true => true
  | false => rx_mE sy th e0 e
noncomputable def rx_v1B (m nC : Nat) (sy : rx_Y) (th : List rx_I) (pi : List Nat) (e0 e : rx_V) : Bool := match rx_veq e0 e && rx_vB m nC e0 with
  | true => true
  | false => rx_mV sy th pi [] e0 e
noncomputable def rx_okc (m nC : Nat) (sy : rx_Y) (th : List rx_I) (pi : List Nat) (c d : rx_C) : Bool := match rx_ceq c d && rx_cB m nC c with
  | true => true
  | false => match c with
    | .inl (ci, fs) => match d with
      | .inl (di, es) => match (Nat.beq ci di && Nat.ble ci 998) && rx_zqB (rx_v1B m nC sy th pi) fs es with
        | true => true
        | false => rx_mC sy th pi [] c d
      | .inr _ => false
    | .inr (t0, n0, ex0, df0) => match d with
      | .inl _ => false
      | .inr (t, n, ex, df) => match ((Nat.ble 1000 t0 && Nat.beq t t0) && (Nat.beq n n0 && (rx_veq df0 df && rx_eB m df0))) && rx_zqB (rx_e1B m sy th) ex0 ex with
        | true => true
        | false => rx_mC sy th pi [] c d
noncomputable def rx_subQ (m : Nat) (T S : rx_T) (tt th : List rx_I) (pi : List Nat) : Bool :=
  ((rx_pfB S.1.1 T.1.1 m && rx_bnd T.1 tt (S.1.1.drop m)) && rx_fqB m (rx_fOK T.1 th) S.1.2 T.1.2) && (rx_hqB (rx_okc m (rx_lenR S.2.1) T.1 th pi) S.2.1 T.2.1 && (rx_lsub T.1 th pi S.2.2.2.2.1 T.2.2.2.2.1 && rx_all2 (rx_mV T.1 th pi []) S.2.2.2.2.2 T.2.2.2.2.2))
noncomputable def rx_subF (m : Nat) (T S : rx_T) (tt : List rx_I) : Bool := rx_apR (rx_fn 0 m) tt (fun th => rx_apR (rx_fp 0 (rx_lenR S.2.1)) [] (fun pi => rx_subQ m T S tt th pi))
theorem rx_subF_ok {m : Nat} {T S : rx_T} {tt : List rx_I} {b : (Nat → Option Nat) × List Int} (hb2 : b.2 = []) {D : va_G} {A : Nat → Prop} {g : List Int} {tys : List (ClassId × FieldType)} {ws : va_W} {lv : List (Nat × Value)} {ls : Array Slot} {nL : Nat} {st : List Value} {H : Heap} (hk : rx_subF m T S tt = true) (hG : rx_g T.1 g) (hH : rx_h b g tys T.2.1 ws) (hP : va_P D vwCl ws H) (hD : va_D A ws) (hl : rx_ls b (ws.map Prod.fst) g T.2.2.2.2.1 lv) (hv : lv_has ls nL lv) (hst : rx_vs b (ws.map Prod.fst) g T.2.2.2.2.2 st) :
    ∃ (g0 : List Int) (ws0 : va_W) (lv0 : List (Nat × Value)), rx_Th (rx_fn 0 m ++ tt) g g0 ∧ rx_g S.1 g0 ∧ rx_h b g0 tys S.2.1 ws0 ∧ va_P D vwCl ws0 H ∧ va_D A ws0 ∧ rx_ls b (ws0.map Prod.fst) g0 S.2.2.2.2.1 lv0 ∧ lv_has ls nL lv0 ∧ rx_vs b (ws0.map Prod.fst) g0 S.2.2.2.2.2 st ∧ ∀ i r : Nat, i < S.2.1.length → (ws.map Prod.fst)[i]? = some r → (ws0.map Prod.fst)[i]? = some r := by
  unfold rx_subF at hk
  rw [rx_apR_eq, rx_apR_eq, List.append_nil, rx_lenR_eq] at hk
  generalize hpi : rx_fp 0 S.2.1.length = pi at hk
  generalize hth : rx_fn 0 m ++ tt = th at hk ⊢
  unfold rx_subQ at hk
  simp only [Bool.and_eq_true] at hk
  obtain ⟨⟨⟨k1, k2⟩, k3⟩, k4, k5, k6⟩ := hk
  rw [rx_lenR_eq] at k4
  obtain ⟨⟨hm1, hm2⟩, k1⟩ := rx_pfB_ok k1
  obtain ⟨gt, hTt, hGt⟩ := rx_bnd_ok hG k2
  have hgl : g.length = T.1.1.length := hG.1.1
  obtain ⟨g0, hg0⟩ : ∃ g0, g0 = g.take m ++ gt := ⟨_, rfl⟩
  have htl : (g.take m).length = m := by rw [List.length_take]; omega
  have hlo : ∀ k, k < m → g0[k]? = g[k]? := by
    intro k hk
    rw [hg0, List.getElem?_append_left (by omega), List.getElem?_take_of_lt hk]
  have hfl : (rx_fn 0 m).length = m := by unfold rx_fn; rw [List.length_map, List.length_range]
  have hfe : ∀ k, k < m → th[k]? = some (k + 1, 0) := by
    intro k hk
    rw [← hth, List.getElem?_append_left (by omega)]
    unfold rx_fn
    rw [List.getElem?_map, List.getElem?_range hk, Option.map_some]
    simp
  have hT : rx_Th th g g0 := by
    refine ⟨by rw [hg0, ← hth, List.length_append, List.length_append, htl, hfl, hTt.1], fun j z hz => ?_⟩
    rcases Nat.lt_or_ge j m with q | q
    · rw [hlo j q] at hz
      exact ⟨_, hfe j q, z, hz, (Int.add_zero _).symm⟩
    · rw [hg0, List.getElem?_append_right (by omega), htl] at hz
      obtain ⟨r, h1, h2⟩ := hTt.2 _ z hz
      exact ⟨r, by rw [← hth, List.getElem?_append_right (by omega), hfl]; exact h1, h2⟩
  have hG0 : rx_g S.1 g0 := by
    refine ⟨⟨?_, fun k z q hz hq => ?_⟩, fun f hf => ?_⟩
    · rw [hg0, List.length_append, htl, hGt.1, List.length_drop]
      omega
    · rcases Nat.lt_or_ge k m with h | h
      · rw [hlo k h] at hz
        obtain ⟨q', h1, h2, h3⟩ := k1 k q h hq
        have h4 := hG.1.2 k z q' hz h1
        omega
      · rw [hg0, List.getElem?_append_right (by omega), htl] at hz
        refine hGt.2 (k - m) z q hz ?_
        rw [List.getElem?_drop]
        rw [← hq]
        congr 1
        omega
    · rcases rx_fqB_ok k3 f hf with ⟨q1, q2⟩ | q
      · exact rx_fc hlo q1 (hG.2 f q2)
      · exact rx_fOK_ok hG hT q
  obtain ⟨hcl, k4⟩ := rx_hqB_ok k4
  have hwl : T.2.1.length = ws.length := hH.1
  obtain ⟨ws0, hws0⟩ : ∃ ws0 : va_W, ws0 = ws.take S.2.1.length := ⟨_, rfl⟩
  have hw0l : ws0.length = S.2.1.length := by rw [hws0, List.length_take]; omega
  have hw0 : ∀ k, k < S.2.1.length → ws0[k]? = ws[k]? := fun k hk => by rw [hws0, List.getElem?_take_of_lt hk]
  have hby : ∀ (k : Nat) (q : Nat × va_E), ws0[k]? = some q → ws[k]? = some q := by
    intro k q hq
    have : k < ws0.length := (List.getElem?_eq_some_iff.mp hq).1
    rw [← hw0 k (by omega)]
    exact hq
  have hA1 : ∀ i r, i < S.2.1.length → (ws.map Prod.fst)[i]? = some r → (ws0.map Prod.fst)[i]? = some r := by
    intro i r hi hr
    rw [List.getElem?_map] at hr ⊢
    rw [hw0 i hi]
    exact hr
  have hpe : ∀ i, i < S.2.1.length → pi[i]? = some i := by
    intro i hi
    rw [← hpi]
    unfold rx_fp
    rw [List.getElem?_map, List.getElem?_range hi, Option.map_some]
    simp
  have hpl : pi.length = S.2.1.length := by rw [← hpi]; unfold rx_fp; rw [List.length_map, List.length_range]
  have hA : ∀ (i j r : Nat), pi[i]? = some j → (ws.map Prod.fst)[j]? = some r → (ws0.map Prod.fst)[i]? = some r := by
    intro i j r hij hr
    have hi : i < S.2.1.length := by rw [← hpl]; exact (List.getElem?_eq_some_iff.mp hij).1
    rw [hpe i hi] at hij
    cases hij
    exact hA1 i r hi hr
  have hmv : ∀ v0 v w, rx_mV T.1 th pi [] v0 v = true → rx_v b (ws.map Prod.fst) g v w → rx_v b (ws0.map Prod.fst) g0 v0 w := by
    intro v0 v w h1 h2
    have := rx_mV_ok (b := b) hG hT hA h1 h2
    rw [rx_b0_nil] at this
    exact this
  have hH0 : rx_h b g0 tys S.2.1 ws0 := by
    refine ⟨hw0l.symm, fun i c0 hc0 => ?_, by rw [hb2]; exact fun i x hx => by simp at hx⟩
    have hi : i < S.2.1.length := (List.getElem?_eq_some_iff.mp hc0).1
    obtain ⟨c, h2, h3⟩ := k4 i c0 hc0
    obtain ⟨a, e, h4, h5⟩ := hH.2.1 i c h2
    refine ⟨a, e, by rw [hw0 i hi]; exact h4, ?_⟩
    have slow : rx_mC T.1 th pi [] c0 c = true → rx_c b (ws0.map Prod.fst) g0 tys c0 e := by
      intro h3
      have := rx_mC_ok (b := b) hG hT hA h3 h5
      rw [rx_b0_nil] at this
      exact this
    unfold rx_okc at h3
    split at h3
    · rename_i hq
      rw [Bool.and_eq_true] at hq
      have e1 := rx_ceq_t hq.1
      subst e1
      exact rx_cc hlo hA1 hq.2 h5
    · rename_i hfalse
      clear hfalse
      rcases c0 with ⟨ci, fs⟩ | ⟨t0, n0, ex0, df0⟩
      · rcases c with ⟨di, es⟩ | x
        · dsimp only at h3
          split at h3
          · rename_i hq
            simp only [Bool.and_eq_true] at hq
            obtain ⟨⟨q1, q2⟩, q3⟩ := hq
            have e1 := Nat.eq_of_beq_eq_true q1
            have e2 := Nat.le_of_ble_eq_true q2
            subst e1
            have hb : Nat.beq ci 999 = false := by
              cases q : Nat.beq ci 999 with
              | false => rfl
              | true => have := Nat.eq_of_beq_eq_true q; omega
            obtain ⟨q4, q5⟩ := rx_zqB_ok q3
            unfold rx_c at h5
            dsimp only at h5
            rw [hb] at h5
            rcases e with x | ⟨cj, vs⟩
            · exact h5.elim
            · obtain ⟨rfl, h6⟩ := h5
              refine rx_c_obj ?_
              have hp : ∀ v0 v w, rx_v1B m S.2.1.length T.1 th pi v0 v = true → rx_v b (ws.map Prod.fst) g v w → rx_v b (ws0.map Prod.fst) g0 v0 w := by
                intro v0 v w h7 h8
                unfold rx_v1B at h7
                split at h7
                · rename_i hr
                  rw [Bool.and_eq_true] at hr
                  have e3 := rx_veq_t hr.1
                  subst e3
                  exact rx_vc hlo hA1 hr.2 h8
                · exact hmv v0 v w h7 h8
              exact rx_zv_ok hp q4 q5 h6
          · exact slow h3
        · cases h3
      · rcases c with x | ⟨t, n, ex, df⟩
        · cases h3
        · dsimp only at h3
          split at h3
          · rename_i hq
            simp only [Bool.and_eq_true] at hq
            obtain ⟨⟨⟨q1, q2⟩, q3, q4, q5⟩, q6⟩ := hq
            have q1 := Nat.le_of_ble_eq_true q1
            have e1 := Nat.eq_of_beq_eq_true q2
            have e2 := Nat.eq_of_beq_eq_true q3
            have e3 := rx_veq_t q4
            subst e1
            subst e2
            subst e3
            obtain ⟨q7, q8⟩ := rx_zqB_ok q6
            rcases e with ⟨cA, n', x⟩ | x
            · refine ⟨h5.1, h5.2.1, ?_⟩
              have ha := h5.2.2
              rw [rx_a_hi q1] at ha ⊢
              have key : ∀ j z, rx_rv g (rx_el ex df0 j) z → rx_rv g0 (rx_el ex0 df0 j) z := by
                intro j z hz
                unfold rx_el at hz ⊢
                rcases Nat.lt_or_ge j ex0.length with r | r
                · have r2 : j < ex.length := by omega
                  rw [List.getElem?_eq_getElem r2] at hz
                  rw [List.getElem?_eq_getElem r]
                  dsimp only at hz ⊢
                  have h7 := q8 j _ _ (List.getElem?_eq_getElem r) (List.getElem?_eq_getElem r2)
                  unfold rx_e1B at h7
                  split at h7
                  · rename_i hr
                    rw [Bool.and_eq_true] at hr
                    have e4 := rx_veq_t hr.1
                    have h9 := hr.2
                    rw [e4] at h9
                    have h10 := rx_rvc hlo h9 hz
                    rw [← e4] at h10
                    exact h10
                  · exact rx_mE_ok hG hT h7 hz
                · rw [List.getElem?_eq_none (by omega)] at hz
                  rw [List.getElem?_eq_none (by omega)]
                  exact rx_rvc hlo q5 hz
              rcases x with f | f | f | f | f
              · exact ⟨ha.1, fun j hj => key j _ (ha.2 j hj)⟩
              · exact ⟨ha.1, fun j hj => key j _ (ha.2 j hj)⟩
              · exact ha.elim
              · exact ha.elim
              · exact ha.elim
            · exact h5.elim
          · exact slow h3
  have hls : ∃ lv0 : List (Nat × Value), rx_ls b (ws0.map Prod.fst) g0 S.2.2.2.2.1 lv0 ∧ ∀ q ∈ lv0, q ∈ lv := by
    have k5 := rx_allR_ok k5
    generalize S.2.2.2.2.1 = lc0 at k5
    induction lc0 with
    | nil => exact ⟨[], trivial, fun q hq => by cases hq⟩
    | cons q lc0 ih =>
      obtain ⟨lv1, h1, h2⟩ := ih (fun a ha => k5 a (List.mem_cons_of_mem _ ha))
      have h3 := k5 q List.mem_cons_self
      rw [rx_lkR_eq] at h3
      split at h3
      · rename_i v hv9
        obtain ⟨k, w, h4, h5⟩ := rx_lk_ok hl hv9
        refine ⟨(q.1, w) :: lv1, ⟨⟨rfl, hmv _ _ _ h3 h5⟩, h1⟩, fun a ha => ?_⟩
        rcases List.mem_cons.mp ha with rfl | ha
        · exact List.mem_of_getElem? h4
        · exact h2 a ha
      · cases h3
  obtain ⟨lv0, hl0, hlv⟩ := hls
  exact ⟨g0, ws0, lv0, hT, hG0, hH0, hP.by (fun k => k) hby, hD.by (fun k => k) hby (fun i j _ _ h => h), hl0, ⟨hv.1, hv.2.1, fun q hq => hv.2.2 q (hlv q hq)⟩, rx_all2_ok hmv k6 hst, hA1⟩
