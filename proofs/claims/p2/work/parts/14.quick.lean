/-! ===== the quick form does what the other does ===== -/
section RXK
variable {N : List (List rx_V)} {M : rx_Md} {i : rx_E} {T : rx_T} {L : List rx_T}
theorem rx_slA (hn : rx_need i T = none) (h : rx_sA i T = some L) : rx_sl N M i T = some (.inl L) := by
  unfold rx_sl rx_do
  rw [hn, h]
theorem rx_slE (hn : rx_need i T = none) (h1 : rx_sA i T = none) (h : rx_sE N M.2.2.2.2.2.2.1 M.2.2.2.2.2.2.2.1 i T = some L) : rx_sl N M i T = some (.inl L) := by
  unfold rx_sl rx_do
  rw [hn, h1, h]
theorem rx_slD (hn : rx_need i T = none) (h1 : rx_sA i T = none) (h2 : rx_sE N M.2.2.2.2.2.2.1 M.2.2.2.2.2.2.2.1 i T = none) (h : rx_sD i T = some L) : rx_sl N M i T = some (.inl L) := by
  unfold rx_sl rx_do
  rw [hn, h1, h2, h]
theorem rx_slB (hn : rx_need i T = none) (h1 : rx_sA i T = none) (h2 : rx_sE N M.2.2.2.2.2.2.1 M.2.2.2.2.2.2.2.1 i T = none) (h3 : rx_sD i T = none) (h : rx_sB M.2.2.1 i T = some L) : rx_sl N M i T = some (.inl L) := by
  unfold rx_sl rx_do
  rw [hn, h1, h2, h3, h]
theorem rx_slC (hn : rx_need i T = none) (h1 : rx_sA i T = none) (h2 : rx_sE N M.2.2.2.2.2.2.1 M.2.2.2.2.2.2.2.1 i T = none) (h3 : rx_sD i T = none) (h4 : rx_sB M.2.2.1 i T = none) (h : rx_sC i T = some L) : rx_sl N M i T = some (.inl L) := by
  unfold rx_sl rx_do
  rw [hn, h1, h2, h3, h4, h]
theorem rx_slF {r : rx_R} (hn : rx_need i T = none) (h1 : rx_sA i T = none) (h2 : rx_sE N M.2.2.2.2.2.2.1 M.2.2.2.2.2.2.2.1 i T = none) (h3 : rx_sD i T = none) (h4 : rx_sB M.2.2.1 i T = none) (h5 : rx_sC i T = none) (h6 : rx_sX i T = none) (h : rx_sF M.2.2.2.1 i T = some r) : rx_sl N M i T = some r := by
  unfold rx_sl rx_do
  rw [hn, h1, h2, h3, h4, h5, h6, h]
/-- what an instruction's function may do -/
def rx_Kok (N : List (List rx_V)) (M : rx_Md) (i : rx_E) (f : rx_K) : Prop := ∀ (ih : rx_H) (sl : rx_J) (cl : rx_Q) (sy : rx_Y) (h : List rx_C) (nn : Nat × Nat) (lc : rx_L) (sa : List rx_V) (r : List rx_T), f ih sl cl sy h nn lc sa = some r →
  sl sy h nn lc sa = some r ∨ (∃ T' : rx_T, rx_sl N M i (sy, h, nn, i.1, lc, sa) = some (.inl [T']) ∧ ih T'.1 T'.2.1 T'.2.2.1 T'.2.2.2.1 T'.2.2.2.2.1 T'.2.2.2.2.2 = some r) ∨
  (rx_sl N M i (sy, h, nn, i.1, lc, sa) = some (.inr (.inl ())) ∧ r = [(sy, h, nn, i.1, lc, sa)]) ∨ (∃ mi as rs, rx_sl N M i (sy, h, nn, i.1, lc, sa) = some (.inr (.inr (mi, as, rs))) ∧ cl mi as rs sy h nn lc = some r)
theorem rx_oi_ok {α : Type} {o : Option rx_V} {f : rx_V → Option α} {r : α} (h : rx_oi o f none = some r) : ∃ q, o = some (.inl q) ∧ f (.inl q) = some r := by
  cases o with
  | none => cases h
  | some v =>
    rcases v with q | q
    · exact ⟨q, rfl, h⟩
    · cases h
theorem rx_or_ok {α : Type} {o : Option rx_V} {f : rx_V → Option α} {r : α} (h : rx_or o f none = some r) : ∃ v, o = some v ∧ rx_ofR (some v) = some v ∧ f v = some r := by
  cases o with
  | none => cases h
  | some v =>
    rcases v with q | q | (_ | q) | q
    · cases h
    · cases h
    · cases h
    · exact ⟨_, rfl, rfl, h⟩
    · exact ⟨_, rfl, rfl, h⟩
theorem rx_kobj_ok {α : Type} {c : Option rx_C} {ci : Nat} {f : List rx_V → Option α} {r : α} (h : rx_kobj c ci f none = some r) : ∃ fs, c = some (.inl (ci, fs)) ∧ f fs = some r := by
  unfold rx_kobj at h
  split at h
  · rename_i cj fs
    split at h
    · rename_i hb
      have e := Nat.eq_of_beq_eq_true hb
      subst e
      exact ⟨fs, rfl, h⟩
    · cases h
  · cases h
theorem rx_karr_ok {α : Type} {c : Option rx_C} {f : Nat → List rx_V → rx_V → Option α} {d : Option α} {r : α} (h : rx_karr c f d = some r) : d = some r ∨ ∃ n ex df, c = some (.inr (0, n, ex, df)) ∧ f n ex df = some r := by
  unfold rx_karr at h
  split at h
  · rename_i n ex df
    exact Or.inr ⟨n, ex, df, rfl, h⟩
  · exact Or.inl h
theorem rx_kix_ok {α : Type} {q : rx_I} {n : Nat} {f : Nat → Option α} {d : Option α} {r : α} (h : rx_kix q n f d = some r) : d = some r ∨ ∃ j, q = (0, .ofNat j) ∧ Nat.ble (j + 1) n = true ∧ f j = some r := by
  unfold rx_kix at h
  split at h
  · rename_i j
    split at h
    · rename_i hb
      exact Or.inr ⟨j, rfl, hb, h⟩
    · exact Or.inl h
  · exact Or.inl h
theorem rx_kel_eq (ex : List rx_V) (df : rx_V) (j : Nat) : rx_kel ex df j = rx_el ex df j := by
  unfold rx_kel rx_el
  rw [rx_nth_eq]
  cases ex[j]? <;> rfl
theorem rx_tk_ok {β : Type} {k : List rx_V → List rx_V → Option β} {r : β} : ∀ (w : Nat) (acc l : List rx_V), rx_tk w acc l k none = some r → w ≤ l.length ∧ k ((l.take w).reverse ++ acc) (l.drop w) = some r
  | 0, acc, l, h => ⟨Nat.zero_le _, h⟩
  | w + 1, acc, [], h => by cases h
  | w + 1, acc, a :: l, h => by
    obtain ⟨h1, h2⟩ := rx_tk_ok w (a :: acc) l h
    refine ⟨Nat.succ_le_succ h1, ?_⟩
    rw [List.take_succ_cons, List.reverse_cons, List.append_assoc, List.drop_succ_cons]
    exact h2
theorem rx_f1_app {β γ : Type} (i : Nat) (F : β → γ) : ∀ (l : rx_L) (k : rx_L → β), F (rx_f1 i l k) = rx_f1 i l (fun l => F (k l))
  | [], _ => rfl
  | q :: l, k => by
    unfold rx_f1
    split
    · exact rx_f1_app i F l k
    · exact rx_f1_app i F l (fun l => k (q :: l))
theorem rx_f1_any {β : Type} (i : Nat) (l : rx_L) : ∃ l', ∀ (k : rx_L → β), rx_f1 i l k = k l' := by
  induction l with
  | nil => exact ⟨[], fun _ => rfl⟩
  | cons q l ih =>
    obtain ⟨l', hl⟩ := ih
    cases hq : (Nat.beq q.1 i || (Nat.beq (q.1 + 1) i && rx_c2 q.2)) with
    | true =>
      refine ⟨l', fun k => ?_⟩
      unfold rx_f1
      rw [hq]
      exact hl k
    | false =>
      refine ⟨q :: l', fun k => ?_⟩
      unfold rx_f1
      rw [hq]
      exact hl (fun l => k (q :: l))
theorem rx_f1_id (i : Nat) (l : rx_L) : ∃ l', ∀ {β : Type} (k : rx_L → β), rx_f1 i l k = k l' := by
  refine ⟨rx_f1 i l (fun l => l), fun k => ?_⟩
  exact (rx_f1_app i k l (fun l => l)).symm
theorem rx_asg_app {β γ : Type} (F : β → γ) (df : rx_V) (ex : List rx_V) (j : Nat) (v : rx_V) (k : List rx_V → β) : F (rx_asg df ex j v k) = rx_asg df ex j v (fun l => F (k l)) := by
  have hp : ∀ (j : Nat) (k : List rx_V → β), F (rx_pad df j v k) = rx_pad df j v (fun l => F (k l)) := by
    intro j
    induction j with
    | zero => exact fun _ => rfl
    | succ j ih => exact fun k => ih (fun l => k (df :: l))
  have hu : ∀ (ex : List rx_V) (j : Nat) (k : List rx_V → β), F (rx_ups df ex j v k) = rx_ups df ex j v (fun l => F (k l)) := by
    intro ex
    induction ex with
    | nil => exact fun j k => hp j k
    | cons a ex ih =>
      intro j k
      cases j with
      | zero => rfl
      | succ j => exact ih j (fun l => k (a :: l))
  have hl : ∀ (l : List rx_V) (j : Nat) (y n : Unit → β), F (rx_long l j y n) = rx_long l j (fun u => F (y u)) (fun u => F (n u)) := by
    intro l
    induction l with
    | nil => exact fun _ _ _ => rfl
    | cons a l ih =>
      intro j y n
      cases j with
      | zero => rfl
      | succ j => exact ih j y n
  unfold rx_asg
  cases rx_veq v df with
  | true =>
    dsimp only
    rw [hl]
    simp only [hu]
  | false => exact hu ex j k
end RXK
