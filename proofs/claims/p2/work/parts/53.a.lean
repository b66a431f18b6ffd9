/-! ===== a lock that leads nearer ===== -/
noncomputable def bf_c (f : Nat → Int) (A B : Nat → Nat) (O : Nat → Bool) (k r : Nat) : Prop := O k = true ∧ ((A k = r ∧ f (B k) = f r - 1) ∨ (A k ≠ r ∧ B k = r ∧ f (A k) = f r - 1))
