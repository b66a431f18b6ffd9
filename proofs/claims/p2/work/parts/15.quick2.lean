section RXK2
variable {N : List (List rx_V)} {M : rx_Md}
theorem rx_hd_neg (d : Jvm.ClassFile.Cond) (a b : Int) : rx_hd (rx_neg d) a b = !rx_hd d a b := by
  cases d <;> simp [rx_hd, rx_neg]
theorem rx_tkh : ∀ (l : List rx_V) (w : Nat), w < l.length → ∃ a t, l[w]? = some a ∧ (l.take (w + 1)).reverse = a :: t
  | [], w, h => absurd h (Nat.not_lt_zero _)
  | x :: l, 0, _ => ⟨x, [], rfl, rfl⟩
  | x :: l, w + 1, h => by
    obtain ⟨a, t, h1, h2⟩ := rx_tkh l w (Nat.lt_of_succ_lt_succ h)
    refine ⟨a, t ++ [x], by rw [List.getElem?_cons_succ]; exact h1, ?_⟩
    rw [List.take_succ_cons, List.reverse_cons, h2]
    rfl
theorem rx_addO {x y : Int} (h : rx_in32 (x + y) = true) : (Int32.ofInt x + Int32.ofInt y).toInt = x + y := by
  have h1 := rx_iok h
  rw [← Int32.ofInt_add, fb_ofI h1.1 (by omega)]
theorem rx_jmp2 {i : rx_E} {sy : rx_Y} {h : List rx_C} {nn : Nat × Nat} {pc : Nat} {lc : rx_L} {sb sa : List rx_V} {d : Jvm.ClassFile.Cond} {off x y : Int} {t : Nat} (ht : rx_tg i.1 off = some t) : rx_jump i (sy, h, nn, pc, lc, sb) d off (0, x) (0, y) sa = some [(sy, h, nn, (match rx_hd d x y with | true => t | false => i.1 + i.2.2.1), lc, sa)] := by
  unfold rx_jump
  rw [ht]
  dsimp only [rx_br, rx_cs]
  rw [rx_hd_neg]
  cases rx_hd d x y <;> rfl
theorem rx_ix2 {sy : rx_Y} {j n : Nat} (h : Nat.ble (j + 1) n = true) : rx_ix sy (0, .ofNat j) n = some j := by
  unfold rx_ix
  dsimp only [rx_cs]
  rw [h]
theorem rx_callB2 {i : rx_E} {sy : rx_Y} {h : List rx_C} {nn : Nat × Nat} {pc : Nat} {lc : rx_L} {sa : List rx_V} (h1 : i.2.2.2.2.1 ≤ sa.length) (h2 : Nat.ble (rx_cats (sa.drop i.2.2.2.2.1)) 8 = true) : rx_callB i (sy, h, nn, pc, lc, sa) = some (.inr (.inr (i.2.2.2.1, (sa.take i.2.2.2.2.1).reverse, sa.drop i.2.2.2.2.1))) := by
  unfold rx_callB
  dsimp only
  rw [Nat.ble_eq_true_of_le h1, h2]
  rfl
theorem rx_cmp_ok {i : rx_E} {f : rx_K} (hf : rx_cmp M i = some f) : rx_Kok N M i f := by
  obtain ⟨pc, ins, len, u, w, x, z⟩ := i
  unfold rx_cmp at hf
  rw [rx_zn_eq] at hf
  dsimp only at hf
  intro ih sl cl sy h nn lc sa r hr
  split at hf
  · -- iconst
    rename_i n
    split at hf
    · rename_i hc
      cases hf
      refine Or.inr (Or.inl ⟨(sy, h, nn, pc + len, lc, .inl (0, n) :: sa), rx_slA rfl ?_, hr⟩)
      unfold rx_sA rx_pA
      dsimp only
      rw [hc]
      rfl
    · cases hf
  · rename_i n
    split at hf
    · rename_i hc
      cases hf
      refine Or.inr (Or.inl ⟨(sy, h, nn, pc + len, lc, .inl (0, n) :: sa), rx_slA rfl ?_, hr⟩)
      unfold rx_sA rx_pA
      dsimp only
      rw [hc]
      rfl
    · cases hf
  · rename_i n
    split at hf
    · rename_i hc
      cases hf
      refine Or.inr (Or.inl ⟨(sy, h, nn, pc + len, lc, .inl (0, n) :: sa), rx_slA rfl ?_, hr⟩)
      unfold rx_sA rx_pA
      dsimp only
      rw [hc]
      rfl
    · cases hf
  · -- iload
    rename_i k
    cases hf
    obtain ⟨q, h1, h2⟩ := rx_oi_ok hr
    rw [rx_lkR_eq] at h1
    refine Or.inr (Or.inl ⟨(sy, h, nn, pc + len, lc, .inl q :: sa), rx_slA rfl ?_, h2⟩)
    unfold rx_sA rx_pA
    dsimp only
    rw [h1]
    rfl
  · rename_i k
    rw [rx_zn_eq] at hf
    cases hf
    obtain ⟨q, h1, h2⟩ := rx_oi_ok hr
    rw [rx_lkR_eq] at h1
    refine Or.inr (Or.inl ⟨(sy, h, nn, pc + len, lc, .inl q :: sa), rx_slA rfl ?_, h2⟩)
    unfold rx_sA rx_pA
    dsimp only
    rw [h1]
    rfl
  · -- aload
    rename_i k
    cases hf
    obtain ⟨v, h1, h2, h3⟩ := rx_or_ok hr
    rw [rx_lkR_eq] at h1
    refine Or.inr (Or.inl ⟨(sy, h, nn, pc + len, lc, v :: sa), rx_slA rfl ?_, h3⟩)
    unfold rx_sA rx_pA
    dsimp only
    rw [h1, h2]
    rfl
  · rename_i k
    rw [rx_zn_eq] at hf
    cases hf
    obtain ⟨v, h1, h2, h3⟩ := rx_or_ok hr
    rw [rx_lkR_eq] at h1
    refine Or.inr (Or.inl ⟨(sy, h, nn, pc + len, lc, v :: sa), rx_slA rfl ?_, h3⟩)
    unfold rx_sA rx_pA
    dsimp only
    rw [h1, h2]
    rfl
  · -- istore
    rename_i k
    split at hf
    · rename_i hk
      cases hf
      unfold rx_kis at hr
      split at hr
      · rename_i q sa'
        rw [rx_f1R_eq] at hr
        obtain ⟨l', hl⟩ := rx_f1_id k lc
        rw [hl] at hr
        refine Or.inr (Or.inl ⟨(sy, h, nn, pc + len, (k, .inl q) :: l', sa'), rx_slB rfl rfl rfl rfl ?_, hr⟩)
        unfold rx_sB rx_st1
        dsimp only [rx_top]
        rw [hk]
        dsimp only
        rw [hl]
        rfl
      · cases hr
    · cases hf
  · rename_i k
    rw [rx_zn_eq] at hf
    split at hf
    · rename_i hk
      cases hf
      unfold rx_kis at hr
      split at hr
      · rename_i q sa'
        rw [rx_f1R_eq] at hr
        obtain ⟨l', hl⟩ := rx_f1_id k.val lc
        rw [hl] at hr
        refine Or.inr (Or.inl ⟨(sy, h, nn, pc + len, (k.val, .inl q) :: l', sa'), rx_slB rfl rfl rfl rfl ?_, hr⟩)
        unfold rx_sB rx_st1
        dsimp only [rx_top]
        rw [hk]
        dsimp only
        rw [hl]
        rfl
      · cases hr
    · cases hf
  · -- iinc
    rename_i k n
    split at hf
    · rename_i hk
      cases hf
      unfold rx_kinc at hr
      split at hr
      · rename_i c hlk
        rw [rx_lkR_eq] at hlk
        rw [rx_z_eq] at hr
        cases hin : rx_in32 (c + n) with
        | false => rw [hin] at hr; cases hr
        | true =>
          rw [hin] at hr
          dsimp only at hr
          rw [rx_f1R_eq] at hr
          obtain ⟨l', hl⟩ := rx_f1_id k lc
          rw [hl] at hr
          refine Or.inr (Or.inl ⟨(sy, h, nn, pc + len, (k, .inl (0, c + n)) :: l', sa), rx_slB rfl rfl rfl rfl ?_, hr⟩)
          unfold rx_sB
          dsimp only
          rw [hk]
          dsimp only
          rw [hlk]
          dsimp only [rx_iv]
          unfold rx_in32 at hin
          rw [hin]
          dsimp only
          rw [rx_z_eq, hl]
      · exact Or.inl hr
    · cases hf
  · -- iadd
    cases hf
    unfold rx_kadd at hr
    split at hr
    · rename_i y0 x0 rs
      rw [rx_z_eq] at hr
      cases hin : rx_in32 (x0 + y0) with
      | false => rw [hin] at hr; exact Or.inl hr
      | true =>
        rw [hin] at hr
        refine Or.inr (Or.inl ⟨(sy, h, nn, pc + len, lc, .inl (0, x0 + y0) :: rs), rx_slC rfl rfl rfl rfl rfl ?_, hr⟩)
        unfold rx_sC rx_bin
        dsimp only [rx_cs]
        rw [rx_z_eq, rx_addO hin]
        rfl
    · exact Or.inl hr
  · -- isub
    cases hf
    unfold rx_kop at hr
    split at hr
    · rename_i y0 x0 rs
      rw [rx_z_eq] at hr
      refine Or.inr (Or.inl ⟨(sy, h, nn, pc + len, lc, .inl (0, ((fun x y => x - y) (Int32.ofInt x0) (Int32.ofInt y0)).toInt) :: rs), rx_slC rfl rfl rfl rfl rfl ?_, hr⟩)
      unfold rx_sC rx_bin
      dsimp only [rx_cs]
      rw [rx_z_eq]
      rfl
    · exact Or.inl hr
  · -- imul
    cases hf
    unfold rx_kop at hr
    split at hr
    · rename_i y0 x0 rs
      rw [rx_z_eq] at hr
      refine Or.inr (Or.inl ⟨(sy, h, nn, pc + len, lc, .inl (0, ((fun x y => x * y) (Int32.ofInt x0) (Int32.ofInt y0)).toInt) :: rs), rx_slC rfl rfl rfl rfl rfl ?_, hr⟩)
      unfold rx_sC rx_bin
      dsimp only [rx_cs]
      rw [rx_z_eq]
      rfl
    · exact Or.inl hr
  · -- putfield
    rw [rx_zn_eq, rx_zn_eq, rx_zn_eq] at hf
    cases hf
    unfold rx_kput at hr
    split at hr
    · rename_i a0 r0 rs
      obtain ⟨fs, h1, h2⟩ := rx_kobj_ok hr
      rw [rx_nth_eq] at h1
      cases hb : (rx_fit x sy a0 && Nat.ble (w + 1) fs.length) with
      | false => rw [hb] at h2; cases h2
      | true =>
        rw [hb] at h2
        dsimp only at h2
        rw [rx_setR_eq, rx_setR_eq] at h2
        refine Or.inr (Or.inl ⟨(sy, h.set r0 (.inl (u, fs.set w a0)), nn, pc + len, lc, rs), rx_slE rfl rfl ?_, h2⟩)
        unfold rx_sE
        dsimp only
        rw [h1]
        dsimp only
        rw [hb, show Nat.beq u u = true from Nat.beq_refl u]
        show rx_set fs w a0 _ = _
        rw [rx_set_eq, rx_set_eq]
    · cases hr
  · -- dup
    cases hf
    unfold rx_kdup at hr
    split at hr
    · rename_i a0 rs
      cases hb : rx_c2 a0 with
      | true => rw [hb] at hr; cases hr
      | false =>
        rw [hb] at hr
        refine Or.inr (Or.inl ⟨(sy, h, nn, pc + len, lc, a0 :: a0 :: rs), rx_slB rfl rfl rfl rfl ?_, hr⟩)
        unfold rx_sB
        dsimp only
        rw [hb]
        rfl
    · cases hr
  · -- dup2
    cases hf
    unfold rx_kdup2 at hr
    split at hr
    · rename_i a0 d0 rs
      cases hb : (rx_c2 a0 || rx_c2 d0) with
      | true => rw [hb] at hr; cases hr
      | false =>
        rw [hb] at hr
        refine Or.inr (Or.inl ⟨(sy, h, nn, pc + len, lc, a0 :: d0 :: a0 :: d0 :: rs), rx_slB rfl rfl rfl rfl ?_, hr⟩)
        unfold rx_sB
        dsimp only
        rw [hb]
        rfl
    · cases hr
  · -- pop
    cases hf
    unfold rx_kpop at hr
    split at hr
    · rename_i a0 rs
      cases hb : rx_c2 a0 with
      | true => rw [hb] at hr; cases hr
      | false =>
        rw [hb] at hr
        refine Or.inr (Or.inl ⟨(sy, h, nn, pc + len, lc, rs), rx_slB rfl rfl rfl rfl ?_, hr⟩)
        unfold rx_sB
        dsimp only
        rw [hb]
        rfl
    · cases hr
  · -- return
    split at hf
    · rename_i hm
      rw [rx_zn_eq] at hf
      cases hf
      unfold rx_kret at hr
      split at hr
      · cases hr
        refine Or.inr (Or.inr (Or.inl ⟨rx_slF rfl rfl rfl rfl rfl rfl rfl ?_, rfl⟩))
        unfold rx_sF
        dsimp only
        rw [hm]
        rfl
      · simp at *
      · simp at *
      · simp at *
      · exact Or.inl hr
    · cases hf
  · -- ireturn
    split at hf
    · rename_i hm
      rw [rx_zn_eq] at hf
      cases hf
      unfold rx_kret at hr
      split at hr
      · simp at *
      · cases hr
        refine Or.inr (Or.inr (Or.inl ⟨rx_slF rfl rfl rfl rfl rfl rfl rfl ?_, rfl⟩))
        unfold rx_sF
        dsimp only
        rw [hm]
        rfl
      · simp at *
      · simp at *
      · exact Or.inl hr
    · rename_i hm
      rw [rx_zn_eq] at hf
      cases hf
      unfold rx_kret at hr
      split at hr
      · simp at *
      · simp at *
      · cases hr
        refine Or.inr (Or.inr (Or.inl ⟨rx_slF rfl rfl rfl rfl rfl rfl rfl ?_, rfl⟩))
        unfold rx_sF
        dsimp only
        rw [hm]
        rfl
      · cases hr
        refine Or.inr (Or.inr (Or.inl ⟨rx_slF rfl rfl rfl rfl rfl rfl rfl ?_, rfl⟩))
        unfold rx_sF
        dsimp only
        rw [hm]
        rfl
      · exact Or.inl hr
    · cases hf
      exact Or.inl hr
  · -- invokevirtual
    split at hf
    · rename_i ci
      split at hf
      · rename_i w0
        rw [rx_zn_eq] at hf
        cases hf
        obtain ⟨h1, h2⟩ := rx_tk_ok (w0 + 1) [] sa hr
        rw [List.append_nil] at h2
        obtain ⟨a0, t0, h3, h4⟩ := rx_tkh sa w0 h1
        split at h2
        · rename_i r0 t1 he
          obtain ⟨fs, h5, h6⟩ := rx_kobj_ok h2
          rw [rx_nth_eq] at h5
          rw [h4] at he
          cases he
          cases hb : Nat.ble (rx_cats (sa.drop (w0 + 1))) 8 with
          | false => rw [hb] at h6; cases h6
          | true =>
            rw [hb] at h6
            refine Or.inr (Or.inr (Or.inr ⟨u, (sa.take (w0 + 1)).reverse, sa.drop (w0 + 1), rx_slF rfl rfl rfl rfl rfl rfl rfl ?_, h6⟩))
            unfold rx_sF
            dsimp only
            rw [h3]
            unfold rx_isO
            dsimp only
            rw [h5]
            dsimp only
            rw [show Nat.beq ci ci = true from Nat.beq_refl ci]
            exact rx_callB2 h1 hb
        · cases h2
      · cases hf
    · cases hf
      exact Or.inl hr
  · -- invokespecial
    split at hf
    · split at hf
      · rename_i w0
        rw [rx_zn_eq] at hf
        cases hf
        obtain ⟨h1, h2⟩ := rx_tk_ok (w0 + 1) [] sa hr
        rw [List.append_nil] at h2
        obtain ⟨a0, t0, h3, h4⟩ := rx_tkh sa w0 h1
        split at h2
        · rename_i r0 t1 he
          rw [h4] at he
          cases he
          cases hb : Nat.ble (rx_cats (sa.drop (w0 + 1))) 8 with
          | false => rw [hb] at h2; cases h2
          | true =>
            rw [hb] at h2
            refine Or.inr (Or.inr (Or.inr ⟨u, (sa.take (w0 + 1)).reverse, sa.drop (w0 + 1), rx_slF rfl rfl rfl rfl rfl rfl rfl ?_, h2⟩))
            unfold rx_sF
            dsimp only
            rw [h3]
            exact rx_callB2 h1 hb
        · cases h2
      · cases hf
    · cases hf
      exact Or.inl hr
  · -- invokestatic
    split at hf
    · rw [rx_zn_eq, rx_zn_eq] at hf
      cases hf
      obtain ⟨h1, h2⟩ := rx_tk_ok w [] sa hr
      rw [List.append_nil] at h2
      cases hb : Nat.ble (rx_cats (sa.drop w)) 8 with
      | false => rw [hb] at h2; cases h2
      | true =>
        rw [hb] at h2
        refine Or.inr (Or.inr (Or.inr ⟨u, (sa.take w).reverse, sa.drop w, rx_slF rfl rfl rfl rfl rfl rfl rfl ?_, h2⟩))
        unfold rx_sF
        dsimp only
        exact rx_callB2 h1 hb
    · cases hf
      exact Or.inl hr
  · -- getfield
    rw [rx_zn_eq, rx_zn_eq] at hf
    cases hf
    unfold rx_kget at hr
    split at hr
    · rename_i r0 rs
      obtain ⟨fs, h1, h2⟩ := rx_kobj_ok hr
      rw [rx_nth_eq] at h1 h2
      cases ha : fs[w]? with
      | none => rw [ha] at h2; cases h2
      | some a0 =>
        rw [ha] at h2
        refine Or.inr (Or.inl ⟨(sy, h, nn, pc + len, lc, a0 :: rs), rx_slE rfl rfl ?_, h2⟩)
        unfold rx_sE
        dsimp only
        rw [h1]
        dsimp only
        rw [show Nat.beq u u = true from Nat.beq_refl u]
        dsimp only
        rw [ha]
        rfl
    · exact Or.inl hr
  · -- iaload
    cases hf
    unfold rx_kald at hr
    split at hr
    · rename_i q r0 rs
      rcases rx_karr_ok hr with h1 | ⟨n, ex, df, h1, h2⟩
      · exact Or.inl h1
      · rw [rx_nth_eq] at h1
        rcases rx_kix_ok h2 with h3 | ⟨j, rfl, h4, h5⟩
        · exact Or.inl h3
        · refine Or.inr (Or.inl ⟨(sy, h, nn, pc + len, lc, rx_kel ex df j :: rs), rx_slE rfl rfl ?_, h5⟩)
          unfold rx_sE rx_ald
          dsimp only
          rw [h1]
          dsimp only
          rw [rx_ix2 h4, rx_kel_eq]
          rfl
    · exact Or.inl hr
  · -- iastore
    cases hf
    unfold rx_kast at hr
    split at hr
    · rename_i a0 q r0 rs
      rcases rx_karr_ok hr with h1 | ⟨n, ex, df, h1, h2⟩
      · exact Or.inl h1
      · rw [rx_nth_eq] at h1
        rcases rx_kix_ok h2 with h3 | ⟨j, rfl, h4, h5⟩
        · exact Or.inl h3
        · obtain ⟨ex', he⟩ : ∃ ex', ∀ {β : Type} (k : List rx_V → β), rx_asg df ex j (.inl a0) k = k ex' := ⟨rx_asg df ex j (.inl a0) (fun l => l), fun k => (rx_asg_app k df ex j (.inl a0) (fun l => l)).symm⟩
          rw [he, rx_setR_eq] at h5
          refine Or.inr (Or.inl ⟨(sy, h.set r0 (.inr (0, n, ex', df)), nn, pc + len, lc, rs), rx_slE rfl rfl ?_, h5⟩)
          unfold rx_sE rx_ast
          dsimp only
          rw [h1]
          dsimp only
          rw [show (Nat.beq 0 0 && rx_fit 0 sy (.inl a0)) = true from rfl]
          dsimp only
          rw [rx_ix2 h4]
          dsimp only
          rw [he, rx_set_eq]
    · exact Or.inl hr
  · -- goto
    rename_i off
    split at hf
    · rename_i t ht
      rw [rx_zn_eq] at hf
      cases hf
      refine Or.inr (Or.inl ⟨(sy, h, nn, t, lc, sa), rx_slD rfl rfl rfl ?_, hr⟩)
      unfold rx_sD
      dsimp only
      rw [ht]
    · cases hf
  · -- if
    rename_i d off
    split at hf
    · rename_i t ht
      rw [rx_zn_eq] at hf
      cases hf
      unfold rx_kif at hr
      split at hr
      · rename_i x0 rs
        refine Or.inr (Or.inl ⟨(sy, h, nn, (match rx_hd d x0 0 with | true => t | false => pc + len), lc, rs), rx_slD rfl rfl rfl (rx_jmp2 ht), ?_⟩)
        cases hb : rx_hd d x0 0 with
        | true => rw [hb] at hr; exact hr
        | false => rw [hb] at hr; exact hr
      · exact Or.inl hr
    · cases hf
  · -- if_icmp
    rename_i d off
    split at hf
    · rename_i t ht
      rw [rx_zn_eq] at hf
      cases hf
      unfold rx_kcmp at hr
      split at hr
      · rename_i y0 x0 rs
        refine Or.inr (Or.inl ⟨(sy, h, nn, (match rx_hd d x0 y0 with | true => t | false => pc + len), lc, rs), rx_slD rfl rfl rfl (rx_jmp2 ht), ?_⟩)
        cases hb : rx_hd d x0 y0 with
        | true => rw [hb] at hr; exact hr
        | false => rw [hb] at hr; exact hr
      · exact Or.inl hr
    · cases hf
  · cases hf
    exact Or.inl hr
end RXK2
