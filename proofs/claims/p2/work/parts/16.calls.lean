/-! ===== contracts of methods, calls ===== -/
def rx_ws (M : rx_Md) : List Cond := Cond.code M.1 M.2.1 M.2.2.1 M.2.2.2.1 :: rx_Gd
def rx_rm (d : Nat) (M : rx_Md) : Room := { frames := d + 1, cells := M.2.2.2.2.2.2.1, slots := M.2.2.2.2.2.2.2.1, locals := 100 * (d + 1) }
def rx_Qc (b : (Nat → Option Nat) × List Int) (D : va_G) (g0 : List Int) (t0 : List (ClassId × FieldType)) (ws0 : va_W) (sz : Nat) (outs : List rx_T) : Array Value → State → Outcome → State → Prop := fun _ st oc t =>
  (∃ o ∈ outs, ∃ (g : List Int) (tys : List (ClassId × FieldType)) (ws : va_W) (v : Option Value), oc = .returned v ∧ (rx_le g0 g ∧ rx_le (ws0.map Prod.fst) (ws.map Prod.fst) ∧ ∀ q ∈ t0, q ∈ tys) ∧ rx_g o.1 g ∧ rx_h b g tys o.2.1 ws ∧ rx_vs b (ws.map Prod.fst) g o.2.2.2.2.2 v.toList ∧ va_K D vwCl tys t ∧ va_P D vwCl ws t.heap ∧ va_D (va_A ws0 sz) ws) ∧ va_F (va_A ws0 sz) st t
/-- facts of the start that stay: of cells below sz0, of the tables -/
def rx_Zp (b : (Nat → Option Nat) × List Int) (Z : State → Heap → Prop) (sz0 : Nat) : Prop := (∀ (U : State) (H H1 : Heap), Z U H → (∀ q : Nat, q < sz0 → H1[q]? = H[q]?) → Z U H1) ∧ (∀ (s U : State) (H : Heap), s.WarmedH U.vm → Z s H → Z U H) ∧ (∀ (U : State) (H : Heap) (g : JFrame) (mk : MethodId) (a : Array Value), Z U H → Z (U.calling g mk a) H) ∧ ∀ (s : State) (A : Nat → Prop), Z s s.heap → (∀ q, A q → sz0 ≤ q) → rx_Xf b A s s.heap
def rx_Bg (D : va_G) (Z : State → Heap → Prop) (sz0 : Nat) (tys : List (ClassId × FieldType)) (ws : va_W) (sz : Nat) (U : State) : Prop := U.heap.size = sz ∧ va_P D vwCl ws U.heap ∧ va_K D vwCl tys U ∧ va_D (fun q => sz0 ≤ q) ws ∧ sz0 ≤ sz ∧ rx_Pr U ∧ Z U U.heap
def rx_Ct (l : Launch) (b : (Nat → Option Nat) × List Int) (D : va_G) (Z : State → Heap → Prop) (sz0 d : Nat) (M : rx_Md) (as : List rx_V) (sy : rx_Y) (h : List rx_C) (outs : List rx_T) : Prop :=
  ∀ (g : List Int) (tys : List (ClassId × FieldType)) (ws : va_W) (vs : List Value) (sz : Nat), rx_g sy g → rx_h b g tys h ws → rx_vs b (ws.map Prod.fst) g as vs →
    Met l M.1 (rx_ws M) (rx_rm d M) (va_Pc vs (rx_Bg D Z sz0 tys ws sz)) (rx_Qc b D g tys ws sz outs) M.2.2.2.2.2.2.1 M.2.2.2.2.2.2.2.1 (va_A ws sz)
def rx_okM (M : rx_Md) : Prop := Cond.code M.1 M.2.1 M.2.2.1 M.2.2.2.1 ∈ rx_Gd ∧ Cond.initialized M.1.cls ∈ rx_Gd ∧ (M.1.cls ≠ "java/lang/invoke/MethodHandle" ∧ M.1.cls ≠ "java/lang/invoke/VarHandle") ∧ M.2.2.1 ≤ 80 ∧ plainName M.1.cls = true ∧
  ((M.2.2.2.2.2.1 = 0 ∧ Cond.static M.1 ∈ rx_Gd ∧ (parseMethodDescriptor M.1.desc).map (fun d => d.parameters.length) = some M.2.2.2.2.1) ∨
   (M.2.2.2.2.2.1 = 1 ∧ (Cond.instanceMethod M.1 ∈ rx_Gd ∧ Cond.selects M.1.cls M.1 M.1 ∈ rx_Gd) ∧ (parseMethodDescriptor M.1.desc).map (fun d => d.parameters.length + 1) = some M.2.2.2.2.1) ∨
   (M.2.2.2.2.2.1 = 2 ∧ (M.1.name = "<init>" ∧ Cond.instanceMethod M.1 ∈ rx_Gd ∧ M.2.2.2.1 = none) ∧ (parseMethodDescriptor M.1.desc).map (fun d => d.parameters.length + 1) = some M.2.2.2.2.1))
def rx_lkC (own : String) (idx : Nat) (y : MethodName) : Prop := Cond.methodLink own idx y ∈ rx_Gd ∨ ∃ host, Cond.methodLinkNest own idx y host ∈ rx_Ns
def rx_okC (MT : List rx_Md) (own : String) (i : rx_E) : Prop := match i.2.1 with
  | .invokevirtual idx => (∀ ci, i.2.2.2.2.2.1 = ci + 4 → ∃ (M : rx_Md) (r : vw_C), MT[i.2.2.2.1]? = some M ∧ vwCl[ci]? = some r ∧ r.1 = M.1.cls ∧ M.2.2.2.2.2.1 = 1 ∧ i.2.2.2.2.1 = M.2.2.2.2.1 ∧ rx_lkC own idx M.1) ∧ (i.2.2.2.2.2.1 = 3 → ∃ M : rx_Md, MT[i.2.2.2.1]? = some M ∧ M.1.cls = "java/lang/String" ∧ M.2.2.2.2.2.1 = 1 ∧ i.2.2.2.2.1 = M.2.2.2.2.1 ∧ rx_lkC own idx M.1)
  | .invokespecial idx => i.2.2.2.2.2.1 = 3 → ∃ M : rx_Md, MT[i.2.2.2.1]? = some M ∧ M.2.2.2.2.2.1 = 2 ∧ i.2.2.2.2.1 = M.2.2.2.2.1 ∧ rx_lkC own idx M.1
  | .invokestatic idx => i.2.2.2.2.2.1 = 0 → ∃ M : rx_Md, MT[i.2.2.2.1]? = some M ∧ M.2.2.2.2.2.1 = 0 ∧ i.2.2.2.2.1 = M.2.2.2.2.1 ∧ rx_lkC own idx M.1
  | _ => True
theorem rx_good {w : Cond} (h : w ∈ rx_Gd) : (w.onTables && w.keeps) = true ∨ ∃ ty, w = .arrayClass ty := good_of_word (List.mem_filter.mp h).2
theorem rx_goodM {M : rx_Md} (h : rx_okM M) : GoodIn rx_Gd (rx_ws M) := fun w hw => by
  rcases List.mem_cons.mp hw with rfl | hw
  · exact ⟨h.1, rx_good h.1⟩
  · exact ⟨hw, rx_good hw⟩
section RXC
variable {p : Program} {l : Launch} {e : Env} {R : Room} {s : State} {m : MethodId} {args : Array Value} {below : List Frame} {meth : Method} {c : Code} {b : (Nat → Option Nat) × List Int} {D : va_G} {A : Nat → Prop} {nL : Nat} {Q : State → Prop} {cc : ByteArray} {own : String}
theorem rx_callW {H : Heap} {locs : List Loc} {cells slots mc ms pc : Nat} {ls : Array Slot} {st0 rest : List Value} {outs : List rx_T} {av : Array Value} {g : List Int} {tys : List (ClassId × FieldType)} {ws : va_W} (hr : va_Run p l e R s m args below meth c H locs cells slots mc ms (F0 m pc ls st0) rest (rx_Qc b D g tys ws H.size outs av) (va_A ws H.size)) (hS : va_S A s.heap H locs) (hF : ∀ q, va_A ws H.size q → A q)
    (kk : ∀ o ∈ outs, ∀ (g' : List Int) (tys' : List (ClassId × FieldType)) (ws' : va_W) (v : Option Value) (H1 : Heap) (locs1 : List Loc), (rx_le g g' ∧ rx_le (ws.map Prod.fst) (ws'.map Prod.fst) ∧ ∀ q ∈ tys, q ∈ tys') → rx_g o.1 g' → rx_h b g' tys' o.2.1 ws' → rx_vs b (ws'.map Prod.fst) g' o.2.2.2.2.2 v.toList → va_K D vwCl tys' s → va_P D vwCl ws' H1 → va_D A ws' → va_S A s.heap H1 locs1 →
      W p l e R s m args below meth c H1 locs1 (cells + mc) (slots + ms) Q (F0 m (pc + 3) ls (v.toList ++ rest))) : W p l e R s m args below meth c H locs cells slots Q (F0 m pc ls st0) := by
  intro T hT X
  obtain ⟨v, st₀, t, T', L, h0, X', hL, e1, e2, ⟨⟨o, ho, g', tys', ws', v', hv, hx1, hx2, hx3, hx4, hx5, hx6, hx7⟩, hz, hk⟩, st⟩ := hr T hT X
  cases hv
  rw [h0] at hz hk
  have hvm : s.vm.Alike t.vm := by rw [← e2]; exact X'.warmed.alike
  obtain ⟨t2, a1, b1⟩ := kk o ho g' tys' ws' v T'.heap (locs ++ L) hx1 hx2 hx3 hx4 (va_K.moved hvm.symm hx5) (by rw [e1]; exact hx6) (hx7.weaken (fun _ q _ h => hF q.1 h))
    ⟨Nat.le_trans hS.1 (by rw [e1]; exact hz), fun q h1 h2 => by rw [e1, hk q (Nat.lt_of_lt_of_le h1 hS.1) (fun z => h2 (hF q z))]; exact hS.2.1 q h1 h2, fun q hq => by
      rcases List.mem_append.mp hq with h | h
      · exact hS.2.2 q h
      · exact hF _ (hL q h)⟩ T' rfl X'
  exact ⟨t2, st t2 a1, b1⟩
theorem rx_blind {Z : State → Heap → Prop} {sz0 sz : Nat} {tys : List (ClassId × FieldType)} {ws : va_W} {vs : List Value} (hZ : rx_Zp b Z sz0) : FrameBlind (va_Pc vs (rx_Bg D Z sz0 tys ws sz)) := by
  intro a U g mk q
  obtain ⟨q0, q1, q2, q3, q4, q5, q6, q7⟩ := q
  exact ⟨q0, q1, q2, va_K.moved (u := U) (U := U.calling g mk a) (Vm.Alike.refl U.vm) q3, q4, q5, rx_Pr.same (u := U) (U := U.calling g mk a) rfl q6, hZ.2.2.1 U U.heap g mk a q7⟩
theorem rx_pre {Z : State → Heap → Prop} {sz0 : Nat} {H : Heap} {locs : List Loc} {tys : List (ClassId × FieldType)} {ws : va_W} {vs : List Value} (hZ : rx_Zp b Z sz0) (hZs : Z s s.heap) (hsz : sz0 ≤ s.heap.size) (hA0 : ∀ q, A q → sz0 ≤ q) (hpr : rx_Pr s) (hK : va_K D vwCl tys s) (hP : va_P D vwCl ws H) (hD : va_D A ws) (hS : va_S A s.heap H locs) (U : State) (hU : U.heap = H) (hW : s.WarmedH U.vm) : va_Pc vs (rx_Bg D Z sz0 tys ws H.size) vs.toArray U := by
  refine ⟨rfl, by rw [hU], by rw [hU]; exact hP, va_K.moved hW.alike hK, hD.weaken (fun _ q _ h => hA0 _ h), Nat.le_trans hsz hS.1, hpr.warm hW, ?_⟩
  rw [hU]
  refine hZ.2.1 s U H hW (hZ.1 s s.heap H hZs fun q hq => hS.2.1 q (Nat.lt_of_lt_of_le hq hsz) (fun h => ?_))
  exact absurd (hA0 q h) (Nat.not_le.mpr hq)
/-- the words of a call -/
theorem rx_cb {d : Nat} {M : rx_Md} {idx n : Nat} (hts : ∀ w ∈ rx_Gd, w.before args s = true) (hM : rx_okM M) (hl : (Cond.methodLink own idx M.1) ∈ rx_Gd) (hn : (parseMethodDescriptor M.1.desc).map (fun d => d.parameters.length) = some n) (hR : d + 2 ≤ R.frames ∧ 100 * (d + 2) ≤ R.locals) : CallB R s args own idx M.1 M.2.1 M.2.2.1 M.2.2.2.1 (rx_ws M) (rx_rm d M) M.2.2.2.2.2.2.1 M.2.2.2.2.2.2.2.1 n := by
  refine callB_of n hts (rx_goodM hM) rfl rfl rfl (hts _ hM.2.1) (hts _ hl) ⟨hM.2.2.1.1, hM.2.2.1.2, hn⟩ ⟨hR.1, ?_⟩
  show 8 + (M.2.2.1 + 11) + 100 * (d + 1) ≤ R.locals
  have h1 := hM.2.2.2.1
  have h2 := hR.2
  omega
theorem rx_cn {d : Nat} {M : rx_Md} {idx n : Nat} {host : String} (hts : ∀ w ∈ rx_Gd, w.before args s = true) (hpr : rx_Pr s) (hM : rx_okM M) (hl : Cond.methodLinkNest own idx M.1 host ∈ rx_Ns) (hn : (parseMethodDescriptor M.1.desc).map (fun d => d.parameters.length) = some n) (hR : d + 2 ≤ R.frames ∧ 100 * (d + 2) ≤ R.locals) : va_CN R s args own idx M.1 host M.2.1 M.2.2.1 M.2.2.2.1 (rx_ws M) (rx_rm d M) M.2.2.2.2.2.2.1 M.2.2.2.2.2.2.2.1 n := by
  refine va_cnB n hts (rx_goodM hM) rfl rfl rfl (hpr.1 _ hl) (hts _ hM.2.1) ⟨hM.2.2.1.1, hM.2.2.1.2, hn⟩ ⟨hR.1, ?_⟩
  show 8 + (M.2.2.1 + 11) + 100 * (d + 1) ≤ R.locals
  have h1 := hM.2.2.2.1
  have h2 := hR.2
  omega
/-- what a call's row says of the instruction -/
theorem rx_do_call {N : List (List rx_V)} {M : rx_Md} {i : rx_E} {T : rx_T} {mi : Nat} {as rs : List rx_V} (h : rx_do N M i T = some (.inr (.inr (mi, as, rs)))) : rx_sF M.2.2.2.1 i T = some (.inr (.inr (mi, as, rs))) := by
  unfold rx_do at h
  split at h
  · cases h
  · split at h
    · cases h
    · split at h
      · cases h
      · split at h
        · cases h
        · split at h
          · cases h
          · split at h
            · cases h
            · exact h
theorem rx_do_ret {N : List (List rx_V)} {M : rx_Md} {i : rx_E} {T : rx_T} {u : Unit} (h : rx_do N M i T = some (.inr (.inl u))) : rx_retB M.2.2.2.1 i T = true := by
  unfold rx_do at h
  split at h
  · cases h
  · split at h
    · cases h
    · split at h
      · cases h
      · split at h
        · cases h
        · split at h
          · cases h
          · split at h
            · cases h
            · unfold rx_sF at h
              split at h
              · split at h
                · split at h
                  · split at h
                    · unfold rx_callB at h
                      split at h <;> cases h
                    · cases h
                  · cases h
                · split at h
                  · split at h
                    · unfold rx_callB at h
                      split at h <;> cases h
                    · cases h
                  · cases h
                · cases h
              · split at h
                · split at h
                  · split at h
                    · unfold rx_callB at h
                      split at h <;> cases h
                    · cases h
                  · cases h
                · cases h
              · split at h
                · unfold rx_callB at h
                  split at h <;> cases h
                · cases h
              · split at h
                · rename_i hb
                  exact hb
                · cases h
theorem rx_sp2_inl {i : rx_E} {T : rx_T} {r : rx_R} (h : rx_sp2 i T = some r) : ∃ L, r = .inl L := by
  unfold rx_sp2 at h
  split at h
  · split at h
    · cases h; exact ⟨_, rfl⟩
    · cases h
  · cases h
theorem rx_sl3_do {N : List (List rx_V)} {M : rx_Md} {i : rx_E} {T : rx_T} {q : Unit ⊕ (Nat × List rx_V × List rx_V)} (h : rx_sl3 N M i T = some (.inr q)) : rx_do N M i T = some (.inr q) := by
  unfold rx_sl3 at h
  split at h
  · cases h
  · split at h
    · rename_i r hr
      cases h
      exact hr
    · obtain ⟨L, hL⟩ := rx_sp2_inl h
      cases hL
theorem rx_sl2_do {N : List (List rx_V)} {M : rx_Md} {i : rx_E} {T : rx_T} {q : Unit ⊕ (Nat × List rx_V × List rx_V)} (h : rx_sl2 N M i T = some (.inr q)) : rx_do N M i T = some (.inr q) := by
  unfold rx_sl2 at h
  split at h
  · split at h
    · rename_i r hr
      cases h
      obtain ⟨L, hL⟩ := rx_sp2_inl hr
      cases hL
    · exact rx_sl3_do h
  · exact rx_sl3_do h
theorem rx_sl_call {N : List (List rx_V)} {M : rx_Md} {i : rx_E} {T : rx_T} {mi : Nat} {as rs : List rx_V} (h : rx_sl N M i T = some (.inr (.inr (mi, as, rs)))) : rx_sF M.2.2.2.1 i T = some (.inr (.inr (mi, as, rs))) := by
  unfold rx_sl at h
  split at h
  · cases h
  · exact rx_do_call h
theorem rx_sl_ret {N : List (List rx_V)} {M : rx_Md} {i : rx_E} {T : rx_T} {u : Unit} (h : rx_sl N M i T = some (.inr (.inl u))) : rx_retB M.2.2.2.1 i T = true := by
  unfold rx_sl at h
  split at h
  · cases h
  · exact rx_do_ret h
end RXC
