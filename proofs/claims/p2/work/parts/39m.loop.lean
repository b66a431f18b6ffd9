/-! ===== the law's loop, turn by turn ===== -/
section RXO
variable {p : Program} {l : Launch} {e : Env} {s : State} {m : MethodId} {args : Array Value} {below : List Frame} {meth : Method} {c : Code} {bb : (Nat → Option Nat) × List Int} {D : va_G} {sz0 a L : Nat} {xs : Nat → Int32}
/-- what holds of the heap from which a turn is seen -/
def rx_Cw (p : Program) (s : State) (m : MethodId) (args : Array Value) (meth : Method) (c : Code) (bb : (Nat → Option Nat) × List Int) (sz0 a L : Nat) (xs : Nat → Int32) : Prop :=
  rx_Cx p s m args c cL_law RL 7 ∧ meth.name = yL_law.name ∧ rx_Zz bb sz0 s s.heap ∧ sz0 ≤ s.heap.size ∧ va_X a L xs s s.heap
/-- a world under the state S of the loop's head -/
def rx_Wd (bb : (Nat → Option Nat) × List Int) (D : va_G) (sz0 : Nat) (S : rx_T) (LE IS L i : Nat) (sB : State) (H : Heap) (ls : Array Slot) : Prop :=
  ∃ (g : List Int) (tys : List (ClassId × FieldType)) (ws : va_W) (lv : List (Nat × Value)), rx_g S.1 g ∧ (g[LE]? = some (L : Int) ∧ g[IS]? = some (i : Int)) ∧ rx_h bb g tys S.2.1 ws ∧ va_K D vwCl tys sB ∧ va_P D vwCl ws H ∧ va_D (fun q => sz0 ≤ q) ws ∧ rx_ls bb (ws.map Prod.fst) g S.2.2.2.2.1 lv ∧ lv_has ls 7 lv
/-- where a turn comes to: the loop's head again, or the law's end -/
def rx_Q1 (p : Program) (l : Launch) (e : Env) (sB : State) (m : MethodId) (args : Array Value) (below : List Frame) (meth : Method) (c : Code) (bb : (Nat → Option Nat) × List Int) (D : va_G) (sz0 : Nat) (S : rx_T) (LE IS L i1 : Nat) : State → Prop := fun t =>
  ∃ (T1 : State) (ls1 : Array Slot) (locs1 : List Loc) (c1 n1 : Nat), Stand p l e rx_LR sB m args below meth c T1 locs1 c1 n1 ∧ (c1 ≤ 1 ∧ n1 ≤ 6) ∧ va_S (fun q => sz0 ≤ q) sB.heap T1.heap locs1 ∧
    ((t = T1.setTop (F0 m 23 ls1 []) ∧ i1 ≤ L ∧ rx_Wd bb D sz0 S LE IS L i1 sB T1.heap ls1) ∨ t = T1.setTop (F0 m 1356 ls1 [.int 1]))
theorem rx_base {R : Room} {T : State} {locs : List Loc} {cells slots : Nat} (hb : rx_Cw p s m args meth c bb sz0 a L xs) (haz : a < sz0) (hS : va_S (fun q => sz0 ≤ q) s.heap T.heap locs) {sB : State} (e1 : sB.vm = s.vm) (e2 : sB.heap = T.heap) : rx_Cw p sB m args meth c bb sz0 a L xs := by
  obtain ⟨⟨hx, hcc, hml, hown, hts, hpr⟩, hmn, hZs, hsz, hX⟩ := hb
  have hW0 : s.WarmedH sB.vm := by rw [e1]; exact State.WarmedH.refl s
  have hkeep : ∀ q : Nat, q < sz0 → T.heap[q]? = s.heap[q]? := fun q hq => hS.2.1 q (Nat.lt_of_lt_of_le hq hsz) (Nat.not_le.mpr hq)
  refine ⟨⟨hx, hcc, hml, by rw [e1]; exact hown, fun w hw => vx_ot_at hW0 e1.symm ?_ (hts w hw), hpr.warm hW0⟩, hmn, ?_, ?_, ?_⟩
  · unfold vx_ot
    rw [(List.mem_filter.mp hw).2, Bool.or_true]
  · rw [e2]
    exact (rx_Zz_ok bb sz0).2.1 s sB T.heap hW0 ((rx_Zz_ok bb sz0).1 s s.heap T.heap hZs hkeep)
  · rw [e2]
    exact Nat.le_trans hsz hS.1
  · rw [e2]
    exact va_X.moved hW0.alike (hX.kept (hkeep a haz))
theorem rx_Str {A : Nat → Prop} {H0 H1 H2 : Heap} {l1 l2 : List Loc} (h1 : va_S A H0 H1 l1) (h2 : va_S A H1 H2 l2) : va_S A H0 H2 (l1 ++ l2) :=
  ⟨Nat.le_trans h1.1 h2.1, fun q q1 q2 => by rw [h2.2.1 q (Nat.lt_of_lt_of_le q1 h1.1) q2]; exact h1.2.1 q q1 q2, fun q hq => by
    rcases List.mem_append.mp hq with h | h
    · exact h1.2.2 q h
    · exact h2.2.2 q h⟩
/-- every turn comes to the next, or to the end: so the law comes to its end -/
theorem rx_loop {b : Nat} {S : rx_T} {LE IS : Nat} (hb : rx_Cw p s m #[Value.ref b] meth c bb s.heap.size a L xs) (haz : a < s.heap.size) (hr : meth.sig.returnType = ret) (hlocks : meth.locks = false) (hL : L ≤ 3072)
    (HI : ∀ (sB : State) (i : Nat) (ls : Array Slot), rx_Cw p sB m #[Value.ref b] meth c bb s.heap.size a L xs → i ≤ L → rx_Wd bb D s.heap.size S LE IS L i sB sB.heap ls → W p l e rx_LR sB m #[Value.ref b] below meth c sB.heap [] 0 0 (rx_Q1 p l e sB m #[Value.ref b] below meth c bb D s.heap.size S LE IS L (i + 6)) (F0 m 23 ls [])) :
    ∀ (n i : Nat) (T : State) (locs : List Loc) (cells slots : Nat) (ls : Array Slot), L - i < n → i ≤ L → Stand p l e room_1 s m #[Value.ref b] below meth c T locs cells slots → 6 * cells ≤ 1356 + i → slots ≤ 8467 + i → va_S (fun q => s.heap.size ≤ q) s.heap T.heap locs → rx_Wd bb D s.heap.size S LE IS L i s T.heap ls → ∃ t, Steps p.tables e below (T.setTop (F0 m 23 ls [])) t ∧ lw_Z below #[Value.ref b] s t := by
  intro n
  induction n with
  | zero => exact fun i T locs cells slots ls h => absurd h (Nat.not_lt_zero _)
  | succ n ih =>
    intro i T locs cells slots ls hn hi X hc hs hS hW
    have Y := vx_rebase X (R' := rx_LR) (by decide) (by decide) (show cells + 2 ≤ 601024 by omega) (show slots + 12 ≤ 7293034 by omega)
    obtain ⟨sB, hA⟩ : ∃ z, z = (T.setVm s.vm).setFrames (.invoking m #[Value.ref b] :: below) := ⟨_, rfl⟩
    have hvm : sB.vm = s.vm := by rw [hA]; rfl
    have hhp : sB.heap = T.heap := by rw [hA]; rfl
    have hCw := rx_base (R := room_1) (cells := cells) (slots := slots) hb haz hS hvm hhp
    have hWd : rx_Wd bb D s.heap.size S LE IS L i sB sB.heap ls := by
      obtain ⟨g, tys, ws, lv, w1, w2, w3, w4, w5, w6, w7, w8⟩ := hW
      exact ⟨g, tys, ws, lv, w1, w2, w3, va_K.moved (show s.vm.Alike sB.vm by rw [hvm]; exact Vm.Alike.refl s.vm) w4, by rw [hhp]; exact w5, w6, w7, w8⟩
    have hgo := HI sB i ls hCw hi hWd
    have Y0 := Y
    rw [← hA] at Y
    obtain ⟨t, st1, T1, ls1, locs1, c1, n1, Y1, ⟨hc1, hn1⟩, hS1, hend⟩ := hgo T hhp.symm Y
    rw [hA] at Y1
    have X1 := rx_unbase X Y1
    rw [hhp] at hS1
    have hS2 := rx_Str hS hS1
    rcases hend with ⟨rfl, hi1, hW1⟩ | rfl
    · obtain ⟨g, tys, ws, lv, w1, w2, w3, w4, w5, w6, w7, w8⟩ := hW1
      obtain ⟨t2, st2, hz⟩ := ih (i + 6) T1 (locs ++ locs1) (cells + c1) (slots + n1) ls1 (by omega) hi1 X1 (by omega) (by omega) hS2 ⟨g, tys, ws, lv, w1, w2, w3, va_K.moved (show sB.vm.Alike s.vm by rw [hvm]; exact Vm.Alike.refl s.vm) w4, w5, w6, w7, w8⟩
      exact ⟨t2, st1.trans st2, hz⟩
    · have fin : W p l e room_1 s m #[Value.ref b] below meth c T1.heap (locs ++ locs1) (cells + c1) (slots + n1) (lw_Z below #[Value.ref b] s) (F0 m 1356 ls1 [.int 1]) :=
        va_forget (fun q hq => hS2.2.2 q hq) (W.widen (by omega) (by omega) (lw_ret hb.1.1 hb.1.2.1 hr hlocks (by decide +kernel)))
      obtain ⟨t2, st2, hz⟩ := fin T1 rfl X1
      exact ⟨t2, st1.trans st2, hz⟩
end RXO
