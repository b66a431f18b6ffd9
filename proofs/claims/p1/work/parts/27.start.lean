/-! ===== what holds where the law begins ===== -/
section RXS
def rx_Xd : List Cond := [.declares ⟨"java/lang/RuntimeException", "<init>", "()V"⟩, .declares ⟨"java/lang/Exception", "<init>", "()V"⟩, .declares ⟨"java/lang/Throwable", "<init>", "()V"⟩, .castable "java/util/NoSuchElementException" "java/util/NoSuchElementException"]
/-- what a throw needs -/
def rx_Xt (A : Nat → Prop) (U : State) (H : Heap) : Prop := vx_Zq Bundle.tN "UNASSIGNED_STACK" Bundle.steD A U H ∧ vx_Zq Bundle.tN "SUPPRESSED_SENTINEL" Bundle.listD A U H ∧ ∀ w ∈ rx_Xd, va_Nw w U
def rx_Zz (b : (Nat → Option Nat) × List Int) (sz0 : Nat) : State → Heap → Prop := fun U H => rx_Xf b (fun q => sz0 ≤ q) U H ∧ rx_Xt (fun q => sz0 ≤ q) U H
theorem rx_Xd_warm {s U : State} (hW : s.WarmedH U.vm) (h : ∀ w ∈ rx_Xd, va_Nw w s) : ∀ w ∈ rx_Xd, va_Nw w U := by
  intro w hw
  have h1 := h w hw
  simp only [rx_Xd, List.mem_cons, List.not_mem_nil, or_false] at hw
  rcases hw with rfl | rfl | rfl | rfl
  · exact h1.warmD hW
  · exact h1.warmD hW
  · exact h1.warmD hW
  · exact h1.warmC hW
theorem rx_Xd_tab : ∀ w ∈ rx_Xd, w.onTables = true := by
  intro w hw
  simp only [rx_Xd, List.mem_cons, List.not_mem_nil, or_false] at hw
  rcases hw with rfl | rfl | rfl | rfl <;> rfl
theorem rx_Zz_ok (b : (Nat → Option Nat) × List Int) (sz0 : Nat) : rx_Zp b (rx_Zz b sz0) sz0 := by
  refine ⟨fun U H H1 h hq => ?_, fun s U H hW h => ?_, fun U H g mk a h => ?_, fun s A h hA => h.1.narrow hA⟩
  · have hq' : ∀ a : Nat, a < H.size → ¬ sz0 ≤ a → H1[a]? = H[a]? := fun a _ ha => hq a (Nat.lt_of_not_le ha)
    exact ⟨h.1.kept hq', h.2.1.kept hq', h.2.2.1.kept hq', h.2.2.2⟩
  · exact ⟨h.1.moved hW.alike (fun own tx k a q => q.warm hW), vx_Zq.moved hW.alike h.2.1, vx_Zq.moved hW.alike h.2.2.1, rx_Xd_warm hW h.2.2.2⟩
  · exact ⟨rx_Xf.moved (u := U) (U := U.calling g mk a) (Vm.Alike.refl U.vm) (fun own tx k a' q => vk_R.same (u := U) (U := U.calling g mk a) rfl q) h.1, vx_Zq.moved (u := U) (U := U.calling g mk a) (Vm.Alike.refl U.vm) h.2.1, vx_Zq.moved (u := U) (U := U.calling g mk a) (Vm.Alike.refl U.vm) h.2.2.1, fun w hw => va_Nw.same (u := U) (U := U.calling g mk a) (rx_Xd_tab w hw) rfl (h.2.2.2 w hw)⟩
/-- the words of the tables -/
theorem rx_lwG {args : Array Value} {s : State} (hts : ∀ w ∈ lw_tbl, w.before args s = true) : ∀ w ∈ rx_Gd, w.before args s = true := fun w hw => hts w (List.mem_filter.mp hw).1
theorem rx_lwP {args : Array Value} {s : State} (hts : ∀ w ∈ lw_tbl, w.before args s = true) : rx_Pr s := by
  refine ⟨fun w hw => ?_, fun C hC => ?_⟩
  · obtain ⟨h1, h2⟩ := List.mem_filter.mp hw
    have h3 := hts w h1
    unfold rx_isN at h2
    split at h2
    · exact va_Nw.of rfl h3
    · exact va_Nw.of rfl h3
    · cases h2
  · simp only [rx_Ao, List.mem_cons, List.not_mem_nil, or_false] at hC
    rcases hC with rfl | rfl
    · exact va_AO.of (hts _ (by decide +kernel))
    · exact va_AO.of (hts _ (by decide +kernel))
theorem rx_known {args : Array Value} {s : State} (hts : ∀ w ∈ rx_Gd, w.before args s = true) : ∃ D : va_G, va_K D vwCl [] s := by
  have h0 : ∀ ci : Nat, ∃ q : ClassId × (Nat → Nat), ∀ r : vw_C, vwCl[ci]? = some r → u_Kn s r.1 r.2.1 r.2.2 q.1 q.2 := by
    intro ci
    cases hr : vwCl[ci]? with
    | none => exact ⟨(default, fun _ => 0), fun r h => by cases h⟩
    | some r =>
      obtain ⟨cC, iS, h1⟩ := u_known hts (rx_clok ci r hr).1 (hts _ (rx_wok.1 ci r hr).1)
      exact ⟨(cC, iS), fun r' h => by cases h; exact h1⟩
  obtain ⟨f, hf⟩ := Classical.axiomOfChoice h0
  exact ⟨(fun c => (f c).1, fun c => (f c).2), fun c q hq => hf c q hq, fun k q hk => by cases hk⟩
def rx_wel (j : Nat) : Cond := .eq (.elem (.field (.string "LostKeys$Tape" 19) "java/lang/String" "value" "[B") (.int (Int32.ofNat j))) (.int ((rx_wb.map Int32.ofInt).getD j 0))
theorem rx_wel_in : (List.range 120).map rx_wel = ((flatC (Jvm.Cond.and given_1 narrow_1)).drop 59).take 120 := by decide +kernel
theorem rx_wel_m {j : Nat} (hj : j < 120) : rx_wel j ∈ flatC (Jvm.Cond.and given_1 narrow_1) := by
  have h1 : rx_wel j ∈ (List.range 120).map rx_wel := List.mem_map.mpr ⟨j, List.mem_range.mpr hj, rfl⟩
  rw [rx_wel_in] at h1
  exact List.mem_of_mem_drop (List.mem_of_mem_take h1)
/-- cells outside, at the law's entry -/
theorem rx_begin {p : Program} {s : State} {m : MethodId} {meth : Method} {c : Code} {b L : Nat} {xs : Nat → Int32} (hL : L ≤ 6) (C0 : lw_At p s m meth c b L xs) : ∃ bb : (Nat → Option Nat) × List Int, bb.1 0 = some b ∧ bb.2 = [(xs 0).toInt, (xs 1).toInt, (xs 2).toInt, (xs 3).toInt, (xs 4).toInt, (xs 5).toInt, (L : Int)] ∧ rx_Zz bb s.heap.size s s.heap := by
  obtain ⟨hx, hb, hr, hml, hown, hts, hX, hbl, hlocks, hgv⟩ := C0
  have hs := flat_of_before _ hgv
  have hA : ∀ a : Nat, a < s.heap.size → ¬ s.heap.size ≤ a := fun a h => Nat.not_le.mpr h
  obtain ⟨adK, adV, hS, hev⟩ := vk_Sof (args := #[Value.ref b]) (s := s) (N := 1) (tm := fun _ => .string "LostKeys$Tape" 19) (len := [120]) (byt := [rx_wb.map Int32.ofInt]) (A := fun q => s.heap.size ≤ q)
    (fun i hi => by obtain rfl : i = 0 := by omega
                    decide)
    (fun i _ => hs _ (by decide +kernel)) (fun i _ => hs _ (by decide +kernel)) (fun i _ => hs _ (by decide +kernel))
    (fun i hi => by obtain rfl : i = 0 := by omega
                    exact hs _ (by decide +kernel))
    (fun i hi j hj => by obtain rfl : i = 0 := by omega
                         exact hs _ (rx_wel_m hj))
    (fun i j hi hj hij => absurd (show i = j by omega) hij) hA
  obtain ⟨h1, h2, h3, h4⟩ := hS.1 0 (by decide)
  have hR : vk_R "LostKeys$Tape" 19 rx_tx (adK 0) s := vk_R.of (A := #[Value.ref b]) (hts _ (by decide +kernel)) (hev 0 (by decide))
  have hZ1 : va_Z "java/lang/String" "COMPACT_STRINGS" "Z" (.int 1) (fun q => s.heap.size ≤ q) s s.heap := va_Zof (args := #[Value.ref b]) (hts _ (by decide +kernel)) (hts _ (by decide +kernel)) (va_eqt (hs _ (by decide +kernel))) hA
  have hZ2 : va_Zq "jdk/internal/util/Preconditions" "SIOOBE_FORMATTER" "Ljava/util/function/BiFunction;" (fun q => s.heap.size ≤ q) s s.heap := va_Zqof (args := #[Value.ref b]) (hts _ (by decide +kernel)) (hts _ (by decide +kernel)) (hs _ (by decide +kernel)) hA
  have hT : rx_Xt (fun q => s.heap.size ≤ q) s s.heap := by
    refine ⟨vx_Zqof (args := #[Value.ref b]) (hts _ (by decide +kernel)) (hts _ (by decide +kernel)) (hs _ (by decide +kernel)) hA, vx_Zqof (args := #[Value.ref b]) (hts _ (by decide +kernel)) (hts _ (by decide +kernel)) (hs _ (by decide +kernel)) hA, fun w hw => ?_⟩
    have ho := rx_Xd_tab w hw
    refine va_Nw.of ho (hts w ?_)
    simp only [rx_Xd, List.mem_cons, List.not_mem_nil, or_false] at hw
    rcases hw with rfl | rfl | rfl | rfl <;> decide +kernel
  have hZ3 : ∃ o3 : Option Nat, va_Z "jdk/internal/util/Preconditions" "SIOOBE_FORMATTER" "Ljava/util/function/BiFunction;" (va_rf o3) (fun q => s.heap.size ≤ q) s s.heap := by
    rcases hZ2 with h | ⟨t, h⟩
    · exact ⟨none, h⟩
    · exact ⟨some t, h⟩
  obtain ⟨o3, hZ3⟩ := hZ3
  refine ⟨(fun k => match k with | 0 => some b | 1 => some (adK 0) | 2 => some (adV 0) | 3 => o3 | _ => none, [(xs 0).toInt, (xs 1).toInt, (xs 2).toInt, (xs 3).toInt, (xs 4).toInt, (xs 5).toInt, (L : Int)]), rfl, rfl, ⟨fun k o hk => ?_, fun q hq => ?_, fun q hq => ?_⟩, hT⟩
  · match k, hk with
    | 0, hk =>
      cases hk
      refine ⟨b, rfl, by decide, hA b hbl, L, xs, hX, rfl, hL, fun j hj => ?_⟩
      match j, hj with
      | 0, _ => rfl
      | 1, _ => rfl
      | 2, _ => rfl
      | 3, _ => rfl
      | 4, _ => rfl
      | 5, _ => rfl
      | j + 6, h => omega
    | 1, hk =>
      cases hk
      exact ⟨adK 0, rfl, adV 0, rfl, h1, h2, h3⟩
    | 2, hk =>
      cases hk
      refine ⟨adV 0, rfl, Or.inr rfl, by decide +kernel, ?_, by decide +kernel⟩
      have e : (fun j : Nat => Value.int (Int32.ofInt (rx_wb.getD j 0))) = fun j => .int (([rx_wb.map Int32.ofInt].getD 0 []).getD j 0) := by
        funext j
        congr 1
        show Int32.ofInt (rx_wb.getD j 0) = (rx_wb.map Int32.ofInt).getD j 0
        rw [List.getD_eq_getElem?_getD, List.getD_eq_getElem?_getD, List.getElem?_map]
        cases rx_wb[j]? with
        | none => rfl
        | some z => rfl
      show va_T .byte (adV 0) 120 (fun j => Value.int (Int32.ofInt (rx_wb.getD j 0))) (fun q => s.heap.size ≤ q) s s.heap
      rw [e]
      exact h4
    | k + 3, hk => cases hk
  · cases List.mem_singleton.mp hq
    exact ⟨adK 0, rfl, hR⟩
  · simp only [rx_ST, List.mem_cons, List.not_mem_nil, or_false] at hq
    rcases hq with rfl | rfl
    · exact hZ1
    · exact hZ3
end RXS
