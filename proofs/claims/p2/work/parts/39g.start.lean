/-! ===== what holds where the law begins ===== -/
section RXS
def rx_Xd : List Cond := [.declares ⟨"java/lang/RuntimeException", "<init>", "()V"⟩, .declares ⟨"java/lang/Exception", "<init>", "()V"⟩, .declares ⟨"java/lang/Throwable", "<init>", "()V"⟩, .castable "java/util/NoSuchElementException" "java/util/NoSuchElementException"]
/-- what a throw needs -/
def rx_Xt (A : Nat → Prop) (U : State) (H : Heap) : Prop := vx_Zq Bundle.tN "UNASSIGNED_STACK" Bundle.steD A U H ∧ vx_Zq Bundle.tN "SUPPRESSED_SENTINEL" Bundle.listD A U H ∧ ∀ w ∈ rx_Xd, va_Nw w U
def rx_Zz (b : (Nat → Option Nat) × List Int) (sz0 : Nat) : State → Heap → Prop := fun U H => rx_Xf b (fun q => sz0 ≤ q) U H ∧ rx_Xt (fun q => sz0 ≤ q) U H
theorem rx_Xd_warm {s U : State} (hW : s.WarmedH U.vm) (h : ∀ w ∈ rx_Xd, va_Nw w s) : ∀ w ∈ rx_Xd, va_Nw w U := by
  intro w hw
  have h1 := h w hw
  simp only [rx_Xd, List.mem_cons, List.not_mem_nil, or_false] at hw
  rcases hw with rfl | rfl | rfl | rfl
  · exact h1.warmD hW
  · exact h1.warmD hW
  · exact h1.warmD hW
  · exact h1.warmC hW
theorem rx_Xd_tab : ∀ w ∈ rx_Xd, w.onTables = true := by
  intro w hw
  simp only [rx_Xd, List.mem_cons, List.not_mem_nil, or_false] at hw
  rcases hw with rfl | rfl | rfl | rfl <;> rfl
theorem rx_Zz_ok (b : (Nat → Option Nat) × List Int) (sz0 : Nat) : rx_Zp b (rx_Zz b sz0) sz0 := by
  refine ⟨fun U H H1 h hq => ?_, fun s U H hW h => ?_, fun U H g mk a h => ?_, fun s A h hA => h.1.narrow hA⟩
  · have hq' : ∀ a : Nat, a < H.size → ¬ sz0 ≤ a → H1[a]? = H[a]? := fun a _ ha => hq a (Nat.lt_of_not_le ha)
    exact ⟨h.1.kept hq', h.2.1.kept hq', h.2.2.1.kept hq', h.2.2.2⟩
  · exact ⟨h.1.moved hW.alike (fun own tx k a q => q.warm hW), vx_Zq.moved hW.alike h.2.1, vx_Zq.moved hW.alike h.2.2.1, rx_Xd_warm hW h.2.2.2⟩
  · exact ⟨rx_Xf.moved (u := U) (U := U.calling g mk a) (Vm.Alike.refl U.vm) (fun own tx k a' q => vk_R.same (u := U) (U := U.calling g mk a) rfl q) h.1, vx_Zq.moved (u := U) (U := U.calling g mk a) (Vm.Alike.refl U.vm) h.2.1, vx_Zq.moved (u := U) (U := U.calling g mk a) (Vm.Alike.refl U.vm) h.2.2.1, fun w hw => va_Nw.same (u := U) (U := U.calling g mk a) (rx_Xd_tab w hw) rfl (h.2.2.2 w hw)⟩
/-- the words of the tables -/
theorem rx_lwG {args : Array Value} {s : State} (hts : ∀ w ∈ lw_tbl, w.before args s = true) : ∀ w ∈ rx_Gd, w.before args s = true := fun w hw => hts w (List.mem_filter.mp hw).1
theorem rx_lwP {args : Array Value} {s : State} (hts : ∀ w ∈ lw_tbl, w.before args s = true) : rx_Pr s := by
  refine ⟨fun w hw => ?_, fun C hC => ?_⟩
  · obtain ⟨h1, h2⟩ := List.mem_filter.mp hw
    have h3 := hts w h1
    unfold rx_isN at h2
    split at h2
    · exact va_Nw.of rfl h3
    · exact va_Nw.of rfl h3
    · cases h2
  · simp only [rx_Ao, List.mem_cons, List.not_mem_nil, or_false] at hC
    rcases hC with rfl | rfl
    · exact va_AO.of (hts _ (by decide +kernel))
    · exact va_AO.of (hts _ (by decide +kernel))
theorem rx_known {args : Array Value} {s : State} (hts : ∀ w ∈ rx_Gd, w.before args s = true) : ∃ D : va_G, va_K D vwCl [] s := by
  have h0 : ∀ ci : Nat, ∃ q : ClassId × (Nat → Nat), ∀ r : vw_C, vwCl[ci]? = some r → u_Kn s r.1 r.2.1 r.2.2 q.1 q.2 := by
    intro ci
    cases hr : vwCl[ci]? with
    | none => exact ⟨(default, fun _ => 0), fun r h => by cases h⟩
    | some r =>
      obtain ⟨cC, iS, h1⟩ := u_known hts (rx_clok ci r hr).1 (hts _ (rx_wok.1 ci r hr).1)
      exact ⟨(cC, iS), fun r' h => by cases h; exact h1⟩
  obtain ⟨f, hf⟩ := Classical.axiomOfChoice h0
  exact ⟨(fun c => (f c).1, fun c => (f c).2), fun c q hq => hf c q hq, fun k q hk => by cases hk⟩
/-- the texts' bytes -/
def rx_tms (i : Nat) : Term := match i with
  | 0 => .string "LostKeys$Tape" 19
  | 1 => .string "LostKeys$Tag" 29
  | 2 => .string "LostKeys$Tag" 35
  | _ => .string "LostKeys$Tag" 59
def rx_bys : List (List Int) := [rx_wb, rx_w1, rx_w2, rx_w3]
def rx_by32 : List (List Int32) := rx_bys.map (fun l => l.map Int32.ofInt)
def rx_wel (i j : Nat) : Cond := .eq (.elem (.field (rx_tms i) "java/lang/String" "value" "[B") (.int (Int32.ofNat j))) (.int ((rx_by32.getD i []).getD j 0))
theorem rx_wel0 : (List.range 120).map (rx_wel 0) = ((flatC (Jvm.Cond.and given_1 narrow_1)).drop 59).take 120 := by decide +kernel
theorem rx_wel1 : (List.range 8).map (rx_wel 1) = ((flatC (Jvm.Cond.and given_1 narrow_1)).drop 183).take 8 := by decide +kernel
theorem rx_wel2 : (List.range 9).map (rx_wel 2) = ((flatC (Jvm.Cond.and given_1 narrow_1)).drop 196).take 9 := by decide +kernel
theorem rx_wel3 : (List.range 6).map (rx_wel 3) = ((flatC (Jvm.Cond.and given_1 narrow_1)).drop 211).take 6 := by decide +kernel
theorem rx_wel_g {i n a j : Nat} {F : List Cond} (h : (List.range n).map (rx_wel i) = (F.drop a).take n) (hj : j < n) : rx_wel i j ∈ F := by
  have h1 : rx_wel i j ∈ (List.range n).map (rx_wel i) := List.mem_map.mpr ⟨j, List.mem_range.mpr hj, rfl⟩
  rw [h] at h1
  exact List.mem_of_mem_drop (List.mem_of_mem_take h1)
def rx_lens : List Nat := [120, 8, 9, 6]
theorem rx_wel_m {i j : Nat} (hi : i < 4) (hj : j < rx_lens.getD i 0) : rx_wel i j ∈ flatC (Jvm.Cond.and given_1 narrow_1) := by
  have h4 : i = 0 ∨ i = 1 ∨ i = 2 ∨ i = 3 := by omega
  rcases h4 with rfl | rfl | rfl | rfl
  · exact rx_wel_g rx_wel0 hj
  · exact rx_wel_g rx_wel1 hj
  · exact rx_wel_g rx_wel2 hj
  · exact rx_wel_g rx_wel3 hj
theorem rx_four {P : Nat → Prop} (h0 : P 0) (h1 : P 1) (h2 : P 2) (h3 : P 3) : ∀ i, i < 4 → P i := by
  intro i hi
  have h4 : i = 0 ∨ i = 1 ∨ i = 2 ∨ i = 3 := by omega
  rcases h4 with rfl | rfl | rfl | rfl
  · exact h0
  · exact h1
  · exact h2
  · exact h3
theorem rx_gdm (l : List Int) (j : Nat) : Value.int (Int32.ofInt (l.getD j 0)) = .int ((l.map Int32.ofInt).getD j 0) := by
  congr 1
  rw [List.getD_eq_getElem?_getD, List.getD_eq_getElem?_getD, List.getElem?_map]
  cases l[j]? with
  | none => rfl
  | some z => rfl
/-- the cells outside: texts and their bytes, the row of the most of each sort, the static of the library's; 50 is the script -/
def rx_bb (adK adV : Nat → Nat) (o9 : Option Nat) (t8 b : Nat) : Nat → Option Nat := fun k => match k with
  | 0 => some (adK 0)
  | 1 => some (adV 0)
  | 2 => some (adK 1)
  | 3 => some (adV 1)
  | 4 => some (adK 2)
  | 5 => some (adV 2)
  | 6 => some (adK 3)
  | 7 => some (adV 3)
  | 8 => some t8
  | 9 => o9
  | 50 => some b
  | _ => none
/-- cells outside, at the law's entry -/
theorem rx_begin {p : Program} {s : State} {m : MethodId} {meth : Method} {c : Code} {b L : Nat} {xs : Nat → Int32} (C0 : lw_At p s m meth c b L xs) : ∃ bb : (Nat → Option Nat) × List Int, bb.1 50 = some b ∧ bb.2 = [] ∧ rx_Zz bb s.heap.size s s.heap := by
  obtain ⟨hx, hb, hr, hml, hown, hts, hX, hbl, hlocks, hgv⟩ := C0
  have hs := flat_of_before _ hgv
  have hA : ∀ a : Nat, a < s.heap.size → ¬ s.heap.size ≤ a := fun a h => Nat.not_le.mpr h
  obtain ⟨adK, adV, hS, hev⟩ := vk_Sof (args := #[Value.ref b]) (s := s) (N := 4) (tm := rx_tms) (len := rx_lens) (byt := rx_by32) (A := fun q => s.heap.size ≤ q)
    (rx_four (by decide) (by decide) (by decide) (by decide))
    (rx_four (hs _ (by decide +kernel)) (hs _ (by decide +kernel)) (hs _ (by decide +kernel)) (hs _ (by decide +kernel)))
    (rx_four (hs _ (by decide +kernel)) (hs _ (by decide +kernel)) (hs _ (by decide +kernel)) (hs _ (by decide +kernel)))
    (rx_four (hs _ (by decide +kernel)) (hs _ (by decide +kernel)) (hs _ (by decide +kernel)) (hs _ (by decide +kernel)))
    (rx_four (hs _ (by decide +kernel)) (hs _ (by decide +kernel)) (hs _ (by decide +kernel)) (hs _ (by decide +kernel)))
    (fun i hi j hj => hs _ (rx_wel_m hi hj))
    (fun i j hi hj hij => by
      have h4 : i = 0 ∨ i = 1 ∨ i = 2 ∨ i = 3 := by omega
      have h5 : j = 0 ∨ j = 1 ∨ j = 2 ∨ j = 3 := by omega
      rcases h4 with rfl | rfl | rfl | rfl <;> rcases h5 with rfl | rfl | rfl | rfl <;> first | exact absurd rfl hij | exact Or.inl (hs _ (by decide +kernel)) | exact Or.inr (hs _ (by decide +kernel))) hA
  obtain ⟨t8, ht8, hT8⟩ := va_Tof (args := #[Value.ref b]) (s := s) (tm := .static "LostKeys" "MOST_OF_SORT" "[I") (ty := .int) (N := 4) (f := fun j => .int (Int32.ofInt (rx_w4.getD j 0))) (A := fun q => s.heap.size ≤ q) (by decide) (hs _ (by decide +kernel)) (va_eqt (hs _ (by decide +kernel))) (rx_four (va_eqt (hs _ (by decide +kernel))) (va_eqt (hs _ (by decide +kernel))) (va_eqt (hs _ (by decide +kernel))) (va_eqt (hs _ (by decide +kernel)))) hA
  have hZ1 : va_Z "java/lang/String" "COMPACT_STRINGS" "Z" (.int 1) (fun q => s.heap.size ≤ q) s s.heap := va_Zof (args := #[Value.ref b]) (hts _ (by decide +kernel)) (hts _ (by decide +kernel)) (va_eqt (hs _ (by decide +kernel))) hA
  have hZ2 : va_Zq "jdk/internal/util/Preconditions" "SIOOBE_FORMATTER" "Ljava/util/function/BiFunction;" (fun q => s.heap.size ≤ q) s s.heap := va_Zqof (args := #[Value.ref b]) (hts _ (by decide +kernel)) (hts _ (by decide +kernel)) (hs _ (by decide +kernel)) hA
  have hZ4 : va_Z "LostKeys" "MOST_OF_SORT" "[I" (.ref t8) (fun q => s.heap.size ≤ q) s s.heap := va_Zof (args := #[Value.ref b]) (hts _ (by decide +kernel)) (hts _ (by decide +kernel)) ht8 hA
  have hT : rx_Xt (fun q => s.heap.size ≤ q) s s.heap := by
    refine ⟨vx_Zqof (args := #[Value.ref b]) (hts _ (by decide +kernel)) (hts _ (by decide +kernel)) (hs _ (by decide +kernel)) hA, vx_Zqof (args := #[Value.ref b]) (hts _ (by decide +kernel)) (hts _ (by decide +kernel)) (hs _ (by decide +kernel)) hA, fun w hw => ?_⟩
    have ho := rx_Xd_tab w hw
    refine va_Nw.of ho (hts w ?_)
    simp only [rx_Xd, List.mem_cons, List.not_mem_nil, or_false] at hw
    rcases hw with rfl | rfl | rfl | rfl <;> decide +kernel
  have hZ3 : ∃ o3 : Option Nat, va_Z "jdk/internal/util/Preconditions" "SIOOBE_FORMATTER" "Ljava/util/function/BiFunction;" (va_rf o3) (fun q => s.heap.size ≤ q) s s.heap := by
    rcases hZ2 with h | ⟨t, h⟩
    · exact ⟨none, h⟩
    · exact ⟨some t, h⟩
  obtain ⟨o3, hZ3⟩ := hZ3
  have bys : ∀ (i : Nat) (l : List Int), i < 4 → rx_bys.getD i [] = l → rx_lens.getD i 0 = l.length → va_T .byte (adV i) l.length (fun j => Value.int (Int32.ofInt (l.getD j 0))) (fun q => s.heap.size ≤ q) s s.heap := by
    intro i l hi e1 e2
    have h4 := (hS.1 i hi).2.2.2
    have e3 : rx_by32.getD i [] = l.map Int32.ofInt := by
      unfold rx_by32
      rw [← e1, List.getD_eq_getElem?_getD, List.getElem?_map, List.getD_eq_getElem?_getD]
      cases rx_bys[i]? with
      | none => rfl
      | some z => rfl
    rw [e2, e3] at h4
    have e : (fun j : Nat => Value.int (Int32.ofInt (l.getD j 0))) = fun j => .int ((l.map Int32.ofInt).getD j 0) := funext fun j => rx_gdm l j
    rw [e]
    exact h4
  refine ⟨(rx_bb adK adV o3 t8 b, []), rfl, rfl, ⟨fun k o hk => ?_, fun q hq => ?_, fun q hq => ?_⟩, hT⟩
  · match k, hk with
    | 0, hk => cases hk; exact ⟨adK 0, rfl, adV 0, rfl, (hS.1 0 (by decide)).1, (hS.1 0 (by decide)).2.1, (hS.1 0 (by decide)).2.2.1⟩
    | 1, hk => cases hk; exact ⟨adV 0, rfl, Or.inr rfl, by decide +kernel, bys 0 rx_wb (by decide) rfl rfl, by decide +kernel⟩
    | 2, hk => cases hk; exact ⟨adK 1, rfl, adV 1, rfl, (hS.1 1 (by decide)).1, (hS.1 1 (by decide)).2.1, (hS.1 1 (by decide)).2.2.1⟩
    | 3, hk => cases hk; exact ⟨adV 1, rfl, Or.inr rfl, by decide +kernel, bys 1 rx_w1 (by decide) rfl rfl, by decide +kernel⟩
    | 4, hk => cases hk; exact ⟨adK 2, rfl, adV 2, rfl, (hS.1 2 (by decide)).1, (hS.1 2 (by decide)).2.1, (hS.1 2 (by decide)).2.2.1⟩
    | 5, hk => cases hk; exact ⟨adV 2, rfl, Or.inr rfl, by decide +kernel, bys 2 rx_w2 (by decide) rfl rfl, by decide +kernel⟩
    | 6, hk => cases hk; exact ⟨adK 3, rfl, adV 3, rfl, (hS.1 3 (by decide)).1, (hS.1 3 (by decide)).2.1, (hS.1 3 (by decide)).2.2.1⟩
    | 7, hk => cases hk; exact ⟨adV 3, rfl, Or.inr rfl, by decide +kernel, bys 3 rx_w3 (by decide) rfl rfl, by decide +kernel⟩
    | 8, hk => cases hk; exact ⟨t8, rfl, Or.inl rfl, by decide +kernel, hT8, by decide +kernel⟩
    | k + 9, hk => cases hk
  · simp only [rx_SR, List.mem_cons, List.not_mem_nil, or_false] at hq
    rcases hq with rfl | rfl | rfl | rfl
    · exact ⟨adK 0, rfl, vk_R.of (A := #[Value.ref b]) (hts _ (by decide +kernel)) (hev 0 (by decide))⟩
    · exact ⟨adK 1, rfl, vk_R.of (A := #[Value.ref b]) (hts _ (by decide +kernel)) (hev 1 (by decide))⟩
    · exact ⟨adK 2, rfl, vk_R.of (A := #[Value.ref b]) (hts _ (by decide +kernel)) (hev 2 (by decide))⟩
    · exact ⟨adK 3, rfl, vk_R.of (A := #[Value.ref b]) (hts _ (by decide +kernel)) (hev 3 (by decide))⟩
  · simp only [rx_ST, List.mem_cons, List.not_mem_nil, or_false] at hq
    rcases hq with rfl | rfl | rfl
    · exact hZ1
    · exact hZ3
    · exact hZ4
/-- what is outside by other names from 100 on -/
theorem rx_Zz_b {b b0 : (Nat → Option Nat) × List Int} {sz0 : Nat} {U : State} {H : Heap} (h1 : ∀ u, u < 100 → b0.1 u = b.1 u) (h2 : b0.2 = b.2) (h : rx_Zz b sz0 U H) : rx_Zz b0 sz0 U H := by
  refine ⟨⟨fun k o hk => ?_, fun q hq => ?_, fun q hq => ?_⟩, h.2⟩
  · have h3 := h.1.1 k o hk
    have hk9 : k < 9 := (List.getElem?_eq_some_iff.mp hk).1
    rcases o with vid | ⟨t, xs⟩ | n
    · have hv : vid < 100 := by
        match k, hk with
        | 0, hk => cases hk; decide
        | 1, hk => cases hk
        | 2, hk => cases hk; decide
        | 3, hk => cases hk
        | 4, hk => cases hk; decide
        | 5, hk => cases hk
        | 6, hk => cases hk; decide
        | 7, hk => cases hk
        | 8, hk => cases hk
        | k + 9, hk => cases hk
      obtain ⟨a, e1, v, e2, h4⟩ := h3
      exact ⟨a, by rw [h1 k (by omega)]; exact e1, v, by rw [h1 vid hv]; exact e2, h4⟩
    · obtain ⟨a, e1, h4⟩ := h3
      exact ⟨a, by rw [h1 k (by omega)]; exact e1, h4⟩
    · obtain ⟨a, e1, h4, h5, L, xs, h6, h7, h8, h9⟩ := h3
      exact ⟨a, by rw [h1 k (by omega)]; exact e1, h4, h5, L, xs, h6, by rw [h2]; exact h7, h8, fun j hj => by rw [h2]; exact h9 j hj⟩
  · obtain ⟨a, e1, h4⟩ := h.1.2.1 q hq
    refine ⟨a, ?_, h4⟩
    simp only [rx_SR, List.mem_cons, List.not_mem_nil, or_false] at hq
    rcases hq with rfl | rfl | rfl | rfl <;> (rw [h1 _ (by decide)]; exact e1)
  · have h4 := h.1.2.2 q hq
    simp only [rx_ST, List.mem_cons, List.not_mem_nil, or_false] at hq
    rcases hq with rfl | rfl | rfl
    · exact h4
    · have e : rx_sval b0 (.inr 9) = rx_sval b (.inr 9) := by
        show va_rf (b0.1 9) = va_rf (b.1 9)
        rw [h1 9 (by decide)]
      show va_Z _ _ _ (rx_sval b0 (.inr 9)) _ _ _
      rw [e]
      exact h4
    · have e : rx_sval b0 (.inr 8) = rx_sval b (.inr 8) := by
        show va_rf (b0.1 8) = va_rf (b.1 8)
        rw [h1 8 (by decide)]
      show va_Z _ _ _ (rx_sval b0 (.inr 8)) _ _ _
      rw [e]
      exact h4
theorem rx_ZC_ok (sz0 : Nat) : rx_ZC sz0 (fun b => rx_Zz b sz0) := ⟨fun b b0 U H h1 h2 h => rx_Zz_b h1 h2 h, fun b => rx_Zz_ok b sz0⟩
end RXS
