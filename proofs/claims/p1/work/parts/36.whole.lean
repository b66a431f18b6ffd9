/-! ===== the law, from its entry ===== -/
def rx_swq : List (Int × Int) := [((-2147483648), (-1)), (0, 0), (1, 1), (2, 2), (3, 3), (4, 4), (5, 5), (6, 6), (7, 7), (8, 8), (9, 9), (10, 10), (11, 11), (12, 12), (13, 13), (14, 14), (15, 15), (16, 16), (17, 17), (18, 18), (19, 19), (20, 20), (21, 21), (22, 22), (23, 23), (24, 24), (25, 25), (26, 26), (27, 27), (28, 28), (29, 29), (30, 30), (31, 31), (32, 32), (33, 33), (34, 34), (35, 35), (36, 36), (37, 37), (38, 38), (39, 2147483647)]
theorem rx_sw_in : ∀ q ∈ rx_swq, q ∈ rx_kA ∨ q = (5, 5) ∨ q = (6, 6) ∨ q = (12, 12) ∨ q = (21, 21) := by decide +kernel
theorem rx_gs7 (xs : Nat → Int32) {L : Nat} (hL : L ≤ 6) : rx_g rx_s7 [(xs 0).toInt, (xs 1).toInt, (xs 2).toInt, (xs 3).toInt, (xs 4).toInt, (xs 5).toInt, (L : Int)] := by
  have hb : ∀ x : Int32, -2147483648 ≤ x.toInt ∧ x.toInt ≤ 2147483647 := by
    intro x
    have h1 := Int32.le_toInt x
    have h2 := Int32.toInt_lt x
    omega
  refine ⟨rfl, fun k z q hz hq => ?_⟩
  match k, hz, hq with
  | 0, hz, hq => cases hz; cases hq; exact hb _
  | 1, hz, hq => cases hz; cases hq; exact hb _
  | 2, hz, hq => cases hz; cases hq; exact hb _
  | 3, hz, hq => cases hz; cases hq; exact hb _
  | 4, hz, hq => cases hz; cases hq; exact hb _
  | 5, hz, hq => cases hz; cases hq; exact hb _
  | 6, hz, hq => cases hz; cases hq; exact ⟨by show (0 : Int) ≤ (L : Int); omega, by show (L : Int) ≤ 6; omega⟩
  | k + 7, hz, hq => cases hz
theorem rx_all_go {p : Program} {l : Launch} {e : Env} {s : State} {m : MethodId} {below : List Frame} {meth : Method} {c : Code} {b : Nat} {bb : (Nat → Option Nat) × List Int} {D : va_G} {g0 : List Int} {a0 : List Nat} {t0 : List (ClassId × FieldType)} (hl : l.stackTraces = false) (F : rx_Lw p s m meth c b bb) : rx_Go p l e room_1 s m #[Value.ref b] below meth c bb D (fun q => s.heap.size ≤ q) g0 a0 t0 7 (lw_Z below #[Value.ref b] s) (rx_s7, [], (0, 0), 0, [(0, .inr (.inr (.inr 0)))], []) := by
  refine rx_law_go F rx_ph1 fun T hT => ?_
  cases List.mem_singleton.mp hT
  refine rx_law_go F rx_ph2 fun T hT => ?_
  rcases List.mem_cons.mp hT with rfl | hT
  · exact rx_end_go F (by decide +kernel)
  · cases List.mem_singleton.mp hT
    refine rx_cut (sy := rx_s8 rx_full rx_full) 7 rx_swq rfl (by decide +kernel) fun q hq => ?_
    show rx_Go p l e room_1 s m #[Value.ref b] below meth c bb D (fun q => s.heap.size ≤ q) g0 a0 t0 7 (lw_Z below #[Value.ref b] s) (rx_T40 rx_full q)
    rcases rx_sw_in q hq with h | rfl | rfl | rfl | rfl
    · exact rx_run_go F (rx_kA_ok q h)
    · exact rx_go_key hl F
    · exact rx_go_man hl F
    · refine rx_cut (sy := rx_s8 rx_full (12, 12)) 1 rx_kD rfl (by decide +kernel) fun q hq => ?_
      exact rx_run_go F (rx_kD_ok q hq)
    · refine rx_cut (sy := rx_s8 rx_full (21, 21)) 1 rx_kO rfl (by decide +kernel) fun q hq => ?_
      exact rx_run_go F (rx_kO_ok q hq)
/-- from the entry, for every script of at most 6 ints, the law comes to its end with true -/
theorem whole_start {p : Program} {e : Env} {s : State} {m : MethodId} {below : List Frame} {meth : Method} {c : Code} (l : Launch) (hflags : l.flags = flags0) {b L : Nat} {xs : Nat → Int32} (hL : L ≤ 6) (C0 : lw_At p s m meth c b L xs) : W p l e room_1 s m #[Value.ref b] below meth c s.heap [] 0 0 (lw_Z below #[Value.ref b] s) (entryFrame m ([Value.ref b] : List Value).toArray 7) := by
  obtain ⟨bb, hb0, hb2, hZ⟩ := rx_begin hL C0
  obtain ⟨hx, hb, hr, hml, hown, hts, hX, hbl, hlocks, hgv⟩ := C0
  have hGd := rx_lwG hts
  obtain ⟨D, hK⟩ := rx_known hGd
  have F : rx_Lw p s m meth c b bb := ⟨⟨hx, hb, hml, hown, hGd, rx_lwP hts⟩, hr, hlocks, hZ⟩
  have hl : l.stackTraces = false := by unfold Launch.stackTraces; rw [hflags]; decide
  have hG : rx_g rx_s7 bb.2 := by rw [hb2]; exact rx_gs7 xs hL
  have hvs : rx_vs bb (([] : va_W).map Prod.fst) bb.2 [.inr (.inr (.inr 0))] [Value.ref b] := ⟨by show Value.ref b = va_rf (bb.1 0); rw [hb0]; rfl, trivial⟩
  have hlv := lv_entry [Value.ref b] (n := 7) (by rw [rx_cats_len hvs]; exact Nat.le_of_ble_eq_true rfl)
  rw [lg_entry_eq]
  generalize (lg_sl [Value.ref b] ++ List.replicate (7 - (lg_sl [Value.ref b]).length) Slot.unset).toArray = ls at hlv ⊢
  exact rx_all_go (g0 := bb.2) (a0 := []) (t0 := []) (D := D) hl F s.heap [] ls [] ⟨bb.2, [], [], lv_args 0 [Value.ref b], ⟨rx_le.rf, rx_le.rf, fun _ q => q⟩, hG, ⟨rfl, fun i c h => (by cases h), rx_le.rf⟩, hK, fun k q h => (by cases h), ⟨fun i j p q h => (by cases h), fun k q h => (by cases h)⟩, va_S.rf, rx_args_ok 0 hvs, hlv, trivial⟩
