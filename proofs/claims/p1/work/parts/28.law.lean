/-! ===== runs of the law's body ===== -/
def rx_dV : DecidableEq rx_V := inferInstance
def rx_dC : DecidableEq rx_C := have _i : DecidableEq rx_V := rx_dV; inferInstance
def rx_dL : DecidableEq rx_L := have _i : DecidableEq rx_V := rx_dV; inferInstance
def rx_dR : DecidableEq (Nat × rx_L × List rx_V) := have _i : DecidableEq rx_V := rx_dV; have _j : DecidableEq rx_L := rx_dL; inferInstance
def rx_dT : DecidableEq rx_T := have _i : DecidableEq rx_C := rx_dC; have _j : DecidableEq (Nat × rx_L × List rx_V) := rx_dR; inferInstance
def rx_dO : DecidableEq (Option (List rx_T)) := have _i : DecidableEq rx_T := rx_dT; inferInstance
theorem rx_oeq {x y : Option (List rx_T)} (h : @decide (x = y) (rx_dO x y) = true) : x = y := @of_decide_eq_true _ (rx_dO x y) h
def rx_ext : Nat → Nat → List rx_V → rx_Y → List rx_C → Option rx_O := fun _ _ _ _ _ => none
noncomputable def rx_CL : Nat → List rx_V → rx_Y → List rx_C → Option rx_O := rx_fcall rx_NW rx_MT rx_ext 100000 30
/-- a state at the law's end, with true -/
def rx_endB (T : rx_T) : Bool := match T.2.2.2.2.2 with
  | [.inl (0, z)] => rx_ieq z 1 && (Nat.beq T.2.2.2.1 1412 && (Nat.ble T.2.2.1.1 600002 && Nat.ble T.2.2.1.2 7302232))
  | _ => false
noncomputable def rx_lgo (stop : Nat) (T : rx_T) : Option (List rx_T) := rx_go rx_NW rx_CL rx_mL stop 100000 T.1 T.2.1 T.2.2.1 T.2.2.2.1 T.2.2.2.2.1 T.2.2.2.2.2
noncomputable def rx_runB (T : rx_T) : Bool := match rx_lgo 999999 T with
  | some L => L.all rx_endB
  | none => false
def rx_sLt : rx_Y := [((-2147483648), 2147483647), ((-2147483648), 2147483647), ((-2147483648), 2147483647), ((-2147483648), 2147483647), ((-2147483648), 2147483647), ((-2147483648), 2147483647), (0, 5)]
/-- at the switch: x1's range, the call's number -/
def rx_s8 (r q : Int × Int) : rx_Y := [((-2147483648), 2147483647), r, ((-2147483648), 2147483647), ((-2147483648), 2147483647), ((-2147483648), 2147483647), ((-2147483648), 2147483647), (6, 6), q]
def rx_T40 (r q : Int × Int) : rx_T := (rx_s8 r q, rx_fh, (226, 8467), 40, rx_fl0, [.inl (8, 0)])
def rx_full : Int × Int := ((-2147483648), 2147483647)
/-- ranges, one behind the other, that leave nothing out -/
def rx_cov (hi : Int) : Int → List (Int × Int) → Bool
  | lo, [] => decide (hi < lo)
  | lo, q :: r => decide (q.1 ≤ lo) && rx_cov hi (q.2 + 1) r
theorem rx_cov_ok {hi z : Int} (hz : z ≤ hi) : ∀ {lo : Int} {bs : List (Int × Int)}, rx_cov hi lo bs = true → lo ≤ z → ∃ q ∈ bs, q.1 ≤ z ∧ z ≤ q.2
  | lo, [], h, h1 => by
    have h2 : hi < lo := of_decide_eq_true h
    omega
  | lo, q :: r, h, h1 => by
    have h2 : (decide (q.1 ≤ lo) && rx_cov hi (q.2 + 1) r) = true := h
    rw [Bool.and_eq_true] at h2
    have h3 : q.1 ≤ lo := of_decide_eq_true h2.1
    by_cases h4 : z ≤ q.2
    · exact ⟨q, List.mem_cons_self, by omega, h4⟩
    · obtain ⟨q', h5, h6⟩ := rx_cov_ok hz h2.2 (by omega)
      exact ⟨q', List.mem_cons_of_mem _ h5, h6⟩
section RXL
variable {p : Program} {l : Launch} {e : Env} {s : State} {m : MethodId} {below : List Frame} {meth : Method} {c : Code} {b : Nat} {bb : (Nat → Option Nat) × List Int} {D : va_G} {g0 : List Int} {a0 : List Nat} {t0 : List (ClassId × FieldType)}
theorem rx_cut {R : Room} {args : Array Value} {A : Nat → Prop} {nL : Nat} {Q : State → Prop} {sy : rx_Y} {T : List rx_C × (Nat × Nat) × Nat × rx_L × List rx_V} (k : Nat) {lo hi : Int} (bs : List (Int × Int)) (hk : sy[k]? = some (lo, hi)) (hc : rx_cov hi lo bs = true) (K : ∀ q ∈ bs, rx_Go p l e R s m args below meth c bb D A g0 a0 t0 nL Q (sy.set k q, T)) : rx_Go p l e R s m args below meth c bb D A g0 a0 t0 nL Q (sy, T) := by
  intro H locs ls st hat
  obtain ⟨g, tys, ws, lv, hE, hG, hH, hK, hP, hD, hS, hl, hv, hst⟩ := hat
  have hlt : k < g.length := by
    rw [hG.1]
    exact (List.getElem?_eq_some_iff.mp hk).1
  have hz : g[k]? = some g[k] := List.getElem?_eq_getElem hlt
  have h1 := hG.2 k _ _ hz hk
  obtain ⟨q, hq, h2, h3⟩ := rx_cov_ok h1.2 hc h1.1
  exact K q hq H locs ls st ⟨g, tys, ws, lv, hE, hG.set hz h2 h3, hH, hK, hP, hD, hS, hl, hv, hst⟩
/-- the law's frame -/
def rx_Lw (p : Program) (s : State) (m : MethodId) (meth : Method) (c : Code) (b : Nat) (bb : (Nat → Option Nat) × List Int) : Prop := rx_Cx p s m #[Value.ref b] c cL_law RL 7 ∧ meth.sig.returnType = ret ∧ meth.locks = false ∧ rx_Zz bb s.heap.size s s.heap
theorem rx_hc : rx_Hc l bb D (rx_Zz bb s.heap.size) s.heap.size rx_MT room_1 rx_CL := by
  intro mi as sy h r hr
  obtain ⟨d', hd, M, h1, h2, h3, h4⟩ := rx_fcall_ok rx_clok rx_mtok (rx_Zz_ok bb s.heap.size) (fun d mi as sy h r h => by cases h) 30 mi as sy h r hr
  obtain rfl : d' = 29 := by omega
  exact ⟨M, 29, h1, h2, h3, ⟨by decide, by decide⟩, h4⟩
theorem rx_law_go {Q : State → Prop} (F : rx_Lw p s m meth c b bb) {stop : Nat} {T : rx_T} {L : List rx_T} (h : rx_lgo stop T = some L) (K : ∀ T' ∈ L, rx_Go p l e room_1 s m #[Value.ref b] below meth c bb D (fun q => s.heap.size ≤ q) g0 a0 t0 7 Q T') : rx_Go p l e room_1 s m #[Value.ref b] below meth c bb D (fun q => s.heap.size ≤ q) g0 a0 t0 7 Q T :=
  (rx_go_ok F.1 rx_clok (rx_tvL meth.name) rfl ⟨rfl, rfl, by decide, by decide⟩ rfl (rx_Zz_ok bb _) F.2.2.2 (Nat.le_refl _) (fun q h => h) (fun q h => h) rx_hc 100000 _ _ _ _ _ _ L h).2 K
theorem rx_end_go (F : rx_Lw p s m meth c b bb) {T : rx_T} (h : rx_endB T = true) : rx_Go p l e room_1 s m #[Value.ref b] below meth c bb D (fun q => s.heap.size ≤ q) g0 a0 t0 7 (lw_Z below #[Value.ref b] s) T := by
  unfold rx_endB at h
  split at h
  · rename_i z hsa
    simp only [Bool.and_eq_true] at h
    obtain ⟨h1, h2, h3, h4⟩ := h
    intro H locs ls st hat
    obtain ⟨g, tys, ws, lv, hE, hG, hH, hK, hP, hD, hS, hl, hv, hst⟩ := hat
    rw [hsa] at hst
    obtain ⟨v0, w0, rfl, ⟨y, rfl, hy⟩, hst2⟩ := rx_vs_cons hst
    cases w0 with
    | cons v1 w1 => exact hst2.elim
    | nil =>
      have hz : z = 1 := rx_ieq_t h1
      have hy1 : y.toInt = 1 := by
        have h5 : y.toInt = z := hy
        rw [h5, hz]
      have hy2 : y = 1 := Int32.toInt_inj.1 (by rw [hy1]; rfl)
      subst hy2
      rw [Nat.eq_of_beq_eq_true h2]
      exact va_forget (fun q hq => hS.2.2 q hq) (W.widen (Nat.le_of_ble_eq_true h3) (Nat.le_of_ble_eq_true h4) (lw_ret F.1.1 F.1.2.1 F.2.1 F.2.2.1 (by decide +kernel)))
  · cases h
theorem rx_run_go (F : rx_Lw p s m meth c b bb) {T : rx_T} (h : rx_runB T = true) : rx_Go p l e room_1 s m #[Value.ref b] below meth c bb D (fun q => s.heap.size ≤ q) g0 a0 t0 7 (lw_Z below #[Value.ref b] s) T := by
  unfold rx_runB at h
  split at h
  · rename_i L hL
    exact rx_law_go F hL fun T' hT' => rx_end_go F (List.all_eq_true.mp h T' hT')
  · cases h
end RXL
