/-! ===== runs of the law with the script by hand ===== -/
noncomputable def rx_scr (LE IS V0 N6 : Nat) (T : rx_T) : Option rx_T := match rx_fe rx_tL T.2.2.2.1 with
  | some i => match i.2.1 with
    | .arraylength => match T.2.2.2.2.2 with
      | .inr (.inr (.inr 50)) :: sa => match Nat.ble (LE + 1) (rx_lenR T.1.1) with
        | true => some (T.1, T.2.1, T.2.2.1, T.2.2.2.1 + 1, T.2.2.2.2.1, .inl (LE + 1, 0) :: sa)
        | false => none
      | _ => none
    | .iaload => match T.2.2.2.2.2 with
      | .inl (q, .ofNat k) :: .inr (.inr (.inr 50)) :: sa => match (Nat.beq q (IS + 1) && Nat.ble (k + 1) N6) && (Nat.ble (IS + 1) (rx_lenR T.1.1) && Nat.ble (V0 + N6) (rx_lenR T.1.1)) with
        | true => some (T.1, T.2.1, T.2.2.1, T.2.2.2.1 + 1, T.2.2.2.2.1, .inl (V0 + k + 1, 0) :: sa)
        | false => none
      | _ => none
    | _ => none
  | none => none
theorem rx_scr_ok {KT : List rx_KE} {d LE IS V0 N6 : Nat} {GG : rx_T → List Int → Prop} (R : rx_Rw KT d LE IS V0 N6 GG) {T T2 : rx_T} (h : rx_scr LE IS V0 N6 T = some T2) {g : List Int} (k : GG T2 g) : T2.1 = T.1 ∧ GG T g := by
  unfold rx_scr at h
  split at h
  · rename_i i hi
    split at h
    · rename_i hin
      split at h
      · rename_i sa hsa
        rw [rx_lenR_eq] at h
        split at h
        · rename_i hb
          cases h
          exact ⟨rfl, R.2.2.2.1 T g i sa hi hin hsa (Nat.le_of_ble_eq_true hb) k⟩
        · cases h
      · cases h
    · rename_i hin
      split at h
      · rename_i q k' sa hsa
        rw [rx_lenR_eq] at h
        split at h
        · rename_i hb
          simp only [Bool.and_eq_true] at hb
          obtain ⟨⟨b1, b2⟩, b3, b4⟩ := hb
          have e1 := Nat.eq_of_beq_eq_true b1
          subst e1
          cases h
          exact ⟨rfl, R.2.2.2.2 T g i k' sa hi hin (Nat.le_of_ble_eq_true b2) hsa (Nat.le_of_ble_eq_true b3) (Nat.le_of_ble_eq_true b4) k⟩
        · cases h
      · cases h
    · cases h
  · cases h
/-- the places of the law where it reads the script -/
def rx_spc : List Nat := [26, 36, 218, 224, 230, 236, 242, 252, 258, 264, 270, 276, 291, 302, 342, 348, 359, 365, 379, 385, 398, 404, 419, 425, 438, 444, 459, 470, 484, 490, 501, 507, 521, 527, 538, 544, 558, 564, 570, 581, 587, 593, 607, 613, 619, 630, 636, 642, 656, 667, 694, 700, 711, 717, 731, 737, 748, 754, 768, 779, 793, 799, 810, 816, 830, 841, 868, 879, 893, 904, 918, 924, 930, 941, 947, 953, 967, 978, 1031, 1042, 1056, 1067, 1081, 1092, 1106, 1112, 1123, 1129, 1143, 1149, 1155, 1166, 1172, 1178, 1192, 1203, 1217, 1228, 1255, 1266, 1280, 1291, 1305, 1316, 1330, 1341]
noncomputable def rx_lrun (KT : List rx_KE) (d LE IS V0 N6 : Nat) (stops : List Nat) (fuel : Nat) : Nat → rx_T → Option (List rx_T)
  | 0, _ => none
  | n + 1, T => match rx_run1 KT d rx_mS (stops ++ rx_spc) fuel T with
    | none => none
    | some L => rx_all (fun T' => match rx_isin rx_spc T'.2.2.2.1 with
      | true => match rx_scr LE IS V0 N6 T' with
        | some T2 => rx_lrun KT d LE IS V0 N6 stops fuel n T2
        | none => none
      | false => some [T']) L
theorem rx_lrun_ok {KT : List rx_KE} {d LE IS V0 N6 : Nat} {GG : rx_T → List Int → Prop} (R : rx_Rw KT d LE IS V0 N6 GG) {stops : List Nat} {fuel : Nat} : ∀ (n : Nat) (T : rx_T) (L : List rx_T), rx_lrun KT d LE IS V0 N6 stops fuel n T = some L → ∀ g : List Int, (∀ T' ∈ L, (rx_isin stops T'.2.2.2.1 = true ∨ rx_ends rx_mS T' = true) → ∀ g', rx_le g g' → rx_g T'.1 g' → GG T' g') → GG T g
  | 0, _, _, h => by cases h
  | n + 1, T, L, h => by
    intro g hk
    unfold rx_lrun at h
    split at h
    · cases h
    · rename_i L0 hL0
      obtain ⟨h1, h2⟩ := rx_all_ok h
      refine R.1 (stops ++ rx_spc) fuel T g L0 hL0 fun T1 hT1 hse g1 hle hg1 => ?_
      obtain ⟨Lt, h3, h4⟩ := h1 T1 hT1
      split at h3
      · split at h3
        · rename_i T2 hT2
          refine (rx_scr_ok R hT2 ?_).2
          refine rx_lrun_ok R n T2 Lt h3 g1 fun T' hT' hs g' hle' hg' => hk T' (h4 T' hT') hs g' (hle.tr hle') hg'
        · cases h3
      · rename_i hns
        cases h3
        refine hk T1 (h4 T1 (List.mem_singleton.mpr rfl)) ?_ g1 hle hg1
        rcases hse with q | q
        · left
          have q1 := rx_isin_ok.mp q
          rcases List.mem_append.mp q1 with q2 | q2
          · exact rx_isin_ok.mpr q2
          · rw [rx_isin_ok.mpr q2] at hns
            cases hns
        · exact Or.inr q
section RXK2
variable {p : Program} {l : Launch} {e : Env} {s : State} {m : MethodId} {below : List Frame} {meth : Method} {c : Code} {b : Nat} {bb : (Nat → Option Nat) × List Int} {D : va_G} {g0 : List Int} {a0 : List Nat} {t0 : List (ClassId × FieldType)} {Q : State → Prop} {sz0 : Nat}
/-- the law's call of its own key or man -/
theorem rx_key_go {d : Nat} (hd : d ≤ 100) {ML : rx_Md} {sy : rx_Y} {h : List rx_C} {lc : rx_L} {outs : List rx_T} {r0 r1 idx pc : Nat} {q1 q2 : rx_I} (C : rx_Cx p s m #[Value.ref b] c cL_law RL 7) (hZs : rx_Zz bb sz0 s s.heap) (hsz : sz0 ≤ s.heap.size)
    (hL : ∀ (g : List Int) (tys : List (ClassId × FieldType)) (ws : va_W) (vs : List Value) (sz : Nat), rx_g sy g → rx_h bb g tys h ws → rx_vs bb (ws.map Prod.fst) g [.inr (.inr (.inl (some r0))), .inl q1, .inl q2, .inr (.inr (.inl (some r1)))] vs →
      vx_Met l ML.1 (rx_wsH ML) (rx_rm (d + 1) ML) (va_Pc vs (rx_Bg D (rx_Zz bb sz0) sz0 tys ws sz)) (rx_Qc bb D g tys ws sz outs) (fun _ _ _ => False) 1 6 (va_A ws sz))
    (hcL : ML.1.cls = RL) (hmL : ML.2.2.2.2.2.2.1 = 1 ∧ ML.2.2.2.2.2.2.2.1 = 6) (hnL : ML.2.2.1 = 5) (hnp : (parseMethodDescriptor ML.1.desc).map (fun d => d.parameters.length) = some 4) (hws : Cond.methodLink RL idx ML.1 ∈ rx_Gd ∧ Cond.static ML.1 ∈ rx_Gd ∧ Cond.initialized RL ∈ rx_Gd ∧ Cond.codeWith ML.1 ML.2.1 ML.2.2.1 ML.2.2.2.1 rx_hh ∈ rx_Gd)
    (hdc : decode cL_law pc = .ok (.invokestatic idx, 3))
    (K : ∀ o ∈ outs, rx_Go p l e rx_LR s m #[Value.ref b] below meth c bb D (fun q => sz0 ≤ q) g0 a0 t0 7 Q (o.1, o.2.1, (1, 6), pc + 3, lc, o.2.2.2.2.2)) : rx_Go p l e rx_LR s m #[Value.ref b] below meth c bb D (fun q => sz0 ≤ q) g0 a0 t0 7 Q (sy, h, (0, 0), pc, lc, [.inr (.inr (.inl (some r1))), .inl q2, .inl q1, .inr (.inr (.inl (some r0)))]) := by
  intro H locs ls st hat
  obtain ⟨g, tys, ws, lv, hE, hG, hH, hK, hP, hD, hS, hl, hv, hst⟩ := hat
  dsimp only at hG hH hl hst ⊢
  obtain ⟨v3, w3, rfl, hw3, hst3⟩ := rx_vs_cons hst
  obtain ⟨v2, w2, rfl, hw2, hst2⟩ := rx_vs_cons hst3
  obtain ⟨v1, w1, rfl, hw1, hst1⟩ := rx_vs_cons hst2
  obtain ⟨v0, w0, rfl, hw0, hst0⟩ := rx_vs_cons hst1
  cases w0 with
  | cons v9 w9 => exact hst0.elim
  | nil =>
    obtain ⟨hx, hb, hml, hown, hts, hpr⟩ := C
    have hmet := hL g tys ws [v0, v1, v2, v3] H.size hG hH ⟨hw0, hw1, hw2, hw3, trivial⟩
    have hgood : GoodIn rx_Gd (va_wsS RL idx ML.1 (rx_wsH ML)) := by
      intro w hw
      have hm : w ∈ rx_Gd := by
        rcases List.mem_append.mp hw with hw | hw
        · simp only [List.mem_cons, List.not_mem_nil, or_false] at hw
          rcases hw with rfl | rfl | rfl
          · exact hws.1
          · exact hws.2.1
          · rw [hcL]; exact hws.2.2.1
        · rcases List.mem_cons.mp hw with rfl | hw
          · exact hws.2.2.2
          · exact hw
      exact ⟨hm, rx_good hm⟩
    have cw : vx_CSW rx_LR s #[Value.ref b] RL idx ML.1 ML.2.1 ML.2.2.1 ML.2.2.2.1 rx_hh (rx_wsH ML) (rx_rm (d + 1) ML) 1 6 4 := by
      refine vx_cwSW 4 hts hgood rfl hmL.1 hmL.2 ⟨by rw [hcL]; decide +kernel, by rw [hcL]; decide +kernel, hnp⟩ ⟨?_, ?_⟩
      · show d + 1 + 1 + 1 ≤ 2000
        omega
      · show 8 + (ML.2.2.1 + 11) + 100 * (d + 1 + 1) ≤ 80000
        omega
    have S : CallFix p m c cL_law 7 s #[Value.ref b] rx_Gd RL := ⟨hx, hb, hml, hown, hts⟩
    have hrun := vx_runSX (cells := 0) (slots := 0) (locs := locs) (below := below) (meth := meth) (e := e) (g := F0 m pc ls [v3, v2, v1, v0]) (As := [v0, v1, v2, v3]) (rest := []) S hmet cw ⟨rx_blind (rx_Zz_ok bb sz0), fun U hU hW => rx_pre (rx_Zz_ok bb sz0) hZs hsz (fun q h => h) hpr hK hP hD hS U hU hW⟩ rfl rfl hv.1 rfl (lv_room (by decide)) hdc ⟨by decide, by decide⟩
    have hrun2 : va_Run p l e rx_LR s m #[Value.ref b] below meth c H locs 0 0 1 6 (F0 m pc ls [v3, v2, v1, v0]) [] (rx_Qc bb D g tys ws H.size outs [v0, v1, v2, v3].toArray) (va_A ws H.size) := by
      intro T hT X
      rcases hrun T hT X with h | ⟨q, st₀, t, T', L, E, ce, h0, X', hL, e1, e2, hq, -⟩
      · exact h
      · exact hq.elim
    refine rx_callW hrun2 hS ?_ ?_
    · intro q hq
      rcases hq with ⟨k, e', hk⟩ | hq
      · exact hD.2 k _ hk
      · exact Nat.le_trans hsz (Nat.le_trans hS.1 hq)
    · intro o ho g' tys' ws' v H1 locs1 hx1 hg' hh' hvs' hK' hP' hD' hS'
      refine K o ho H1 locs1 ls (v.toList ++ []) ⟨g', tys', ws', lv, ⟨hE.1.tr hx1.1, hE.2.1.tr hx1.2.1, fun q hq => hx1.2.2 q (hE.2.2 q hq)⟩, hg', hh', hK', hP', hD', hS', hl.mono hx1.2.1 hx1.1, hv, ?_⟩
      rw [List.append_nil]
      exact hvs'
end RXK2
