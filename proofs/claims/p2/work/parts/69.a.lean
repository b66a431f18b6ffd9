/-! ===== a turn, whatever the script asks for ===== -/
section RXV
variable {p : Program} {l : Launch} {e : Env} {s : State} {m : MethodId} {b : Nat} {below : List Frame} {meth : Method} {c : Code} {bb : (Nat → Option Nat) × List Int} {D : va_G} {sz0 a L i : Nat} {xs : Nat → Int32}
theorem la_all (hl : l.stackTraces = false) (hb : rx_Cw p s m #[Value.ref b] meth c bb sz0 a L xs) (hb2 : bb.2 = []) (ha : bb.1 50 = some a) (haz : a < sz0) (hL : L ≤ 3072) (hi6 : i + 6 ≤ L) {g : List Int} (hg : rx_g la_T40.1 g) : rx_GL p l e s m #[Value.ref b] below meth c bb D sz0 (rx_Q1 p l e s m #[Value.ref b] below meth c bb D sz0 la_S 807 806 L (i + 6)) (rx_Ps L i xs 807 806 808 6) la_T40 g := by
  have hlen : g.length = 815 := by
    rw [hg.1.1]
    decide +kernel
  have h1 : g[814]? = some (g.getD 814 0) := by
    rw [List.getD_eq_getElem?_getD, List.getElem?_eq_getElem (by omega : 814 < g.length)]
    rfl
  obtain ⟨q, hq1, hq2, hq3⟩ := hg.get h1
  have hq : la_T40.1.1[814]? = some (0, 63) := by decide +kernel
  rw [hq] at hq1
  cases hq1
  have hq2 : 0 ≤ g.getD 814 0 := hq2
  have hq3 : g.getD 814 0 ≤ 63 := hq3
  obtain ⟨n, hn⟩ : ∃ n : Nat, g.getD 814 0 = (n : Int) := ⟨(g.getD 814 0).toNat, by omega⟩
  match n, hn with
  | 0, hn => exact la_caseX1 (rx_okcons rc_m03_ok (rx_oknil)) la_c0 hl hb hb2 ha haz hL hi6 hg (by omega)
  | 1, hn => exact la_caseX1 rx_oknil la_c1 hl hb hb2 ha haz hL hi6 hg (by omega)
  | 2, hn => exact la_case (rx_okcons rc_k03_ok (rx_okcons rc_m88_ok (rx_oknil))) la_c2 hl hb hb2 ha haz hL hi6 hg (by omega)
  | 3, hn => exact la_case (rx_okcons rc_k04_ok (rx_okcons rc_m85_ok (rx_oknil))) la_c3 hl hb hb2 ha haz hL hi6 hg (by omega)
  | 4, hn => exact la_case (rx_okcons rc_k05_ok (rx_okcons rc_m36_ok (rx_oknil))) la_c4 hl hb hb2 ha haz hL hi6 hg (by omega)
  | 5, hn => exact la_case5 (rx_okcons rc_wc_ok (rx_oknil)) (rx_okcons rc_m37_ok (rx_oknil)) la_c5 hl hb hb2 ha haz hL hi6 hg (by omega)
  | 6, hn => exact la_case6 (rx_okcons rc_s2_ok (rx_okcons rc_s3_ok (rx_oknil))) (rx_okcons rc_m38_ok (rx_oknil)) la_c6 hl hb hb2 ha haz hL hi6 hg (by omega)
  | 7, hn => exact la_case (rx_okcons rc_k06_ok (rx_okcons rc_m39_ok (rx_oknil))) la_c7 hl hb hb2 ha haz hL hi6 hg (by omega)
  | 8, hn => exact la_case (rx_okcons rc_k08_ok (rx_okcons rc_m44_ok (rx_oknil))) la_c8 hl hb hb2 ha haz hL hi6 hg (by omega)
  | 9, hn => exact la_case (rx_okcons rc_k09_ok (rx_okcons rc_m45_ok (rx_oknil))) la_c9 hl hb hb2 ha haz hL hi6 hg (by omega)
  | 10, hn => exact la_case (rx_okcons rc_k10_ok (rx_okcons rc_m46_ok (rx_oknil))) la_c10 hl hb hb2 ha haz hL hi6 hg (by omega)
  | 11, hn => exact la_case (rx_okcons rc_k11_ok (rx_okcons rc_m47_ok (rx_oknil))) la_c11 hl hb hb2 ha haz hL hi6 hg (by omega)
  | 12, hn => exact la_case (rx_okcons rc_k12_ok (rx_okcons rc_m52_ok (rx_oknil))) la_c12 hl hb hb2 ha haz hL hi6 hg (by omega)
  | 13, hn => exact la_case (rx_okcons rc_k13_ok (rx_okcons rc_m48_ok (rx_oknil))) la_c13 hl hb hb2 ha haz hL hi6 hg (by omega)
  | 14, hn => exact la_case (rx_okcons rc_k14_ok (rx_okcons rc_m53_ok (rx_oknil))) la_c14 hl hb hb2 ha haz hL hi6 hg (by omega)
  | 15, hn => exact la_case (rx_okcons rc_k15_ok (rx_okcons rc_m54_ok (rx_oknil))) la_c15 hl hb hb2 ha haz hL hi6 hg (by omega)
  | 16, hn => exact la_case (rx_okcons rc_k16_ok (rx_okcons rc_fit_ok (rx_oknil))) la_c16 hl hb hb2 ha haz hL hi6 hg (by omega)
  | 17, hn => exact la_case (rx_okcons rc_k17_ok (rx_okcons rc_m55_ok (rx_oknil))) la_c17 hl hb hb2 ha haz hL hi6 hg (by omega)
  | 18, hn => exact la_case (rx_okcons rc_k18_ok (rx_okcons rc_m56_ok (rx_oknil))) la_c18 hl hb hb2 ha haz hL hi6 hg (by omega)
  | 19, hn => exact la_case (rx_okcons rc_k19_ok (rx_okcons rc_m58_ok (rx_oknil))) la_c19 hl hb hb2 ha haz hL hi6 hg (by omega)
  | 20, hn => exact la_case (rx_okcons rc_k20_ok (rx_okcons rc_m59_ok (rx_oknil))) la_c20 hl hb hb2 ha haz hL hi6 hg (by omega)
  | 21, hn => exact la_case (rx_okcons rc_k22_ok (rx_okcons rc_m63_ok (rx_oknil))) la_c21 hl hb hb2 ha haz hL hi6 hg (by omega)
  | 22, hn => exact la_case (rx_okcons rc_k23_ok (rx_okcons rc_way_ok (rx_oknil))) la_c22 hl hb hb2 ha haz hL hi6 hg (by omega)
  | 23, hn => exact la_case (rx_okcons rc_k24_ok (rx_okcons rc_m64_ok (rx_oknil))) la_c23 hl hb hb2 ha haz hL hi6 hg (by omega)
  | 24, hn => exact la_case (rx_okcons rc_k26_ok (rx_okcons rc_m68_ok (rx_oknil))) la_c24 hl hb hb2 ha haz hL hi6 hg (by omega)
  | 25, hn => exact la_case (rx_okcons rc_k27_ok (rx_okcons rc_m69_ok (rx_oknil))) la_c25 hl hb hb2 ha haz hL hi6 hg (by omega)
  | 26, hn => exact la_case (rx_okcons rc_k28_ok (rx_okcons rc_m70_ok (rx_oknil))) la_c26 hl hb hb2 ha haz hL hi6 hg (by omega)
  | 27, hn => exact la_case (rx_okcons rc_k29_ok (rx_okcons rc_m71_ok (rx_oknil))) la_c27 hl hb hb2 ha haz hL hi6 hg (by omega)
  | 28, hn => exact la_case (rx_okcons rc_k30_ok (rx_okcons rc_m74_ok (rx_oknil))) la_c28 hl hb hb2 ha haz hL hi6 hg (by omega)
  | 29, hn => exact la_case (rx_okcons rc_k31_ok (rx_okcons rc_m72_ok (rx_oknil))) la_c29 hl hb hb2 ha haz hL hi6 hg (by omega)
  | 30, hn => exact la_case (rx_okcons rc_k32_ok (rx_okcons rc_m80_ok (rx_oknil))) la_c30 hl hb hb2 ha haz hL hi6 hg (by omega)
  | 31, hn => exact la_case (rx_okcons rc_k33_ok (rx_okcons rc_m81_ok (rx_oknil))) la_c31 hl hb hb2 ha haz hL hi6 hg (by omega)
  | 32, hn => exact la_caseX3 rx_oknil (rx_okcons rc_h1_ok (rx_okcons rc_b4_ok (rx_okcons rc_b2_ok (rx_okcons rc_sb_ok (rx_okcons rc_m95_ok (rx_oknil)))))) rx_oknil la_c32a la_c32b la_c32c hl hb hb2 ha haz hL hi6 hg (by omega)
  | 33, hn => exact la_case (rx_okcons rc_k35_ok (rx_okcons rc_m96_ok (rx_oknil))) la_c33 hl hb hb2 ha haz hL hi6 hg (by omega)
  | 34, hn => exact la_case (rx_okcons rc_k36_ok (rx_okcons rn_n80_ok (rx_oknil))) la_c34 hl hb hb2 ha haz hL hi6 hg (by omega)
  | 35, hn => exact la_case (rx_okcons rc_k37_ok (rx_okcons rn_n83_ok (rx_oknil))) la_c35 hl hb hb2 ha haz hL hi6 hg (by omega)
  | 36, hn => exact la_case4 (rx_okcons rc_k41_ok (rx_okcons rn_n84_ok (rx_oknil))) la_c36a la_c36b la_c36c la_c36d hl hb hb2 ha haz hL hi6 hg (by omega)
  | 37, hn => exact la_case37 hl hb hb2 ha haz hL hi6 hg (by omega)
  | 38, hn => exact la_case (rx_okcons rc_k40_ok (rx_okcons rc_m84_ok (rx_oknil))) la_c38 hl hb hb2 ha haz hL hi6 hg (by omega)
  | n + 39, hn => exact la_case rx_oknil la_c39 hl hb hb2 ha haz hL hi6 hg (by omega)
theorem la_b32 (x : Int32) : (-2147483648 : Int) ≤ x.toInt ∧ x.toInt ≤ 2147483647 := by
  have h1 := Int32.le_toInt x
  have h2 := Int32.toInt_lt x
  omega
theorem la_push6 {sy : rx_Y} {g : List Int} (h : rx_g sy g) (z : Nat → Int32) : rx_g (sy.1 ++ [(-2147483648, 2147483647), (-2147483648, 2147483647), (-2147483648, 2147483647), (-2147483648, 2147483647), (-2147483648, 2147483647), (-2147483648, 2147483647)], sy.2) (g ++ [(z 0).toInt, (z 1).toInt, (z 2).toInt, (z 3).toInt, (z 4).toInt, (z 5).toInt]) := by
  have h1 := (((((h.push (q := (-2147483648, 2147483647)) (la_b32 (z 0)).1 (la_b32 (z 0)).2).push (q := (-2147483648, 2147483647)) (la_b32 (z 1)).1 (la_b32 (z 1)).2).push (q := (-2147483648, 2147483647)) (la_b32 (z 2)).1 (la_b32 (z 2)).2).push (q := (-2147483648, 2147483647)) (la_b32 (z 3)).1 (la_b32 (z 3)).2).push (q := (-2147483648, 2147483647)) (la_b32 (z 4)).1 (la_b32 (z 4)).2).push (q := (-2147483648, 2147483647)) (la_b32 (z 5)).1 (la_b32 (z 5)).2
  simp only [List.append_assoc, List.cons_append, List.nil_append] at h1
  exact h1
theorem la_ls4 {b : (Nat → Option Nat) × List Int} {as : List Nat} {g : List Int} {q q' : rx_I} (hq : ∀ z, rx_ev g q z → rx_ev g q' z) : ∀ {lc : rx_L} {lv : List (Nat × Value)}, rx_ls b as g (lc ++ [(4, .inl q)]) lv → rx_ls b as g (lc ++ [(4, .inl q')]) lv
  | [], [_], h => ⟨⟨h.1.1, by
      obtain ⟨x, h1, h2⟩ := h.1.2
      exact ⟨x, h1, hq _ h2⟩⟩, trivial⟩
  | [], [], h => h.elim
  | [], _ :: _ :: _, h => h.2.elim
  | _ :: _, _ :: _, h => ⟨h.1, la_ls4 hq h.2⟩
  | _ :: _, [], h => h.elim
noncomputable def la_l0 : rx_L := [(0, .inr (.inr (.inr 50))), (1, .inr (.inr (.inl (some 0)))), (2, .inr (.inr (.inl (some 1)))), (3, .inr (.inr (.inl (some 2))))]
noncomputable def la_Sz (d : Int) : rx_T := (la_S.1, la_S.2.1, (0, 0), 23, la_l0 ++ [(4, .inl (808, d))], [])
theorem la_lc : la_S.2.2.2.2.1 = la_l0 ++ [(4, .inl (807, 0))] := rfl
noncomputable def la_zB (d : Int) : Bool := match rx_lrun [] 266 807 806 808 0 [] 200 5 (la_Sz d) with
  | some L => L.all rx_enB
  | none => false
theorem la_z : ([0, -1, -2, -3, -4, -5] : List Int).all la_zB = true := by decide +kernel
/-- what a turn owes -/
theorem la_HI (hl : l.stackTraces = false) (hb2 : bb.2 = []) (ha : bb.1 50 = some a) (haz : a < sz0) (hL : L ≤ 3072) : ∀ (sB : State) (i : Nat) (ls : Array Slot), rx_Cw p sB m #[Value.ref b] meth c bb sz0 a L xs → i ≤ L → rx_Wd bb D sz0 la_S 807 806 L i sB sB.heap ls → W p l e rx_LR sB m #[Value.ref b] below meth c sB.heap [] 0 0 (rx_Q1 p l e sB m #[Value.ref b] below meth c bb D sz0 la_S 807 806 L (i + 6)) (F0 m 23 ls []) := by
  intro s i ls hb hi hW
  obtain ⟨g, tys, ws, lv, w1, w2, w3, w4, w5, w6, w7, w8⟩ := hW
  have hlen : g.length = 808 := by
    rw [w1.1.1]
    decide +kernel
  by_cases h6 : i + 6 ≤ L
  · have hi6 := h6
    have hg := la_push6 w1 (fun k => xs (i + k))
    have hP : rx_Ps L i xs 807 806 808 6 (g ++ [(xs (i + 0)).toInt, (xs (i + 1)).toInt, (xs (i + 2)).toInt, (xs (i + 3)).toInt, (xs (i + 4)).toInt, (xs (i + 5)).toInt]) := by
      refine ⟨rx_le.app _ _ _ w2.1, rx_le.app _ _ _ w2.2, fun k hk => ?_⟩
      rw [List.getElem?_append_right (by omega), hlen, Nat.add_sub_cancel_left]
      match k, hk with
      | 0, _ => rfl
      | 1, _ => rfl
      | 2, _ => rfl
      | 3, _ => rfl
      | 4, _ => rfl
      | 5, _ => rfl
      | k + 6, hk => omega
    have gl : rx_GL p l e s m #[Value.ref b] below meth c bb D sz0 (rx_Q1 p l e s m #[Value.ref b] below meth c bb D sz0 la_S 807 806 L (i + 6)) (rx_Ps L i xs 807 806 808 6) la_S36 (g ++ [(xs (i + 0)).toInt, (xs (i + 1)).toInt, (xs (i + 2)).toInt, (xs (i + 3)).toInt, (xs (i + 4)).toInt, (xs (i + 5)).toInt]) := by
      have R := rx_lawR (p := p) (l := l) (e := e) (s := s) (below := below) (meth := meth) (D := D) (Q := rx_Q1 p l e s m #[Value.ref b] below meth c bb D sz0 la_S 807 806 L (i + 6)) (LE := 807) (IS := 806) (V0 := 808) (N6 := 6) (i0 := i) (d := 266) rx_oknil (by decide) hb2 hb.1 hb.2.1 hb.2.2.1 hb.2.2.2.1 ha hb.2.2.2.2 haz (by omega) hi6
      have h := la_l40
      unfold la_to at h
      split at h
      · rename_i LL hLL
        refine rx_lrun_ok R 5 la_S36 LL hLL _ fun T' hT' _ g' _ hg' => ?_
        have h1 := List.all_eq_true.mp h T' hT'
        rw [Bool.or_eq_true] at h1
        rcases h1 with h1 | h1
        · exact rx_end h1 g'
        · have e1 : T' = la_T40 := @of_decide_eq_true _ (rx_dT T' la_T40) h1
          rw [e1] at hg' ⊢
          exact la_all hl hb hb2 ha haz hL hi6 hg'
      · cases h
    exact gl hP hg (ws.map Prod.fst) tys s.heap [] ls [] ⟨_, tys, ws, lv, ⟨rx_le.rf, rx_le.rf, fun _ q => q⟩, hg, w3.mono (rx_le.app _) (fun _ q => q), w4, w5, w6, va_S.rf, w7.mono rx_le.rf (rx_le.app _), w8, trivial⟩
  · have R := rx_lawR (p := p) (l := l) (e := e) (s := s) (below := below) (meth := meth) (D := D) (Q := rx_Q1 p l e s m #[Value.ref b] below meth c bb D sz0 la_S 807 806 L (i + 6)) (LE := 807) (IS := 806) (V0 := 808) (N6 := 0) (i0 := i) (d := 266) rx_oknil (by decide) hb2 hb.1 hb.2.1 hb.2.2.1 hb.2.2.2.1 ha hb.2.2.2.2 haz (by omega) hi
    have hz : la_zB ((i : Int) - L) = true := by
      refine List.all_eq_true.mp la_z _ ?_
      simp only [List.mem_cons, List.not_mem_nil, or_false]
      omega
    unfold la_zB at hz
    split at hz
    · rename_i LL hLL
      have w7' : rx_ls bb (ws.map Prod.fst) g (la_l0 ++ [(4, .inl (807, 0))]) lv := by
        rw [← la_lc]
        exact w7
      have w9 := la_ls4 (q := (807, 0)) (q' := (808, (i : Int) - L)) (fun z h => by
        obtain ⟨y, h1, h2⟩ := h
        rw [w2.2] at h1
        cases h1
        exact ⟨(L : Int), w2.1, by omega⟩) w7'
      exact rx_lrun_ok R 5 _ LL hLL g (fun T' hT' _ g' _ _ => rx_end (List.all_eq_true.mp hz T' hT') g') ⟨w2.1, w2.2, fun k hk => absurd hk (Nat.not_lt_zero k)⟩ w1 (ws.map Prod.fst) tys s.heap [] ls [] ⟨g, tys, ws, lv, ⟨rx_le.rf, rx_le.rf, fun _ q => q⟩, w1, w3, w4, w5, w6, va_S.rf, w9, w8, trivial⟩
    · cases hz
end RXV
