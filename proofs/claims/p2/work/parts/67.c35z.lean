/-! ===== a turn, where the first number's range is told too ===== -/
noncomputable def la_cs2 (KT : List rx_KE) (n lo hi : Int) : Bool := match rx_lrun KT 266 807 806 808 6 [23] 2000 20 (rx_nar la_T40 [(814, n, n), (809, lo, hi)]) with
  | some L => L.all (rs_hdB la_S la_cps la_sps 807 806)
  | none => false
section RXW3
variable {p : Program} {l : Launch} {e : Env} {s : State} {m : MethodId} {b : Nat} {below : List Frame} {meth : Method} {c : Code} {bb : (Nat → Option Nat) × List Int} {D : va_G} {sz0 a L i : Nat} {xs : Nat → Int32}
theorem la_case2 {KT : List rx_KE} (hKT : ∀ K ∈ KT, rx_OK K) {n lo hi : Int} (hc : la_cs2 KT n lo hi = true) (hl : l.stackTraces = false) (hb : rx_Cw p s m #[Value.ref b] meth c bb sz0 a L xs) (hb2 : bb.2 = []) (ha : bb.1 50 = some a) (haz : a < sz0) (hL : L ≤ 3072) (hi6 : i + 6 ≤ L) {g : List Int} (hg : rx_g la_T40.1 g) (hv : n ≤ g.getD 814 0 ∧ g.getD 814 0 ≤ n) (hw : lo ≤ g.getD 809 0 ∧ g.getD 809 0 ≤ hi) :
    rx_GL p l e s m #[Value.ref b] below meth c bb D sz0 (rx_Q1 p l e s m #[Value.ref b] below meth c bb D sz0 la_S 807 806 L (i + 6)) (rx_Ps L i xs 807 806 808 6) la_T40 g := by
  have R := rx_lawR (p := p) (l := l) (e := e) (s := s) (below := below) (meth := meth) (D := D) (Q := rx_Q1 p l e s m #[Value.ref b] below meth c bb D sz0 la_S 807 806 L (i + 6)) (LE := 807) (IS := 806) (V0 := 808) (N6 := 6) (i0 := i) (d := 266) hKT (by decide) hb2 hb.1 hb.2.1 hb.2.2.1 hb.2.2.2.1 ha hb.2.2.2.2 haz (by omega) hi6
  have hn := rx_nar_ok (T := la_T40) [(814, n, n), (809, lo, hi)] hg (fun x hx => by
    rcases List.mem_cons.mp hx with rfl | hx
    · exact hv
    · cases List.mem_singleton.mp hx
      exact hw)
  refine R.2.1 la_T40 g _ hn ?_
  unfold la_cs2 at hc
  split at hc
  · rename_i LL hLL
    exact rx_lrun_ok R 20 _ LL hLL g fun T' hT' _ g' _ _ => rs_head hb2 (List.all_eq_true.mp hc T' hT') rfl hi6 g'
  · cases hc
theorem la_case4 {KT : List rx_KE} (hKT : ∀ K ∈ KT, rx_OK K) {n : Int} (c1 : la_cs2 KT n (-2147483648) (-1) = true) (c2 : la_cs2 KT n 0 0 = true) (c3 : la_cs2 KT n 1 1 = true) (c4 : la_cs2 KT n 2 2147483647 = true) (hl : l.stackTraces = false) (hb : rx_Cw p s m #[Value.ref b] meth c bb sz0 a L xs) (hb2 : bb.2 = []) (ha : bb.1 50 = some a) (haz : a < sz0) (hL : L ≤ 3072) (hi6 : i + 6 ≤ L) {g : List Int} (hg : rx_g la_T40.1 g) (hv : n ≤ g.getD 814 0 ∧ g.getD 814 0 ≤ n) :
    rx_GL p l e s m #[Value.ref b] below meth c bb D sz0 (rx_Q1 p l e s m #[Value.ref b] below meth c bb D sz0 la_S 807 806 L (i + 6)) (rx_Ps L i xs 807 806 808 6) la_T40 g := by
  have hlen : g.length = 815 := by
    rw [hg.1.1]
    decide +kernel
  have h1 : g[809]? = some (g.getD 809 0) := by
    rw [List.getD_eq_getElem?_getD, List.getElem?_eq_getElem (by omega : 809 < g.length)]
    rfl
  obtain ⟨q, hq1, hq2, hq3⟩ := hg.get h1
  have hq : la_T40.1.1[809]? = some ((-2147483648), 2147483647) := by decide +kernel
  rw [hq] at hq1
  cases hq1
  have hq2 : (-2147483648) ≤ g.getD 809 0 := hq2
  have hq3 : g.getD 809 0 ≤ 2147483647 := hq3
  by_cases k1 : g.getD 809 0 ≤ -1
  · exact la_case2 hKT c1 hl hb hb2 ha haz hL hi6 hg hv ⟨hq2, k1⟩
  · by_cases k2 : g.getD 809 0 ≤ 0
    · exact la_case2 hKT c2 hl hb hb2 ha haz hL hi6 hg hv ⟨by omega, k2⟩
    · by_cases k3 : g.getD 809 0 ≤ 1
      · exact la_case2 hKT c3 hl hb hb2 ha haz hL hi6 hg hv ⟨by omega, k3⟩
      · exact la_case2 hKT c4 hl hb hb2 ha haz hL hi6 hg hv ⟨by omega, hq3⟩
end RXW3
