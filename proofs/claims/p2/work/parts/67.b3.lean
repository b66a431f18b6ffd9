/-- an end that no values have -/
noncomputable def la_inf (sy : rx_Y) : Bool := rx_pos (sy.1, sy.2.take 4) none [] (-1)
theorem la_inf_ok {sy : rx_Y} {g : List Int} (hg : rx_g sy g) (h : la_inf sy = true) : False := by
  have hg2 : rx_g (sy.1, sy.2.take 4) g := ⟨hg.1, fun f hf => hg.2 f (List.mem_of_mem_take hf)⟩
  have q := rx_pos_ok hg2 (G := none) (fun p hp => by cases hp) h (show rx_lin g [] 0 from rfl)
  omega
noncomputable def la_csX (KT : List rx_KE) (n lo hi : Int) : Bool := match rx_lrun KT 266 807 806 808 6 [23] 2000 20 (rx_nar la_T40 [(814, n, n), (809, lo, hi)]) with
  | some L => L.all (fun T => match rs_hdB la_S la_cps la_sps 807 806 T with
    | true => true
    | false => la_inf T.1)
  | none => false
section RXW4
variable {p : Program} {l : Launch} {e : Env} {s : State} {m : MethodId} {b : Nat} {below : List Frame} {meth : Method} {c : Code} {bb : (Nat → Option Nat) × List Int} {D : va_G} {sz0 a L i : Nat} {xs : Nat → Int32}
theorem la_caseX {KT : List rx_KE} (hKT : ∀ K ∈ KT, rx_OK K) {n lo hi : Int} (hc : la_csX KT n lo hi = true) (hl : l.stackTraces = false) (hb : rx_Cw p s m #[Value.ref b] meth c bb sz0 a L xs) (hb2 : bb.2 = []) (ha : bb.1 50 = some a) (haz : a < sz0) (hL : L ≤ 3072) (hi6 : i + 6 ≤ L) {g : List Int} (hg : rx_g la_T40.1 g) (hv : n ≤ g.getD 814 0 ∧ g.getD 814 0 ≤ n) (hw : lo ≤ g.getD 809 0 ∧ g.getD 809 0 ≤ hi) :
    rx_GL p l e s m #[Value.ref b] below meth c bb D sz0 (rx_Q1 p l e s m #[Value.ref b] below meth c bb D sz0 la_S 807 806 L (i + 6)) (rx_Ps L i xs 807 806 808 6) la_T40 g := by
  have R := rx_lawR (p := p) (l := l) (e := e) (s := s) (below := below) (meth := meth) (D := D) (Q := rx_Q1 p l e s m #[Value.ref b] below meth c bb D sz0 la_S 807 806 L (i + 6)) (LE := 807) (IS := 806) (V0 := 808) (N6 := 6) (i0 := i) (d := 266) hKT (by decide) hb2 hb.1 hb.2.1 hb.2.2.1 hb.2.2.2.1 ha hb.2.2.2.2 haz (by omega) hi6
  have hn := rx_nar_ok (T := la_T40) [(814, n, n), (809, lo, hi)] hg (fun x hx => by
    rcases List.mem_cons.mp hx with rfl | hx
    · exact hv
    · cases List.mem_singleton.mp hx
      exact hw)
  refine R.2.1 la_T40 g _ hn ?_
  unfold la_csX at hc
  split at hc
  · rename_i LL hLL
    exact rx_lrun_ok R 20 _ LL hLL g fun T' hT' _ g' _ hg' => by
      have h9 := List.all_eq_true.mp hc T' hT'
      split at h9
      · rename_i h8
        exact rs_head hb2 h8 rfl hi6 g'
      · exact (la_inf_ok hg' h9).elim
  · cases hc
theorem la_at9 {g : List Int} (hg : rx_g la_T40.1 g) : (-2147483648) ≤ g.getD 809 0 ∧ g.getD 809 0 ≤ 2147483647 := by
  have hlen : g.length = 815 := by
    rw [hg.1.1]
    decide +kernel
  have h1 : g[809]? = some (g.getD 809 0) := by
    rw [List.getD_eq_getElem?_getD, List.getElem?_eq_getElem (by omega : 809 < g.length)]
    rfl
  obtain ⟨q, hq1, hq2, hq3⟩ := hg.get h1
  have hq : la_T40.1.1[809]? = some ((-2147483648), 2147483647) := by decide +kernel
  rw [hq] at hq1
  cases hq1
  exact ⟨hq2, hq3⟩
theorem la_caseX1 {KT : List rx_KE} (hKT : ∀ K ∈ KT, rx_OK K) {n : Int} (c1 : la_csX KT n (-2147483648) 2147483647 = true) (hl : l.stackTraces = false) (hb : rx_Cw p s m #[Value.ref b] meth c bb sz0 a L xs) (hb2 : bb.2 = []) (ha : bb.1 50 = some a) (haz : a < sz0) (hL : L ≤ 3072) (hi6 : i + 6 ≤ L) {g : List Int} (hg : rx_g la_T40.1 g) (hv : n ≤ g.getD 814 0 ∧ g.getD 814 0 ≤ n) :
    rx_GL p l e s m #[Value.ref b] below meth c bb D sz0 (rx_Q1 p l e s m #[Value.ref b] below meth c bb D sz0 la_S 807 806 L (i + 6)) (rx_Ps L i xs 807 806 808 6) la_T40 g := la_caseX hKT c1 hl hb hb2 ha haz hL hi6 hg hv (la_at9 hg)
theorem la_caseX3 {KT K0 K2 : List rx_KE} (hK0 : ∀ K ∈ K0, rx_OK K) (hKT : ∀ K ∈ KT, rx_OK K) (hK2 : ∀ K ∈ K2, rx_OK K) {n : Int} (c1 : la_csX K0 n (-2147483648) (-1) = true) (c2 : la_csX KT n 0 1 = true) (c3 : la_csX K2 n 2 2147483647 = true) (hl : l.stackTraces = false) (hb : rx_Cw p s m #[Value.ref b] meth c bb sz0 a L xs) (hb2 : bb.2 = []) (ha : bb.1 50 = some a) (haz : a < sz0) (hL : L ≤ 3072) (hi6 : i + 6 ≤ L) {g : List Int} (hg : rx_g la_T40.1 g) (hv : n ≤ g.getD 814 0 ∧ g.getD 814 0 ≤ n) :
    rx_GL p l e s m #[Value.ref b] below meth c bb D sz0 (rx_Q1 p l e s m #[Value.ref b] below meth c bb D sz0 la_S 807 806 L (i + 6)) (rx_Ps L i xs 807 806 808 6) la_T40 g := by
  obtain ⟨hq2, hq3⟩ := la_at9 hg
  by_cases k1 : g.getD 809 0 ≤ -1
  · exact la_caseX hK0 c1 hl hb hb2 ha haz hL hi6 hg hv ⟨hq2, k1⟩
  · by_cases k2 : g.getD 809 0 ≤ 1
    · exact la_caseX hKT c2 hl hb hb2 ha haz hL hi6 hg hv ⟨by omega, k2⟩
    · exact la_caseX hK2 c3 hl hb hb2 ha haz hL hi6 hg hv ⟨by omega, hq3⟩
end RXW4
