/-! ===== a turn, where bounds of some symbols are told too ===== -/
noncomputable def la_csB (KT : List rx_KE) (bs : List (Nat × Int × Int)) : Bool := match rx_lrun KT 266 807 806 808 6 [23] 20000 20 (rx_nar la_T40 bs) with
  | some L => L.all (rs_hdB la_S la_cps la_sps 807 806)
  | none => false
theorem la_atK {g : List Int} (hg : rx_g la_T40.1 g) {k : Nat} {lo hi : Int} (hk : la_T40.1.1[k]? = some (lo, hi)) : lo ≤ g.getD k 0 ∧ g.getD k 0 ≤ hi := by
  have hl : k < g.length := by
    rw [hg.1.1]
    exact (List.getElem?_eq_some_iff.mp hk).1
  have h1 : g[k]? = some (g.getD k 0) := by
    rw [List.getD_eq_getElem?_getD, List.getElem?_eq_getElem hl]
    rfl
  obtain ⟨q, hq1, hq2, hq3⟩ := hg.get h1
  rw [hk] at hq1
  cases hq1
  exact ⟨hq2, hq3⟩
section RXW5
variable {p : Program} {l : Launch} {e : Env} {s : State} {m : MethodId} {b : Nat} {below : List Frame} {meth : Method} {c : Code} {bb : (Nat → Option Nat) × List Int} {D : va_G} {sz0 a L i : Nat} {xs : Nat → Int32}
theorem la_caseB {KT : List rx_KE} (hKT : ∀ K ∈ KT, rx_OK K) {bs : List (Nat × Int × Int)} (hc : la_csB KT bs = true) (hl : l.stackTraces = false) (hb : rx_Cw p s m #[Value.ref b] meth c bb sz0 a L xs) (hb2 : bb.2 = []) (ha : bb.1 50 = some a) (haz : a < sz0) (hL : L ≤ 3072) (hi6 : i + 6 ≤ L) {g : List Int} (hg : rx_g la_T40.1 g) (hw : ∀ x ∈ bs, x.2.1 ≤ g.getD x.1 0 ∧ g.getD x.1 0 ≤ x.2.2) :
    rx_GL p l e s m #[Value.ref b] below meth c bb D sz0 (rx_Q1 p l e s m #[Value.ref b] below meth c bb D sz0 la_S 807 806 L (i + 6)) (rx_Ps L i xs 807 806 808 6) la_T40 g := by
  have R := rx_lawR (p := p) (l := l) (e := e) (s := s) (below := below) (meth := meth) (D := D) (Q := rx_Q1 p l e s m #[Value.ref b] below meth c bb D sz0 la_S 807 806 L (i + 6)) (LE := 807) (IS := 806) (V0 := 808) (N6 := 6) (i0 := i) (d := 266) hKT (by decide) hb2 hb.1 hb.2.1 hb.2.2.1 hb.2.2.2.1 ha hb.2.2.2.2 haz (by omega) hi6
  have hn := rx_nar_ok (T := la_T40) bs hg hw
  refine R.2.1 la_T40 g _ hn ?_
  unfold la_csB at hc
  split at hc
  · rename_i LL hLL
    exact rx_lrun_ok R 20 _ LL hLL g fun T' hT' _ g' _ _ => rs_head hb2 (List.all_eq_true.mp hc T' hT') rfl hi6 g'
  · cases hc
end RXW5
/-! ===== restore in the second place, where it is kept: one end ===== -/
noncomputable def rn_n85_w1_k : rx_KE := ((243, 6), ([(0, 0), (1, 14), (1, 16), (1, 19), (1, 21), (1, 22)], rc_p96, [(1, 1), (1, 15), (1, 17), (1, 18), (1, 20), (1, 23), (1, 27), (1, 28), (1, 29), (1, 32), (1, 33), (1, 38), (1, 41), (1, 42), (1, 45)]), ((rc_b232, rc_f78), rn_n85_h, [.inr (.inr (.inl (some 0))), .inl (468, 0)]), [rn_n85_v2_o2.1])
theorem rn_n85_w1_a : rx_leg2 [] 6 (rx_flag [19, 47, 78] rx_m243) 6 468 [27] 20000 (rx_ent rn_n85_w1_k ([], 0)).1 [(rn_n85_v2_S 0, [], some [], [])] = true := by decide +kernel
theorem rn_n85_w1_z : rx_leg2 [] 6 (rx_flag [19, 47, 78] rx_m243) 6 468 [] 20000 (rn_n85_v2_S 367) [rn_n85_v2_o2] = true := by decide +kernel
theorem rn_n85_w1_in : (rn_n85_v2_o2.1.1, rn_n85_v2_o2.1.2) ∈ rn_n85_w1_k.2.2.2 := List.mem_singleton.mpr rfl
set_option maxRecDepth 100000 in
theorem rn_n85_w1 : rx_OK rn_n85_w1_k := by
  refine rx_okP (KT := []) (fl := [19, 47, 78]) (rx_oknil) rfl rfl fun GG R g hg => ?_
  refine rx_leg2_ok R rn_n85_w1_a hg fun t ht g2 hg2 hE => ?_
  have e : t = (rn_n85_v2_S 0, [], some [], []) := List.mem_singleton.mp ht
  subst e
  have hz : GG (rn_n85_v2_S 367) g2 := rx_leg2_ok R rn_n85_w1_z hg2 fun t ht g3 hg3 _ => by
    have e : t = rn_n85_v2_o2 := List.mem_singleton.mp ht
    subst e
    exact ⟨(fun q => by cases q), fun _ => ⟨rn_n85_v2_o2.1.1, rn_n85_w1_in, hg3⟩⟩
  have h0 := rx_chain R (S := rn_n85_v2_S) (fun _ => rfl) (fun _ => rfl) (by decide) rn_n85_v2_b hg2 hz
  exact ⟨fun _ => h0, fun q => absurd (show (27 : Nat) = 0 from q) (by decide)⟩
noncomputable def rn_n85_w0_k : rx_KE := ((243, 6), ([(0, 0), (1, 14), (1, 16), (1, 19), (1, 21), (1, 22)], rc_p96, [(1, 1), (1, 15), (1, 17), (1, 18), (1, 20), (1, 23), (1, 27), (1, 28), (1, 29), (1, 32), (1, 33), (1, 38), (1, 41), (1, 42), (1, 45)]), ((rc_b231, rc_f78), rn_n85_h, [.inr (.inr (.inl (some 0))), .inl (468, 0)]), [rn_n85_v1_o1.1])
theorem rn_n85_w0_a : rx_leg2 [] 6 (rx_flag [19, 47, 78] rx_m243) 6 468 [27] 20000 (rx_ent rn_n85_w0_k ([], 0)).1 [(rn_n85_v1_S 0, [], some [], [])] = true := by decide +kernel
theorem rn_n85_w0_z : rx_leg2 [] 6 (rx_flag [19, 47, 78] rx_m243) 6 468 [] 20000 (rn_n85_v1_S 367) [rn_n85_v1_o1] = true := by decide +kernel
theorem rn_n85_w0_in : (rn_n85_v1_o1.1.1, rn_n85_v1_o1.1.2) ∈ rn_n85_w0_k.2.2.2 := List.mem_singleton.mpr rfl
set_option maxRecDepth 100000 in
theorem rn_n85_w0 : rx_OK rn_n85_w0_k := by
  refine rx_okP (KT := []) (fl := [19, 47, 78]) (rx_oknil) rfl rfl fun GG R g hg => ?_
  refine rx_leg2_ok R rn_n85_w0_a hg fun t ht g2 hg2 hE => ?_
  have e : t = (rn_n85_v1_S 0, [], some [], []) := List.mem_singleton.mp ht
  subst e
  have hz : GG (rn_n85_v1_S 367) g2 := rx_leg2_ok R rn_n85_w0_z hg2 fun t ht g3 hg3 _ => by
    have e : t = rn_n85_v1_o1 := List.mem_singleton.mp ht
    subst e
    exact ⟨(fun q => by cases q), fun _ => ⟨rn_n85_v1_o1.1.1, rn_n85_w0_in, hg3⟩⟩
  have h0 := rx_chain R (S := rn_n85_v1_S) (fun _ => rfl) (fun _ => rfl) (by decide) rn_n85_v1_b hg2 hz
  exact ⟨fun _ => h0, fun q => absurd (show (27 : Nat) = 0 from q) (by decide)⟩
