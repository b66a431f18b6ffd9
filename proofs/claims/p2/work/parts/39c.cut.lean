/-! ===== a contract, piece by piece of one symbol's bounds ===== -/
def rx_nK (K : rx_KE) (s : Nat) (r : Int × Int) : rx_KE := (K.1, K.2.1, ((K.2.2.1.1.1.set s r, K.2.2.1.1.2), K.2.2.1.2), K.2.2.2)
theorem rx_ok_cut {K : rx_KE} {s : Nat} {rs : List (Int × Int)} {lo hi : Int} {M0 : rx_Md} (hM : rx_MT[K.1.1]? = some M0) (hb : K.2.2.1.1.1[s]? = some (lo, hi)) (hc : ∀ z, lo ≤ z → z ≤ hi → ∃ r ∈ rs, r.1 ≤ z ∧ z ≤ r.2) (h : ∀ r ∈ rs, rx_OK (rx_nK K s r)) : rx_OK K := by
  intro l D sz0 Zb hZC
  obtain ⟨hok, -⟩ := rx_mtok _ M0 hM
  refine ⟨M0, hM, hok, fun b hb2 => ?_⟩
  intro g tys ws vs sz hG hH hvs
  have hs : s < g.length := by rw [hG.1.1]; exact (List.getElem?_eq_some_iff.mp hb).1
  have hk : g[s]? = some g[s] := List.getElem?_eq_getElem hs
  have hz := hG.1.2 s g[s] (lo, hi) hk hb
  obtain ⟨r, hr, h1, h2⟩ := hc g[s] hz.1 hz.2
  obtain ⟨M1, hM1, -, hCt⟩ := h r hr l D sz0 Zb hZC
  have e : some M1 = some M0 := hM1.symm.trans hM
  cases e
  exact hCt b hb2 g tys ws vs sz (rx_g.set hG hk h1 h2) hH hvs
theorem rx_cutnil {K : rx_KE} {s : Nat} : ∀ r ∈ ([] : List (Int × Int)), rx_OK (rx_nK K s r) := fun r h => by cases h
theorem rx_cutcons {K : rx_KE} {s : Nat} {r : Int × Int} {rs : List (Int × Int)} (h : rx_OK (rx_nK K s r)) (t : ∀ r ∈ rs, rx_OK (rx_nK K s r)) : ∀ x ∈ r :: rs, rx_OK (rx_nK K s x) := List.forall_mem_cons.mpr ⟨h, t⟩
