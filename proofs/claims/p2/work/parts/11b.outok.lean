section RXX
variable {p : Program} {l : Launch} {e : Env} {R : Room} {s : State} {m : MethodId} {args : Array Value} {below : List Frame} {meth : Method} {c : Code} {b : (Nat → Option Nat) × List Int} {D : va_G} {A : Nat → Prop} {g0 : List Int} {a0 : List Nat} {t0 : List (ClassId × FieldType)} {nL : Nat} {Q : State → Prop} {cc : ByteArray} {own : String}
theorem rx_At.pushL {sy : rx_Y} {h : List rx_C} {lc : rx_L} {sa : List rx_V} {H : Heap} {locs : List Loc} {ls : Array Slot} {st : List Value} {z : Int} {v : Int64} (hat : rx_At b D s A g0 a0 t0 nL sy h lc sa H locs ls st) (hz : v.toInt = z) : rx_At b D s A g0 a0 t0 nL sy h lc (.inr (.inl (0, z)) :: sa) H locs ls (.long v :: st) := by
  obtain ⟨g, tys, ws, lv, hE, hG, hH, hK, hP, hD, hS, hl, hv, hst⟩ := hat
  exact ⟨g, tys, ws, lv, hE, hG, hH, hK, hP, hD, hS, hl, hv, ⟨v, rfl, hz⟩, hst⟩
theorem rx_At.pushX {sy : rx_Y} {h : List rx_C} {lc : rx_L} {sa : List rx_V} {H : Heap} {locs : List Loc} {ls : Array Slot} {st : List Value} (k : Nat) (hat : rx_At b D s A g0 a0 t0 nL sy h lc sa H locs ls st) : rx_At b D s A g0 a0 t0 nL sy h lc (.inr (.inr (.inr k)) :: sa) H locs ls (va_rf (b.1 k) :: st) := by
  obtain ⟨g, tys, ws, lv, hE, hG, hH, hK, hP, hD, hS, hl, hv, hst⟩ := hat
  exact ⟨g, tys, ws, lv, hE, hG, hH, hK, hP, hD, hS, hl, hv, rfl, hst⟩
theorem rx_getD {xs : List Int} {j : Nat} (h : j < xs.length) : xs.getD j 0 ∈ xs := by
  rw [List.getD_eq_getElem?_getD, List.getElem?_eq_getElem h]
  exact List.getElem_mem h
theorem rx_inw {i : Int32} {n k : Nat} (h : vp_in i n) (hn : n ≤ k) : vp_in i k := fun q => h (q.imp id (fun z => Nat.le_trans hn z))
theorem rx_asL (x : Int64) : Int64.ofInt x.toInt = x := Int64.ofInt_toInt x
theorem rx_sX_ok {i : rx_E} {T : rx_T} {L : List rx_T} (C : rx_Cx p s m args c cc own nL) (hX : rx_Xf b A s s.heap) (hd : rx_dc cc i) (hok : rx_okX own i) (hpc : T.2.2.2.1 = i.1) (h : rx_sX i T = some L) (K : ∀ T' ∈ L, rx_Go p l e R s m args below meth c b D A g0 a0 t0 nL Q T') : rx_Go p l e R s m args below meth c b D A g0 a0 t0 nL Q T := by
  obtain ⟨pc, ins, len, u, w, x, z⟩ := i
  obtain ⟨hx, hb, hml, hown, hts, hpr⟩ := C
  unfold rx_sX at h
  dsimp only at h
  split at h
  · -- getfield
    rename_i idx
    have hlen := rx_len hd rfl
    subst hlen
    split at h
    · rename_i k sa hsa
      split at h
      · rename_i hu
        have hu := Nat.eq_of_beq_eq_true hu
        subst hu
        split at h
        · rename_i vid hk
          obtain ⟨aS, eS, vS, eV, h1, h2, h3⟩ := hX.1 k _ hk
          obtain ⟨l0, l1⟩ := hok rfl
          split at h
          · cases h
            intro H locs ls st hat
            rw [hpc]
            obtain ⟨g, tys, ws, lv, hE, hG, hH, hK, hP, hD, hS, hl, hv, hst⟩ := hat
            rw [hsa] at hst
            obtain ⟨v1, st1, rfl, hv1, hst1⟩ := rx_vs_cons hst
            have hv1 : v1 = va_rf (b.1 k) := hv1
            rw [eS] at hv1
            subst hv1
            refine vk_getf hx hb h3 hS hown (hts _ (l0 rfl)) (fun _ q => q) hd.1 ?_
            exact K _ (List.mem_singleton.mpr rfl) H locs ls _ ⟨g, tys, ws, lv, hE, hG, hH, hK, hP, hD, hS, hl, hv, (by show _ = va_rf (b.1 vid); rw [eV]; rfl), hst1⟩
          · cases h
            intro H locs ls st hat
            rw [hpc]
            obtain ⟨g, tys, ws, lv, hE, hG, hH, hK, hP, hD, hS, hl, hv, hst⟩ := hat
            rw [hsa] at hst
            obtain ⟨v1, st1, rfl, hv1, hst1⟩ := rx_vs_cons hst
            have hv1 : v1 = va_rf (b.1 k) := hv1
            rw [eS] at hv1
            subst hv1
            refine vk_getf hx hb h2 hS hown (hts _ (l1 rfl)) (fun _ q => q) hd.1 ?_
            exact K _ (List.mem_singleton.mpr rfl) H locs ls _ ⟨g, tys, ws, lv, hE, hG, hH, hK, hP, hD, hS, hl, hv, ⟨0, rfl, rfl⟩, hst1⟩
          · cases h
        · cases h
      · cases h
    · cases h
  · -- arraylength
    have hlen := rx_len hd rfl
    subst hlen
    split at h
    · rename_i k sa hsa
      split at h
      · rename_i t xs hk
        obtain ⟨aS, eS, h1, h2, h3, h4⟩ := hX.1 k _ hk
        cases h
        intro H locs ls st hat
        rw [hpc]
        obtain ⟨g, tys, ws, lv, hE, hG, hH, hK, hP, hD, hS, hl, hv, hst⟩ := hat
        rw [hsa] at hst
        obtain ⟨v1, st1, rfl, hv1, hst1⟩ := rx_vs_cons hst
        have hv1 : v1 = va_rf (b.1 k) := hv1
        rw [eS] at hv1
        subst hv1
        refine va_tlen hx hb h3 hS rfl hd.1 ?_
        exact K _ (List.mem_singleton.mpr rfl) H locs ls _ ⟨g, tys, ws, lv, hE, hG, hH, hK, hP, hD, hS, hl, hv, ⟨_, rfl, nI_toInt (n := xs.length) (by omega)⟩, hst1⟩
      · rename_i n hk
        obtain ⟨aS, eS, h2, h4, Lx, xs, h5, h1, h7, h6⟩ := hX.1 k _ hk
        have h3 : aS < s.heap.size := by
          obtain ⟨scr, h8, -⟩ := h5
          exact (Array.getElem?_eq_some_iff.mp h8).1
        cases h
        intro H locs ls st hat
        rw [hpc]
        obtain ⟨g, tys, ws, lv, hE, hG, hH, hK, hP, hD, hS, hl, hv, hst⟩ := hat
        rw [hsa] at hst
        obtain ⟨v1, st1, rfl, hv1, hst1⟩ := rx_vs_cons hst
        have hv1 : v1 = va_rf (b.1 k) := hv1
        rw [eS] at hv1
        subst hv1
        refine va_slen hx hb h5 h3 h4 hS hd.1 ?_
        exact K _ (List.mem_singleton.mpr rfl) H locs ls _ ⟨g, tys, ws, lv, hE, hG, hH, hK, hP, hD, hS, hl, hv, ⟨_, rfl, (Lx : Int), hH.2.2 n _ h1, by rw [show (Int32.ofNat Lx).toInt = (Lx : Int) from nI_toInt (n := Lx) (by omega)]; omega⟩, hst1⟩
      · cases h
    · cases h
  · -- baload
    have hlen := rx_len hd rfl
    subst hlen
    split at h
    · rename_i q k sa hsa
      split at h
      · rename_i xs hk
        obtain ⟨aS, eS, h1, h2, h3, h4⟩ := hX.1 k _ hk
        split at h
        · rename_i j hj
          cases h
          intro H locs ls st hat
          rw [hpc]
          obtain ⟨g, tys, ws, lv, hE, hG, hH, hK, hP, hD, hS, hl, hv, hst⟩ := hat
          rw [hsa] at hst
          obtain ⟨v1, st1, rfl, ⟨xv, rfl, hq⟩, hst1⟩ := rx_vs_cons hst
          obtain ⟨v2, st2, rfl, hv1, hst2⟩ := rx_vs_cons hst1
          have hv1 : v2 = va_rf (b.1 k) := hv1
          rw [eS] at hv1
          subst hv1
          obtain ⟨hjn, -, hcl1, hin⟩ := rx_ix_ok hG hq hj
          refine va_tb hx hb h3 hS hin (by rw [hcl1]) hd.1 ?_
          have hr := h4 _ (rx_getD hjn)
          exact K _ (List.mem_singleton.mpr rfl) H locs ls _ ⟨g, tys, ws, lv, hE, hG, hH, hK, hP, hD, hS, hl, hv, ⟨_, rfl, fb_ofI hr.1 hr.2⟩, hst2⟩
        · cases h
      · cases h
    · cases h
  · -- iaload
    have hlen := rx_len hd rfl
    subst hlen
    split at h
    · rename_i q k sa hsa
      split at h
      · rename_i xs hk
        obtain ⟨aS, eS, h1, h2, h3, h4⟩ := hX.1 k _ hk
        split at h
        · rename_i j hj
          cases h
          intro H locs ls st hat
          rw [hpc]
          obtain ⟨g, tys, ws, lv, hE, hG, hH, hK, hP, hD, hS, hl, hv, hst⟩ := hat
          rw [hsa] at hst
          obtain ⟨v1, st1, rfl, ⟨xv, rfl, hq⟩, hst1⟩ := rx_vs_cons hst
          obtain ⟨v2, st2, rfl, hv1, hst2⟩ := rx_vs_cons hst1
          have hv1 : v2 = va_rf (b.1 k) := hv1
          rw [eS] at hv1
          subst hv1
          obtain ⟨hjn, -, hcl1, hin⟩ := rx_ix_ok hG hq hj
          refine va_ti hx hb h3 hS hin (by rw [hcl1]) hd.1 ?_
          have hr := h4 _ (rx_getD hjn)
          exact K _ (List.mem_singleton.mpr rfl) H locs ls _ ⟨g, tys, ws, lv, hE, hG, hH, hK, hP, hD, hS, hl, hv, ⟨_, rfl, fb_ofI hr.1 hr.2⟩, hst2⟩
        · cases h
      · rename_i n hk
        obtain ⟨aS, eS, h2, h4, Lx, xs, h5, h1, h7, h6⟩ := hX.1 k _ hk
        have h3 : aS < s.heap.size := by
          obtain ⟨scr, h8, -⟩ := h5
          exact (Array.getElem?_eq_some_iff.mp h8).1
        split at h
        · rename_i lo hi hlo
          split at h
          · rename_i j hj
            cases h
            intro H locs ls st hat
            rw [hpc]
            obtain ⟨g, tys, ws, lv, hE, hG, hH, hK, hP, hD, hS, hl, hv, hst⟩ := hat
            rw [hsa] at hst
            obtain ⟨v1, st1, rfl, ⟨xv, rfl, hq⟩, hst1⟩ := rx_vs_cons hst
            obtain ⟨v2, st2, rfl, hv1, hst2⟩ := rx_vs_cons hst1
            have hv1 : v2 = va_rf (b.1 k) := hv1
            rw [eS] at hv1
            subst hv1
            obtain ⟨hjn, hjl, hcl1, hin⟩ := rx_ix_ok hG hq hj
            have hgn := hH.2.2 n _ h1
            have hbd := hG.1.2 n _ _ hgn hlo
            have hlo2 : (lo : Int) ≤ (Lx : Int) := hbd.1
            refine va_sld hx hb h5 h3 h4 hS (rx_inw hin (by omega)) hd.1 ?_
            rw [hcl1]
            exact K _ (List.mem_singleton.mpr rfl) H locs ls _ ⟨g, tys, ws, lv, hE, hG, hH, hK, hP, hD, hS, hl, hv, ⟨xs j, rfl, _, hH.2.2 j _ (h6 j (by omega)), by omega⟩, hst2⟩
          · cases h
        · cases h
      · cases h
    · cases h
  · -- ldc
    rename_i idx
    have hlen := rx_len hd rfl
    subst hlen
    split at h
    · obtain ⟨h1, h2, h3⟩ := hok.1 rfl
      cases h
      intro H locs ls st hat
      rw [hpc]
      refine lv_ldc hx hb hown (hts _ h1) hd.1 ?_
      exact K _ (List.mem_singleton.mpr rfl) H locs ls _ (hat.push (fb_ofI h2 h3))
    · obtain ⟨tx, h1⟩ := hok.2 rfl
      cases h
      intro H locs ls st hat
      rw [hpc]
      obtain ⟨aS, eS, h2⟩ := hX.2.1 _ h1
      refine va_ldcS hx hb hown h2 hd.1 ?_
      have h3 := hat.pushX u
      dsimp only at eS
      rw [eS] at h3
      exact K _ (List.mem_singleton.mpr rfl) H locs ls _ h3
    · cases h
  · -- ldc2_w
    rename_i idx
    have hlen := rx_len hd rfl
    subst hlen
    split at h
    · obtain ⟨h1, h2⟩ := hok rfl
      cases h
      intro H locs ls st hat
      rw [hpc]
      refine lv_ldc2 hx hb hown (hts _ h1) hd.1 ?_
      exact K _ (List.mem_singleton.mpr rfl) H locs ls _ (hat.pushL h2)
    · cases h
  · -- getstatic
    rename_i idx
    have hlen := rx_len hd rfl
    subst hlen
    split at h
    · obtain ⟨C9, n9, d9, h1, h2, h3, h4⟩ := hok.1 rfl
      cases h
      intro H locs ls st hat
      rw [hpc]
      have hS : va_S A s.heap H locs := by
        obtain ⟨g, tys, ws, lv, hE, hG, hH, hK, hP, hD, hS, hl, hv, hst⟩ := hat
        exact hS
      refine va_gets hx hb (hX.2.2 _ h1) hS hown (hts _ h2) (fun _ q => q) hd.1 ?_
      exact K _ (List.mem_singleton.mpr rfl) H locs ls _ (hat.push (fb_ofI h3 h4))
    · obtain ⟨C9, n9, d9, h1, h2⟩ := hok.2 rfl
      cases h
      intro H locs ls st hat
      rw [hpc]
      have hS : va_S A s.heap H locs := by
        obtain ⟨g, tys, ws, lv, hE, hG, hH, hK, hP, hD, hS, hl, hv, hst⟩ := hat
        exact hS
      rcases h2 with h2 | ⟨host, h2⟩
      · refine va_gets hx hb (hX.2.2 _ h1) hS hown (hts _ h2) (fun _ q => q) hd.1 ?_
        exact K _ (List.mem_singleton.mpr rfl) H locs ls _ (hat.pushX u)
      · refine va_getsN hx hb (hX.2.2 _ h1) hS hown ((hpr.1 _ h2).use rfl) (fun _ q => q) hd.1 ?_
        exact K _ (List.mem_singleton.mpr rfl) H locs ls _ (hat.pushX u)
    · cases h
  · -- i2c
    have hlen := rx_len hd rfl
    subst hlen
    split at h
    · rename_i q sa hsa
      intro H locs ls st hat
      rw [hpc]
      rw [hsa] at hat
      obtain ⟨xv, st', g, rfl, hG, hx1, hat', -, -⟩ := hat.one
      refine lv_i2c hx hb hd.1 rfl ?_
      split at h
      · rename_i a ha
        rw [rx_z_eq] at h
        have e1 := rx_cs_ok hG hx1 ha
        refine rx_out_ok h K (hat'.push ?_)
        rw [← e1, fb_asI]
      · exact rx_any_ok h K hat' _
    · cases h
  · -- lor
    have hlen := rx_len hd rfl
    subst hlen
    unfold rx_lbin at h
    split at h
    · rename_i y0 x0 sa hsa
      rw [rx_z_eq] at h
      intro H locs ls st hat
      rw [hpc]
      obtain ⟨g, tys, ws, lv, hE, hG, hH, hK, hP, hD, hS, hl, hv, hst⟩ := hat
      rw [hsa] at hst
      obtain ⟨v1, st1, rfl, ⟨yv, rfl, hy⟩, hst1⟩ := rx_vs_cons hst
      obtain ⟨v2, st2, rfl, ⟨xv, rfl, hx1⟩, hst2⟩ := rx_vs_cons hst1
      have e1 : xv.toInt = x0 := hx1
      have e2 : yv.toInt = y0 := hy
      refine lv_lor hx hb hd.1 (rx_out_ok h K ⟨g, tys, ws, lv, hE, hG, hH, hK, hP, hD, hS, hl, hv, ⟨_, rfl, ?_⟩, hst2⟩)
      show (xv ||| yv).toInt = _
      rw [← e1, ← e2, rx_asL, rx_asL]
    · cases h
  · -- lshl
    have hlen := rx_len hd rfl
    subst hlen
    split at h
    · rename_i y0 x0 sa hsa
      rw [rx_z_eq] at h
      intro H locs ls st hat
      rw [hpc]
      obtain ⟨g, tys, ws, lv, hE, hG, hH, hK, hP, hD, hS, hl, hv, hst⟩ := hat
      rw [hsa] at hst
      obtain ⟨v1, st1, rfl, ⟨yv, rfl, hy⟩, hst1⟩ := rx_vs_cons hst
      obtain ⟨v2, st2, rfl, ⟨xv, rfl, hx1⟩, hst2⟩ := rx_vs_cons hst1
      have e1 : xv.toInt = x0 := hx1
      have e2 : yv.toInt = y0 := hy
      refine lv_lshl hx hb hd.1 rfl (rx_out_ok h K ⟨g, tys, ws, lv, hE, hG, hH, hK, hP, hD, hS, hl, hv, ⟨_, rfl, ?_⟩, hst2⟩)
      show (xv <<< (yv.toInt64 &&& 63)).toInt = _
      rw [← e1, ← e2, rx_asL, fb_asI]
    · cases h
  · cases h
end RXX
