section RXD
variable {p : Program} {l : Launch} {e : Env} {R : Room} {s : State} {m : MethodId} {args : Array Value} {below : List Frame} {meth : Method} {c : Code} {b : (Nat → Option Nat) × List Int} {D : va_G} {A : Nat → Prop} {g0 : List Int} {a0 : List Nat} {t0 : List (ClassId × FieldType)} {nL : Nat} {Q : State → Prop} {cc : ByteArray} {own : String}
theorem rx_tg_ok {pc t : Nat} {off : Int} (h : rx_tg pc off = some t) : (pc : Int) + off = (t : Int) := by
  unfold rx_tg at h
  split at h
  · rename_i n hn
    cases h
    exact hn
  · cases h
/-- one of the states at a place, by the bounds that hold -/
theorem rx_to_ok {T : rx_T} {pc : Nat} {sa : List rx_V} {L : List rx_Y} (K : ∀ T' ∈ rx_to T pc sa L, rx_Go p l e R s m args below meth c b D A g0 a0 t0 nL Q T') {g : List Int} (hg : ∃ s ∈ L, rx_g s g) {H : Heap} {locs : List Loc} {ls : Array Slot} {st : List Value} (hat : ∀ sy', rx_g sy' g → rx_At b D s A g0 a0 t0 nL sy' T.2.1 T.2.2.2.2.1 sa H locs ls st) : W p l e R s m args below meth c H locs T.2.2.1.1 T.2.2.1.2 Q (F0 m pc ls st) := by
  obtain ⟨sy', h1, h2⟩ := hg
  exact K (sy', T.2.1, T.2.2.1, pc, T.2.2.2.2.1, sa) (List.mem_map.mpr ⟨sy', h1, rfl⟩) H locs ls st (hat sy' h2)
theorem rx_jump_ok {i : rx_E} {T : rx_T} {L : List rx_T} {d : Jvm.ClassFile.Cond} {off : Int} {x y : rx_I} {sa : List rx_V} (h : rx_jump i T d off x y sa = some L) (K : ∀ T' ∈ L, rx_Go p l e R s m args below meth c b D A g0 a0 t0 nL Q T') {g : List Int} (hG : rx_g T.1 g) {xv yv : Int32} (hx : rx_ev g x xv.toInt) (hy : rx_ev g y yv.toInt) {H : Heap} {locs : List Loc} {ls : Array Slot} {st : List Value} (hat : ∀ sy', rx_g sy' g → rx_At b D s A g0 a0 t0 nL sy' T.2.1 T.2.2.2.2.1 sa H locs ls st) :
    ∃ t : Nat, (i.1 : Int) + off = (t : Int) ∧ (rx_hp d xv.toInt yv.toInt → W p l e R s m args below meth c H locs T.2.2.1.1 T.2.2.1.2 Q (F0 m t ls st)) ∧ (¬ rx_hp d xv.toInt yv.toInt → W p l e R s m args below meth c H locs T.2.2.1.1 T.2.2.1.2 Q (F0 m (i.1 + i.2.2.1) ls st)) := by
  unfold rx_jump at h
  split at h
  · rename_i t ht
    cases h
    refine ⟨t, rx_tg_ok ht, fun hp => ?_, fun hp => ?_⟩
    · exact rx_to_ok (fun T' h' => K T' (List.mem_append_left _ h')) (rx_br_ok d hG hx hy hp) hat
    · exact rx_to_ok (fun T' h' => K T' (List.mem_append_right _ h')) (rx_br_ok (rx_neg d) hG hx hy (rx_neg_ok d hp)) hat
  · cases h
theorem rx_tab_ok {T : rx_T} {pc : Nat} {q : rx_I} {sa : List rx_V} : ∀ (v : Int) (offs : List Int) {L : List rx_T}, rx_tab pc T q sa v offs = some L → ∀ (n : Nat) (o : Int), offs[n]? = some o → ∃ t, rx_tg pc o = some t ∧ ∀ T' ∈ rx_to T t sa (rx_br .eq T.1 q (0, v + n)), T' ∈ L
  | v, [], L, h, n, o, ho => by simp at ho
  | v, x :: offs, L, h, n, o, ho => by
    unfold rx_tab at h
    split at h
    · rename_i t ht
      split at h
      · rename_i r hr
        cases h
        cases n with
        | zero =>
          rw [List.getElem?_cons_zero] at ho
          cases ho
          refine ⟨t, ht, fun T' h' => List.mem_append_left _ ?_⟩
          have e : v + ((0 : Nat) : Int) = v := by omega
          rw [e] at h'
          exact h'
        | succ n =>
          rw [List.getElem?_cons_succ] at ho
          obtain ⟨t', h1, h2⟩ := rx_tab_ok (v + 1) offs hr n o ho
          refine ⟨t', h1, fun T' h' => List.mem_append_right _ (h2 T' ?_)⟩
          have e : v + 1 + (n : Int) = v + ((n + 1 : Nat) : Int) := by omega
          rw [e]
          exact h'
      · cases h
    · cases h
theorem rx_pairs_ok {T : rx_T} {pc : Nat} {q : rx_I} {sa : List rx_V} : ∀ (ps : List (Int × Int)) {L : List rx_T}, rx_pairs pc T q sa ps = some L → ∀ (df k : Int), (Op.lookupswitch.offset ps df k = df) ∨ ∃ t, rx_tg pc (Op.lookupswitch.offset ps df k) = some t ∧ ∀ T' ∈ rx_to T t sa (rx_br .eq T.1 q (0, k)), T' ∈ L
  | [], L, h, df, k => Or.inl rfl
  | x :: ps, L, h, df, k => by
    obtain ⟨a, o⟩ := x
    unfold rx_pairs at h
    split at h
    · rename_i t ht
      split at h
      · rename_i r hr
        cases h
        by_cases hak : a = k
        · refine Or.inr ⟨t, ?_, fun T' h' => List.mem_append_left _ ?_⟩
          · show rx_tg pc (if a = k then o else _) = some t
            rw [if_pos hak]
            exact ht
          · rw [← hak] at h'
            exact h'
        · have e : Op.lookupswitch.offset ((a, o) :: ps) df k = Op.lookupswitch.offset ps df k := if_neg hak
          rw [e]
          rcases rx_pairs_ok ps hr df k with h1 | ⟨t', h1, h2⟩
          · exact Or.inl h1
          · exact Or.inr ⟨t', h1, fun T' h' => List.mem_append_right _ (h2 T' h')⟩
      · cases h
    · cases h
theorem rx_find_ok (z df : Int) : ∀ (ps : List (Int × Int)), (∀ o, rx_find z ps = some o → Op.lookupswitch.offset ps df z = o) ∧ (rx_find z ps = none → Op.lookupswitch.offset ps df z = df)
  | [] => ⟨fun o h => (by cases h), fun _ => rfl⟩
  | (a, o) :: ps => by
    have ih := rx_find_ok z df ps
    unfold rx_find
    cases hq : rx_ieq a z with
    | true =>
      refine ⟨fun o' h => ?_, fun h => ?_⟩
      · dsimp only at h
        cases h
        exact if_pos (rx_ieq_t hq)
      · dsimp only at h
        cases h
    | false =>
      have e : Op.lookupswitch.offset ((a, o) :: ps) df z = Op.lookupswitch.offset ps df z := if_neg (rx_ieq_f hq)
      rw [e]
      refine ⟨fun o' h => ?_, fun h => ?_⟩
      · dsimp only at h
        exact ih.1 o' h
      · dsimp only at h
        exact ih.2 h
theorem rx_lt32 {x y : Int32} : x < y ↔ x.toInt < y.toInt := Int32.lt_iff_toInt_lt
theorem rx_le32 {x y : Int32} : x ≤ y ↔ x.toInt ≤ y.toInt := Int32.le_iff_toInt_le
theorem rx_eq32 {x y : Int32} : x = y ↔ x.toInt = y.toInt := Int32.toInt_inj.symm
theorem rx_sD_ok {i : rx_E} {T : rx_T} {L : List rx_T} (C : rx_Cx p s m args c cc own nL) (hd : rx_dc cc i) (hpc : T.2.2.2.1 = i.1) (h : rx_sD i T = some L) (K : ∀ T' ∈ L, rx_Go p l e R s m args below meth c b D A g0 a0 t0 nL Q T') : rx_Go p l e R s m args below meth c b D A g0 a0 t0 nL Q T := by
  obtain ⟨pc, ins, len, u, w, x, z⟩ := i
  obtain ⟨hx, hb, -⟩ := C
  unfold rx_sD at h
  dsimp only at h
  split at h
  · have hlen := rx_len hd rfl
    subst hlen
    split at h
    · rename_i t ht
      cases h
      intro H locs ls st hat
      rw [hpc]
      exact lv_goto hx hb hd.1 (rx_tg_ok ht) (K _ (List.mem_singleton.mpr rfl) H locs ls st hat)
    · cases h
  · rename_i d off
    have hlen := rx_len hd rfl
    subst hlen
    split at h
    · rename_i q sa hsa
      intro H locs ls st hat
      rw [hpc]
      rw [hsa] at hat
      obtain ⟨xv, st', g, rfl, hG, hx1, -, -, hat'⟩ := hat.one
      obtain ⟨t, ht, kt, kf⟩ := rx_jump_ok (yv := 0) h K hG hx1 (show (0 : Int32).toInt = 0 from rfl) hat'
      have z0 : (0 : Int32).toInt = 0 := rfl
      cases d with
      | eq => exact lv_if_eq hx hb hd.1 ht (fun q => kt (rx_eq32.mp q)) (fun q => kf (fun r => q (rx_eq32.mpr r)))
      | ne => exact lv_if_ne hx hb hd.1 ht (fun q => kt (fun r => q (rx_eq32.mpr r))) (fun q => kf (fun r => r (rx_eq32.mp q)))
      | lt => exact lv_if_lt hx hb hd.1 ht (fun q => kt (rx_lt32.mp q)) (fun q => kf (fun r => q (rx_lt32.mpr r)))
      | ge => exact lv_if_ge hx hb hd.1 ht (fun q => kt (rx_le32.mp q)) (fun q => kf (fun r => q (rx_le32.mpr r)))
      | gt => exact lv_if_gt hx hb hd.1 ht (fun q => kt (rx_lt32.mp q)) (fun q => kf (fun r => q (rx_lt32.mpr r)))
      | le => exact lv_if_le hx hb hd.1 ht (fun q => kt (rx_le32.mp q)) (fun q => kf (fun r => q (rx_le32.mpr r)))
    · cases h
  · rename_i d off
    have hlen := rx_len hd rfl
    subst hlen
    split at h
    · rename_i y q sa hsa
      intro H locs ls st hat
      rw [hpc]
      rw [hsa] at hat
      obtain ⟨yv, xv, st', g, rfl, hG, hy, hx1, -, -, hat'⟩ := hat.two
      obtain ⟨t, ht, kt, kf⟩ := rx_jump_ok h K hG hx1 hy hat'
      cases d with
      | eq => exact lv_icmp_eq hx hb hd.1 ht (fun q => kt (rx_eq32.mp q)) (fun q => kf (fun r => q (rx_eq32.mpr r)))
      | ne => exact lv_icmp_ne hx hb hd.1 ht (fun q => kt (fun r => q (rx_eq32.mpr r))) (fun q => kf (fun r => r (rx_eq32.mp q)))
      | lt => exact lv_icmp_lt hx hb hd.1 ht (fun q => kt (rx_lt32.mp q)) (fun q => kf (fun r => q (rx_lt32.mpr r)))
      | ge => exact lv_icmp_ge hx hb hd.1 ht (fun q => kt (rx_le32.mp q)) (fun q => kf (fun r => q (rx_le32.mpr r)))
      | gt => exact lv_icmp_gt hx hb hd.1 ht (fun q => kt (rx_lt32.mp q)) (fun q => kf (fun r => q (rx_lt32.mpr r)))
      | le => exact lv_icmp_le hx hb hd.1 ht (fun q => kt (rx_le32.mp q)) (fun q => kf (fun r => q (rx_le32.mpr r)))
    · cases h
  · rename_i df lo hi offs
    split at h
    · rename_i q sa hsa
      split at h
      · rename_i t ht
        split at h
        · rename_i hsz
          have hsz := rx_ieq_t hsz
          split at h
          · rename_i r hr
            cases h
            intro H locs ls st hat
            rw [hpc]
            rw [hsa] at hat
            obtain ⟨xv, st', g, rfl, hG, hx1, -, -, hat'⟩ := hat.one
            by_cases h1 : xv.toInt < lo
            · refine lv_tableOut hx hb hd.1 (Or.inl h1) (rx_tg_ok ht) ?_
              refine rx_to_ok (fun T' h' => K T' (List.mem_append_left _ h')) ?_ hat'
              obtain ⟨s1, h2, h3⟩ := rx_br_ok .lt hG hx1 (show rx_ev g (0, lo) lo from rfl) h1
              exact ⟨s1, List.mem_append_left _ h2, h3⟩
            · by_cases h2 : hi < xv.toInt
              · refine lv_tableOut hx hb hd.1 (Or.inr h2) (rx_tg_ok ht) ?_
                refine rx_to_ok (fun T' h' => K T' (List.mem_append_left _ h')) ?_ hat'
                obtain ⟨s1, h4, h3⟩ := rx_br_ok .gt hG hx1 (show rx_ev g (0, hi) hi from rfl) h2
                exact ⟨s1, List.mem_append_right _ h4, h3⟩
              · have hs : Int.ofNat offs.size = (offs.size : Int) := rfl
                have hlt : (xv.toInt - lo).toNat < offs.size := by omega
                obtain ⟨o, ho⟩ : ∃ o, offs[(xv.toInt - lo).toNat]? = some o := ⟨_, Array.getElem?_eq_getElem hlt⟩
                obtain ⟨t', h3, h4⟩ := rx_tab_ok lo offs.toList hr (xv.toInt - lo).toNat o (by rw [Array.getElem?_toList]; exact ho)
                refine lv_tableIn hx hb hd.1 h1 h2 ho (rx_tg_ok h3) ?_
                refine rx_to_ok (fun T' h' => K T' (List.mem_append_right _ (h4 T' h'))) ?_ hat'
                refine rx_br_ok .eq hG hx1 (show rx_ev g (0, lo + ((xv.toInt - lo).toNat : Int)) _ from rfl) ?_
                show xv.toInt = lo + ((xv.toInt - lo).toNat : Int)
                omega
          · cases h
        · cases h
      · cases h
    · cases h
  · rename_i df ps
    split at h
    · rename_i q sa hsa
      split at h
      · rename_i hinc
        split at h
        · rename_i t ht
          intro H locs ls st hat
          rw [hpc]
          rw [hsa] at hat
          obtain ⟨xv, st', g, rfl, hG, hx1, -, -, hat'⟩ := hat.one
          split at h
          · rename_i a ha
            have ea := rx_cs_ok hG hx1 ha
            have hf := rx_find_ok a df ps.toList
            split at h
            · rename_i o ho
              split at h
              · rename_i t2 ht2
                cases h
                refine lv_lookup hx hb hd.1 hinc (off := o) (by rw [ea]; exact hf.1 o ho) (rx_tg_ok ht2) ?_
                exact rx_to_ok K ⟨T.1, List.mem_singleton.mpr rfl, hG⟩ hat'
              · cases h
            · rename_i ho
              cases h
              refine lv_lookup hx hb hd.1 hinc (off := df) (by rw [ea]; exact hf.2 ho) (rx_tg_ok ht) ?_
              exact rx_to_ok K ⟨T.1, List.mem_singleton.mpr rfl, hG⟩ hat'
          · split at h
            · rename_i r hr
              cases h
              rcases rx_pairs_ok ps.toList hr df xv.toInt with h1 | ⟨t', h1, h2⟩
              · refine lv_lookup hx hb hd.1 hinc h1 (rx_tg_ok ht) ?_
                exact rx_to_ok (fun T' h' => K T' (List.mem_append_left _ h')) ⟨T.1, List.mem_singleton.mpr rfl, hG⟩ hat'
              · refine lv_lookup hx hb hd.1 hinc rfl (rx_tg_ok h1) ?_
                refine rx_to_ok (fun T' h' => K T' (List.mem_append_right _ (h2 T' h'))) ?_ hat'
                exact rx_br_ok .eq hG hx1 (show rx_ev g (0, xv.toInt) xv.toInt from rfl) rfl
            · cases h
        · cases h
      · cases h
    · cases h
  · cases h
end RXD
