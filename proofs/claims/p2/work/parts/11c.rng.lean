/-! ===== reckoning with bounds ===== -/
section RXN
theorem rn_of {x : Int32} (h : 0 ≤ x.toInt) : x = nI x.toInt.toNat ∧ x.toInt.toNat < 2 ^ 31 := by
  have h1 := fb_rng x
  have h2 : x.toInt.toNat < 2 ^ 31 := by omega
  refine ⟨Int32.toInt_inj.1 ?_, h2⟩
  rw [nI_toInt h2]
  omega
theorem rn_any (x : Int32) : ∃ n, x = nI n := ⟨x.toBitVec.toNat, Int32.toBitVec_inj.mp (by show _ = BitVec.ofNat 32 _; simp)⟩
theorem rn_nand (a b : Nat) : nI a &&& nI b = nI (a &&& b) := by
  apply Int32.toBitVec_inj.mp
  rw [Int32.toBitVec_and]
  show BitVec.ofNat 32 a &&& BitVec.ofNat 32 b = BitVec.ofNat 32 (a &&& b)
  apply BitVec.eq_of_toNat_eq
  rw [BitVec.toNat_and, BitVec.toNat_ofNat, BitVec.toNat_ofNat, BitVec.toNat_ofNat, Nat.and_mod_two_pow]
theorem rn_nor (a b : Nat) : nI a ||| nI b = nI (a ||| b) := by
  apply Int32.toBitVec_inj.mp
  rw [Int32.toBitVec_or]
  show BitVec.ofNat 32 a ||| BitVec.ofNat 32 b = BitVec.ofNat 32 (a ||| b)
  apply BitVec.eq_of_toNat_eq
  rw [BitVec.toNat_or, BitVec.toNat_ofNat, BitVec.toNat_ofNat, BitVec.toNat_ofNat, Nat.or_mod_two_pow]
theorem rn_nxor (a b : Nat) : nI a ^^^ nI b = nI (a ^^^ b) := by
  apply Int32.toBitVec_inj.mp
  rw [Int32.toBitVec_xor]
  show BitVec.ofNat 32 a ^^^ BitVec.ofNat 32 b = BitVec.ofNat 32 (a ^^^ b)
  apply BitVec.eq_of_toNat_eq
  rw [BitVec.toNat_xor, BitVec.toNat_ofNat, BitVec.toNat_ofNat, BitVec.toNat_ofNat, Nat.xor_mod_two_pow]
theorem rn_andL {x y : Int32} (h : 0 ≤ x.toInt) : 0 ≤ (x &&& y).toInt ∧ (x &&& y).toInt ≤ x.toInt := by
  obtain ⟨e, hl⟩ := rn_of h
  obtain ⟨n, rfl⟩ := rn_any y
  have h2 : x.toInt.toNat &&& n ≤ x.toInt.toNat := Nat.and_le_left
  have h3 : (x &&& nI n).toInt = ((x.toInt.toNat &&& n : Nat) : Int) := by
    conv => lhs; rw [e]
    rw [rn_nand, nI_toInt (by omega)]
  rw [h3]
  omega
theorem rn_andR {x y : Int32} (h : 0 ≤ y.toInt) : 0 ≤ (x &&& y).toInt ∧ (x &&& y).toInt ≤ y.toInt := by
  have e : x &&& y = y &&& x := by
    apply Int32.toBitVec_inj.mp
    rw [Int32.toBitVec_and, Int32.toBitVec_and, BitVec.and_comm]
  rw [e]
  exact rn_andL h
theorem rn_or {x y : Int32} (hx : 0 ≤ x.toInt) (hy : 0 ≤ y.toInt) {k : Nat} (hk : k ≤ 31) (h1 : x.toInt < 2 ^ k) (h2 : y.toInt < 2 ^ k) : 0 ≤ (x ||| y).toInt ∧ (x ||| y).toInt < 2 ^ k := by
  obtain ⟨e, hl⟩ := rn_of hx
  obtain ⟨e', hl'⟩ := rn_of hy
  have hc : ((2 ^ k : Nat) : Int) = 2 ^ k := by simp
  have q1 : x.toInt.toNat < 2 ^ k := by omega
  have q2 : y.toInt.toNat < 2 ^ k := by omega
  have q3 := Nat.or_lt_two_pow q1 q2
  have q4 : (2 : Nat) ^ k ≤ 2 ^ 31 := Nat.pow_le_pow_right (by decide) hk
  have h3 : (x ||| y).toInt = ((x.toInt.toNat ||| y.toInt.toNat : Nat) : Int) := by
    conv => lhs; rw [e, e']
    rw [rn_nor, nI_toInt (by omega)]
  rw [h3]
  omega
theorem rn_xor {x y : Int32} (hx : 0 ≤ x.toInt) (hy : 0 ≤ y.toInt) {k : Nat} (hk : k ≤ 31) (h1 : x.toInt < 2 ^ k) (h2 : y.toInt < 2 ^ k) : 0 ≤ (x ^^^ y).toInt ∧ (x ^^^ y).toInt < 2 ^ k := by
  obtain ⟨e, hl⟩ := rn_of hx
  obtain ⟨e', hl'⟩ := rn_of hy
  have hc : ((2 ^ k : Nat) : Int) = 2 ^ k := by simp
  have q1 : x.toInt.toNat < 2 ^ k := by omega
  have q2 : y.toInt.toNat < 2 ^ k := by omega
  have q3 := Nat.xor_lt_two_pow q1 q2
  have q4 : (2 : Nat) ^ k ≤ 2 ^ 31 := Nat.pow_le_pow_right (by decide) hk
  have h3 : (x ^^^ y).toInt = ((x.toInt.toNat ^^^ y.toInt.toNat : Nat) : Int) := by
    conv => lhs; rw [e, e']
    rw [rn_nxor, nI_toInt (by omega)]
  rw [h3]
  omega
theorem rn_sl : ∀ n, n < 32 → ((nI n &&& 31).toBitVec.smod 32).toNat = n := by decide +kernel
theorem rn_shl {x y : Int32} {a b c d : Int} (hx : a ≤ x.toInt ∧ x.toInt ≤ b) (hy : c ≤ y.toInt ∧ y.toInt ≤ d) (ha : 0 ≤ a) (hc : 0 ≤ c) (hd : d ≤ 30) (hb : b * 2 ^ d.toNat ≤ 2147483647) : a * 2 ^ c.toNat ≤ (x <<< (y &&& 31)).toInt ∧ (x <<< (y &&& 31)).toInt ≤ b * 2 ^ d.toNat := by
  obtain ⟨e, hl⟩ := rn_of (x := x) (by omega)
  obtain ⟨e', hl'⟩ := rn_of (x := y) (by omega)
  have hy32 : y.toInt.toNat < 32 := by omega
  have hs := rn_sl y.toInt.toNat hy32
  have p1 : (2 : Nat) ^ y.toInt.toNat ≤ 2 ^ d.toNat := Nat.pow_le_pow_right (by decide) (by omega)
  have p2 : (2 : Nat) ^ c.toNat ≤ 2 ^ y.toInt.toNat := Nat.pow_le_pow_right (by decide) (by omega)
  have m1 : x.toInt.toNat * 2 ^ y.toInt.toNat ≤ b.toNat * 2 ^ d.toNat := Nat.mul_le_mul (by omega) p1
  have m2 : a.toNat * 2 ^ c.toNat ≤ x.toInt.toNat * 2 ^ y.toInt.toNat := Nat.mul_le_mul (by omega) p2
  have z1 : ((b.toNat * 2 ^ d.toNat : Nat) : Int) = b * 2 ^ d.toNat := by
    rw [Int.natCast_mul, Int.toNat_of_nonneg (by omega), Int.natCast_pow]; rfl
  have z2 : ((a.toNat * 2 ^ c.toNat : Nat) : Int) = a * 2 ^ c.toNat := by
    rw [Int.natCast_mul, Int.toNat_of_nonneg (by omega), Int.natCast_pow]; rfl
  have h3 : (x <<< (y &&& 31)).toInt = ((x.toInt.toNat * 2 ^ y.toInt.toNat : Nat) : Int) := by
    conv => lhs; rw [e, e']
    rw [pk_shlN _ _ hs (by omega), nI_toInt (by omega)]
  rw [h3]
  omega
theorem rn_shr (x y : Int32) : (0 ≤ x.toInt → 0 ≤ (x >>> (y &&& 31)).toInt ∧ (x >>> (y &&& 31)).toInt ≤ x.toInt) ∧ (x.toInt < 0 → x.toInt ≤ (x >>> (y &&& 31)).toInt ∧ (x >>> (y &&& 31)).toInt < 0) := by
  have e : (x >>> (y &&& 31)).toInt = x.toInt / 2 ^ ((y &&& 31).toBitVec.smod 32).toNat := by
    show (x >>> (y &&& 31)).toBitVec.toInt = _
    rw [Int32.toBitVec_shiftRight]
    show (x.toBitVec.sshiftRight ((y &&& 31).toBitVec.smod 32).toNat).toInt = _
    rw [BitVec.toInt_sshiftRight, Int.shiftRight_eq_div_pow]
    simp
  rw [e]
  generalize ((y &&& 31).toBitVec.smod 32).toNat = s
  have hp : (0 : Int) < 2 ^ s := Int.pow_pos (by decide)
  refine ⟨fun h => ⟨Int.ediv_nonneg h (by omega), Int.ediv_le_self _ h⟩, fun h => ⟨?_, Int.ediv_neg_of_neg_of_pos h hp⟩⟩
  apply Int.le_ediv_of_mul_le hp
  have : x.toInt * 2 ^ s ≤ x.toInt * 1 := Int.mul_le_mul_of_nonpos_left (by omega) (by omega)
  omega
theorem rn_div {x y : Int32} (hy : 1 ≤ y.toInt) : (x / y).toInt = x.toInt.tdiv y.toInt := by
  have h1 := fb_rng x
  have h2 : (x.toInt.tdiv y.toInt).natAbs ≤ x.toInt.natAbs := by
    rw [Int.natAbs_tdiv]
    exact Nat.div_le_self _ _
  have h3 : x.toInt.tdiv y.toInt < 2147483648 := by
    rcases (show 0 ≤ x.toInt ∨ x.toInt < 0 by omega) with q | q
    · omega
    · have e1 : x.toInt.tdiv y.toInt = -((-x.toInt).tdiv y.toInt) := by rw [Int.neg_tdiv]; omega
      have e2 := Int.tdiv_nonneg (show 0 ≤ -x.toInt by omega) (show 0 ≤ y.toInt by omega)
      omega
  rw [Int32.toInt_div, fb_bmod (by omega) (by omega)]
theorem rn_rem {x y : Int32} (hy : 1 ≤ y.toInt) : (x - x / y * y).toInt = x.toInt.tmod y.toInt := by
  have h1 := fb_rng x
  have hd := rn_div (x := x) hy
  have h2 := Int.tdiv_mul_add_tmod x.toInt y.toInt
  have h3 := Int.tmod_lt_of_pos x.toInt (show 0 < y.toInt by omega)
  have h4 : -y.toInt < x.toInt.tmod y.toInt := by
    have := Int.lt_tmod_of_pos x.toInt (show 0 < y.toInt by omega)
    exact this
  have h5 : 0 ≤ x.toInt → 0 ≤ x.toInt.tmod y.toInt ∧ x.toInt.tmod y.toInt ≤ x.toInt := fun q => by
    have q1 := Int.tmod_nonneg y.toInt q
    have q2 : 0 ≤ x.toInt.tdiv y.toInt * y.toInt := Int.mul_nonneg (Int.tdiv_nonneg q (by omega)) (by omega)
    omega
  have h6 : x.toInt < 0 → x.toInt.tmod y.toInt ≤ 0 ∧ x.toInt ≤ x.toInt.tmod y.toInt := fun q => by
    have e1 : x.toInt.tmod y.toInt = -((-x.toInt).tmod y.toInt) := by rw [Int.neg_tmod]; omega
    have q1 := Int.tmod_nonneg y.toInt (show 0 ≤ -x.toInt by omega)
    have q2 : 0 ≤ (-x.toInt).tdiv y.toInt * y.toInt := Int.mul_nonneg (Int.tdiv_nonneg (by omega) (by omega)) (by omega)
    have q3 := Int.tdiv_mul_add_tmod (-x.toInt) y.toInt
    omega
  have h7 : -2147483648 ≤ x.toInt.tdiv y.toInt * y.toInt ∧ x.toInt.tdiv y.toInt * y.toInt < 2147483648 := by
    rcases (show 0 ≤ x.toInt ∨ x.toInt < 0 by omega) with q | q
    · have := h5 q; omega
    · have := h6 q; omega
  have hm : (x / y * y).toInt = x.toInt.tdiv y.toInt * y.toInt := by
    rw [Int32.toInt_mul, hd, fb_bmod h7.1 h7.2]
  have h8 := fb_rng y
  rw [Int32.toInt_sub, hm, fb_bmod (by
    rcases (show 0 ≤ x.toInt ∨ x.toInt < 0 by omega) with q | q
    · have := h5 q; omega
    · have := h6 q; omega) (by
    rcases (show 0 ≤ x.toInt ∨ x.toInt < 0 by omega) with q | q
    · have := h5 q; omega
    · have := h6 q; omega)]
  omega
end RXN
