/-! Bits of numbers. -/
theorem lU_amt : ∀ y : Fin 64, ((Int32.ofInt (y.val : Int)).toInt64.toUInt64 &&& Int64.toUInt64 63).toNat = y.val := by decide +kernel
theorem lU_nat {x : Int} (h0 : 0 ≤ x) (h1 : x < 9223372036854775808) : ((Int64.ofInt x).toUInt64).toNat = x.toNat := by
  show (BitVec.ofInt 64 x).toNat = _
  rw [BitVec.toNat_ofInt]
  omega
theorem lUsh_ok {x y : Int} (h0 : 0 ≤ x) (h1 : x < 9223372036854775808) (y0 : 0 ≤ y) (y1 : y < 64) : lUsh x y = x / (2 : Int) ^ y.toNat := by
  unfold lUsh
  have ha : ((Int32.ofInt y).toInt64.toUInt64 &&& Int64.toUInt64 63).toNat = y.toNat := by
    have := lU_amt ⟨y.toNat, by omega⟩
    simpa only [show ((y.toNat : Nat) : Int) = y by omega] using this
  have hn : ((Int64.ofInt x).toUInt64 >>> ((Int32.ofInt y).toInt64.toUInt64 &&& Int64.toUInt64 63)).toNat = x.toNat / 2 ^ y.toNat := by
    rw [UInt64.toNat_shiftRight, ha, lU_nat h0 h1, Nat.mod_eq_of_lt (by omega), Nat.shiftRight_eq_div_pow]
  have hle : x.toNat / 2 ^ y.toNat ≤ x.toNat := Nat.div_le_self _ _
  show BitVec.toInt ((Int64.ofInt x).toUInt64 >>> ((Int32.ofInt y).toInt64.toUInt64 &&& Int64.toUInt64 63)).toBitVec = _
  rw [BitVec.toInt_eq_toNat_of_lt (by
    show 2 * ((Int64.ofInt x).toUInt64 >>> ((Int32.ofInt y).toInt64.toUInt64 &&& Int64.toUInt64 63)).toNat < 2 ^ 64
    rw [hn]
    omega)]
  show (((Int64.ofInt x).toUInt64 >>> ((Int32.ofInt y).toInt64.toUInt64 &&& Int64.toUInt64 63)).toNat : Int) = _
  rw [hn, Int.natCast_ediv, show ((x.toNat : Nat) : Int) = x by omega]
  congr 1
theorem bAnd7 (x : Int) : bAnd x 7 = x % 8 := by
  unfold bAnd
  have hn : (Int32.ofInt x &&& Int32.ofInt 7).toBitVec.toNat = (x % 4294967296).toNat % 8 := by
    show ((BitVec.ofInt 32 x) &&& (BitVec.ofInt 32 7)).toNat = _
    rw [BitVec.toNat_and, BitVec.toNat_ofInt, BitVec.toNat_ofInt]
    show (x % 4294967296).toNat &&& 7 = _
    exact Nat.and_two_pow_sub_one_eq_mod _ 3
  show BitVec.toInt (Int32.ofInt x &&& Int32.ofInt 7).toBitVec = _
  rw [BitVec.toInt_eq_toNat_of_lt (by rw [hn]; omega), hn]
  omega
theorem w32_m8 (x : Int) : w32 x % 8 = x % 8 := by
  unfold w32
  rw [Int.bmod_def]
  split <;> omega
/-- a figure out of a packed number -/
def fg (L m : Int) : Int := L / (8 : Int) ^ m.toNat % 8
theorem p8 (m : Nat) : (2 : Int) ^ (3 * m) = (8 : Int) ^ m := by
  rw [Int.pow_mul]
  rfl
theorem fg_ok {L m : Int} (h0 : 0 ≤ L) (h1 : L < 9223372036854775808) (m0 : 0 ≤ m) (m1 : m ≤ 20) : bAnd (w32 (lUsh L (3 * m))) 7 = fg L m := by
  rw [lUsh_ok h0 h1 (by omega) (by omega), bAnd7, w32_m8]
  unfold fg
  rw [show (3 * m).toNat = 3 * m.toNat by omega, p8]
theorem fg_bd (L m : Int) : 0 ≤ fg L m ∧ fg L m < 8 := by
  unfold fg
  omega
theorem fg_zero (m : Int) : fg 0 m = 0 := by
  unfold fg
  rw [Int.zero_ediv]
  rfl
theorem lShl_ok {x y : Int} (h0 : 0 ≤ x) (y0 : 0 ≤ y) (y1 : y < 64) (h1 : x * (2 : Int) ^ y.toNat < 9223372036854775808) : lShl x y = x * (2 : Int) ^ y.toNat := by
  have hp : (1 : Int) ≤ 2 ^ y.toNat := by
    have : (0 : Int) < 2 ^ y.toNat := Int.pow_pos (by omega)
    omega
  have hx1 : x < 9223372036854775808 := by
    have := Int.mul_le_mul_of_nonneg_left hp h0
    omega
  unfold lShl
  have ha : ((Int32.ofInt y).toInt64 &&& 63).toBitVec.toNat = y.toNat := by
    have := lU_amt ⟨y.toNat, by omega⟩
    simp only [show ((y.toNat : Nat) : Int) = y by omega] at this
    exact this
  have hs : ((Int32.ofInt y).toInt64 &&& 63).toBitVec.smod 64 = BitVec.ofNat 64 y.toNat := by
    have : ((Int32.ofInt y).toInt64 &&& 63).toBitVec = BitVec.ofNat 64 y.toNat := BitVec.eq_of_toNat_eq (by rw [ha, BitVec.toNat_ofNat]; omega)
    rw [this]
    have all : ∀ k : Fin 64, (BitVec.ofNat 64 k.val).smod 64 = BitVec.ofNat 64 k.val := by decide +kernel
    exact all ⟨y.toNat, by omega⟩
  show BitVec.toInt ((Int64.ofInt x).toBitVec <<< ((Int32.ofInt y).toInt64 &&& 63).toBitVec.smod 64) = _
  rw [hs]
  have hn : ((Int64.ofInt x).toBitVec <<< BitVec.ofNat 64 y.toNat).toNat = (x * (2 : Int) ^ y.toNat).toNat := by
    rw [BitVec.shiftLeft_eq', BitVec.toNat_shiftLeft]
    show ((BitVec.ofInt 64 x).toNat <<< (BitVec.ofNat 64 y.toNat).toNat) % 2 ^ 64 = _
    rw [BitVec.toNat_ofInt, BitVec.toNat_ofNat, Nat.shiftLeft_eq, Nat.mod_eq_of_lt (show y.toNat < 2 ^ 64 by omega), show (x % (2 ^ 64 : Nat)).toNat = x.toNat by omega]
    have e : ((x.toNat * 2 ^ y.toNat : Nat) : Int) = x * (2 : Int) ^ y.toNat := by
      rw [Int.natCast_mul, Int.natCast_pow, show ((x.toNat : Nat) : Int) = x by omega]
      rfl
    omega
  rw [BitVec.toInt_eq_toNat_of_lt (by rw [hn]; omega), hn]
  have : 0 ≤ x * (2 : Int) ^ y.toNat := Int.mul_nonneg h0 (by omega)
  omega
theorem lOr_ok {a g : Int} {s : Nat} (a0 : 0 ≤ a) (a1 : a < (2 : Int) ^ s) (g0 : 0 ≤ g) (h : a + g * (2 : Int) ^ s < 9223372036854775808) : lOr a (g * (2 : Int) ^ s) = a + g * (2 : Int) ^ s := by
  have hp : 0 ≤ g * (2 : Int) ^ s := Int.mul_nonneg g0 (by omega)
  unfold lOr
  have hn : (Int64.ofInt a ||| Int64.ofInt (g * (2 : Int) ^ s)).toBitVec.toNat = (a + g * (2 : Int) ^ s).toNat := by
    show ((BitVec.ofInt 64 a) ||| (BitVec.ofInt 64 (g * (2 : Int) ^ s))).toNat = _
    rw [BitVec.toNat_or, BitVec.toNat_ofInt, BitVec.toNat_ofInt, show (a % (2 ^ 64 : Nat)).toNat = a.toNat by omega, show (g * (2 : Int) ^ s % (2 ^ 64 : Nat)).toNat = (g * (2 : Int) ^ s).toNat by omega]
    have e : (g * (2 : Int) ^ s).toNat = g.toNat <<< s := by
      rw [Nat.shiftLeft_eq]
      have : ((g.toNat * 2 ^ s : Nat) : Int) = g * (2 : Int) ^ s := by
        rw [Int.natCast_mul, Int.natCast_pow, show ((g.toNat : Nat) : Int) = g by omega]
        rfl
      omega
    have hlt : a.toNat < 2 ^ s := by
      have : ((2 ^ s : Nat) : Int) = (2 : Int) ^ s := by
        rw [Int.natCast_pow]
        rfl
      omega
    have e2 : (a + g * (2 : Int) ^ s).toNat = g.toNat <<< s + a.toNat := by
      rw [← e]
      omega
    rw [e2, e, Nat.or_comm, Nat.shiftLeft_add_eq_or_of_lt hlt]
  show BitVec.toInt (Int64.ofInt a ||| Int64.ofInt (g * (2 : Int) ^ s)).toBitVec = _
  rw [BitVec.toInt_eq_toNat_of_lt (by rw [hn]; omega), hn]
  omega
