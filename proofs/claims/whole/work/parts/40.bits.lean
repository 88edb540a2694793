/-! Bits and numbers for the pure part. -/
theorem bV_some (v : mV) (M : mM) (k : mM → Option mR) (h : v = none) : bV (some (v, M)) k = k M := by subst h; rfl
theorem bV_none (M : mM) (k : mM → Option mR) : bV (some (none, M)) k = k M := rfl
theorem bI_some (x : Int) (M : mM) (k : Int → mM → Option mR) : bI (some (iv x, M)) k = k x M := rfl
theorem bJ_some (x : Int) (M : mM) (k : Int → mM → Option mR) : bJ (some (jv x, M)) k = k x M := rfl
theorem bR_some (t o : Nat) (M : mM) (k : Nat → mM → Option mR) : bR t (some (rv t o, M)) k = k o M := by
  unfold bR
  simp
theorem i32_nat {a : Nat} (h : a < 2147483648) : (Int32.ofInt (a : Int)).toBitVec = BitVec.ofNat 32 a := by
  show BitVec.ofInt 32 (a : Int) = _
  rw [BitVec.ofInt_natCast]
theorem i32_toInt {b : BitVec 32} (h : b.toNat < 2147483648) : (Int32.ofBitVec b).toInt = (b.toNat : Int) := by
  show b.toInt = _
  rw [BitVec.toInt_eq_toNat_of_lt (by omega)]
theorem and32_nat {a b : Nat} (ha : a < 2147483648) (hb : b < 2147483648) : and32 (a : Int) (b : Int) = ((a &&& b : Nat) : Int) := by
  unfold and32
  have e : Int32.ofInt (a : Int) &&& Int32.ofInt (b : Int) = Int32.ofBitVec (BitVec.ofNat 32 a &&& BitVec.ofNat 32 b) := by
    apply Int32.toBitVec_inj.mp
    rw [Int32.toBitVec_and, i32_nat ha, i32_nat hb]
    rfl
  have h1 : a &&& b ≤ a := Nat.and_le_left
  have h2 : (BitVec.ofNat 32 a &&& BitVec.ofNat 32 b).toNat = a &&& b := by
    rw [BitVec.toNat_and, BitVec.toNat_ofNat, BitVec.toNat_ofNat, Nat.mod_eq_of_lt (by omega), Nat.mod_eq_of_lt (by omega)]
  rw [e, i32_toInt (by omega), h2]
theorem or_lt31 {a b : Nat} (ha : a < 2147483648) (hb : b < 2147483648) : a ||| b < 2147483648 := Nat.or_lt_two_pow (n := 31) ha hb
theorem xor_lt31 {a b : Nat} (ha : a < 2147483648) (hb : b < 2147483648) : a ^^^ b < 2147483648 := Nat.xor_lt_two_pow (n := 31) ha hb
theorem or32_nat {a b : Nat} (ha : a < 2147483648) (hb : b < 2147483648) : or32 (a : Int) (b : Int) = ((a ||| b : Nat) : Int) := by
  unfold or32
  have e : Int32.ofInt (a : Int) ||| Int32.ofInt (b : Int) = Int32.ofBitVec (BitVec.ofNat 32 a ||| BitVec.ofNat 32 b) := by
    apply Int32.toBitVec_inj.mp
    rw [Int32.toBitVec_or, i32_nat ha, i32_nat hb]
    rfl
  have h1 := or_lt31 ha hb
  have h2 : (BitVec.ofNat 32 a ||| BitVec.ofNat 32 b).toNat = a ||| b := by
    rw [BitVec.toNat_or, BitVec.toNat_ofNat, BitVec.toNat_ofNat, Nat.mod_eq_of_lt (by omega), Nat.mod_eq_of_lt (by omega)]
  rw [e, i32_toInt (by omega), h2]
/-- a without the bits of b -/
def bdiff (a b : Nat) : Nat := a ^^^ (a &&& b)
theorem bdiff_testBit (a b i : Nat) : (bdiff a b).testBit i = (a.testBit i && !b.testBit i) := by
  unfold bdiff
  rw [Nat.testBit_xor, Nat.testBit_and]
  cases a.testBit i <;> cases b.testBit i <;> rfl
theorem bdiff_le (a b : Nat) : bdiff a b ≤ a := by
  apply Nat.le_of_testBit
  intro i
  rw [bdiff_testBit]
  cases a.testBit i <;> simp
theorem andnot32 {a b : Nat} (ha : a < 2147483648) (hb : b < 2147483648) : and32 (a : Int) (xor32 (b : Int) (-1)) = ((bdiff a b : Nat) : Int) := by
  unfold and32 xor32
  rw [Int32.ofInt_toInt]
  have e : Int32.ofInt (a : Int) &&& (Int32.ofInt (b : Int) ^^^ Int32.ofInt (-1)) = Int32.ofBitVec (BitVec.ofNat 32 a &&& (BitVec.ofNat 32 b ^^^ BitVec.allOnes 32)) := by
    apply Int32.toBitVec_inj.mp
    rw [Int32.toBitVec_and, Int32.toBitVec_xor, i32_nat ha, i32_nat hb]
    rfl
  have h1 : bdiff a b ≤ a := bdiff_le a b
  have h2 : (BitVec.ofNat 32 a &&& (BitVec.ofNat 32 b ^^^ BitVec.allOnes 32)).toNat = bdiff a b := by
    apply Nat.eq_of_testBit_eq
    intro i
    rw [bdiff_testBit, BitVec.testBit_toNat, BitVec.getLsbD_and, BitVec.getLsbD_xor, BitVec.getLsbD_ofNat, BitVec.getLsbD_ofNat, BitVec.getLsbD_allOnes]
    by_cases hi : i < 32
    · simp [hi]
    · have : a.testBit i = false := Nat.testBit_lt_two_pow (Nat.lt_of_lt_of_le (show a < 2 ^ 32 by omega) (Nat.pow_le_pow_right (by omega) (by omega)))
      simp [hi, this]
  rw [e, i32_toInt (by omega), h2]
theorem shl32_one {r : Nat} (h : r < 31) : shl32 1 (r : Int) = ((2 ^ r : Nat) : Int) := by
  have : ∀ r, r < 31 → shl32 1 ((r : Nat) : Int) = ((2 ^ r : Nat) : Int) := by decide +kernel
  exact this r h
theorem shr32_nat {a r : Nat} (ha : a < 2147483648) (h : r < 32) : shr32 (a : Int) (r : Int) = ((a >>> r : Nat) : Int) := by
  unfold shr32
  have hr : (Int32.ofInt (r : Int) &&& 31) = Int32.ofInt (r : Int) := (show ∀ r, r < 32 → (Int32.ofInt ((r : Nat) : Int) &&& 31) = Int32.ofInt (r : Int) by decide +kernel) r h
  rw [hr]
  have hle : a >>> r ≤ a := Nat.shiftRight_le a r
  have hm : ((BitVec.ofNat 32 r).smod 32).toNat = r := (show ∀ r, r < 32 → ((BitVec.ofNat 32 r).smod 32).toNat = r by decide +kernel) r h
  have e : (Int32.ofInt (a : Int) >>> Int32.ofInt (r : Int)) = Int32.ofBitVec ((BitVec.ofNat 32 a).sshiftRight r) := by
    apply Int32.toBitVec_inj.mp
    rw [Int32.toBitVec_shiftRight, i32_nat ha, i32_nat (by omega)]
    show BitVec.sshiftRight' _ _ = _
    rw [BitVec.sshiftRight_eq', hm]
    rfl
  have h2 : ((BitVec.ofNat 32 a).sshiftRight r).toNat = a >>> r := by
    rw [BitVec.sshiftRight_eq_of_msb_false (by rw [BitVec.msb_eq_false_iff_two_mul_lt]; simp; omega)]
    rw [BitVec.toNat_ushiftRight, BitVec.toNat_ofNat, Nat.mod_eq_of_lt (by omega)]
  rw [e, i32_toInt (by omega), h2]
theorem xor32_nat {a b : Nat} (ha : a < 2147483648) (hb : b < 2147483648) : xor32 (a : Int) (b : Int) = ((a ^^^ b : Nat) : Int) := by
  unfold xor32
  have e : Int32.ofInt (a : Int) ^^^ Int32.ofInt (b : Int) = Int32.ofBitVec (BitVec.ofNat 32 a ^^^ BitVec.ofNat 32 b) := by
    apply Int32.toBitVec_inj.mp
    rw [Int32.toBitVec_xor, i32_nat ha, i32_nat hb]
    rfl
  have h1 := xor_lt31 ha hb
  have h2 : (BitVec.ofNat 32 a ^^^ BitVec.ofNat 32 b).toNat = a ^^^ b := by
    rw [BitVec.toNat_xor, BitVec.toNat_ofNat, BitVec.toNat_ofNat, Nat.mod_eq_of_lt (by omega), Nat.mod_eq_of_lt (by omega)]
  rw [e, i32_toInt (by omega), h2]
theorem shr_le {a r : Nat} : a >>> r ≤ a := Nat.shiftRight_le a r
theorem hasBit_nat {a r : Nat} (ha : a < 2147483648) (h : r < 32) : and32 (shr32 (a : Int) (r : Int)) 1 = if a.testBit r then 1 else 0 := by
  rw [shr32_nat ha h]
  have hle : a >>> r ≤ a := Nat.shiftRight_le a r
  have := and32_nat (a := a >>> r) (b := 1) (by omega) (by omega)
  rw [show ((1 : Nat) : Int) = 1 from rfl] at this
  rw [this, Nat.and_one_is_mod, Nat.testBit_eq_decide_div_mod_eq, Nat.shiftRight_eq_div_pow]
  rcases Nat.mod_two_eq_zero_or_one (a / 2 ^ r) with h0 | h0 <;> simp [h0]
theorem ushr32_nat {a r : Nat} (ha : a < 2147483648) (h : r < 32) : ushr32 (a : Int) (r : Int) = ((a >>> r : Nat) : Int) := by
  unfold ushr32
  have hr : (Int32.ofInt (r : Int)).toUInt32 &&& Int32.toUInt32 31 = UInt32.ofNat r := (show ∀ r, r < 32 → (Int32.ofInt ((r : Nat) : Int)).toUInt32 &&& Int32.toUInt32 31 = UInt32.ofNat r by decide +kernel) r h
  have hs : ((UInt32.ofNat r).toBitVec % 32).toNat = r := (show ∀ r, r < 32 → ((UInt32.ofNat r).toBitVec % 32).toNat = r by decide +kernel) r h
  rw [hr]
  have hle : a >>> r ≤ a := Nat.shiftRight_le a r
  have e : ((Int32.ofInt (a : Int)).toUInt32 >>> UInt32.ofNat r).toInt32 = Int32.ofBitVec (BitVec.ofNat 32 a >>> r) := by
    apply Int32.toBitVec_inj.mp
    show (((Int32.ofInt (a : Int)).toUInt32 >>> UInt32.ofNat r)).toBitVec = BitVec.ofNat 32 a >>> r
    rw [UInt32.toBitVec_shiftRight]
    show (Int32.ofInt (a : Int)).toBitVec >>> _ = _
    rw [i32_nat ha, BitVec.ushiftRight_eq', hs]
  have h2 : (BitVec.ofNat 32 a >>> r).toNat = a >>> r := by
    rw [BitVec.toNat_ushiftRight, BitVec.toNat_ofNat, Nat.mod_eq_of_lt (by omega)]
  rw [e, i32_toInt (by omega), h2]
