/-! numbers of 64 bits -/
def jN (n : Nat) : Int64 := Int64.ofNat n
theorem jN_toInt {n : Nat} (h : n < 9000000000000000000) : (jN n).toInt = (n : Int) := Int64.toInt_ofNat_of_lt (by omega)
theorem jN_lt {a b : Nat} (ha : a < 9000000000000000000) (hb : b < 9000000000000000000) : jN a < jN b ↔ a < b := by
  rw [Int64.lt_iff_toInt_lt, jN_toInt ha, jN_toInt hb]
  omega
theorem jN_inj {a b : Nat} (ha : a < 9000000000000000000) (hb : b < 9000000000000000000) : jN a = jN b ↔ a = b := by
  rw [← Int64.toInt_inj, jN_toInt ha, jN_toInt hb]
  omega
theorem jN_add (a b : Nat) : jN a + jN b = jN (a + b) := (Int64.ofNat_add a b).symm
theorem jN_mul (a b : Nat) : jN a * jN b = jN (a * b) := (Int64.ofNat_mul a b).symm
theorem jN_to32 (n : Nat) : (jN n).toInt32 = nI n := Int64.toInt32_ofNat'
theorem nI_to64 {n : Nat} (h : n < 2147483648) : (nI n).toInt64 = jN n := by
  apply Int64.toInt_inj.mp
  rw [Int32.toInt_toInt64, nI_toInt h, jN_toInt (by omega)]
theorem low_nat (y : Int64) : (low y).toBitVec.toNat = y.toBitVec.toNat % 4294967296 := by
  show (y.toBitVec &&& (4294967295 : Int64).toBitVec).toNat = _
  rw [BitVec.toNat_and]
  have e : (4294967295 : Int64).toBitVec.toNat = 2 ^ 32 - 1 := rfl
  rw [e, Nat.and_two_pow_sub_one_eq_mod]
theorem low_int (y : Int64) : (low y).toInt = ((y.toBitVec.toNat % 4294967296 : Nat) : Int) := by
  show (low y).toBitVec.toInt = _
  rw [BitVec.toInt_eq_toNat_of_lt (by rw [low_nat]; omega), low_nat]
theorem lwN_lt (y : Int64) : lwN y < 4294967296 := by
  unfold lwN Int64.toNatClampNeg
  rw [low_int]
  omega
theorem low_jN (y : Int64) : low y = jN (lwN y) := by
  apply Int64.toInt_inj.mp
  have h1 := lwN_lt y
  rw [jN_toInt (by omega)]
  unfold lwN Int64.toNatClampNeg
  rw [low_int]
  omega
theorem low_low (y : Int64) : low (low y) = low y := by
  apply Int64.toInt_inj.mp
  rw [low_int, low_int, low_nat]
  omega
theorem ad_jN (y : Int64) (a : Int32) : low y + low a.toInt64 = jN (ad y a) := by
  rw [low_jN y, low_jN a.toInt64, jN_add]
  rfl
theorem ad_lt (y : Int64) (a : Int32) : ad y a < 8589934592 := by
  have h1 := lwN_lt y
  have h2 := lwN_lt a.toInt64
  unfold ad
  omega
/-- 32 bits are 0 -/
theorem low_zero (y : Int64) : low y = 0 ↔ y.toInt32 = 0 := by
  have e1 : low y = 0 ↔ (low y).toInt = 0 := by
    rw [← Int64.toInt_inj]
    rfl
  have e2 : y.toInt32 = 0 ↔ y.toInt32.toInt = 0 := by
    rw [← Int32.toInt_inj]
    rfl
  rw [e1, e2, low_int, Int64.toInt_toInt32]
  have h3 : y.toInt = y.toBitVec.toInt := rfl
  rw [h3, BitVec.toInt_eq_toNat_bmod]
  have := y.toBitVec.isLt
  simp only [Int.bmod_def]
  omega
