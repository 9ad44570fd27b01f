/-! THE CLASS RUNS, 3: the same numbers -/
theorem t32_64 (a : Int32) : a.toInt64.toInt32 = a := by
  apply Int32.toInt_inj.mp
  rw [Int64.toInt_toInt32, Int32.toInt_toInt64]
  have h1 := Int32.toInt_lt a
  have h2 := Int32.le_toInt a
  rw [Int.bmod_def]
  omega
theorem low_t32 (y : Int64) : (low y).toInt32 = y.toInt32 := by
  apply Int32.toInt_inj.mp
  rw [Int64.toInt_toInt32, Int64.toInt_toInt32, low_int]
  have h3 : y.toInt = y.toBitVec.toInt := rfl
  rw [h3, BitVec.toInt_eq_toNat_bmod]
  have := y.toBitVec.isLt
  simp only [Int.bmod_def]
  omega
theorem t32_nat (y : Int64) : y.toInt32.toBitVec.toNat = y.toBitVec.toNat % 4294967296 := by
  rw [Int64.toBitVec_toInt32, BitVec.signExtend_eq_setWidth_of_le _ (by decide), BitVec.toNat_setWidth]
theorem low_cong {y z : Int64} (h : y.toInt32 = z.toInt32) : low y = low z := by
  apply Int64.toInt_inj.mp
  rw [low_int, low_int, ← t32_nat y, ← t32_nat z, h]
theorem low_iff (y z : Int64) : low y = low z ↔ y.toInt32 = z.toInt32 := ⟨fun h => by rw [← low_t32 y, h, low_t32], low_cong⟩
theorem low_sx (y : Int64) : low y.toInt32.toInt64 = low y := low_cong (t32_64 _)
theorem low_add (x y : Int64) : low (x.toInt32 + y.toInt32).toInt64 = low (low x + low y) := low_cong (by rw [t32_64, Int64.toInt32_add, low_t32, low_t32])
theorem low_sub (x y : Int64) : low (x.toInt32 - y.toInt32).toInt64 = low (low x - low y) := low_cong (by rw [t32_64, Int64.toInt32_sub, low_t32, low_t32])
theorem low_mul (x y : Int64) : low (x.toInt32 * y.toInt32).toInt64 = low (low x * low y) := low_cong (by rw [t32_64, Int64.toInt32_mul, low_t32, low_t32])
theorem low_and (x y : Int64) : low (x.toInt32 &&& y.toInt32).toInt64 = low x &&& low y := by
  have e : low (low x &&& low y) = low x &&& low y := by
    show (low x &&& low y) &&& 4294967295 = low x &&& low y
    rw [Int64.and_assoc]
    have : low y &&& 4294967295 = low y := low_low y
    rw [this]
  rw [← e]
  exact low_cong (by rw [t32_64, Int64.toInt32_and, low_t32, low_t32])
theorem sh_am : ∀ k : Fin 32, (jN k.val &&& 63).toBitVec.smod 64 = BitVec.ofNat 64 k.val := by decide
theorem sh_am2 : ∀ k : Fin 32, (nI k.val &&& 31).toBitVec.smod 32 = BitVec.ofNat 32 k.val := by decide
theorem low_31 (y : Int64) : ∃ k : Fin 32, (low y &&& 31).toInt32 = nI k.val ∧ y.toInt32 &&& 31 = nI k.val := by
  have h1 : (low y &&& 31).toInt32 = y.toInt32 &&& 31 := by
    rw [Int64.toInt32_and, low_t32]
    rfl
  have h2 : (y.toInt32 &&& 31).toBitVec.toNat = y.toInt32.toBitVec.toNat % 32 := by
    show (y.toInt32.toBitVec &&& (31 : Int32).toBitVec).toNat = _
    rw [BitVec.toNat_and]
    have e : (31 : Int32).toBitVec.toNat = 2 ^ 5 - 1 := rfl
    rw [e, Nat.and_two_pow_sub_one_eq_mod]
  have h3 : y.toInt32 &&& 31 = nI (y.toInt32.toBitVec.toNat % 32) := by
    apply Int32.toBitVec_inj.mp
    apply BitVec.eq_of_toNat_eq
    rw [h2]
    show _ = (BitVec.ofNat 32 _).toNat
    rw [BitVec.toNat_ofNat]
    omega
  exact ⟨⟨y.toInt32.toBitVec.toNat % 32, by omega⟩, by rw [h1, h3], h3⟩
theorem low_shl (x y : Int64) : low (x.toInt32 <<< ((y.toInt32 &&& 31) &&& 31)).toInt64 = low (low x <<< (((low y &&& 31).toInt32).toInt64 &&& 63)) := by
  obtain ⟨k, e1, e2⟩ := low_31 y
  rw [e1, e2, nI_to64 (by omega)]
  refine low_cong ?_
  rw [t32_64]
  apply Int32.toBitVec_inj.mp
  rw [Int64.toBitVec_toInt32, Int32.toBitVec_shiftLeft, Int64.toBitVec_shiftLeft, sh_am k, sh_am2 k, Int64.toBitVec_toInt32]
  apply BitVec.eq_of_getLsbD_eq
  intro i hi
  have hk := k.isLt
  have e32 : (BitVec.ofNat 32 k.val).toNat = k.val := by rw [BitVec.toNat_ofNat]; omega
  have e64 : (BitVec.ofNat 64 k.val).toNat = k.val := by rw [BitVec.toNat_ofNat]; omega
  rw [BitVec.shiftLeft_eq', BitVec.shiftLeft_eq', e32, e64]
  rw [BitVec.getLsbD_shiftLeft, BitVec.getLsbD_signExtend, BitVec.getLsbD_signExtend, BitVec.getLsbD_shiftLeft]
  have hb : ∀ j, j < 32 → (low x).toBitVec.getLsbD j = x.toBitVec.getLsbD j := by
    intro j hj
    show (x.toBitVec &&& (4294967295 : Int64).toBitVec).getLsbD j = _
    rw [BitVec.getLsbD_and]
    have : ∀ j : Fin 32, (4294967295 : Int64).toBitVec.getLsbD j.val = true := by decide
    rw [this ⟨j, hj⟩, Bool.and_true]
  by_cases c : i < k.val
  · simp [hi, c]
    omega
  · have c2 : i - k.val < 32 := by omega
    simp [hi, c, c2, hb (i - k.val) c2, show i - k.val < 64 by omega, show i < 64 by omega]
    have h := hb (i - k.val) c2
    rw [BitVec.getLsbD_eq_getElem (show i - k.val < 64 by omega), BitVec.getLsbD_eq_getElem (show i - k.val < 64 by omega)] at h
    exact h.symm
theorem sx8 (t : Int32) : t.toInt8.toInt32 &&& 255 = t &&& 255 := by
  apply Int32.toBitVec_inj.mp
  apply BitVec.eq_of_getLsbD_eq
  intro i hi
  show ((t.toInt8.toInt32).toBitVec &&& (255 : Int32).toBitVec).getLsbD i = (t.toBitVec &&& (255 : Int32).toBitVec).getLsbD i
  rw [BitVec.getLsbD_and, BitVec.getLsbD_and, Int8.toBitVec_toInt32, Int32.toBitVec_toInt8, BitVec.getLsbD_signExtend, BitVec.getLsbD_signExtend]
  by_cases c : i < 8
  · simp [c, hi]
  · have : ∀ i : Fin 32, ¬ i.val < 8 → (255 : Int32).toBitVec.getLsbD i.val = false := by decide
    rw [this ⟨i, hi⟩ c, Bool.and_false, Bool.and_false]
theorem sx88 (t : Int32) : t.toInt8.toInt32.toInt8.toInt32 &&& 255 = t &&& 255 := by rw [sx8, sx8]
theorem byte_eq (y : Int64) (k : Fin 8) : ((((y.toUInt64 >>> ((8 * nI k.val).toInt64.toUInt64 &&& Int64.toUInt64 63)).toInt64).toInt32).toInt8.toInt32).toInt8.toInt32 &&& 255 = ((y >>> ((8 * nI k.val).toInt64 &&& 63)) &&& 255).toInt32 := by
  rw [sx88, Int64.toInt32_and]
  apply Int32.toBitVec_inj.mp
  apply BitVec.eq_of_getLsbD_eq
  intro i hi
  show ((_ : Int32).toBitVec &&& (255 : Int32).toBitVec).getLsbD i = ((_ : Int32).toBitVec &&& (255 : Int32).toBitVec).getLsbD i
  rw [BitVec.getLsbD_and, BitVec.getLsbD_and]
  by_cases c : i < 8
  · congr 1
    rw [Int64.toBitVec_toInt32, Int64.toBitVec_toInt32, BitVec.getLsbD_signExtend, BitVec.getLsbD_signExtend, Int64.toBitVec_shiftRight]
    have e1 : ∀ k : Fin 8, ((8 * nI k.val).toInt64 &&& 63).toBitVec.smod 64 = BitVec.ofNat 64 (8 * k.val) := by decide
    have e2 : ∀ k : Fin 8, ((8 * nI k.val).toInt64.toUInt64 &&& Int64.toUInt64 63).toBitVec.toNat % 64 = 8 * k.val := by decide
    rw [e1 k, BitVec.sshiftRight_eq']
    have hk := k.isLt
    rw [show (BitVec.ofNat 64 (8 * k.val)).toNat = 8 * k.val by rw [BitVec.toNat_ofNat]; omega, BitVec.getLsbD_sshiftRight]
    have e3 : (y.toUInt64 >>> ((8 * nI k.val).toInt64.toUInt64 &&& Int64.toUInt64 63)).toInt64.toBitVec = y.toBitVec >>> (8 * k.val) := by
      show (y.toUInt64 >>> ((8 * nI k.val).toInt64.toUInt64 &&& Int64.toUInt64 63)).toBitVec = _
      rw [UInt64.toBitVec_shiftRight]
      show y.toBitVec >>> _ = _
      rw [BitVec.ushiftRight_eq']
      congr 1
      have := e2 k
      rw [BitVec.toNat_umod]
      exact this
    rw [e3, BitVec.getLsbD_ushiftRight]
    have h4 : 8 * k.val + i < 64 := by omega
    simp [show i < 64 by omega, h4, hi]
  · have : ∀ i : Fin 32, ¬ i.val < 8 → (255 : Int32).toBitVec.getLsbD i.val = false := by decide
    rw [this ⟨i, hi⟩ c, Bool.and_false, Bool.and_false]
/-- a shift up and down is a sign's extension -/
theorem up_bits (y : Int64) (s : Nat) (hs : s < 64) {b : Int64} (hb : b.toBitVec.smod 64 = BitVec.ofNat 64 s) : ((y <<< b) >>> b).toBitVec = (y.toBitVec.signExtend (64 - s)).signExtend 64 := by
  rw [Int64.toBitVec_shiftRight, Int64.toBitVec_shiftLeft, hb, BitVec.sshiftRight_eq', BitVec.shiftLeft_eq', show (BitVec.ofNat 64 s).toNat = s by rw [BitVec.toNat_ofNat]; omega]
  apply BitVec.eq_of_getLsbD_eq
  intro i hi
  rw [BitVec.getLsbD_sshiftRight, BitVec.getLsbD_signExtend, BitVec.getLsbD_signExtend]
  by_cases c : s + i < 64
  · rw [if_pos c, BitVec.getLsbD_shiftLeft]
    have h1 : i < 64 - s := by omega
    simp [hi, c, h1, show ¬ s + i < s by omega, show s + i - s = i by omega]
  · rw [if_neg c]
    have h1 : ¬ i < 64 - s := by omega
    rw [if_neg h1]
    have e : (y.toBitVec.signExtend (64 - s)).msb = (y.toBitVec <<< s).msb := by
      rw [BitVec.msb_eq_getLsbD_last, BitVec.msb_eq_getLsbD_last, BitVec.getLsbD_signExtend, BitVec.getLsbD_shiftLeft]
      simp [show 64 - s - 1 < 64 - s by omega, show 64 - s - 1 < 64 by omega, show ¬ (63 : Nat) < s by omega, show 63 - s = 64 - s - 1 by omega]
    rw [e]
    simp [hi]
theorem sx_sx {w a b c : Nat} (z : BitVec w) (h1 : c ≤ b) (h2 : b ≤ w) : (z.signExtend b).signExtend c = z.signExtend c := by
  apply BitVec.eq_of_getLsbD_eq
  intro i hi
  rw [BitVec.getLsbD_signExtend, BitVec.getLsbD_signExtend, BitVec.getLsbD_signExtend]
  have : i < b := by omega
  simp [hi, this, show i < w by omega]
theorem sx_up {a b c : Nat} (z : BitVec a) (h1 : a ≤ b) (h2 : b ≤ c) (h0 : 0 < a) : (z.signExtend b).signExtend c = z.signExtend c := by
  apply BitVec.eq_of_getLsbD_eq
  intro i hi
  rw [BitVec.getLsbD_signExtend, BitVec.getLsbD_signExtend, BitVec.getLsbD_signExtend]
  by_cases c1 : i < b
  · simp [hi, c1]
  · have c2 : ¬ i < a := by omega
    have e : (z.signExtend b).msb = z.msb := by
      rw [BitVec.msb_eq_getLsbD_last, BitVec.getLsbD_signExtend]
      by_cases c3 : b = a
      · subst c3
        rw [BitVec.msb_eq_getLsbD_last]
        simp [show b - 1 < b by omega]
      · simp [show b - 1 < b by omega, show ¬ b - 1 < a by omega]
    simp [hi, c1, c2, e]
theorem w8 (y : Int64) : shUp 44 y = y.toInt32.toInt8.toInt32.toInt64 ∧ shUp 48 y = y.toInt32.toInt8.toInt32.toInt64 := by
  have e : ∀ b : Int64, b.toBitVec.smod 64 = BitVec.ofNat 64 56 → (y <<< b) >>> b = y.toInt32.toInt8.toInt32.toInt64 := by
    intro b hb
    apply Int64.toBitVec_inj.mp
    rw [up_bits y 56 (by decide) hb, Int32.toBitVec_toInt64, Int8.toBitVec_toInt32, Int32.toBitVec_toInt8, Int64.toBitVec_toInt32, sx_sx (a := 0) (b := 32) (c := 8) y.toBitVec (by decide) (by decide), sx_up (a := 8) (b := 32) (c := 64) _ (by decide) (by decide) (by decide)]
  exact ⟨e _ (by decide), e _ (by decide)⟩
theorem w16 (y : Int64) : shUp 46 y = y.toInt32.toInt16.toInt32.toInt64 ∧ shUp 50 y = y.toInt32.toInt16.toInt32.toInt64 := by
  have e : ∀ b : Int64, b.toBitVec.smod 64 = BitVec.ofNat 64 48 → (y <<< b) >>> b = y.toInt32.toInt16.toInt32.toInt64 := by
    intro b hb
    apply Int64.toBitVec_inj.mp
    rw [up_bits y 48 (by decide) hb, Int32.toBitVec_toInt64, Int16.toBitVec_toInt32, Int32.toBitVec_toInt16, Int64.toBitVec_toInt32, sx_sx (a := 0) (b := 32) (c := 16) y.toBitVec (by decide) (by decide), sx_up (a := 16) (b := 32) (c := 64) _ (by decide) (by decide) (by decide)]
  exact ⟨e _ (by decide), e _ (by decide)⟩
theorem w32 (y : Int64) : shUp 52 y = y.toInt32.toInt64 := by
  apply Int64.toBitVec_inj.mp
  show ((y <<< _) >>> _).toBitVec = _
  rw [up_bits y 32 (by decide) (by decide), Int32.toBitVec_toInt64, Int64.toBitVec_toInt32]
