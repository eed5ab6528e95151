/-! feed -/
theorem zby_bv (a : BitVec 64) (s : Nat) (hs : s ≤ 56) : BitVec.setWidth 32 (a >>> s) &&& 255#32 = BitVec.setWidth 32 (a.sshiftRight s &&& 255#64) := by
  apply BitVec.eq_of_getLsbD_eq
  intro k hk
  have n255 : ∀ j, 8 ≤ j → Nat.testBit 255 j = false := fun j hj => Nat.testBit_lt_two_pow (Nat.lt_of_lt_of_le (by decide : 255 < 2 ^ 8) (Nat.pow_le_pow_right (by decide) hj))
  simp only [BitVec.getLsbD_and, BitVec.getLsbD_setWidth, BitVec.getLsbD_ushiftRight, BitVec.getLsbD_sshiftRight, BitVec.getLsbD_ofNat]
  by_cases q : k < 8
  · have h1 : s + k < 64 := by omega
    have h2 : ¬ 64 ≤ k := by omega
    have h3 : k < 64 := by omega
    simp [hk, h1, h2, h3]
  · simp [n255 k (by omega)]
def zBy (e : Int64) (k : Nat) : Int := Int32.toInt (Int64.toInt32 ((e >>> (Int32.toInt64 (8 * iI k) &&& 63)) &&& 255))
theorem zBy_r (e : Int64) (k : Nat) : 0 ≤ zBy e k ∧ zBy e k ≤ 255 := by
  have h : (Int64.toInt32 ((e >>> (Int32.toInt64 (8 * iI k) &&& 63)) &&& 255)).toBitVec.toNat ≤ 255 := by
    show (BitVec.signExtend 32 ((e >>> (Int32.toInt64 (8 * iI k) &&& 63)).toBitVec &&& 255#64)).toNat ≤ 255
    rw [BitVec.signExtend_eq_setWidth_of_le _ (by decide), BitVec.toNat_setWidth, BitVec.toNat_and]
    have := Nat.and_le_right (n := (e >>> (Int32.toInt64 (8 * iI k) &&& 63)).toBitVec.toNat) (m := (255#64).toNat)
    have e255 : (255#64).toNat = 255 := by decide
    omega
  unfold zBy
  show 0 ≤ BitVec.toInt _ ∧ BitVec.toInt _ ≤ 255
  rw [BitVec.toInt_eq_toNat_of_lt (by omega)]
  omega
theorem zBy_m (e : Int64) (k : Nat) : Int64.toInt32 ((e >>> (Int32.toInt64 (8 * iI k) &&& 63)) &&& 255) = iI (zBy e k) := (Int32.ofInt_toInt _).symm
theorem zBy_c (e : Int64) {k : Nat} (hk : k < 8) : (Int64.toInt32 ((Int64.toUInt64 e >>> ((Int32.toInt64 (8 * iI k)).toUInt64 &&& Int64.toUInt64 63)).toInt64)) &&& 255 = iI (zBy e k) := by
  rw [← zBy_m]
  apply Int32.toBitVec_inj.mp
  have hs : (8 * k : Nat) ≤ 56 := by omega
  have e1 : ∀ k : Nat, k < 8 → ((Int32.toInt64 (8 * iI k)).toUInt64 &&& Int64.toUInt64 63).toBitVec % 64 = BitVec.ofNat 64 (8 * k) := by decide
  have e2 : ∀ k : Nat, k < 8 → (Int32.toInt64 (8 * iI k) &&& 63).toBitVec.smod 64 = BitVec.ofNat 64 (8 * k) := by decide
  show BitVec.setWidth 32 (e.toBitVec >>> (((Int32.toInt64 (8 * iI k)).toUInt64 &&& Int64.toUInt64 63).toBitVec % 64)) &&& 255#32 = BitVec.signExtend 32 (e.toBitVec.sshiftRight' ((Int32.toInt64 (8 * iI k) &&& 63).toBitVec.smod 64) &&& 255#64)
  rw [BitVec.signExtend_eq_setWidth_of_le _ (by decide), e1 k hk, e2 k hk]
  have e3 : (BitVec.ofNat 64 (8 * k)).toNat = 8 * k := by rw [BitVec.toNat_ofNat]; omega
  have e4 : e.toBitVec >>> BitVec.ofNat 64 (8 * k) = e.toBitVec >>> (8 * k) := by
    show e.toBitVec >>> (BitVec.ofNat 64 (8 * k)).toNat = _
    rw [e3]
  rw [e4]
  show _ = BitVec.setWidth 32 (e.toBitVec.sshiftRight (BitVec.ofNat 64 (8 * k)).toNat &&& 255#64)
  rw [e3]
  exact zby_bv _ _ hs
