/-! the fingerprint once more, over longs; by hand -/
theorem pr_long1 (key : Int32) : ((key.toInt64 * 2654435769) &&& 4294967295).toBitVec.toNat = (key * (-1640531527)).toUInt32.toNat := by
  show ((key.toBitVec.signExtend 64 * 2654435769#64) &&& 4294967295#64).toNat = (key.toBitVec * 2654435769#32).toNat
  have h := key.toBitVec.isLt
  rw [BitVec.toNat_and, BitVec.toNat_mul, BitVec.toNat_mul, BitVec.toNat_signExtend, BitVec.toNat_setWidth, show (4294967295#64).toNat = 2 ^ 32 - 1 from rfl, Nat.and_two_pow_sub_one_eq_mod, show (2654435769#64).toNat = 2654435769 from rfl, show (2654435769#32).toNat = 2654435769 from rfl]
  split <;> omega
theorem pr_long (key : Int32) : (((key.toInt64 * 2654435769) &&& 4294967295) >>> ((nI 20).toInt64 &&& 63)).toInt32 = nI (prN key) := by
  have h1 := pr_long1 key
  have h2 : (key * (-1640531527)).toUInt32.toNat < 2 ^ 32 := UInt32.toNat_lt _
  generalize hb : ((key.toInt64 * 2654435769) &&& 4294967295 : Int64) = b at *
  unfold prN
  rw [← h1] at h2 ⊢
  apply Int32.toBitVec_inj.mp
  show (BitVec.sshiftRight' b.toBitVec (((nI 20).toInt64 &&& 63).toBitVec.smod 64)).signExtend 32 = BitVec.ofNat 32 (b.toBitVec.toNat / 2 ^ 20)
  have h3 : (((nI 20).toInt64 &&& 63).toBitVec.smod 64) = 20#64 := by decide
  rw [h3]
  have h4 : b.toBitVec.msb = false := by
    rw [BitVec.msb_eq_decide]
    exact decide_eq_false (by omega)
  have h5 : BitVec.sshiftRight' b.toBitVec 20#64 = b.toBitVec >>> 20 := by
    show BitVec.sshiftRight b.toBitVec 20 = _
    exact BitVec.sshiftRight_eq_of_msb_false h4
  rw [h5]
  apply BitVec.eq_of_toNat_eq
  rw [BitVec.signExtend_eq_setWidth_of_le _ (by omega), BitVec.toNat_setWidth, BitVec.toNat_ushiftRight, Nat.shiftRight_eq_div_pow, BitVec.toNat_ofNat]
