theorem byte_of {y : Int64} {s : Int32} {n : Nat} (hn : n ≤ 56) (h1 : ((s.toInt64 &&& 63).toBitVec.smod 64#64).toNat = n) (h2 : ((s.toInt64.toUInt64 &&& Int64.toUInt64 63).toBitVec % 64#64).toNat = n) : zlushr y s &&& 255 = (y >>> (s.toInt64 &&& 63)) &&& 255 := by
  apply Int64.toBitVec_inj.mp
  have e1 : (zlushr y s &&& 255).toBitVec = (y.toBitVec >>> ((s.toInt64.toUInt64 &&& Int64.toUInt64 63).toBitVec % 64#64).toNat) &&& 255#64 := rfl
  have e2 : ((y >>> (s.toInt64 &&& 63)) &&& 255).toBitVec = y.toBitVec.sshiftRight ((s.toInt64 &&& 63).toBitVec.smod 64#64).toNat &&& 255#64 := rfl
  rw [e1, e2, h1, h2, shr_and _ _ hn]
theorem byte_eq (y : Int64) {i : Nat} (h : i < 8) : zlushr y (iI 8 * iI (i : Int)) &&& 255 = (y >>> ((iI 8 * iI (i : Int)).toInt64 &&& 63)) &&& 255 := by
  have k : i = 0 ∨ i = 1 ∨ i = 2 ∨ i = 3 ∨ i = 4 ∨ i = 5 ∨ i = 6 ∨ i = 7 := by omega
  rcases k with rfl | rfl | rfl | rfl | rfl | rfl | rfl | rfl
  · exact byte_of (n := 0) (by decide) (by decide +kernel) (by decide +kernel)
  · exact byte_of (n := 8) (by decide) (by decide +kernel) (by decide +kernel)
  · exact byte_of (n := 16) (by decide) (by decide +kernel) (by decide +kernel)
  · exact byte_of (n := 24) (by decide) (by decide +kernel) (by decide +kernel)
  · exact byte_of (n := 32) (by decide) (by decide +kernel) (by decide +kernel)
  · exact byte_of (n := 40) (by decide) (by decide +kernel) (by decide +kernel)
  · exact byte_of (n := 48) (by decide) (by decide +kernel) (by decide +kernel)
  · exact byte_of (n := 56) (by decide) (by decide +kernel) (by decide +kernel)
theorem and255 (z : Int64) : 0 ≤ (z &&& 255).toInt32.toInt ∧ (z &&& 255).toInt32.toInt ≤ 255 := by
  have e : (z &&& 255).toInt32.toBitVec.toNat = z.toBitVec.toNat &&& 255 := by
    have e0 : (z &&& 255).toInt32.toBitVec.toNat = ((z &&& 255).toBitVec.signExtend 32).toNat := rfl
    have e1 : (z &&& 255).toBitVec = z.toBitVec &&& 255#64 := rfl
    have le : z.toBitVec.toNat &&& 255 ≤ 255 := Nat.and_le_right
    rw [e0, e1, BitVec.signExtend_eq_setWidth_of_le _ (by decide), BitVec.toNat_setWidth, BitVec.toNat_and]
    show (z.toBitVec.toNat &&& 255) % 4294967296 = _
    omega
  have le : z.toBitVec.toNat &&& 255 ≤ 255 := Nat.and_le_right
  have t : (z &&& 255).toInt32.toInt = ((z &&& 255).toInt32.toBitVec.toNat : Int) := BitVec.toInt_eq_toNat_of_lt (by rw [e]; omega)
  rw [t, e]
  omega
