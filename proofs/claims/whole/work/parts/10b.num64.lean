/-! ===== longs ===== -/
def iJ (z : Int) : Int64 := Int64.ofInt z
theorem jT {z : Int} (h1 : -9223372036854775808 ≤ z) (h2 : z ≤ 9223372036854775807) : (iJ z).toInt = z := Int64.toInt_ofInt_of_le (by omega) (by omega)
theorem jA (a b : Int) : iJ a + iJ b = iJ (a + b) := (Int64.ofInt_add a b).symm
theorem jS (a b : Int) : iJ a - iJ b = iJ (a - b) := (Int64.ofInt_sub a b).symm
theorem jM (a b : Int) : iJ a * iJ b = iJ (a * b) := (Int64.ofInt_mul a b).symm
theorem jN (a : Int) : -iJ a = iJ (-a) := (Int64.ofInt_neg a).symm
theorem jLt {a b : Int} (ha : -9223372036854775808 ≤ a ∧ a ≤ 9223372036854775807) (hb : -9223372036854775808 ≤ b ∧ b ≤ 9223372036854775807) : iJ a < iJ b ↔ a < b := by
  rw [Int64.lt_iff_toInt_lt, jT ha.1 ha.2, jT hb.1 hb.2]
theorem jEq {a b : Int} (ha : -9223372036854775808 ≤ a ∧ a ≤ 9223372036854775807) (hb : -9223372036854775808 ≤ b ∧ b ≤ 9223372036854775807) : iJ a = iJ b ↔ a = b := by
  rw [← Int64.toInt_inj, jT ha.1 ha.2, jT hb.1 hb.2]
theorem jD {a b : Int} (ha : -9223372036854775808 ≤ a ∧ a ≤ 9223372036854775807) (hb : -9223372036854775808 ≤ b ∧ b ≤ 9223372036854775807) : iJ a / iJ b = iJ (a.tdiv b) := by
  unfold iJ
  exact (Int64.ofInt_tdiv (by rw [show Int64.minValue.toInt = -9223372036854775808 by decide]; exact ha.1) (by rw [show Int64.maxValue.toInt = 9223372036854775807 by decide]; exact ha.2) (by rw [show Int64.minValue.toInt = -9223372036854775808 by decide]; exact hb.1) (by rw [show Int64.maxValue.toInt = 9223372036854775807 by decide]; exact hb.2)).symm
theorem jR {a b : Int} (ha : -9223372036854775808 ≤ a ∧ a ≤ 9223372036854775807) (hb : -9223372036854775808 ≤ b ∧ b ≤ 9223372036854775807) : zreml (iJ a) (iJ b) = iJ (a.tmod b) := by
  unfold zreml
  rw [jD ha hb, jM, jS, Int.tmod_def, Int.mul_comm]
theorem jI {a : Int} (h1 : -2147483648 ≤ a) (h2 : a ≤ 2147483647) : (iI a).toInt64 = iJ a := by
  apply Int64.toInt_inj.mp
  rw [Int32.toInt_toInt64, iT h1 h2, jT (by omega) (by omega)]
theorem jX (x : Int32) : x.toInt64 = iJ x.toInt := by
  have h1 := Int32.le_toInt x
  have h2 := Int32.toInt_lt x
  have := jI (a := x.toInt) (by omega) (by omega)
  rw [iT'] at this
  exact this
theorem iJI (a : Int) : (iJ a).toInt32 = iI a := Int64.toInt32_ofInt
theorem jC {a b : Int} (ha : -9223372036854775808 ≤ a ∧ a ≤ 9223372036854775807) (hb : -9223372036854775808 ≤ b ∧ b ≤ 9223372036854775807) : lg_cmp (iJ a) (iJ b) = if b < a then 1 else if a = b then 0 else -1 := by
  unfold lg_cmp
  simp only [gt_iff_lt, jLt hb ha, jEq ha hb]
/-- products bounded -/
theorem nA_mul (a b : Int) : (a * b).natAbs = a.natAbs * b.natAbs := Int.natAbs_mul a b
