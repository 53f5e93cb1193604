/-! ===== floors, places, cells ===== -/
theorem msbI (x : Int32) : x.toBitVec.msb = decide (x.toInt < 0) := BitVec.msb_eq_toInt
theorem xor_neg (x y : Int32) : ((x ^^^ y) < 0) ↔ (decide (x.toInt < 0) ^^ decide (y.toInt < 0)) = true := by
  rw [Int32.lt_iff_toInt_lt]
  show (x ^^^ y).toInt < 0 ↔ _
  have h : (x ^^^ y).toBitVec.msb = (x.toBitVec.msb ^^ y.toBitVec.msb) := by
    rw [show (x ^^^ y).toBitVec = x.toBitVec ^^^ y.toBitVec from Int32.toBitVec_xor x y, BitVec.msb_xor]
  rw [msbI, msbI, msbI] at h
  rw [← h, decide_eq_true_eq]
theorem msbJ (x : Int64) : x.toBitVec.msb = decide (x.toInt < 0) := BitVec.msb_eq_toInt
theorem xorj_neg (x y : Int64) : ((x ^^^ y) < 0) ↔ (decide (x.toInt < 0) ^^ decide (y.toInt < 0)) = true := by
  rw [Int64.lt_iff_toInt_lt]
  show (x ^^^ y).toInt < 0 ↔ _
  have h : (x ^^^ y).toBitVec.msb = (x.toBitVec.msb ^^ y.toBitVec.msb) := by
    rw [show (x ^^^ y).toBitVec = x.toBitVec ^^^ y.toBitVec from Int64.toBitVec_xor x y, BitVec.msb_xor]
  rw [msbJ, msbJ, msbJ] at h
  rw [← h, decide_eq_true_eq]
theorem floorDiv16 {a : Int} (h1 : -1000000000 ≤ a) (h2 : a ≤ 1000000000) : FJ9_floorDiv_7cf53 (iI a) 16 = some (iI (a / 16)) := by
  unfold FJ9_floorDiv_7cf53
  simp only [zlet]
  have ed := Int.tdiv_eq_ediv (a := a) (b := 16)
  have es : Int.sign 16 = 1 := rfl
  rw [es] at ed
  rw [show (16 : Int32) = iI 16 from rfl, if_neg (fun z => by have := (i0 (by omega) (by omega)).mp z; omega), iD (by omega) (by omega), iM, show (1 : Int32) = iI 1 from rfl, iS]
  by_cases hn : a < 0
  · rw [if_pos ((xor_neg _ _).mpr (by rw [iT (by omega) (by omega), iT (by omega) (by omega)]; simp; omega))]
    by_cases hd : (16 : Int) ∣ a
    · rw [if_pos (show (0 ≤ a ∨ (16 : Int) ∣ a) from Or.inr hd)] at ed
      rw [if_pos (by rw [ed]; congr 1; omega), ed]
      congr 2
      omega
    · rw [if_neg (show ¬ (0 ≤ a ∨ (16 : Int) ∣ a) from fun z => by rcases z with z | z; omega; exact hd z)] at ed
      rw [ed]
      rw [if_neg (fun z => by rw [iEq (by omega) (by omega)] at z; omega)]
      congr 2
      omega
  · rw [if_pos (show (0 ≤ a ∨ (16 : Int) ∣ a) from Or.inl (by omega))] at ed
    rw [if_neg (fun z => by rw [xor_neg, iT (by omega) (by omega), iT (by omega) (by omega)] at z; simp at z; omega), ed]
    congr 2
    omega
theorem floored16 {a : Int} (h1 : -1000000000000 ≤ a) (h2 : a ≤ 1000000000000) : FX8_floored (iJ a) 16 = some (iI (a / 16)) := by
  unfold FX8_floored
  simp only [zlet]
  have ed := Int.tdiv_eq_ediv (a := a) (b := 16)
  have es : Int.sign 16 = 1 := rfl
  rw [es] at ed
  have em := Int.tmod_def a 16
  rw [show (16 : Int32).toInt64 = iJ 16 from rfl, show (0 : Int64) = iJ 0 from rfl, show (1 : Int64) = iJ 1 from rfl]
  rw [if_neg (fun z => by rw [jEq (by omega) (by omega)] at z; omega), if_neg (fun z => by rw [jEq (by omega) (by omega)] at z; omega), jD (by omega) (by omega), jR (by omega) (by omega), jS, jC (by omega) (by omega)]
  refine zj_p (r := some (iI (a / 16))) (fun y => y = iJ (a / 16)) (fun y hy => ?_) (fun k hk => ?_)
  · rw [hy, iJI]
  · by_cases hd : 0 ≤ a ∨ (16 : Int) ∣ a
    · rw [if_pos hd] at ed
      rw [if_neg]
      · exact hk _ (congrArg iJ (by omega))
      · by_cases h3 : (0 : Int) < a.tmod 16
        · rw [if_pos h3]; decide
        · rw [if_neg h3, if_pos (by omega)]; decide
    · rw [if_neg hd] at ed
      rw [if_pos]
      · exact hk _ (congrArg iJ (by omega))
      · rw [if_neg (by omega), if_neg (by omega)]; decide
/-- the cell of a light -/
def cF (z : Int) : Int := (z + 8) / 16
theorem cellOf_eq {z : Int} (h1 : -100000000 ≤ z) (h2 : z ≤ 100000000) : FX7_cellOf (iI z) = some (iI (cF z)) := by
  unfold FX7_cellOf
  rw [show (8 : Int32) = iI 8 from rfl, iA, floorDiv16 (by omega) (by omega)]
  rfl
/-- the place of (x, y) on the wide plane, the pixel of (x, y) -/
def plN (x y : Int) : Nat := ((y + 25) * 51 + x + 25).toNat
def pxN (x y : Int) : Nat := ((y + 24) * 49 + x + 24).toNat
theorem placeAt_eq {x y : Int} : FX3_placeAt (iI x) (iI y) = some (iI ((y + 25) * 51 + x + 25)) := by
  unfold FX3_placeAt
  rw [show (25 : Int32) = iI 25 from rfl, show (51 : Int32) = iI 51 from rfl, iA, iM, iA, iA]
theorem at_eq {x y : Int} : FX8_at (iI x) (iI y) = some (iI ((y + 25) * 51 + x + 25)) := by
  unfold FX8_at
  rw [show (25 : Int32) = iI 25 from rfl, show (51 : Int32) = iI 51 from rfl, iA, iM, iA, iA, Int.mul_comm]
theorem pixelAt_eq {x y : Int} : FX7_pixelAt (iI x) (iI y) = some (iI ((y + 24) * 49 + x + 24)) := by
  unfold FX7_pixelAt
  rw [show (24 : Int32) = iI 24 from rfl, show (49 : Int32) = iI 49 from rfl, iA, iM, iA, iA]
theorem pixel_eq {x y : Int} : FX8_pixel (iI x) (iI y) = some (iI ((y + 24) * 49 + x + 24)) := by
  unfold FX8_pixel
  rw [show (24 : Int32) = iI 24 from rfl, show (49 : Int32) = iI 49 from rfl, iA, iM, iA, iA, Int.mul_comm]
/-- x and y of a pixel -/
def pX (p : Nat) : Int := (p % 49 : Nat) - 24
def pY (p : Nat) : Int := (p / 49 : Nat) - 24
theorem xOf_eq {p : Nat} (h : p < 2401) : FX7_xOf (iI p) = some (iI (pX p)) := by
  unfold FX7_xOf
  rw [show (49 : Int32) = iI 49 from rfl, show (24 : Int32) = iI 24 from rfl, iR (by omega) (by omega), iS]
  rw [Int.tmod_eq_emod_of_nonneg (by omega)]
  rfl
theorem yOf_eq {p : Nat} (h : p < 2401) : FX7_yOf (iI p) = some (iI (pY p)) := by
  unfold FX7_yOf
  rw [show (49 : Int32) = iI 49 from rfl, show (24 : Int32) = iI 24 from rfl, iD (by omega) (by omega), iS]
  rw [Int.tdiv_eq_ediv_of_nonneg (by omega)]
  rfl
theorem xOfM {p : Nat} (h : p < 2401) : zrem (iI p) 49 - 24 = iI (pX p) := Option.some.inj (xOf_eq h)
theorem yOfM {p : Nat} (h : p < 2401) : iI p / 49 - 24 = iI (pY p) := Option.some.inj (yOf_eq h)
theorem pXY {p : Nat} (h : p < 2401) : (-24 ≤ pX p ∧ pX p ≤ 24) ∧ (-24 ≤ pY p ∧ pY p ≤ 24) ∧ pxN (pX p) (pY p) = p := by
  unfold pX pY pxN
  omega
theorem pxN_of {x y : Int} (hx : -24 ≤ x ∧ x ≤ 24) (hy : -24 ≤ y ∧ y ≤ 24) : pxN x y < 2401 ∧ pX (pxN x y) = x ∧ pY (pxN x y) = y := by
  unfold pX pY pxN
  omega
