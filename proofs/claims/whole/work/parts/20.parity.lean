/-! ===== parity, critical ===== -/
theorem sgn_r (z : Int) : -1 ≤ sgn z ∧ sgn z ≤ 1 := by
  unfold sgn
  by_cases h : 0 < z
  · rw [if_pos h]; omega
  · rw [if_neg h]
    by_cases h2 : z < 0
    · rw [if_pos h2]; omega
    · rw [if_neg h2]; omega
theorem pI_r (L : zL) (x y : Int) : -1 ≤ pI L x y ∧ pI L x y ≤ 1 := sgn_r _
theorem signOf_eq {a : Int} (ha : -1000000000000000 ≤ a ∧ a ≤ 1000000000000000) : FX8_signOf (iJ a) = some (iI (sgn a)) := by
  unfold FX8_signOf sgn
  rw [show (0 : Int64) = iJ 0 from rfl, jC (by omega) (by omega)]
  by_cases h1 : 0 < a
  · rw [if_pos h1, if_pos (by decide), if_pos h1]; rfl
  · rw [if_neg h1]
    by_cases h2 : a = 0
    · rw [if_pos h2, if_neg (by decide), if_neg (by decide), if_neg h1, if_neg (show ¬ a < 0 by omega)]; rfl
    · rw [if_neg h2, if_neg (by decide), if_pos (by decide), if_neg h1, if_pos (show a < 0 by omega)]; rfl
theorem at_eqN {x y : Int} (hx : -25 ≤ x ∧ x ≤ 25) (hy : -25 ≤ y ∧ y ≤ 25) : FX8_at (iI x) (iI y) = some (iI (plN x y : Nat)) := by rw [at_eq, plN_I hx hy]
theorem parityOf_eq {L : zL} {M : zMem} (hr : zRL L) {x y : Int} (hx : -24 ≤ x ∧ x ≤ 24) (hy : -24 ≤ y ∧ y ≤ 24) (h1 : zLt 107 108 L M (x + 1) y) (h2 : zLt 107 108 L M (x - 1) y) (h3 : zLt 107 108 L M x (y + 1)) (h4 : zLt 107 108 L M x (y - 1)) : FX8_parityOf (iI x) (iI y) M = some (iI (pI L x y)) := by
  have p1 := plN_lt (x := x + 1) (y := y) (by omega) (by omega)
  have p2 := plN_lt (x := x - 1) (y := y) (by omega) (by omega)
  have p3 := plN_lt (x := x) (y := y + 1) (by omega) (by omega)
  have p4 := plN_lt (x := x) (y := y - 1) (by omega) (by omega)
  have a1 := dXx_le hr (x := x) (y := y) (by omega) (by omega) 0
  have a2 := dXx_le hr (x := x) (y := y) (by omega) (by omega) 1
  have a3 := dYy_le hr (x := x) (y := y) (by omega) (by omega) 0
  have a4 := dYy_le hr (x := x) (y := y) (by omega) (by omega) 1
  have m1 := mul_rng a1 a4
  have m2 := mul_rng a2 a3
  have e1 : lI L (x + 1) y 0 - lI L (x - 1) y 0 = dXx L x y 0 := rfl
  have e2 : lI L (x + 1) y 1 - lI L (x - 1) y 1 = dXx L x y 1 := rfl
  have e3 : lI L x (y + 1) 0 - lI L x (y - 1) 0 = dYy L x y 0 := rfl
  have e4 : lI L x (y + 1) 1 - lI L x (y - 1) 1 = dYy L x y 1 := rfl
  unfold FX8_parityOf
  simp only [zlet]
  rw [show (1 : Int32) = iI 1 from rfl, iA, iS, iA, iS, at_eqN (by omega) (by omega), at_eqN (by omega) (by omega), at_eqN (by omega) (by omega), at_eqN (by omega) (by omega)]
  simp only [Option.bind_some]
  rw [zgI (by omega) (by omega) (by omega), zgI (by omega) (by omega) (by omega), zgI (by omega) (by omega) (by omega), zgI (by omega) (by omega) (by omega), zgI (by omega) (by omega) (by omega), zgI (by omega) (by omega) (by omega), zgI (by omega) (by omega) (by omega), zgI (by omega) (by omega) (by omega)]
  rw [zrI _ _ (by omega) (by omega), zrI _ _ (by omega) (by omega), zrI _ _ (by omega) (by omega), zrI _ _ (by omega) (by omega), zrI _ _ (by omega) (by omega), zrI _ _ (by omega) (by omega), zrI _ _ (by omega) (by omega), zrI _ _ (by omega) (by omega)]
  simp only [Int.toNat_natCast]
  rw [h1.1, h2.1, h3.1, h4.1, h1.2, h2.2, h3.2, h4.2, iS, iS, iS, iS, e1, e2, e3, e4, jI (by omega) (by omega), jI (by omega) (by omega), jI (by omega) (by omega), jI (by omega) (by omega), jM, jM, jS, signOf_eq (by omega)]
  rfl
theorem pxN_I {x y : Int} (hx : -24 ≤ x ∧ x ≤ 24) (hy : -24 ≤ y ∧ y ≤ 24) : iI ((y + 24) * 49 + x + 24) = iI (pxN x y : Nat) := by
  unfold pxN
  congr 1
  omega
theorem parityAt_eq {L : zL} {M : zMem} (h : zPlC L M) {x y : Int} (hx : -24 ≤ x ∧ x ≤ 24) (hy : -24 ≤ y ∧ y ≤ 24) : FX3_parityAt (iI x) (iI y) M = some (iI (pI L x y)) := by
  obtain ⟨p1, p2, p3⟩ := pxN_of hx hy
  have := (h.2 _ p1).2
  unfold FX3_parityAt
  rw [pixelAt_eq, Option.bind_some, pxN_I hx hy, zgI (by omega) (by omega) (by omega), zrI _ _ (by omega) (by omega), Int.toNat_natCast, this, p2, p3]
/-- the pixel is critical -/
abbrev crP (L : zL) (x y : Int) : Prop := (x < 24 ∧ pI L (x + 1) y ≠ pI L x y) ∨ (y < 24 ∧ pI L x (y + 1) ≠ pI L x y)
theorem pI_iEq (L : zL) (x y x' y' : Int) : iI (pI L x y) = iI (pI L x' y') ↔ pI L x y = pI L x' y' := iEq (by have := pI_r L x y; omega) (by have := pI_r L x' y'; omega)
theorem isCritical_eq {L : zL} {M : zMem} (h : zPlC L M) {x y : Int} (hx : -24 ≤ x ∧ x ≤ 24) (hy : -24 ≤ y ∧ y ≤ 24) : FX3_isCritical (iI x) (iI y) M = some (zb (crP L x y)) := by
  unfold FX3_isCritical
  rw [parityAt_eq h hx hy, Option.bind_some, show (24 : Int32) = iI 24 from rfl, show (1 : Int32) = iI 1 from rfl, iA, iA]
  simp only [zj]
  have tail : (if iI y < iI 24 then ((FX3_parityAt (iI x) (iI (y + 1)) M).bind fun b8 => if b8 = iI (pI L x y) then (some (0 : Int32)) else (some (iI 1))) else (some (0 : Int32))) = some (zb (y < 24 ∧ pI L x (y + 1) ≠ pI L x y)) := by
    by_cases g : y < 24
    · rw [if_pos ((iLt (by omega) (by omega)).mpr g), parityAt_eq h hx (by omega), Option.bind_some]
      by_cases e : pI L x (y + 1) = pI L x y
      · rw [if_pos ((pI_iEq _ _ _ _ _).mpr e)]
        unfold zb
        rw [if_neg (fun z => z.2 e)]
      · rw [if_neg (fun z => e ((pI_iEq _ _ _ _ _).mp z))]
        unfold zb
        rw [if_pos ⟨g, e⟩]
        rfl
    · rw [if_neg (fun z => g ((iLt (by omega) (by omega)).mp z))]
      unfold zb
      rw [if_neg (fun z => g z.1)]
  rw [tail]
  by_cases g : x < 24
  · rw [if_pos ((iLt (by omega) (by omega)).mpr g), parityAt_eq h (by omega) hy, Option.bind_some]
    by_cases e : pI L (x + 1) y = pI L x y
    · rw [if_pos ((pI_iEq _ _ _ _ _).mpr e)]
      exact congrArg some (zb_congr ⟨Or.inr, fun z => z.elim (fun z => absurd e z.2) id⟩)
    · rw [if_neg (fun z => e ((pI_iEq _ _ _ _ _).mp z))]
      unfold zb
      rw [if_pos (show crP L x y from Or.inl ⟨g, e⟩)]
      rfl
  · rw [if_neg (fun z => g ((iLt (by omega) (by omega)).mp z))]
    exact congrArg some (zb_congr ⟨Or.inr, fun z => z.elim (fun z => absurd z.1 g) id⟩)
theorem criticalNow_eq {L : zL} {M : zMem} {x y : Int} (hx : -24 ≤ x ∧ x ≤ 24) (hy : -24 ≤ y ∧ y ≤ 24) (h0 : FX8_parityOf (iI x) (iI y) M = some (iI (pI L x y))) (h1 : x < 24 → FX8_parityOf (iI (x + 1)) (iI y) M = some (iI (pI L (x + 1) y))) (h2 : y < 24 → FX8_parityOf (iI x) (iI (y + 1)) M = some (iI (pI L x (y + 1)))) : FX8_criticalNow (iI x) (iI y) M = some (zb (crP L x y)) := by
  unfold FX8_criticalNow
  rw [h0, Option.bind_some, show (24 : Int32) = iI 24 from rfl, show (1 : Int32) = iI 1 from rfl, iA, iA]
  simp only [zj]
  have tail : (if iI y < iI 24 then ((FX8_parityOf (iI x) (iI (y + 1)) M).bind fun b8 => if b8 = iI (pI L x y) then (some (0 : Int32)) else (some (iI 1))) else (some (0 : Int32))) = some (zb (y < 24 ∧ pI L x (y + 1) ≠ pI L x y)) := by
    by_cases g : y < 24
    · rw [if_pos ((iLt (by omega) (by omega)).mpr g), h2 g, Option.bind_some]
      by_cases e : pI L x (y + 1) = pI L x y
      · rw [if_pos ((pI_iEq _ _ _ _ _).mpr e)]
        unfold zb
        rw [if_neg (fun z => z.2 e)]
      · rw [if_neg (fun z => e ((pI_iEq _ _ _ _ _).mp z))]
        unfold zb
        rw [if_pos ⟨g, e⟩]
        rfl
    · rw [if_neg (fun z => g ((iLt (by omega) (by omega)).mp z))]
      unfold zb
      rw [if_neg (fun z => g z.1)]
  rw [tail, if_pos True.intro, if_neg (show ¬ iI 1 = 0 by decide)]
  by_cases g : x < 24
  · rw [if_pos ((iLt (by omega) (by omega)).mpr g), h1 g, Option.bind_some]
    by_cases e : pI L (x + 1) y = pI L x y
    · rw [if_pos ((pI_iEq _ _ _ _ _).mpr e)]
      exact congrArg some (zb_congr ⟨Or.inr, fun z => z.elim (fun z => absurd e z.2) id⟩)
    · rw [if_neg (fun z => e ((pI_iEq _ _ _ _ _).mp z))]
      unfold zb
      rw [if_pos (show crP L x y from Or.inl ⟨g, e⟩)]
      rfl
  · rw [if_neg (fun z => g ((iLt (by omega) (by omega)).mp z))]
    exact congrArg some (zb_congr ⟨Or.inr, fun z => z.elim (fun z => absurd z.1 g) id⟩)
