/-! ===== stretch ===== -/
theorem jOf (x : Int64) : ∃ z : Int, -9223372036854775808 ≤ z ∧ z ≤ 9223372036854775807 ∧ x = iJ z := ⟨x.toInt, by have := Int64.le_toInt x; omega, by have := Int64.toInt_lt x; omega, (Int64.ofInt_toInt x).symm⟩
theorem lg_neg (x : Int64) : lg_cmp x (iJ 0) < 0 ↔ x < 0 := by
  obtain ⟨z, h1, h2, rfl⟩ := jOf x
  rw [jC ⟨h1, h2⟩ (by omega), show (0 : Int64) = iJ 0 from rfl, jLt ⟨h1, h2⟩ (by omega)]
  by_cases h : 0 < z
  · rw [if_pos h]; exact ⟨fun w => absurd w (by decide), fun w => by omega⟩
  · rw [if_neg h]
    by_cases h3 : z = 0
    · rw [if_pos h3]; exact ⟨fun w => absurd w (by decide), fun w => by omega⟩
    · rw [if_neg h3]; exact ⟨fun _ => by omega, fun _ => by decide⟩
theorem floorDiv128 {a : Int} (h1 : -1000000000000 ≤ a) (h2 : a ≤ 1000000000000) : FJ9_floorDiv_f86c9 (iJ a) 128 = some (iJ (a / 128)) := by
  unfold FJ9_floorDiv_f86c9
  simp only [zlet]
  have ed := Int.tdiv_eq_ediv (a := a) (b := 128)
  have es : Int.sign 128 = 1 := rfl
  rw [es] at ed
  have hx : lg_cmp (iJ a ^^^ iJ 128) (iJ 0) < 0 ↔ a < 0 := by
    rw [lg_neg, xorj_neg, jT (by omega) (by omega), jT (by omega) (by omega)]
    simp
  rw [show (128 : Int64) = iJ 128 from rfl, show (0 : Int64) = iJ 0 from rfl, show (1 : Int64) = iJ 1 from rfl, if_neg (fun z => by rw [jEq (by omega) (by omega)] at z; omega), jD (by omega) (by omega), jM, jS]
  by_cases hn : a < 0
  · rw [if_pos (hx.mpr hn)]
    by_cases hd : (128 : Int) ∣ a
    · rw [if_pos (show (0 ≤ a ∨ (128 : Int) ∣ a) from Or.inr hd)] at ed
      rw [jC (by omega) (by omega), if_neg (show ¬ a < a.tdiv 128 * 128 by omega), if_pos (show a.tdiv 128 * 128 = a by omega), if_pos rfl, ed]
      congr 2
      omega
    · rw [if_neg (show ¬ (0 ≤ a ∨ (128 : Int) ∣ a) from fun z => by rcases z with z | z; omega; exact hd z)] at ed
      rw [jC (by omega) (by omega), if_pos (show a < a.tdiv 128 * 128 by omega), if_neg (by decide), ed]
      congr 2
      omega
  · rw [if_neg (fun z => hn (hx.mp z))]
    rw [if_pos (show (0 ≤ a ∨ (128 : Int) ∣ a) from Or.inl (by omega))] at ed
    rw [ed]
    congr 2
    omega
theorem floored128 {a : Int} (h1 : -1000000000000 ≤ a) (h2 : a ≤ 1000000000000) : FX8_floored (iJ a) 128 = some (iI (a / 128)) := by
  unfold FX8_floored
  simp only [zlet]
  have ed := Int.tdiv_eq_ediv (a := a) (b := 128)
  have es : Int.sign 128 = 1 := rfl
  rw [es] at ed
  have em := Int.tmod_def a 128
  rw [show (128 : Int32).toInt64 = iJ 128 from rfl, show (0 : Int64) = iJ 0 from rfl, show (1 : Int64) = iJ 1 from rfl]
  rw [if_neg (fun z => by rw [jEq (by omega) (by omega)] at z; omega), if_neg (fun z => by rw [jEq (by omega) (by omega)] at z; omega), jD (by omega) (by omega), jR (by omega) (by omega), jS, jC (by omega) (by omega)]
  refine zj_p (r := some (iI (a / 128))) (fun y => y = iJ (a / 128)) (fun y hy => ?_) (fun k hk => ?_)
  · rw [hy, iJI]
  · by_cases hd : 0 ≤ a ∨ (128 : Int) ∣ a
    · rw [if_pos hd] at ed
      rw [if_neg]
      · exact hk _ (congrArg iJ (by omega))
      · by_cases h3 : (0 : Int) < a.tmod 128
        · rw [if_pos h3]; decide
        · rw [if_neg h3, if_pos (by omega)]; decide
    · rw [if_neg hd] at ed
      rw [if_pos]
      · exact hk _ (congrArg iJ (by omega))
      · rw [if_neg (by omega), if_neg (by omega)]; decide
def tS (L : zL) (x y : Int) : Int := 2 * (dXx L x y 1 + dYy L x y 0) * x * y - (dXx L x y 0 - dYy L x y 1) * (x * x - y * y)
abbrev onS (n x y : Int) : Prop := x = n ∨ x = -n ∨ y = n ∨ y = -n
def eS (L : zL) (n x y : Int) : Int := if onS n x y then tS L x y else 0
def rwS (L : zL) (n y : Int) : Nat → Int
  | 0 => 0
  | i + 1 => rwS L n y i + eS L n (-n + i) y
def alS (L : zL) (n : Nat) : Nat → Int
  | 0 => 0
  | j + 1 => alS L n j + rwS L n (-n + j) (2 * n + 1)
theorem mul_nA {a b : Int} {m k : Nat} (ha : a.natAbs ≤ m) (hb : b.natAbs ≤ k) : (a * b).natAbs ≤ m * k := by
  rw [Int.natAbs_mul]
  exact Nat.mul_le_mul ha hb
theorem tS_le {L : zL} (hr : zRL L) {x y : Int} (hx : -24 ≤ x ∧ x ≤ 24) (hy : -24 ≤ y ∧ y ≤ 24) : -400000000 ≤ tS L x y ∧ tS L x y ≤ 400000000 := by
  have a1 := dXx_le hr (x := x) (y := y) (by omega) (by omega) 0
  have a2 := dXx_le hr (x := x) (y := y) (by omega) (by omega) 1
  have a3 := dYy_le hr (x := x) (y := y) (by omega) (by omega) 0
  have a4 := dYy_le hr (x := x) (y := y) (by omega) (by omega) 1
  have e1 : (2 * (dXx L x y 1 + dYy L x y 0)).natAbs ≤ 440000 := by omega
  have e2 := mul_nA (mul_nA e1 (show x.natAbs ≤ 24 by omega)) (show y.natAbs ≤ 24 by omega)
  have e3 : (dXx L x y 0 - dYy L x y 1).natAbs ≤ 220000 := by omega
  have e4 := mul_nA (show x.natAbs ≤ 24 by omega) (show x.natAbs ≤ 24 by omega)
  have e5 := mul_nA (show y.natAbs ≤ 24 by omega) (show y.natAbs ≤ 24 by omega)
  have e6 := sq_nn x
  have e7 := sq_nn y
  have e8 : (x * x - y * y).natAbs ≤ 576 := by omega
  have e9 := mul_nA e3 e8
  unfold tS
  omega
theorem eS_le {L : zL} (hr : zRL L) {n x y : Int} (hx : -24 ≤ x ∧ x ≤ 24) (hy : -24 ≤ y ∧ y ≤ 24) : -400000000 ≤ eS L n x y ∧ eS L n x y ≤ 400000000 := by
  have := tS_le hr hx hy
  unfold eS
  by_cases h : onS n x y
  · rw [if_pos h]; exact this
  · rw [if_neg h]; omega
theorem rwS_le {L : zL} (hr : zRL L) {n y : Int} (hn : 0 ≤ n ∧ n ≤ 24) (hy : -24 ≤ y ∧ y ≤ 24) : ∀ i : Nat, (i : Int) ≤ 2 * n + 1 → -400000000 * (i : Int) ≤ rwS L n y i ∧ rwS L n y i ≤ 400000000 * (i : Int) := by
  intro i
  induction i with
  | zero => intro _; exact ⟨Int.le_refl _, Int.le_refl _⟩
  | succ i ih =>
    intro h
    have := ih (by omega)
    have := eS_le hr (n := n) (x := -n + i) (y := y) (by omega) hy
    show _ ≤ rwS L n y i + eS L n (-n + i) y ∧ rwS L n y i + eS L n (-n + i) y ≤ _
    omega
theorem alS_le {L : zL} (hr : zRL L) {n : Nat} (hn : n ≤ 24) : ∀ j : Nat, j ≤ 2 * n + 1 → -19600000000 * (j : Int) ≤ alS L n j ∧ alS L n j ≤ 19600000000 * (j : Int) := by
  intro j
  induction j with
  | zero => intro _; exact ⟨Int.le_refl _, Int.le_refl _⟩
  | succ j ih =>
    intro h
    have := ih (by omega)
    have := rwS_le hr (n := n) (y := -n + j) (by omega) (by omega) (2 * n + 1) (by omega)
    show _ ≤ alS L n j + rwS L n (-n + j) (2 * n + 1) ∧ alS L n j + rwS L n (-n + j) (2 * n + 1) ≤ _
    omega
theorem sq_r {x : Int} (hx : -24 ≤ x ∧ x ≤ 24) : 0 ≤ x * x ∧ x * x ≤ 576 := by
  have e4 := mul_nA (show x.natAbs ≤ 24 by omega) (show x.natAbs ≤ 24 by omega)
  have e6 := sq_nn x
  omega
theorem doubled_eq {L : zL} {M : zMem} (hr : zRL L) {x y : Int} (hx : -24 ≤ x ∧ x ≤ 24) (hy : -24 ≤ y ∧ y ≤ 24) (h : ∀ x y, (-25 ≤ x ∧ x ≤ 25) → (-25 ≤ y ∧ y ≤ 25) → zLt 16 17 L M x y) : FX3_doubledStretchAt (iI x) (iI y) M = some (iJ (tS L x y)) := by
  have a1 := dXx_le hr (x := x) (y := y) (by omega) (by omega) 0
  have a2 := dXx_le hr (x := x) (y := y) (by omega) (by omega) 1
  have a3 := dYy_le hr (x := x) (y := y) (by omega) (by omega) 0
  have a4 := dYy_le hr (x := x) (y := y) (by omega) (by omega) 1
  have q1 := sq_r hx
  have q2 := sq_r hy
  unfold FX3_doubledStretchAt
  simp only [zlet]
  rw [placeAt_eq, Option.bind_some, plN_I (by omega) (by omega), across_eq (c1 := 17) (c2 := 17) (by decide) hx (by omega) (ax := 1) (fun x hx => (h x y hx (by omega)).2), Option.bind_some, down_eq (c1 := 16) (by decide) (by omega) hy (ax := 0) (fun y hy => (h x y (by omega) hy).1), Option.bind_some, across_eq (c1 := 16) (c2 := 16) (by decide) hx (by omega) (ax := 0) (fun x hx => (h x y hx (by omega)).1), Option.bind_some, down_eq (c1 := 17) (by decide) (by omega) hy (ax := 1) (fun y hy => (h x y (by omega) hy).2), Option.bind_some, iA, iS, iM, iM, iS, jI (by omega) (by omega), jI (by omega) (by omega), jI (by omega) (by omega), jI (by omega) (by omega), jI (by omega) (by omega), show (2 : Int64) = iJ 2 from rfl, jM, jM, jM, jM, jS]
  rfl
theorem abs_n {n : Nat} {x y : Int} (hx : -(n : Int) ≤ x ∧ x ≤ n) (hy : -(n : Int) ≤ y ∧ y ≤ n) : (if ((x.natAbs : Nat) : Int) < (y.natAbs : Nat) then ((y.natAbs : Nat) : Int) else (x.natAbs : Nat)) = n ↔ onS n x y := by
  unfold onS
  by_cases h : ((x.natAbs : Nat) : Int) < (y.natAbs : Nat)
  · rw [if_pos h]; omega
  · rw [if_neg h]; omega
theorem rwC {L : zL} {M : zMem} (hr : zRL L) (h : ∀ x y, (-25 ≤ x ∧ x ≤ 25) → (-25 ≤ y ∧ y ≤ 25) → zLt 16 17 L M x y) {n : Nat} {y a : Int} (hn : n ≤ 24) (hy : -(n : Int) ≤ y ∧ y ≤ n) (r4 : (Int64 × Int32) → Option Int32) (s5 : Int64 × Int32) (h5 : s5.2 = iI y) : zloop (FX3_stretchOf_L16 M r4 s5 (iI n)) zFuel (iJ a, iI (-n)) = r4 (iJ (a + rwS L n y (2 * n + 1)), iI (y + 1)) := by
  refine zloop_end (f := FX3_stretchOf_L16 M r4 s5 (iI n)) (fun i => (iJ (a + rwS L n y i), iI (-n + (i : Int)))) (2 * n + 1) ?_ (fun i hi rec => ?_) (fun rec => ?_) (zfu (by omega))
  · show (iJ a, iI (-n)) = (iJ (a + 0), iI (-n + ((0 : Nat) : Int)))
    rw [show a + 0 = a by omega, show -(n : Int) + ((0 : Nat) : Int) = -n by omega]
  · unfold FX3_stretchOf_L16
    simp only [zlet]
    have en : -(n : Int) + ((i + 1 : Nat) : Int) = -(n : Int) + (i : Int) + 1 := by omega
    rw [if_neg (fun z => by have := (iLt (a := n) (b := -n + (i : Int)) (by omega) (by omega)).mp z; omega), h5, abs_I (by omega), Option.bind_some, abs_I (by omega), Option.bind_some, maxI (by omega) (by omega), Option.bind_some, show (1 : Int32) = iI 1 from rfl, iA, en]
    have ab := abs_n (n := n) (x := -n + (i : Int)) (y := y) (by omega) hy
    by_cases hc : onS n (-n + (i : Int)) y
    · rw [if_pos (show iI _ = iI n by rw [ab.mpr hc]), doubled_eq hr (by omega) (by omega) h, Option.bind_some, jA]
      show rec (iJ (a + rwS L n y i + tS L (-n + i) y), _) = rec (iJ (a + (rwS L n y i + (if onS n (-n + (i : Int)) y then tS L (-n + i) y else 0))), _)
      rw [if_pos hc, Int.add_assoc]
    · rw [if_neg (fun z => hc (ab.mp ((iEq (by omega) (by omega)).mp z)))]
      show rec (iJ (a + rwS L n y i), _) = rec (iJ (a + (rwS L n y i + (if onS n (-n + (i : Int)) y then tS L (-n + i) y else 0))), _)
      rw [if_neg hc, Int.add_zero]
  · unfold FX3_stretchOf_L16
    simp only [zlet]
    rw [if_pos ((iLt (a := n) (b := -n + ((2 * n + 1 : Nat) : Int)) (by omega) (by omega)).mpr (by omega)), h5, show (1 : Int32) = iI 1 from rfl, iA]
theorem stretchC {L : zL} {M : zMem} (hr : zRL L) (h : ∀ x y, (-25 ≤ x ∧ x ≤ 25) → (-25 ≤ y ∧ y ≤ 25) → zLt 16 17 L M x y) {n : Nat} (hn : n ≤ 24) : FX3_stretchOf (iI n) M = some (iI (alS L n (2 * n + 1) / 128)) := by
  have hl := alS_le hr hn (2 * n + 1) (Nat.le_refl _)
  unfold FX3_stretchOf
  simp only [zlet]
  rw [iN]
  refine zloop_end (f := FX3_stretchOf_L6 M (iI n)) (fun j => (iJ (alS L n j), iI (-n + (j : Int)))) (2 * n + 1) ?_ (fun j hj rec => ?_) (fun rec => ?_) (zfu (by omega))
  · show ((0 : Int64), iI (-n)) = (iJ 0, iI (-n + ((0 : Nat) : Int)))
    rw [show -(n : Int) + ((0 : Nat) : Int) = -n by omega]
    rfl
  · unfold FX3_stretchOf_L6
    simp only [zlet]
    rw [if_neg (fun z => by have := (iLt (a := n) (b := -n + (j : Int)) (by omega) (by omega)).mp z; omega), iN, rwC hr h hn (y := -n + (j : Int)) (by omega) rec _ rfl, show -(n : Int) + ((j + 1 : Nat) : Int) = -(n : Int) + (j : Int) + 1 by omega]
    rfl
  · unfold FX3_stretchOf_L6
    rw [if_pos ((iLt (a := n) (b := -n + ((2 * n + 1 : Nat) : Int)) (by omega) (by omega)).mpr (by omega)), floorDiv128 (by omega) (by omega), Option.bind_some, iJI]
theorem rwM {L : zL} {M : zMem} (hr : zRL L) (h : zPlM L M) {n : Nat} {y a : Int} (hn : n ≤ 24) (hy : -(n : Int) ≤ y ∧ y ≤ n) (r6 : (Int64 × Int32) → Option (Int32 × zMem)) (s7 : Int64 × Int32) (h7 : s7.2 = iI y) : zloop (FX8_stretch_L33 M r6 s7 (iI n)) zFuel (iJ a, iI (-n)) = r6 (iJ (a + rwS L n y (2 * n + 1)), iI (y + 1)) := by
  refine zloop_end (f := FX8_stretch_L33 M r6 s7 (iI n)) (fun i => (iJ (a + rwS L n y i), iI (-n + (i : Int)))) (2 * n + 1) ?_ (fun i hi rec => ?_) (fun rec => ?_) (zfu (by omega))
  · show (iJ a, iI (-n)) = (iJ (a + 0), iI (-n + ((0 : Nat) : Int)))
    rw [show a + 0 = a by omega, show -(n : Int) + ((0 : Nat) : Int) = -n by omega]
  · have en : -(n : Int) + ((i + 1 : Nat) : Int) = -(n : Int) + (i : Int) + 1 := by omega
    unfold FX8_stretch_L33
    rw [if_neg (show ¬ iI n < iI (-n + (i : Int)) from fun z => by have := (iLt (a := n) (b := -n + (i : Int)) (by omega) (by omega)).mp z; omega)]
    show zj _ _ = rec (iJ (a + rwS L n y (i + 1)), iI (-(n : Int) + ((i + 1 : Nat) : Int)))
    rw [en]
    show zj _ _ = rec (iJ (a + (rwS L n y i + (if onS n (-n + (i : Int)) y then tS L (-n + i) y else 0))), _)
    have hx : -(n : Int) ≤ -n + (i : Int) ∧ -n + (i : Int) ≤ n := by omega
    simp only [h7]
    revert hx
    generalize -(n : Int) + (i : Int) = x
    intro hx
    have a1 := dXx_le hr (x := x) (y := y) (by omega) (by omega) 0
    have a2 := dXx_le hr (x := x) (y := y) (by omega) (by omega) 1
    have a3 := dYy_le hr (x := x) (y := y) (by omega) (by omega) 0
    have a4 := dYy_le hr (x := x) (y := y) (by omega) (by omega) 1
    have q1 := sq_r (x := x) (by omega)
    have q2 := sq_r (x := y) (by omega)
    have p1 := plN_lt (x := x + 1) (y := y) (by omega) (by omega)
    have p2 := plN_lt (x := x - 1) (y := y) (by omega) (by omega)
    have p3 := plN_lt (x := x) (y := y + 1) (by omega) (by omega)
    have p4 := plN_lt (x := x) (y := y - 1) (by omega) (by omega)
    have h1 := h (x + 1) y (by omega) (by omega)
    have h2 := h (x - 1) y (by omega) (by omega)
    have h3 := h x (y + 1) (by omega) (by omega)
    have h4 := h x (y - 1) (by omega) (by omega)
    have e1 : lI L (x + 1) y 0 - lI L (x - 1) y 0 = dXx L x y 0 := rfl
    have e2 : lI L (x + 1) y 1 - lI L (x - 1) y 1 = dXx L x y 1 := rfl
    have e3 : lI L x (y + 1) 0 - lI L x (y - 1) 0 = dYy L x y 0 := rfl
    have e4 : lI L x (y + 1) 1 - lI L x (y - 1) 1 = dYy L x y 1 := rfl
    have kx1 : iI x = iI n ↔ x = n := iEq (by omega) (by omega)
    have kx2 : iI x = iI (-n) ↔ x = -n := iEq (by omega) (by omega)
    have ky1 : iI y = iI n ↔ y = n := iEq (by omega) (by omega)
    have ky2 : iI y = iI (-n) ↔ y = -n := iEq (by omega) (by omega)
    refine zj_c (V := fun _ => rec (iJ (a + (rwS L n y i + tS L x y)), iI (x + 1))) (fun _ => ?_) ?_
    · simp only [zlet]
      rw [show (1 : Int32) = iI 1 from rfl, iA, iS, iA, iS, at_eqN (by omega) (by omega), at_eqN (by omega) (by omega), at_eqN (by omega) (by omega), at_eqN (by omega) (by omega)]
      simp only [Option.bind_some]
      rw [zgI (by omega) (by omega) (by omega), zgI (by omega) (by omega) (by omega), zgI (by omega) (by omega) (by omega), zgI (by omega) (by omega) (by omega), zgI (by omega) (by omega) (by omega), zgI (by omega) (by omega) (by omega), zgI (by omega) (by omega) (by omega), zgI (by omega) (by omega) (by omega)]
      rw [zrI _ _ (by omega) (by omega), zrI _ _ (by omega) (by omega), zrI _ _ (by omega) (by omega), zrI _ _ (by omega) (by omega), zrI _ _ (by omega) (by omega), zrI _ _ (by omega) (by omega), zrI _ _ (by omega) (by omega), zrI _ _ (by omega) (by omega)]
      simp only [Int.toNat_natCast]
      rw [h1.1, h2.1, h3.1, h4.1, h1.2, h2.2, h3.2, h4.2, iS, iS, iS, iS, iM, iM, iS, e1, e2, e3, e4, jI (by omega) (by omega), jI (by omega) (by omega), jI (by omega) (by omega), jI (by omega) (by omega), jI (by omega) (by omega), jI (by omega) (by omega), jI (by omega) (by omega), show (2 : Int64) = iJ 2 from rfl, jA, jS, jM, jM, jM, jM, jS, jA, Int.add_assoc]
      rfl
    · simp only [zlet]
      rw [iN, show (1 : Int32) = iI 1 from rfl, iA]
      by_cases hc : onS n x y
      · rw [if_pos hc]
        by_cases c1 : x = n
        · rw [if_pos (kx1.mpr c1)]
        · rw [if_neg (fun z => c1 (kx1.mp z))]
          by_cases c2 : x = -n
          · rw [if_pos (kx2.mpr c2)]
          · rw [if_neg (fun z => c2 (kx2.mp z))]
            by_cases c3 : y = n
            · rw [if_pos (ky1.mpr c3)]
            · rw [if_neg (fun z => c3 (ky1.mp z)), if_pos (ky2.mpr (by unfold onS at hc; omega))]
      · rw [if_neg hc, if_neg (fun z => hc (Or.inl (kx1.mp z))), if_neg (fun z => hc (Or.inr (Or.inl (kx2.mp z)))), if_neg (fun z => hc (Or.inr (Or.inr (Or.inl (ky1.mp z))))), if_neg (fun z => hc (Or.inr (Or.inr (Or.inr (ky2.mp z))))), Int.add_zero]
  · unfold FX8_stretch_L33
    simp only [zlet]
    rw [if_pos ((iLt (a := n) (b := -n + ((2 * n + 1 : Nat) : Int)) (by omega) (by omega)).mpr (by omega)), h7, show (1 : Int32) = iI 1 from rfl, iA]
theorem stretchM {L : zL} {M : zMem} (hr : zRL L) (h : zPlM L M) {n : Nat} (hn : n ≤ 24) : zloop (FX8_stretch_L23 M (iI n)) zFuel ((0 : Int64), -iI n) = some (iI (alS L n (2 * n + 1) / 128), M) := by
  have hl := alS_le hr hn (2 * n + 1) (Nat.le_refl _)
  rw [iN]
  refine zloop_end (f := FX8_stretch_L23 M (iI n)) (fun j => (iJ (alS L n j), iI (-n + (j : Int)))) (2 * n + 1) ?_ (fun j hj rec => ?_) (fun rec => ?_) (zfu (by omega))
  · show ((0 : Int64), iI (-n)) = (iJ 0, iI (-n + ((0 : Nat) : Int)))
    rw [show -(n : Int) + ((0 : Nat) : Int) = -n by omega]
    rfl
  · unfold FX8_stretch_L23
    simp only [zlet]
    rw [if_neg (fun z => by have := (iLt (a := n) (b := -n + (j : Int)) (by omega) (by omega)).mp z; omega), iN, rwM hr h hn (y := -n + (j : Int)) (by omega) rec _ rfl, show -(n : Int) + ((j + 1 : Nat) : Int) = -(n : Int) + (j : Int) + 1 by omega]
    rfl
  · unfold FX8_stretch_L23
    rw [if_pos ((iLt (a := n) (b := -n + ((2 * n + 1 : Nat) : Int)) (by omega) (by omega)).mpr (by omega)), floored128 (by omega) (by omega), Option.bind_some]
theorem stretch_case (x0 : Int32) : zCase (FX7_stretch x0) (FX8_stretch x0) := by
  refine zCase.of (fun S hR => ?_)
  obtain ⟨n, hn1, hn2, rfl⟩ := iOf x0
  by_cases h : 1 ≤ (iI n).toInt ∧ (iI n).toInt ≤ 24
  · have h' := h
    rw [iT hn1 hn2] at h'
    have en : iI n = iI (n.toNat : Nat) := by congr 1; omega
    refine ⟨iI (alS S.1 n.toNat (2 * n.toNat + 1) / 128), S, hR, fun M hC => ?_, fun M hM => ?_⟩
    · obtain ⟨M1, a1, a2, a3, a4, a5⟩ := hC.look hR
      refine ⟨M1, ?_, a2, a5.agM (by decide)⟩
      unfold FX7_stretch
      rw [within_1_24, Option.bind_some, zb_if, if_pos h, a1, Option.bind_some, en, stretchC hR.1 a4.1 (by omega), Option.bind_some]
    · obtain ⟨M1, a1, a2, a3⟩ := findPlane_eq hM.1 hR.1
      refine ⟨M1, ?_, hM.qf (by decide) a3, a3.agC (by decide)⟩
      unfold FX8_stretch
      rw [in_1_24, Option.bind_some, zb_if, if_pos h, a1, Option.bind_some]
      simp only [zlet]
      rw [en]
      exact stretchM hR.1 a2 (by omega)
  · refine ⟨-1000000000, S, hR, fun M hC => ⟨M, ?_, hC, zagM.rf⟩, fun M hM => ⟨M, ?_, hM, zagC.rf⟩⟩
    · unfold FX7_stretch
      rw [within_1_24, Option.bind_some, zb_if, if_neg h]
    · unfold FX8_stretch
      rw [in_1_24, Option.bind_some, zb_if, if_neg h]
