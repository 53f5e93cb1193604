/-! ===== bends and light, as whole numbers ===== -/
def bR (F : Nat → Int) (x y : Int) : Int := (x - F 1) * (x - F 1) + (y - F 2) * (y - F 2)
def bD (F : Nat → Int) (x y ax : Int) : Int := if ax = 0 then x - F 1 else y - F 2
def bP (F : Nat → Int) (w x y ax : Int) : Int := (16 * w * bD F x y ax).tdiv (bR F x y)
def bV (F : Nat → Int) (kd w x y ax : Int) : Int := if bR F x y = 0 then 0 else if kd = 2 ∧ F 5 * F 5 < bR F x y then 0 else if kd = 0 then bP F w x y ax else (bP F w x y ax * bR F x y).tdiv (bR F x y + F 4)
theorem nA_le {a : Int} {n : Nat} : a.natAbs ≤ n ↔ -(n : Int) ≤ a ∧ a ≤ n := by omega
theorem sq_ge {a : Int} : (a.natAbs : Int) ≤ a * a := by
  have h := Int.natAbs_mul_self (a := a)
  have h2 : a.natAbs ≤ a.natAbs * a.natAbs := Nat.le_mul_self _
  rw [← h]
  exact_mod_cast h2
theorem sq_nn (a : Int) : 0 ≤ a * a := by
  have := sq_ge (a := a)
  omega
theorem bR_nn (F : Nat → Int) (x y : Int) : 0 ≤ bR F x y := by
  unfold bR
  have h1 := sq_nn (x - F 1)
  have h2 := sq_nn (y - F 2)
  omega
theorem sq_le {a : Int} {n : Nat} (h : a.natAbs ≤ n) : a * a ≤ (n * n : Nat) := by
  have h1 := Int.natAbs_mul_self (a := a)
  rw [← h1]
  exact_mod_cast Nat.mul_le_mul h h
/-- features within their ranges -/
def fIn (F : Nat → Int) : Prop := ∀ f, f < 6 → fLo f ≤ F f ∧ F f ≤ fHi f
theorem fIn.all {F : Nat → Int} (h : fIn F) : (0 ≤ F 0 ∧ F 0 ≤ 2) ∧ (-40 ≤ F 1 ∧ F 1 ≤ 40) ∧ (-40 ≤ F 2 ∧ F 2 ≤ 40) ∧ (0 ≤ F 3 ∧ F 3 ≤ 400) ∧ (0 ≤ F 4 ∧ F 4 ≤ 900) ∧ (0 ≤ F 5 ∧ F 5 ≤ 90) :=
  ⟨h 0 (by decide), h 1 (by decide), h 2 (by decide), h 3 (by decide), h 4 (by decide), h 5 (by decide)⟩
theorem bR_le {F : Nat → Int} (h : fIn F) {x y : Int} (hx : -60 ≤ x ∧ x ≤ 60) (hy : -60 ≤ y ∧ y ≤ 60) : bR F x y ≤ 20000 := by
  obtain ⟨-, h1, h2, -⟩ := h.all
  have a1 := sq_le (a := x - F 1) (n := 100) (by omega)
  have a2 := sq_le (a := y - F 2) (n := 100) (by omega)
  unfold bR
  omega
theorem bD_le (F : Nat → Int) (x y ax : Int) : ((bD F x y ax).natAbs : Int) ≤ bR F x y := by
  unfold bD bR
  have h1 := sq_nn (x - F 1)
  have h2 := sq_nn (y - F 2)
  by_cases h : ax = 0
  · rw [if_pos h]
    have := sq_ge (a := x - F 1)
    omega
  · rw [if_neg h]
    have := sq_ge (a := y - F 2)
    omega
theorem bD_100 {F : Nat → Int} (h : fIn F) {x y : Int} (hx : -60 ≤ x ∧ x ≤ 60) (hy : -60 ≤ y ∧ y ≤ 60) (ax : Int) : -100 ≤ bD F x y ax ∧ bD F x y ax ≤ 100 := by
  obtain ⟨-, h1, h2, -⟩ := h.all
  unfold bD
  by_cases h : ax = 0
  · rw [if_pos h]; omega
  · rw [if_neg h]; omega
/-- the product before the division -/
theorem bQ_le {w d : Int} (hw : 0 ≤ w ∧ w ≤ 400) (hd : -100 ≤ d ∧ d ≤ 100) : (16 * w * d).natAbs ≤ 640000 := by
  rw [Int.natAbs_mul]
  have h1 : (16 * w).natAbs ≤ 6400 := by omega
  have h2 : d.natAbs ≤ 100 := by omega
  exact Nat.le_trans (Nat.mul_le_mul h1 h2) (by decide)
theorem tdiv_mul_nA (a b : Int) : (a.tdiv b * b).natAbs ≤ a.natAbs := by
  rw [Int.natAbs_mul, Int.natAbs_tdiv]
  exact Nat.div_mul_le_self _ _
/-- a bend by POINT is at most 16 weights -/
theorem bP_le {F : Nat → Int} {w x y ax : Int} (hw : 0 ≤ w) : (bP F w x y ax).natAbs ≤ 16 * w.natAbs := by
  unfold bP
  rw [Int.natAbs_tdiv, Int.natAbs_mul]
  have h1 := bD_le F x y ax
  have h2 : (bD F x y ax).natAbs ≤ (bR F x y).natAbs := by omega
  have h3 : (16 * w).natAbs = 16 * w.natAbs := by omega
  rw [h3]
  refine Nat.div_le_of_le_mul ?_
  rw [Nat.mul_comm]
  exact Nat.mul_le_mul_right _ h2
theorem bPR_le {F : Nat → Int} (h : fIn F) {w x y : Int} (hw : 0 ≤ w ∧ w ≤ 400) (hx : -60 ≤ x ∧ x ≤ 60) (hy : -60 ≤ y ∧ y ≤ 60) (ax : Int) : (bP F w x y ax * bR F x y).natAbs ≤ 640000 := by
  unfold bP
  exact Nat.le_trans (tdiv_mul_nA _ _) (bQ_le hw (bD_100 h hx hy ax))
theorem bV_le {F : Nat → Int} (h : fIn F) {kd w x y : Int} (hw : 0 ≤ w ∧ w ≤ 400) (ax : Int) : -6400 ≤ bV F kd w x y ax ∧ bV F kd w x y ax ≤ 6400 := by
  have h4 := h.all.2.2.2.2.1
  have hp := bP_le (F := F) (x := x) (y := y) (ax := ax) hw.1
  have hp2 : (bP F w x y ax).natAbs ≤ 6400 := by omega
  have hr := bR_nn F x y
  unfold bV
  by_cases h0 : bR F x y = 0
  · rw [if_pos h0]; omega
  · rw [if_neg h0]
    by_cases h1 : kd = 2 ∧ F 5 * F 5 < bR F x y
    · rw [if_pos h1]; omega
    · rw [if_neg h1]
      by_cases h2 : kd = 0
      · rw [if_pos h2]; omega
      · rw [if_neg h2]
        have e : ((bP F w x y ax * bR F x y).tdiv (bR F x y + F 4)).natAbs ≤ (bP F w x y ax).natAbs := by
          rw [Int.natAbs_tdiv, Int.natAbs_mul]
          refine Nat.div_le_of_le_mul ?_
          rw [Nat.mul_comm]
          exact Nat.mul_le_mul_right _ (by omega)
        omega
