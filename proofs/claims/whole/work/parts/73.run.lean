/-! ===== the run ===== -/
def zI (S : zSt) (M : zMem) : Prop := zRS S ∧ zIC S M ∧ zIM S M
theorem lg_self (x : Int64) : lg_cmp x x = 0 := by
  obtain ⟨z, h1, h2, rfl⟩ := jOf x
  rw [jC ⟨h1, h2⟩ ⟨h1, h2⟩, if_neg (Int.lt_irrefl _), if_pos rfl]
theorem stepC {F7 F8 : zMem → Option (Int32 × zMem)} (h : zCase F7 F8) {S : zSt} {M : zMem} (hI : zI S M) {p : Int32} {rec : (Int32 × zMem) → Option Int32} (ih : ∀ S M, zI S M → rec (p, M) = some 1) : ((F7 M).bind fun b97 => (F8 b97.2).bind fun b98 => if b97.1 = b98.1 then rec (p, b98.2) else some (0 : Int32)) = some 1 := by
  obtain ⟨r, M1, M2, S', h1, h2, h3, h4, h5⟩ := h S M hI.1 hI.2.1 hI.2.2
  rw [h1, Option.bind_some]
  dsimp only
  rw [h2, Option.bind_some, if_pos rfl]
  exact ih S' M2 ⟨h3, h4, h5⟩
theorem stepP {F7 F8 : zMem → Option Int32} (h : zCaseP F7 F8) {S : zSt} {M : zMem} (hI : zI S M) {p : Int32} {rec : (Int32 × zMem) → Option Int32} (ih : ∀ S M, zI S M → rec (p, M) = some 1) : ((F7 M).bind fun b97 => (F8 M).bind fun b98 => if b97 = b98 then rec (p, M) else some (0 : Int32)) = some 1 := by
  obtain ⟨r, h1, h2⟩ := h S M hI.1 hI.2.1 hI.2.2
  rw [h1, Option.bind_some, h2, Option.bind_some, if_pos rfl]
  exact ih S M hI
theorem stepJ {F7 F8 : zMem → Option Int64} (h : zCaseP F7 F8) {S : zSt} {M : zMem} (hI : zI S M) {p : Int32} {rec : (Int32 × zMem) → Option Int32} (ih : ∀ S M, zI S M → rec (p, M) = some 1) : ((F7 M).bind fun b97 => (F8 M).bind fun b98 => if (lg_cmp b97 b98) = 0 then rec (p, M) else some (0 : Int32)) = some 1 := by
  obtain ⟨r, h1, h2⟩ := h S M hI.1 hI.2.1 hI.2.2
  rw [h1, Option.bind_some, h2, Option.bind_some, if_pos (lg_self r)]
  exact ih S M hI
theorem stepD {x0 x1 x2 x3 x4 x5 : Int32} {S : zSt} {M : zMem} (hI : zI S M) {p : Int32} {rec : (Int32 × zMem) → Option Int32} (ih : ∀ S M, zI S M → rec (p, M) = some 1) : ((FX7_delay x0 x1 x2 x3 x4 x5 M).bind fun b97 => (FX8_delay x0 x1 x2 x3 x4 x5 b97.2).bind fun b98 => if (lg_cmp b97.1 b98) = 0 then rec (p, b97.2) else some (0 : Int32)) = some 1 := by
  obtain ⟨r, M1, h1, h2, h3⟩ := delay_case x0 x1 x2 x3 x4 x5 S M hI.1 hI.2.1 hI.2.2
  rw [h1, Option.bind_some]
  dsimp only
  rw [h2, Option.bind_some, if_pos (lg_self r)]
  exact ih S M1 ⟨hI.1, h3.1, h3.2⟩
theorem law_step {xs : Nat → Int32} {L i : Nat} (hL : L ≤ 3584) (hi : 7 * i + 7 ≤ L) {S : zSt} {M : zMem} (hI : zI S M) {rec : (Int32 × zMem) → Option Int32} (ih : ∀ S M, zI S M → rec (iI ((7 * i : Nat) : Int) + 7, M) = some 1) : FL_law_L18 L xs rec (iI ((7 * i : Nat) : Int), M) = some 1 := by
  have h0 : zin (iI ((7 * i : Nat) : Int)) L = true := iIn (by omega) (by omega) (by omega)
  have h1 : zin (iI ((7 * i : Nat) : Int) + 1) L = true := by rw [show (1 : Int32) = iI 1 from rfl, iA]; exact iIn (by omega) (by omega) (by omega)
  have h2 : zin (iI ((7 * i : Nat) : Int) + 2) L = true := by rw [show (2 : Int32) = iI 2 from rfl, iA]; exact iIn (by omega) (by omega) (by omega)
  have h3 : zin (iI ((7 * i : Nat) : Int) + 3) L = true := by rw [show (3 : Int32) = iI 3 from rfl, iA]; exact iIn (by omega) (by omega) (by omega)
  have h4 : zin (iI ((7 * i : Nat) : Int) + 4) L = true := by rw [show (4 : Int32) = iI 4 from rfl, iA]; exact iIn (by omega) (by omega) (by omega)
  have h5 : zin (iI ((7 * i : Nat) : Int) + 5) L = true := by rw [show (5 : Int32) = iI 5 from rfl, iA]; exact iIn (by omega) (by omega) (by omega)
  have h6 : zin (iI ((7 * i : Nat) : Int) + 6) L = true := by rw [show (6 : Int32) = iI 6 from rfl, iA]; exact iIn (by omega) (by omega) (by omega)
  unfold FL_law_L18
  dsimp only
  rw [show Int32.ofNat L = iI (L : Nat) from nIi L, if_neg (show ¬ iI (L : Int) - 7 < iI ((7 * i : Nat) : Int) from fun z => by
    rw [show (7 : Int32) = iI 7 from rfl, iS] at z
    have := (iLt (by omega) (by omega)).mp z
    omega), zgT h0]
  simp only [zgT h1, zgT h2, zgT h3, zgT h4, zgT h5, zgT h6, zlet_e]
  generalize xs (zcl (iI ((7 * i : Nat) : Int))) &&& (31 : Int32) = v
  by_cases e0 : v = 0
  · rw [if_pos e0]
    exact stepC (body_case _ _ _ _) hI ih
  rw [if_neg e0]
  by_cases e1 : v = 1
  · rw [if_pos e1]
    exact stepC (set_case _ _ _) hI ih
  rw [if_neg e1]
  by_cases e2 : v = 2
  · rw [if_pos e2]
    exact stepC (drop_case) hI ih
  rw [if_neg e2]
  by_cases e3 : v = 3
  · rw [if_pos e3]
    exact stepC (field_case _ _) hI ih
  rw [if_neg e3]
  by_cases e4 : v = 4
  · rw [if_pos e4]
    exact stepC (bend_case _ _ _ _ _) hI ih
  rw [if_neg e4]
  by_cases e5 : v = 5
  · rw [if_pos e5]
    exact stepP (from_case _ _ _) hI ih
  rw [if_neg e5]
  by_cases e6 : v = 6
  · rw [if_pos e6]
    exact stepP (cell_case _ _ _) hI ih
  rw [if_neg e6]
  by_cases e7 : v = 7
  · rw [if_pos e7]
    exact stepC (pictures_case _ _ _) hI ih
  rw [if_neg e7]
  by_cases e8 : v = 8
  · rw [if_pos e8]
    exact stepC (group_case _ _ _ _) hI ih
  rw [if_neg e8]
  by_cases e9 : v = 9
  · rw [if_pos e9]
    exact stepC (parity_case _ _) hI ih
  rw [if_neg e9]
  by_cases e10 : v = 10
  · rw [if_pos e10]
    exact stepC (critical_case _ _) hI ih
  rw [if_neg e10]
  by_cases e11 : v = 11
  · rw [if_pos e11]
    exact stepC (rings_case _) hI ih
  rw [if_neg e11]
  by_cases e12 : v = 12
  · rw [if_pos e12]
    exact stepC (brightest_case _) hI ih
  rw [if_neg e12]
  by_cases e13 : v = 13
  · rw [if_pos e13]
    exact stepD hI ih
  rw [if_neg e13]
  by_cases e14 : v = 14
  · rw [if_pos e14]
    exact stepC (stretch_case _) hI ih
  rw [if_neg e14]
  by_cases e15 : v = 15
  · rw [if_pos e15]
    exact stepC (type_case _ _) hI ih
  rw [if_neg e15]
  by_cases e16 : v = 16
  · rw [if_pos e16]
    exact stepC (clear_case) hI ih
  rw [if_neg e16]
  by_cases e17 : v = 17
  · rw [if_pos e17]
    exact stepC (read_case) hI ih
  rw [if_neg e17]
  by_cases e18 : v = 18
  · rw [if_pos e18]
    exact stepC (pair_case _ _ _ _) hI ih
  rw [if_neg e18]
  by_cases e19 : v = 19
  · rw [if_pos e19]
    exact stepC (wipe_case) hI ih
  rw [if_neg e19]
  by_cases e20 : v = 20
  · rw [if_pos e20]
    exact stepC (tolerance_case _ _) hI ih
  rw [if_neg e20]
  by_cases e21 : v = 21
  · rw [if_pos e21]
    exact stepC (fits_case _ _ _) hI ih
  rw [if_neg e21]
  by_cases e22 : v = 22
  · rw [if_pos e22]
    exact stepC (models_case _ _ _) hI ih
  rw [if_neg e22]
  by_cases e23 : v = 23
  · rw [if_pos e23]
    exact stepC (sure_case _ _ _) hI ih
  rw [if_neg e23]
  by_cases e24 : v = 24
  · rw [if_pos e24]
    exact stepC (spot_case _ _) hI ih
  rw [if_neg e24]
  by_cases e25 : v = 25
  · rw [if_pos e25]
    exact stepC (forget_case) hI ih
  rw [if_neg e25]
  by_cases e26 : v = 26
  · rw [if_pos e26]
    exact stepC (bright_case _ _ _) hI ih
  rw [if_neg e26]
  by_cases e27 : v = 27
  · rw [if_pos e27]
    exact stepC (far_case _ _) hI ih
  rw [if_neg e27]
  by_cases e28 : v = 28
  · rw [if_pos e28]
    exact stepC (contradicts_case) hI ih
  rw [if_neg e28]
  by_cases e29 : v = 29
  · rw [if_pos e29]
    exact stepC (filled_case _ _) hI ih
  rw [if_neg e29]
  by_cases e30 : v = 30
  · rw [if_pos e30]
    exact stepP (count_case _) hI ih
  rw [if_neg e30]
  by_cases e31 : v = 31
  · rw [if_pos e31]
    exact stepJ trace_case hI ih
  rw [if_neg e31]
  exact ih S M hI
theorem law_run {xs : Nat → Int32} {L : Nat} (hL : L ≤ 3584) : ∀ (k i u : Nat) (S : zSt) (M : zMem), L < 7 * i + 7 * k → k < u → i ≤ 1000 → zI S M → zloop (FL_law_L18 L xs) u (iI ((7 * i : Nat) : Int), M) = some 1 := by
  intro k
  induction k with
  | zero =>
    intro i u S M h hu hi hI
    cases u with
    | zero => omega
    | succ u =>
      rw [zloop_s]
      generalize zloop (FL_law_L18 L xs) u = rec
      unfold FL_law_L18
      rw [show Int32.ofNat L = iI (L : Nat) from nIi L, if_pos (show iI (L : Int) - 7 < iI ((7 * i : Nat) : Int) from by
        rw [show (7 : Int32) = iI 7 from rfl, iS]
        exact (iLt (by omega) (by omega)).mpr (by omega))]
  | succ k ih =>
    intro i u S M h hu hi hI
    cases u with
    | zero => omega
    | succ u =>
      rw [zloop_s]
      by_cases c : 7 * i + 7 ≤ L
      · refine law_step hL c hI (fun S' M' hI' => ?_)
        have := ih (i + 1) u S' M' (by omega) (by omega) (by omega) hI'
        rw [show (7 : Int32) = iI 7 from rfl, iA, show ((7 * i : Nat) : Int) + 7 = ((7 * (i + 1) : Nat) : Int) by omega]
        exact this
      · generalize zloop (FL_law_L18 L xs) u = rec
        unfold FL_law_L18
        rw [show Int32.ofNat L = iI (L : Nat) from nIi L, if_pos (show iI (L : Int) - 7 < iI ((7 * i : Nat) : Int) from by
          rw [show (7 : Int32) = iI 7 from rfl, iS]
          exact (iLt (by omega) (by omega)).mpr (by omega))]
theorem pure_all : ∀ (xs : Nat → Int32) (L : Nat), L ≤ 3584 → FL xs L zMf = some 1 := by
  intro xs L hL
  have := law_run (xs := xs) hL 600 0 zFuel zS0 zMf (by omega) (zfu (by omega)) (by omega) ⟨zS0_R, zS0_C, zS0_M⟩
  unfold FL
  exact this
