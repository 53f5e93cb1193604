/-! ===== type ===== -/
def wB (y : Int64) (i : Nat) : Int := (zlushr y (iI 8 * iI (i : Int)) &&& 255).toInt32.toInt
theorem wB_r (y : Int64) (i : Nat) : 0 ≤ wB y i ∧ wB y i ≤ 255 := and255 _
def tpB (T : zTx) (y : Int64) (m : Nat) : Nat → (Nat → Int)
  | 0 => T.2
  | j + 1 => zup (tpB T y m j) (T.1 + j) (wB y (m - 1 - j))
theorem tpB_r {T : zTx} {y : Int64} {m : Nat} (h : zRT T) : ∀ j i, i < T.1 + j → 0 ≤ tpB T y m j i ∧ tpB T y m j i ≤ 255 := by
  intro j
  induction j with
  | zero => intro i hi; exact h.2 i hi
  | succ j ih =>
    intro i hi
    show 0 ≤ zup (tpB T y m j) (T.1 + j) (wB y (m - 1 - j)) i ∧ zup (tpB T y m j) (T.1 + j) (wB y (m - 1 - j)) i ≤ 255
    by_cases e : i = T.1 + j
    · subst e; rw [zup_eq]; exact wB_r _ _
    · rw [zup_ne e]; exact ih i (by omega)
theorem typeC_eq {T : zTx} {M : zMem} (y : Int64) {m : Nat} (h : zCT T M) (hm : m ≤ 8) (hl : T.1 + m ≤ 200) : ∃ M', zloop (FX7_type_L35 y) zFuel (iI ((m : Int) - 1), M) = some (iI ((T.1 + m : Nat) : Int), M') ∧ zfr [23, 24] M M' ∧ M'.1 23 1 = M.1 23 1 ∧ zCT (T.1 + m, tpB T y m m) M' := by
  have key := zloop_inv (f := FX7_type_L35 y) (r := fun s => some (s.2.1 23 2, s.2)) (fun j s => s.1 = iI ((m : Int) - 1 - j) ∧ zfr [23, 24] M s.2 ∧ s.2.1 23 1 = M.1 23 1 ∧ zCT (T.1 + j, tpB T y m j) s.2) m ?_ ?_ m 0 zFuel (iI ((m : Int) - 1), M) (by omega) (zfu (by omega)) ⟨by show iI ((m : Int) - 1) = iI ((m : Int) - 1 - ((0 : Nat) : Int)); congr 1; omega, zfr.rf, rfl, h⟩
  · obtain ⟨s', ⟨-, g1, g2, g3⟩, g4⟩ := key
    exact ⟨s'.2, by rw [g4, g3.1], g1, g2, g3⟩
  · intro j s hj hI
    obtain ⟨s1, sm⟩ := s
    obtain ⟨e1, e2, e3, e4⟩ := hI
    have e1 : s1 = _ := e1
    subst e1
    have e41 : sm.1 23 2 = iI ((T.1 + j : Nat) : Int) := e4.1
    refine ⟨(iI ((m : Int) - 1 - ((j + 1 : Nat) : Int)), zwr (zwr sm 24 (T.1 + j) (iI (wB y (m - 1 - j)))) 23 2 (iI ((T.1 + (j + 1) : Nat) : Int))), ⟨rfl, (e2.wr (by decide)).wr (by decide), (zwr_nj (by decide)).trans ((zwr_nc (by decide)).trans e3), zwr_eq, fun i hi => ?_⟩, fun rec => ?_⟩
    · have hi : i < T.1 + (j + 1) := hi
      refine (zwr_nc (by decide)).trans ?_
      show _ = iI (zup (tpB T y m j) (T.1 + j) (wB y (m - 1 - j)) i)
      by_cases e : i = T.1 + j
      · subst e; rw [zup_eq, zwr_eq]
      · rw [zup_ne e, zwr_nj e]; exact e4.2 i (by show i < T.1 + j; omega)
    · unfold FX7_type_L35 FX5_add
      show (if iI ((m : Int) - 1 - j) < (0 : Int32) then _ else _) = _
      rw [if_neg (show ¬ iI ((m : Int) - 1 - j) < (0 : Int32) from fun z => by have := (iLt (b := 0) (by omega) (by omega)).mp z; omega)]
      simp only [zlet]
      rw [e41, if_pos (show iI ((T.1 + j : Nat) : Int) < (200 : Int32) from (iLt (b := 200) (by omega) (by omega)).mpr (by omega)), zgI (by omega) (by omega) (by omega), iC (by omega) (by omega), Int.toNat_natCast, Option.bind_some]
      have w : ((zlushr y ((8 : Int32) * iI ((m : Int) - 1 - j))) &&& (255 : Int64)).toInt32 = iI (wB y (m - 1 - j)) := by
        unfold wB
        rw [iT', show (((m - 1 - j : Nat) : Int)) = (m : Int) - 1 - j by omega]
        rfl
      rw [w, zwr_nc (by decide), e41, iA1, show (-1 : Int32) = iI (-1) from rfl, iA, show (m : Int) - 1 - (j : Int) + -1 = (m : Int) - 1 - ((j + 1 : Nat) : Int) by omega]
      rfl
  · intro s hI rec
    obtain ⟨s1, sm⟩ := s
    obtain ⟨e1, -⟩ := hI
    have e1 : s1 = _ := e1
    subst e1
    unfold FX7_type_L35
    show (if iI ((m : Int) - 1 - m) < (0 : Int32) then _ else _) = _
    rw [if_pos (show iI ((m : Int) - 1 - m) < (0 : Int32) from (iLt (b := 0) (by omega) (by omega)).mpr (by omega))]
