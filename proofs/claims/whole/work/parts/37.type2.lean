theorem typeM_eq {T : zTx} {M : zMem} (y : Int64) {m : Nat} (h : zMT T M) (hm : m ≤ 8) (hl : T.1 + m ≤ 200) : ∃ M', zloop (FX8_type_L32 y) zFuel (iI ((m : Int) - 1), M) = some (iI ((T.1 + m : Nat) : Int), M') ∧ ((∀ c, c ≠ 100 → c ≠ 102 → M'.1 c = M.1 c) ∧ M'.2 = M.2 ∧ ∀ j, j ≠ 5 → M'.1 100 j = M.1 100 j) ∧ zMT (T.1 + m, tpB T y m m) M' := by
  have key := zloop_inv (f := FX8_type_L32 y) (r := fun s => some (s.2.1 100 5, s.2)) (fun j s => s.1 = iI ((m : Int) - 1 - j) ∧ ((∀ c, c ≠ 100 → c ≠ 102 → s.2.1 c = M.1 c) ∧ s.2.2 = M.2 ∧ ∀ j, j ≠ 5 → s.2.1 100 j = M.1 100 j) ∧ zMT (T.1 + j, tpB T y m j) s.2) m ?_ ?_ m 0 zFuel (iI ((m : Int) - 1), M) (by omega) (zfu (by omega)) ⟨by show iI ((m : Int) - 1) = iI ((m : Int) - 1 - ((0 : Nat) : Int)); congr 1; omega, ⟨fun _ _ _ => rfl, rfl, fun _ _ => rfl⟩, h⟩
  · obtain ⟨s', ⟨-, g1, g3⟩, g4⟩ := key
    exact ⟨s'.2, by rw [g4, g3.1], g1, g3⟩
  · intro j s hj hI
    obtain ⟨s1, sm⟩ := s
    obtain ⟨e1, ⟨e2, e3, e5⟩, e4⟩ := hI
    have e1 : s1 = _ := e1
    subst e1
    have e41 : sm.1 100 5 = iI ((T.1 + j : Nat) : Int) := e4.1
    refine ⟨(iI ((m : Int) - 1 - ((j + 1 : Nat) : Int)), zwr (zwr sm 102 (T.1 + j) (iI (wB y (m - 1 - j))).toInt8.toInt32) 100 5 (iI ((T.1 + (j + 1) : Nat) : Int))), ⟨rfl, ⟨fun c h1 h2 => (zwr_ne h1).trans ((zwr_ne h2).trans (e2 c h1 h2)), e3, fun j h1 => (zwr_nj h1).trans ((zwr_nc (by decide)).trans (e5 j h1))⟩, zwr_eq, fun i hi => ?_⟩, fun rec => ?_⟩
    · have hi : i < T.1 + (j + 1) := hi
      refine (zwr_nc (by decide)).trans ?_
      show _ = (iI (zup (tpB T y m j) (T.1 + j) (wB y (m - 1 - j)) i)).toInt8.toInt32
      by_cases e : i = T.1 + j
      · subst e; rw [zup_eq, zwr_eq]
      · rw [zup_ne e, zwr_nj e]; exact e4.2 i (by show i < T.1 + j; omega)
    · unfold FX8_type_L32
      show (if iI ((m : Int) - 1 - j) < (0 : Int32) then _ else _) = _
      rw [if_neg (show ¬ iI ((m : Int) - 1 - j) < (0 : Int32) from fun z => by have := (iLt (b := 0) (by omega) (by omega)).mp z; omega)]
      simp only [zlet]
      have w : ((y >>> (((8 : Int32) * iI ((m : Int) - 1 - j)).toInt64 &&& 63)) &&& (255 : Int64)).toInt32 = iI (wB y (m - 1 - j)) := by
        unfold wB
        rw [iT', byte_eq y (show m - 1 - j < 8 by omega), show (((m - 1 - j : Nat) : Int)) = (m : Int) - 1 - j by omega]
        rfl
      rw [e41, zgI (by omega) (by omega) (by omega), iC (by omega) (by omega), Int.toNat_natCast, w, Int8.toInt8_toInt32, zwr_nc (by decide), e41, iA1, show (-1 : Int32) = iI (-1) from rfl, iA, show (m : Int) - 1 - (j : Int) + -1 = (m : Int) - 1 - ((j + 1 : Nat) : Int) by omega]
      rfl
  · intro s hI rec
    obtain ⟨s1, sm⟩ := s
    obtain ⟨e1, -⟩ := hI
    have e1 : s1 = _ := e1
    subst e1
    unfold FX8_type_L32
    show (if iI ((m : Int) - 1 - m) < (0 : Int32) then _ else _) = _
    rw [if_pos (show iI ((m : Int) - 1 - m) < (0 : Int32) from (iLt (b := 0) (by omega) (by omega)).mpr (by omega))]
theorem type_case (y : Int64) (x0 : Int32) : zCase (FX7_type y x0) (FX8_type y x0) := by
  refine zCase.of (fun S hR => ?_)
  obtain ⟨x, hx1, hx2, rfl⟩ := iOf x0
  have hT := hR.2.1
  have hl := hT.1
  by_cases h : 1 ≤ (iI x).toInt ∧ (iI x).toInt ≤ 8
  · have x1 : 1 ≤ x ∧ x ≤ 8 := by rw [iT hx1 hx2] at h; exact h
    obtain ⟨m, rfl⟩ : ∃ m : Nat, x = (m : Int) := ⟨x.toNat, by omega⟩
    by_cases h2 : S.2.1.1 + m ≤ 200
    · have hcmp : ¬ (200 : Int32) < iI (S.2.1.1 : Int) + iI (m : Int) := fun z => by
        rw [iA, show (200 : Int32) = iI 200 from rfl] at z
        have := (iLt (by omega) (by omega)).mp z
        omega
      refine ⟨iI ((S.2.1.1 + m : Nat) : Int), (S.1, (S.2.1.1 + m, tpB S.2.1 y m m), S.2.2), ⟨hR.1, ⟨h2, fun i hi => tpB_r hT m i hi⟩, hR.2.2⟩, fun M hC => ?_, fun M hM => ?_⟩
      · obtain ⟨M', g1, g2, g3, g4⟩ := typeC_eq y hC.2.1 (by omega) h2
        refine ⟨M', ?_, hC.text hR g2 g3 g4, g2.agM (by decide)⟩
        unfold FX7_type
        rw [within_1_8, Option.bind_some, zb_if, if_pos h, hC.2.1.1, if_neg hcmp]
        simp only [zlet]
        rw [show (1 : Int32) = iI 1 from rfl, iS]
        exact g1
      · obtain ⟨M', g1, ⟨g2, g3, g5⟩, g4⟩ := typeM_eq y hM.2.1 (by omega) h2
        refine ⟨M', ?_, hM.text g2 g3 g5 g4, ⟨fun c hc => g2 c (by omega) (by omega), by rw [g3]⟩⟩
        unfold FX8_type
        rw [in_1_8, Option.bind_some, zb_if, if_pos h, hM.2.1.1, if_neg hcmp]
        simp only [zlet]
        rw [show (1 : Int32) = iI 1 from rfl, iS]
        exact g1
    · have hcmp : (200 : Int32) < iI (S.2.1.1 : Int) + iI (m : Int) := by
        rw [iA, show (200 : Int32) = iI 200 from rfl]
        exact (iLt (by omega) (by omega)).mpr (by omega)
      refine ⟨-3, S, hR, fun M hC => ⟨M, ?_, hC, zagM.rf⟩, fun M hM => ⟨M, ?_, hM, zagC.rf⟩⟩
      · unfold FX7_type
        rw [within_1_8, Option.bind_some, zb_if, if_pos h, hC.2.1.1, if_pos hcmp]
      · unfold FX8_type
        rw [in_1_8, Option.bind_some, zb_if, if_pos h, hM.2.1.1, if_pos hcmp]
  · refine ⟨-1, S, hR, fun M hC => ⟨M, ?_, hC, zagM.rf⟩, fun M hM => ⟨M, ?_, hM, zagC.rf⟩⟩
    · unfold FX7_type
      rw [within_1_8, Option.bind_some, zb_if, if_neg h]
    · unfold FX8_type
      rw [in_1_8, Option.bind_some, zb_if, if_neg h]
