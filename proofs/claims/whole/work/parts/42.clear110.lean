/-! ===== groups: the reference wipes its marks ===== -/
theorem groups_wipe (M : zMem) : ∃ M', (zfr [110] M M' ∧ ∀ p, p < 2401 → M'.1 110 p = -9) ∧ zloop FX8_findGroups_L7 zFuel ((0 : Int32), M) = zloop FX8_findGroups_L30 zFuel ((0 : Int32), M') := by
  have key := zloop_inv (f := FX8_findGroups_L7) (r := fun s => zloop FX8_findGroups_L30 zFuel ((0 : Int32), s.2)) (fun i s => s.1 = iI (i : Int) ∧ zfr [110] M s.2 ∧ ∀ p, p < i → s.2.1 110 p = -9) 2401 ?_ ?_ 2401 0 zFuel ((0 : Int32), M) rfl (zfu (by omega)) ⟨rfl, zfr.rf, fun p hp => by omega⟩
  · obtain ⟨s', ⟨-, g1, g2⟩, g3⟩ := key
    exact ⟨s'.2, ⟨g1, g2⟩, g3⟩
  · intro i s hi hI
    obtain ⟨s1, sm⟩ := s
    obtain ⟨e1, e2, e3⟩ := hI
    have e1 : s1 = _ := e1
    subst e1
    refine ⟨(iI ((i + 1 : Nat) : Int), zwr sm 110 i (-9)), ⟨rfl, e2.wr (by decide), fun p hp => ?_⟩, fun rec => ?_⟩
    · by_cases e : p = i
      · subst e; exact zwr_eq
      · exact (zwr_nj e).trans (e3 p (by omega))
    · unfold FX8_findGroups_L7
      show (if iI (i : Int) < (2401 : Int32) then _ else _) = _
      rw [show (2401 : Int32) = iI 2401 from rfl, if_pos ((iLt (by omega) (by omega)).mpr (by omega))]
      refine (zgI (by omega) (by omega) (by omega)).trans ?_
      simp only [zlet]
      rw [iC (by omega) (by omega), Int.toNat_natCast, iA1]
  · intro s hI rec
    obtain ⟨s1, sm⟩ := s
    obtain ⟨e1, -⟩ := hI
    have e1 : s1 = iI ((2401 : Nat) : Int) := e1
    subst e1
    unfold FX8_findGroups_L7
    show (if iI ((2401 : Nat) : Int) < (2401 : Int32) then _ else _) = _
    rw [if_neg (by decide)]
