theorem marksM_eq {L : zL} {M : zMem} (hr : zRL L) (hk : zPlM L M) {kx ky : Int} (hkx : -3400 ≤ kx ∧ kx ≤ 3400) (hky : -3400 ≤ ky ∧ ky ≤ 3400) : ∃ M', zloop (FX8_findPictures_L9 (iI kx) (iI ky)) zFuel ((0 : Int32), (0 : Int32), M) = some (iI (nOf (fun p => zb (pkP L kx ky p)) 2401), M') ∧ zfr [109] M M' ∧ ∀ p, p < 2401 → M'.1 109 p = zb (pkP L kx ky p) := by
  have key := zloop_inv (f := FX8_findPictures_L9 (iI kx) (iI ky)) (r := fun s => some (s.1, s.2.2)) (fun i s => s.1 = iI (nOf (fun p => zb (pkP L kx ky p)) i) ∧ s.2.1 = iI (i : Int) ∧ zfr [109] M s.2.2 ∧ ∀ p, p < i → s.2.2.1 109 p = zb (pkP L kx ky p)) 2401 ?_ ?_ 2401 0 zFuel ((0 : Int32), (0 : Int32), M) rfl (zfu (by omega)) ⟨rfl, rfl, zfr.rf, fun p hp => by omega⟩
  · obtain ⟨s', ⟨g0, -, g1, g2⟩, g4⟩ := key
    exact ⟨s'.2.2, by rw [g4, g0], g1, g2⟩
  · intro i s hi hI
    obtain ⟨s1, s2, sm⟩ := s
    obtain ⟨e1, e2, e3, e4⟩ := hI
    have e1 : s1 = _ := e1
    have e2 : s2 = _ := e2
    subst e1 e2
    have hp := pXY hi
    have cl := cel_le hr (x := pX i) (y := pY i) (by omega) (by omega)
    have cl0 := cl 0
    have cl1 := cl 1
    have hq : zLt 107 108 L sm (pX i) (pY i) := by
      have := hk (pX i) (pY i) (by omega) (by omega)
      unfold zLt at this ⊢
      rw [e3.1 107 (by decide), e3.1 108 (by decide)]
      exact this
    have k1 : iI (cel L (pX i) (pY i) 0) = iI kx ↔ cel L (pX i) (pY i) 0 = kx := iEq (by omega) (by omega)
    have k2 : iI (cel L (pX i) (pY i) 1) = iI ky ↔ cel L (pX i) (pY i) 1 = ky := iEq (by omega) (by omega)
    refine ⟨(iI (nOf (fun p => zb (pkP L kx ky p)) (i + 1)), iI ((i + 1 : Nat) : Int), zwr sm 109 i (zb (pkP L kx ky i))), ⟨rfl, rfl, e3.wr (by decide), fun p hp => ?_⟩, fun rec => ?_⟩
    · by_cases e : p = i
      · subst e; exact zwr_eq
      · exact (zwr_nj e).trans (e4 p (by omega))
    · unfold FX8_findPictures_L9
      show (if iI (i : Int) < (2401 : Int32) then _ else _) = _
      rw [show (2401 : Int32) = iI 2401 from rfl, if_pos ((iLt (by omega) (by omega)).mpr (by omega))]
      show (FX8_cellX (zrem (iI (i : Int)) 49 - 24) (iI (i : Int) / 49 - 24) sm).bind _ = _
      rw [xOfM hi, yOfM hi, cellX_eq hr (by omega) (by omega) hq, Option.bind_some]
      refine zj_p (fun t => t = zb (pkP L kx ky i)) (r := rec (iI (nOf (fun p => zb (pkP L kx ky p)) (i + 1)), iI ((i + 1 : Nat) : Int), zwr sm 109 i (zb (pkP L kx ky i)))) (fun t ht => ?_) (fun k hkk => ?_)
      · subst ht
        refine (zgI (by omega) (by omega) (by omega)).trans ?_
        refine (zgI (by omega) (by omega) (by omega)).trans ?_
        simp only [zj]
        show (if zrd (zwr sm 109 (zcl (iI (i : Int))) (zb (pkP L kx ky i) &&& 1)) 109 (iI (i : Int)) = 0 then rec (iI (nOf (fun p => zb (pkP L kx ky p)) i) + 0, iI (i : Int) + 1, zwr sm 109 (zcl (iI (i : Int))) (zb (pkP L kx ky i) &&& 1)) else rec (iI (nOf (fun p => zb (pkP L kx ky p)) i) + 1, iI (i : Int) + 1, zwr sm 109 (zcl (iI (i : Int))) (zb (pkP L kx ky i) &&& 1))) = _
        rw [zb_and1, iC (by omega) (by omega), Int.toNat_natCast, zrI _ _ (by omega) (by omega), Int.toNat_natCast, zwr_eq, iA1, nOf_s, ← nOf_zb]
        by_cases h : zb (pkP L kx ky i) = 0
        · rw [if_pos h, if_pos h]
        · rw [if_neg h, if_neg h]
      · refine zj_c (V := fun _ => k 0) (fun _ => rfl) ?_
        by_cases h1 : cel L (pX i) (pY i) 0 = kx
        · rw [if_pos (k1.mpr h1)]
          show (FX8_cellY _ _ sm).bind _ = _
          rw [cellY_eq hr (by omega) (by omega) hq, Option.bind_some]
          by_cases h2 : cel L (pX i) (pY i) 1 = ky
          · rw [if_pos (k2.mpr h2)]
            exact hkk _ (by unfold zb; rw [if_pos (show pkP L kx ky i from ⟨h1, h2⟩)])
          · rw [if_neg (fun z => h2 (k2.mp z))]
            exact hkk _ (by unfold zb; rw [if_neg (show ¬ pkP L kx ky i from fun z => h2 z.2)])
        · rw [if_neg (fun z => h1 (k1.mp z))]
          exact hkk _ (by unfold zb; rw [if_neg (show ¬ pkP L kx ky i from fun z => h1 z.1)])
  · intro s hI rec
    obtain ⟨s1, s2, sm⟩ := s
    obtain ⟨-, e2, -⟩ := hI
    have e2 : s2 = iI ((2401 : Nat) : Int) := e2
    subst e2
    unfold FX8_findPictures_L9
    show (if iI ((2401 : Nat) : Int) < (2401 : Int32) then _ else _) = _
    rw [if_neg (by decide)]
