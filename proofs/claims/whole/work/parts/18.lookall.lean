/-! ===== the class's plane, whole ===== -/
theorem compare_eq {a b : Int} (ha : -1000000000000000 ≤ a ∧ a ≤ 1000000000000000) (hb : -1000000000000000 ≤ b ∧ b ≤ 1000000000000000) : FJ13_compare_74951 (iJ a) (iJ b) = some (iI (sgn (a - b))) := by
  unfold FJ13_compare_74951 sgn
  rw [jC (by omega) (by omega)]
  by_cases h1 : b < a
  · rw [if_pos h1, if_neg (by decide), if_neg (by decide), if_pos (show 0 < a - b by omega)]; rfl
  · rw [if_neg h1]
    by_cases h2 : a = b
    · rw [if_pos h2, if_neg (by decide), if_pos rfl, if_neg (show ¬ 0 < a - b by omega), if_neg (show ¬ a - b < 0 by omega)]; rfl
    · rw [if_neg h2, if_pos (by decide), if_neg (show ¬ 0 < a - b by omega), if_pos (show a - b < 0 by omega)]; rfl
theorem mul_rng {a b : Int} (ha : -110000 ≤ a ∧ a ≤ 110000) (hb : -110000 ≤ b ∧ b ≤ 110000) : -12100000000 ≤ a * b ∧ a * b ≤ 12100000000 := by
  have h1 : a.natAbs ≤ 110000 := by omega
  have h2 : b.natAbs ≤ 110000 := by omega
  have h3 := Nat.mul_le_mul h1 h2
  rw [← nA_mul] at h3
  omega
theorem dXx_le {L : zL} (hr : zRL L) {x y : Int} (hx : -25 ≤ x ∧ x ≤ 25) (hy : -25 ≤ y ∧ y ≤ 25) (ax : Int) : -110000 ≤ dXx L x y ax ∧ dXx L x y ax ≤ 110000 := by
  have h1 := lI_le hr (x := x + 1) (y := y) (by omega) (by omega) ax
  have h2 := lI_le hr (x := x - 1) (y := y) (by omega) (by omega) ax
  unfold dXx
  omega
theorem dYy_le {L : zL} (hr : zRL L) {x y : Int} (hx : -25 ≤ x ∧ x ≤ 25) (hy : -25 ≤ y ∧ y ≤ 25) (ax : Int) : -110000 ≤ dYy L x y ax ∧ dYy L x y ax ≤ 110000 := by
  have h1 := lI_le hr (x := x) (y := y + 1) (by omega) (by omega) ax
  have h2 := lI_le hr (x := x) (y := y - 1) (by omega) (by omega) ax
  unfold dYy
  omega
theorem signOfArea_eq {L : zL} {M : zMem} (hr : zRL L) {x y : Int} (hx : -24 ≤ x ∧ x ≤ 24) (hy : -24 ≤ y ∧ y ≤ 24) (h : ∀ x y, (-25 ≤ x ∧ x ≤ 25) → (-25 ≤ y ∧ y ≤ 25) → zLt 16 17 L M x y) : FX3_signOfArea (iI (plN x y : Nat)) M = some (iI (pI L x y)) := by
  have a1 := dXx_le hr (x := x) (y := y) (by omega) (by omega) 0
  have a2 := dXx_le hr (x := x) (y := y) (by omega) (by omega) 1
  have a3 := dYy_le hr (x := x) (y := y) (by omega) (by omega) 0
  have a4 := dYy_le hr (x := x) (y := y) (by omega) (by omega) 1
  have m1 := mul_rng a1 a4
  have m2 := mul_rng a2 a3
  unfold FX3_signOfArea
  simp only [zlet]
  rw [across_eq (c1 := 16) (c2 := 16) (by decide) hx (by omega) (ax := 0) (fun x hx => (h x y hx (by omega)).1), Option.bind_some, down_eq (c1 := 17) (by decide) (by omega) hy (ax := 1) (fun y hy => (h x y (by omega) hy).2), Option.bind_some, across_eq (c1 := 17) (c2 := 17) (by decide) hx (by omega) (ax := 1) (fun x hx => (h x y hx (by omega)).2), Option.bind_some, down_eq (c1 := 16) (by decide) (by omega) hy (ax := 0) (fun y hy => (h x y (by omega) hy).1), Option.bind_some, jI (by omega) (by omega), jI (by omega) (by omega), jI (by omega) (by omega), jI (by omega) (by omega), jM, jM, compare_eq (by omega) (by omega)]
  rfl
theorem zLt_nc {c1 c2 c i : Nat} {v : Int32} {L : zL} {M : zMem} {x y : Int} (h : zLt c1 c2 L M x y) (h1 : c1 ≠ c) (h2 : c2 ≠ c) : zLt c1 c2 L (zwr M c i v) x y := ⟨(zwr_nc h1).trans h.1, (zwr_nc h2).trans h.2⟩
theorem lookAnew_cells {L : zL} {M : zMem} (hr : zRL L) (h : ∀ x y, (-25 ≤ x ∧ x ≤ 25) → (-25 ≤ y ∧ y ≤ 25) → zLt 16 17 L M x y) : ∃ M', (M'.1 15 5 = 0 ∧ zPlC L M' ∧ zfr [15, 16, 17, 18, 19] M M') ∧ zloop FX3_lookAnew_L78 zFuel (iI 0, M) = some M' := by
  have key := zloop_inv (f := FX3_lookAnew_L78) (r := fun s => some (zwr s.2 15 5 0)) (fun i s => s.1 = iI (i : Int) ∧ zfr [15, 16, 17, 18, 19] M s.2 ∧ (∀ x y, (-25 ≤ x ∧ x ≤ 25) → (-25 ≤ y ∧ y ≤ 25) → zLt 16 17 L s.2 x y) ∧ ∀ p, p < i → s.2.1 18 p = iI (keyI (cel L (pX p) (pY p) 0) (cel L (pX p) (pY p) 1)) ∧ s.2.1 19 p = iI (pI L (pX p) (pY p))) 2401 ?_ ?_ 2401 0 zFuel (iI 0, M) rfl (zfu (by omega)) ?_
  · obtain ⟨s', ⟨-, g2, g3, g4⟩, g5⟩ := key
    refine ⟨_, ⟨zwr_eq, ⟨fun x y hx hy => zLt_nc (g3 x y hx hy) (by decide) (by decide), fun p hp => ?_⟩, g2.wr (by decide)⟩, g5⟩
    rw [zwr_nc (by decide), zwr_nc (by decide)]
    exact g4 p hp
  · intro i s hi hI
    obtain ⟨s1, sm⟩ := s
    obtain ⟨e1, e2, e3, e4⟩ := hI
    have e1 : s1 = iI (i : Int) := e1
    subst e1
    have hp := pXY hi
    have hl := plN_lt (x := pX i) (y := pY i) (by omega) (by omega)
    have c1 := lI_le hr (x := pX i) (y := pY i) (by omega) (by omega) 0
    have c2 := lI_le hr (x := pX i) (y := pY i) (by omega) (by omega) 1
    have k3 := e3 (pX i) (pY i) (by omega) (by omega)
    refine ⟨(iI ((i : Int) + 1), zwr (zwr sm 18 i (iI (keyI (cel L (pX i) (pY i) 0) (cel L (pX i) (pY i) 1)))) 19 i (iI (pI L (pX i) (pY i)))), ⟨?_, (e2.wr (by decide)).wr (by decide), fun x y hx hy => zLt_nc (zLt_nc (e3 x y hx hy) (by decide) (by decide)) (by decide) (by decide), fun p hp => ?_⟩, fun rec => ?_⟩
    · rfl
    · by_cases e : p = i
      · subst e
        refine ⟨?_, zwr_eq⟩
        show (zwr (zwr sm 18 p _) 19 p _).1 18 p = _
        rw [zwr_nc (by decide), zwr_eq]
      · show (zwr (zwr sm 18 i _) 19 i _).1 18 p = _ ∧ (zwr (zwr sm 18 i _) 19 i _).1 19 p = _
        rw [zwr_nj e, zwr_nj e, zwr_nj e, zwr_nj e]
        exact e4 p (by omega)
    · unfold FX3_lookAnew_L78
      show (if iI (i : Int) < (2401 : Int32) then _ else _) = _
      rw [show (2401 : Int32) = iI 2401 from rfl, if_pos ((iLt (by omega) (by omega)).mpr (by omega)), xOf_eq hi, Option.bind_some, yOf_eq hi, Option.bind_some, placeAt_eq, Option.bind_some, plN_I (by omega) (by omega), zgI (by omega) (by omega) (by omega), zrI _ _ (by omega) (by omega), Int.toNat_natCast]
      rw [show (iI (i : Int), sm).snd.1 16 (plN (pX i) (pY i)) = _ from k3.1, cellOf_eq (by omega) (by omega), Option.bind_some, zgI (by omega) (by omega) (by omega), zrI _ _ (by omega) (by omega), Int.toNat_natCast, show (iI (i : Int), sm).snd.1 17 (plN (pX i) (pY i)) = _ from k3.2, cellOf_eq (by omega) (by omega), Option.bind_some, keyOf_eq, Option.bind_some, show (iI (i : Int), sm).fst = iI (i : Int) from rfl, zgI (by omega) (by omega) (by omega)]
      simp only [zlet]
      rw [iC (by omega) (by omega), Int.toNat_natCast, signOfArea_eq hr (by omega) (by omega) (fun x y hx hy => zLt_nc (e3 x y hx hy) (by decide) (by decide)), Option.bind_some, zgI (by omega) (by omega) (by omega), show (1 : Int32) = iI 1 from rfl, iA]
      rfl
  · intro s hI rec
    obtain ⟨s1, sm⟩ := s
    obtain ⟨e1, -, -⟩ := hI
    have e1 : s1 = iI ((2401 : Nat) : Int) := e1
    subst e1
    unfold FX3_lookAnew_L78
    show (if iI ((2401 : Nat) : Int) < (2401 : Int32) then _ else _) = _
    rw [if_neg (by decide)]
    rfl
  · exact ⟨rfl, zfr.rf, h, fun p hp => by omega⟩
theorem lookAnew_eq {L : zL} {M : zMem} (h : zCL L M) (hr : zRL L) (hs : M.1 15 5 = 1 ∨ (M.1 15 5 = 0 ∧ zPlC L M)) : ∃ M', FX3_lookAnew M = some M' ∧ M'.1 15 5 = 0 ∧ zPlC L M' ∧ zfr [15, 16, 17, 18, 19] M M' := by
  unfold FX3_lookAnew
  rcases hs with hs | hs
  · rw [if_neg (show ¬ M.1 15 5 = 0 by rw [hs]; decide)]
    obtain ⟨M1, ⟨g1, g2⟩, g3⟩ := look_rows h hr
    obtain ⟨M2, ⟨k1, k2, k3⟩, k4⟩ := lookAnew_cells hr g2
    exact ⟨M2, g3.trans k4, k1, k2, (g1.mono (by decide)).tr k3⟩
  · rw [if_pos hs.1]
    exact ⟨M, rfl, hs.1, hs.2, zfr.rf⟩
