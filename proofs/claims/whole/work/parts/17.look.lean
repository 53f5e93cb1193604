/-! ===== the class's plane is worked out ===== -/
theorem zCL.look {L : zL} {M M' : zMem} (h : zCL L M) (hr : zRL L) (f : zfr [15, 16, 17, 18, 19] M M') : zCL L M' := h.zf hr f (by decide)
/-- one step of the inner loop -/
theorem look_step {L : zL} {M : zMem} (h : zCL L M) (hr : zRL L) {x y : Int} (hx : -25 ≤ x ∧ x ≤ 25) (hy : -25 ≤ y ∧ y ≤ 25) (q : (Int32 × zMem) → Option zMem) (s2 : Int32 × zMem) (hs2 : s2.1 = iI y) (rec : (Int32 × zMem) → Option zMem) : FX3_lookAnew_L20 q s2 rec (iI x, M) = rec (iI (x + 1), zwr (zwr M 16 (plN x y) (iI (lI L x y 0))) 17 (plN x y) (iI (lI L x y 1))) := by
  unfold FX3_lookAnew_L20
  show (if (25 : Int32) < iI x then _ else _) = _
  have hp := plN_lt hx hy
  have h1 : zCL L (zwr M 16 (plN x y) (iI (lI L x y 0))) := h.look hr (zfr.rf.wr (by decide))
  rw [show (25 : Int32) = iI 25 from rfl, if_neg (fun z => by have := (iLt (by omega) (by omega)).mp z; omega), hs2, placeAt_eq, Option.bind_some, lightAt_eq h hr (by omega) (by omega), Option.bind_some, plN_I hx hy, zgI (by omega) (by omega) (by omega)]
  simp only [zlet]
  rw [iC (by omega) (by omega)]
  show (FX2_lightAt (iI x) (iI y) 1 (zwr M 16 (plN x y) (iI (lI L x y 0)))).bind _ = _
  rw [lightAt_eq h1 hr (by omega) (by omega), Option.bind_some, zgI (by omega) (by omega) (by omega), show (1 : Int32) = iI 1 from rfl, iA]
  rfl
theorem look_row {L : zL} {M : zMem} (h : zCL L M) (hr : zRL L) {y : Int} (hy : -25 ≤ y ∧ y ≤ 25) (s2 : Int32 × zMem) (hs2 : s2.1 = iI y) (hlow : ∀ x' y', (-25 ≤ x' ∧ x' ≤ 25) → (-25 ≤ y' ∧ y' < y) → zLt 16 17 L M x' y') : ∃ M', (zfr [16, 17] M M' ∧ ∀ x' y', (-25 ≤ x' ∧ x' ≤ 25) → (-25 ≤ y' ∧ y' ≤ y) → zLt 16 17 L M' x' y') ∧ ∀ q, zloop (FX3_lookAnew_L20 q s2) zFuel (iI (-25), M) = q (iI (y + 1), M') := by
  have key := zloop_invK (f := fun q => FX3_lookAnew_L20 q s2) (r := fun q s => q (iI (y + 1), s.2)) (fun i s => s.1 = iI (-25 + (i : Int)) ∧ zfr [16, 17] M s.2 ∧ ∀ x' y', (-25 ≤ x' ∧ x' ≤ 25) → (-25 ≤ y' ∧ y' ≤ 25) → (y' < y ∨ (y' = y ∧ x' < -25 + (i : Int))) → zLt 16 17 L s.2 x' y') 51 ?_ ?_ 51 0 zFuel (iI (-25), M) rfl (zfu (by omega)) ?_
  · obtain ⟨s', ⟨-, g2, g3⟩, g4⟩ := key
    exact ⟨s'.2, ⟨g2, fun x' y' hx' hy' => g3 x' y' hx' (by omega) (by omega)⟩, g4⟩
  · intro i s hi hI
    obtain ⟨s1, sm⟩ := s
    obtain ⟨e1, e2, e3⟩ := hI
    have e1 : s1 = iI (-25 + (i : Int)) := e1
    subst e1
    have hc : zCL L sm := h.look hr (e2.mono (by decide))
    refine ⟨_, ⟨?_, ?_, ?_⟩, fun q rec => look_step hc hr (x := -25 + (i : Int)) (y := y) (by omega) hy q s2 hs2 rec⟩
    · show iI (-25 + (i : Int) + 1) = iI (-25 + ((i + 1 : Nat) : Int))
      congr 1; omega
    · exact (e2.wr (by decide)).wr (by decide)
    · intro x' y' hx' hy' hh
      refine zLt_wr (by decide) (by omega) hy hx' hy' ?_
      by_cases hq : x' = -25 + (i : Int) ∧ y' = y
      · exact Or.inl hq
      · exact Or.inr (e3 x' y' hx' hy' (by omega))
  · intro s hI q rec
    obtain ⟨s1, sm⟩ := s
    obtain ⟨e1, -, -⟩ := hI
    have e1 : s1 = iI (-25 + ((51 : Nat) : Int)) := e1
    subst e1
    unfold FX3_lookAnew_L20
    show (if (25 : Int32) < iI (-25 + ((51 : Nat) : Int)) then _ else _) = _
    rw [if_pos (by decide)]
    simp only [zlet]
    rw [hs2, show (1 : Int32) = iI 1 from rfl, iA]
  · exact ⟨rfl, zfr.rf, fun x' y' hx' hy' hh => hlow x' y' hx' (by omega)⟩
theorem look_rows {L : zL} {M : zMem} (h : zCL L M) (hr : zRL L) : ∃ M', (zfr [16, 17] M M' ∧ ∀ x y, (-25 ≤ x ∧ x ≤ 25) → (-25 ≤ y ∧ y ≤ 25) → zLt 16 17 L M' x y) ∧ zloop FX3_lookAnew_L11 zFuel (iI (-25), M) = zloop FX3_lookAnew_L78 zFuel (iI 0, M') := by
  have key := zloop_inv (f := FX3_lookAnew_L11) (r := fun s => zloop FX3_lookAnew_L78 zFuel (iI 0, s.2)) (fun i s => s.1 = iI (-25 + (i : Int)) ∧ zfr [16, 17] M s.2 ∧ ∀ x' y', (-25 ≤ x' ∧ x' ≤ 25) → (-25 ≤ y' ∧ y' < -25 + (i : Int)) → zLt 16 17 L s.2 x' y') 51 ?_ ?_ 51 0 zFuel (iI (-25), M) rfl (zfu (by omega)) ?_
  · obtain ⟨s', ⟨-, g2, g3⟩, g4⟩ := key
    exact ⟨s'.2, ⟨g2, fun x' y' hx' hy' => g3 x' y' hx' (by omega)⟩, g4⟩
  · intro i s hi hI
    obtain ⟨s1, sm⟩ := s
    obtain ⟨e1, e2, e3⟩ := hI
    have e1 : s1 = iI (-25 + (i : Int)) := e1
    subst e1
    have hc : zCL L sm := h.look hr (e2.mono (by decide))
    obtain ⟨M', ⟨g1, g2⟩, g3⟩ := look_row hc hr (y := -25 + (i : Int)) (by omega) (iI (-25 + (i : Int)), sm) rfl e3
    refine ⟨(iI (-25 + (i : Int) + 1), M'), ⟨?_, e2.tr g1, fun x' y' hx' hy' => g2 x' y' hx' (by omega)⟩, fun rec => ?_⟩
    · show iI (-25 + (i : Int) + 1) = iI (-25 + ((i + 1 : Nat) : Int))
      congr 1; omega
    · unfold FX3_lookAnew_L11
      show (if (25 : Int32) < iI (-25 + (i : Int)) then _ else _) = _
      rw [show (25 : Int32) = iI 25 from rfl, if_neg (fun z => by have := (iLt (by omega) (by omega)).mp z; omega)]
      exact g3 rec
  · intro s hI rec
    obtain ⟨s1, sm⟩ := s
    obtain ⟨e1, -, -⟩ := hI
    have e1 : s1 = iI (-25 + ((51 : Nat) : Int)) := e1
    subst e1
    unfold FX3_lookAnew_L11
    show (if (25 : Int32) < iI (-25 + ((51 : Nat) : Int)) then _ else _) = _
    rw [if_pos (by decide)]
    rfl
  · exact ⟨rfl, zfr.rf, fun x' y' hx' hy' => by omega⟩
theorem across_eq {c1 c2 : Nat} {L : zL} {M : zMem} {x y : Int} (hl : zlenI c1 = 2601) (hx : -24 ≤ x ∧ x ≤ 24) (hy : -25 ≤ y ∧ y ≤ 25) {ax : Int} (h : ∀ x, (-25 ≤ x ∧ x ≤ 25) → M.1 c1 (plN x y) = iI (lI L x y ax)) : FX3_across c1 (iI (plN x y : Nat)) M = some (iI (dXx L x y ax)) := by
  have hp : plN (x + 1) y = plN x y + 1 ∧ plN (x - 1) y + 1 = plN x y ∧ plN x y + 1 < 2601 := by unfold plN; omega
  unfold FX3_across
  rw [hl, show (1 : Int32) = iI 1 from rfl, iA, iS, zgI (by omega) (by omega) (by omega), zgI (by omega) (by omega) (by omega), zrI _ _ (by omega) (by omega), zrI _ _ (by omega) (by omega), show ((plN x y : Int) + 1).toNat = plN (x + 1) y by omega, show ((plN x y : Int) - 1).toNat = plN (x - 1) y by omega, h _ (by omega), h _ (by omega), iS]
  rfl
theorem down_eq {c1 : Nat} {L : zL} {M : zMem} {x y : Int} (hl : zlenI c1 = 2601) (hx : -25 ≤ x ∧ x ≤ 25) (hy : -24 ≤ y ∧ y ≤ 24) {ax : Int} (h : ∀ y, (-25 ≤ y ∧ y ≤ 25) → M.1 c1 (plN x y) = iI (lI L x y ax)) : FX3_down c1 (iI (plN x y : Nat)) M = some (iI (dYy L x y ax)) := by
  have hp : plN x (y + 1) = plN x y + 51 ∧ plN x (y - 1) + 51 = plN x y ∧ plN x y + 51 < 2601 := by unfold plN; omega
  unfold FX3_down
  rw [hl, show (51 : Int32) = iI 51 from rfl, iA, iS, zgI (by omega) (by omega) (by omega), zgI (by omega) (by omega) (by omega), zrI _ _ (by omega) (by omega), zrI _ _ (by omega) (by omega), show ((plN x y : Int) + 51).toNat = plN x (y + 1) by omega, show ((plN x y : Int) - 51).toNat = plN x (y - 1) by omega, h _ (by omega), h _ (by omega), iS]
  rfl
