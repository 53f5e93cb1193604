/-! ===== the reference's plane ===== -/
def zfil (L : zL) (M : zMem) (x y : Int) : zMem := zwr (zwr M 107 (plN x y) (iI (lI L x y 0))) 108 (plN x y) (iI (lI L x y 1))
theorem fill_eq {ρ : Type} {L : zL} {M : zMem} (h : zML L M) (hr : zRL L) {x y : Int} (hx : -25 ≤ x ∧ x ≤ 25) (hy : -25 ≤ y ∧ y ≤ 25) (K : zMem → Option ρ) : ((FX8_at (iI x) (iI y)).bind fun b6 => (FX8_fromOf (iI x) (iI y) 0 M).bind fun b7 => zguard (zin b6 2601) (zlet (zwr M 107 (zcl b6) b7) fun M8 => (FX8_at (iI x) (iI y)).bind fun b9 => (FX8_fromOf (iI x) (iI y) 1 M8).bind fun b10 => zguard (zin b9 2601) (zlet (zwr M8 108 (zcl b9) b10) fun M11 => K M11))) = K (zfil L M x y) := by
  have hp := plN_lt hx hy
  have h1 : zML L (zwr M 107 (plN x y) (iI (lI L x y 0))) := h.zf (S := [107]) (zfr.rf.wr (by decide)) (by decide)
  rw [at_eq, Option.bind_some, fromOf_eq h hr (by omega) (by omega), Option.bind_some, plN_I hx hy, zgI (by omega) (by omega) (by omega)]
  simp only [zlet]
  rw [iC (by omega) (by omega), Int.toNat_natCast, Option.bind_some]
  show (FX8_fromOf (iI x) (iI y) 1 (zwr M 107 (plN x y) (iI (lI L x y 0)))).bind _ = _
  rw [fromOf_eq h1 hr (by omega) (by omega), Option.bind_some, zgI (by omega) (by omega) (by omega), iC (by omega) (by omega), Int.toNat_natCast]
  rfl
theorem zfil.fr {L : zL} {M M1 : zMem} {x y : Int} (h : zfr [107, 108] M M1) : zfr [107, 108] M (zfil L M1 x y) := (h.wr (by decide)).wr (by decide)
theorem zfil_at {L : zL} {M : zMem} {x y x' y' : Int} (hx : -25 ≤ x ∧ x ≤ 25) (hy : -25 ≤ y ∧ y ≤ 25) (hx' : -25 ≤ x' ∧ x' ≤ 25) (hy' : -25 ≤ y' ∧ y' ≤ 25) (h : (x' = x ∧ y' = y) ∨ zLt 107 108 L M x' y') : zLt 107 108 L (zfil L M x y) x' y' := zLt_wr (by decide) hx hy hx' hy' h
theorem find_row {L : zL} {M : zMem} (h : zML L M) (hr : zRL L) {y : Int} (hy : -25 ≤ y ∧ y ≤ 25) (s2 : Int32 × zMem) (hs2 : s2.1 = iI y) (hlow : ∀ x' y', (-25 ≤ x' ∧ x' ≤ 25) → (-25 ≤ y' ∧ y' < y) → zLt 107 108 L M x' y') : ∃ M', (zfr [107, 108] M M' ∧ ∀ x' y', (-25 ≤ x' ∧ x' ≤ 25) → (-25 ≤ y' ∧ y' ≤ y) → zLt 107 108 L M' x' y') ∧ ∀ q, zloop (FX8_findPlane_L12 q s2) zFuel (iI (-25), M) = q (iI (y + 1), M') := by
  have key := zloop_invK (f := fun q => FX8_findPlane_L12 q s2) (r := fun q s => q (iI (y + 1), s.2)) (fun i s => s.1 = iI (-25 + (i : Int)) ∧ zfr [107, 108] M s.2 ∧ ∀ x' y', (-25 ≤ x' ∧ x' ≤ 25) → (-25 ≤ y' ∧ y' ≤ 25) → (y' < y ∨ (y' = y ∧ x' < -25 + (i : Int))) → zLt 107 108 L s.2 x' y') 51 ?_ ?_ 51 0 zFuel (iI (-25), M) rfl (zfu (by omega)) ?_
  · obtain ⟨s', ⟨-, g2, g3⟩, g4⟩ := key
    exact ⟨s'.2, ⟨g2, fun x' y' hx' hy' => g3 x' y' hx' (by omega) (by omega)⟩, g4⟩
  · intro i s hi hI
    obtain ⟨s1, sm⟩ := s
    obtain ⟨e1, e2, e3⟩ := hI
    have e1 : s1 = iI (-25 + (i : Int)) := e1
    subst e1
    have hc : zML L sm := h.zf e2 (by decide)
    refine ⟨(iI (-25 + (i : Int) + 1), zfil L sm (-25 + (i : Int)) y), ⟨?_, zfil.fr e2, ?_⟩, fun q rec => ?_⟩
    · show iI (-25 + (i : Int) + 1) = iI (-25 + ((i + 1 : Nat) : Int))
      congr 1; omega
    · intro x' y' hx' hy' hh
      refine zfil_at (by omega) hy hx' hy' ?_
      by_cases hq : x' = -25 + (i : Int) ∧ y' = y
      · exact Or.inl hq
      · exact Or.inr (e3 x' y' hx' hy' (by omega))
    · show FX8_findPlane_L12 q s2 rec _ = _
      unfold FX8_findPlane_L12
      show (if iI (-25 + (i : Int)) < (26 : Int32) then _ else _) = _
      rw [show (26 : Int32) = iI 26 from rfl, if_pos ((iLt (by omega) (by omega)).mpr (by omega)), hs2]
      refine (fill_eq hc hr (x := -25 + (i : Int)) (by omega) hy (fun M11 => zlet (iI (-25 + (i : Int)) + (1 : Int32)) fun x12 => rec (x12, M11))).trans ?_
      show rec (iI (-25 + (i : Int)) + (1 : Int32), _) = _
      rw [show (1 : Int32) = iI 1 from rfl, iA]
  · intro s hI q rec
    obtain ⟨s1, sm⟩ := s
    obtain ⟨e1, -, -⟩ := hI
    have e1 : s1 = iI (-25 + ((51 : Nat) : Int)) := e1
    subst e1
    show FX8_findPlane_L12 q s2 rec _ = _
    unfold FX8_findPlane_L12
    show (if iI (-25 + ((51 : Nat) : Int)) < (26 : Int32) then _ else _) = _
    rw [if_neg (by decide)]
    simp only [zlet]
    rw [hs2, show (1 : Int32) = iI 1 from rfl, iA]
  · exact ⟨rfl, zfr.rf, fun x' y' hx' hy' hh => hlow x' y' hx' (by omega)⟩
/-- the reference's plane is as the lens says -/
def zPlM (L : zL) (M : zMem) : Prop := ∀ x y, (-25 ≤ x ∧ x ≤ 25) → (-25 ≤ y ∧ y ≤ 25) → zLt 107 108 L M x y
theorem findPlane_eq {L : zL} {M : zMem} (h : zML L M) (hr : zRL L) : ∃ M', FX8_findPlane M = some M' ∧ zPlM L M' ∧ zfr [107, 108] M M' := by
  have key := zloop_inv (f := FX8_findPlane_L3) (r := fun s => some s.2) (fun i s => s.1 = iI (-25 + (i : Int)) ∧ zfr [107, 108] M s.2 ∧ ∀ x' y', (-25 ≤ x' ∧ x' ≤ 25) → (-25 ≤ y' ∧ y' < -25 + (i : Int)) → zLt 107 108 L s.2 x' y') 51 ?_ ?_ 51 0 zFuel (iI (-25), M) rfl (zfu (by omega)) ?_
  · obtain ⟨s', ⟨-, g2, g3⟩, g4⟩ := key
    exact ⟨s'.2, g4, fun x' y' hx' hy' => g3 x' y' hx' (by omega), g2⟩
  · intro i s hi hI
    obtain ⟨s1, sm⟩ := s
    obtain ⟨e1, e2, e3⟩ := hI
    have e1 : s1 = iI (-25 + (i : Int)) := e1
    subst e1
    have hc : zML L sm := h.zf e2 (by decide)
    obtain ⟨M', ⟨g1, g2⟩, g3⟩ := find_row hc hr (y := -25 + (i : Int)) (by omega) (iI (-25 + (i : Int)), sm) rfl e3
    refine ⟨(iI (-25 + (i : Int) + 1), M'), ⟨?_, e2.tr g1, fun x' y' hx' hy' => g2 x' y' hx' (by omega)⟩, fun rec => ?_⟩
    · show iI (-25 + (i : Int) + 1) = iI (-25 + ((i + 1 : Nat) : Int))
      congr 1; omega
    · unfold FX8_findPlane_L3
      show (if iI (-25 + (i : Int)) < (26 : Int32) then _ else _) = _
      rw [show (26 : Int32) = iI 26 from rfl, if_pos ((iLt (by omega) (by omega)).mpr (by omega))]
      exact g3 rec
  · intro s hI rec
    obtain ⟨s1, sm⟩ := s
    obtain ⟨e1, -, -⟩ := hI
    have e1 : s1 = iI (-25 + ((51 : Nat) : Int)) := e1
    subst e1
    unfold FX8_findPlane_L3
    show (if iI (-25 + ((51 : Nat) : Int)) < (26 : Int32) then _ else _) = _
    rw [if_neg (by decide)]
  · exact ⟨rfl, zfr.rf, fun x' y' hx' hy' => by omega⟩
/-! around one pixel -/
theorem around_row {L : zL} {M : zMem} (h : zML L M) (hr : zRL L) {x y : Int} (hx : -24 ≤ x ∧ x ≤ 24) (hy : -30 ≤ y ∧ y ≤ 30) (s2 : Int32 × zMem) (hs2 : s2.1 = iI y) : ∃ M', (zfr [107, 108] M M' ∧ ∀ x' y', (-25 ≤ x' ∧ x' ≤ 25) → (-25 ≤ y' ∧ y' ≤ 25) → (zLt 107 108 L M x' y' ∨ (y' = y ∧ x - 1 ≤ x' ∧ x' ≤ x + 2)) → zLt 107 108 L M' x' y') ∧ ∀ q, zloop (FX8_findAround_L16 q s2 (iI x)) zFuel (iI (x - 1), M) = q (iI (y + 1), M') := by
  have key := zloop_invK (f := fun q => FX8_findAround_L16 q s2 (iI x)) (r := fun q s => q (iI (y + 1), s.2)) (fun i s => s.1 = iI (x - 1 + (i : Int)) ∧ zfr [107, 108] M s.2 ∧ ∀ x' y', (-25 ≤ x' ∧ x' ≤ 25) → (-25 ≤ y' ∧ y' ≤ 25) → (zLt 107 108 L M x' y' ∨ (y' = y ∧ x - 1 ≤ x' ∧ x' < x - 1 + (i : Int))) → zLt 107 108 L s.2 x' y') 4 ?_ ?_ 4 0 zFuel (iI (x - 1), M) rfl (zfu (by omega)) ?_
  · obtain ⟨s', ⟨-, g2, g3⟩, g4⟩ := key
    exact ⟨s'.2, ⟨g2, fun x' y' hx' hy' hh => g3 x' y' hx' hy' (hh.imp id (fun z => by omega))⟩, g4⟩
  · intro i s hi hI
    obtain ⟨s1, sm⟩ := s
    obtain ⟨e1, e2, e3⟩ := hI
    have e1 : s1 = iI (x - 1 + (i : Int)) := e1
    subst e1
    have hc : zML L sm := h.zf e2 (by decide)
    by_cases hin : (-25 ≤ x - 1 + (i : Int) ∧ x - 1 + (i : Int) ≤ 25) ∧ (-25 ≤ y ∧ y ≤ 25)
    · refine ⟨(iI (x - 1 + (i : Int) + 1), zfil L sm (x - 1 + (i : Int)) y), ⟨?_, zfil.fr e2, ?_⟩, fun q rec => ?_⟩
      · show iI (x - 1 + (i : Int) + 1) = iI (x - 1 + ((i + 1 : Nat) : Int))
        congr 1; omega
      · intro x' y' hx' hy' hh
        refine zfil_at hin.1 hin.2 hx' hy' ?_
        by_cases hq : x' = x - 1 + (i : Int) ∧ y' = y
        · exact Or.inl hq
        · exact Or.inr (e3 x' y' hx' hy' (hh.imp id (fun z => by omega)))
      · show FX8_findAround_L16 q s2 (iI x) rec _ = _
        unfold FX8_findAround_L16
        show (if iI x + (2 : Int32) < iI (x - 1 + (i : Int)) then _ else _) = _
        rw [show (2 : Int32) = iI 2 from rfl, iA, if_neg (fun z => by have := (iLt (by omega) (by omega)).mp z; omega), isNear_25, Option.bind_some, zb_if]
        show (if pIn 25 (iI (x - 1 + (i : Int))) s2.1 then _ else _) = _
        rw [hs2, if_pos (show pIn 25 (iI (x - 1 + (i : Int))) (iI y) by unfold pIn; rw [iT (by omega) (by omega), iT (by omega) (by omega)]; exact hin)]
        refine (fill_eq hc hr hin.1 hin.2 (fun M11 => zlet (iI (x - 1 + (i : Int)) + (1 : Int32)) fun x12 => rec (x12, M11))).trans ?_
        show rec (iI (x - 1 + (i : Int)) + (1 : Int32), _) = _
        rw [show (1 : Int32) = iI 1 from rfl, iA]
    · refine ⟨(iI (x - 1 + (i : Int) + 1), sm), ⟨?_, e2, ?_⟩, fun q rec => ?_⟩
      · show iI (x - 1 + (i : Int) + 1) = iI (x - 1 + ((i + 1 : Nat) : Int))
        congr 1; omega
      · intro x' y' hx' hy' hh
        exact e3 x' y' hx' hy' (hh.imp id (fun z => by omega))
      · show FX8_findAround_L16 q s2 (iI x) rec _ = _
        unfold FX8_findAround_L16
        show (if iI x + (2 : Int32) < iI (x - 1 + (i : Int)) then _ else _) = _
        rw [show (2 : Int32) = iI 2 from rfl, iA, if_neg (fun z => by have := (iLt (by omega) (by omega)).mp z; omega), isNear_25, Option.bind_some, zb_if]
        show (if pIn 25 (iI (x - 1 + (i : Int))) s2.1 then _ else _) = _
        rw [hs2, if_neg (show ¬ pIn 25 (iI (x - 1 + (i : Int))) (iI y) by unfold pIn; rw [iT (by omega) (by omega), iT (by omega) (by omega)]; exact hin)]
        show rec (iI (x - 1 + (i : Int)) + (1 : Int32), _) = _
        rw [show (1 : Int32) = iI 1 from rfl, iA]
  · intro s hI q rec
    obtain ⟨s1, sm⟩ := s
    obtain ⟨e1, -, -⟩ := hI
    have e1 : s1 = iI (x - 1 + ((4 : Nat) : Int)) := e1
    subst e1
    show FX8_findAround_L16 q s2 (iI x) rec _ = _
    unfold FX8_findAround_L16
    show (if iI x + (2 : Int32) < iI (x - 1 + ((4 : Nat) : Int)) then _ else _) = _
    rw [show (2 : Int32) = iI 2 from rfl, iA, if_pos ((iLt (by omega) (by omega)).mpr (by omega))]
    simp only [zlet]
    rw [hs2, show (1 : Int32) = iI 1 from rfl, iA]
  · exact ⟨by show iI (x - 1) = iI (x - 1 + ((0 : Nat) : Int)); congr 1; omega, zfr.rf, fun x' y' hx' hy' hh => hh.elim id (fun z => by omega)⟩
theorem findAround_eq {L : zL} {M : zMem} (h : zML L M) (hr : zRL L) {x y : Int} (hx : -24 ≤ x ∧ x ≤ 24) (hy : -24 ≤ y ∧ y ≤ 24) : ∃ M', FX8_findAround (iI x) (iI y) M = some M' ∧ (∀ x' y', (-25 ≤ x' ∧ x' ≤ 25) → (-25 ≤ y' ∧ y' ≤ 25) → (x - 1 ≤ x' ∧ x' ≤ x + 2) → (y - 1 ≤ y' ∧ y' ≤ y + 2) → zLt 107 108 L M' x' y') ∧ zfr [107, 108] M M' := by
  have key := zloop_inv (f := FX8_findAround_L4 (iI x) (iI y)) (r := fun s => some s.2) (fun i s => s.1 = iI (y - 1 + (i : Int)) ∧ zfr [107, 108] M s.2 ∧ ∀ x' y', (-25 ≤ x' ∧ x' ≤ 25) → (-25 ≤ y' ∧ y' ≤ 25) → (x - 1 ≤ x' ∧ x' ≤ x + 2) → (y - 1 ≤ y' ∧ y' < y - 1 + (i : Int)) → zLt 107 108 L s.2 x' y') 4 ?_ ?_ 4 0 zFuel (iI (y - 1), M) rfl (zfu (by omega)) ?_
  · obtain ⟨s', ⟨-, g2, g3⟩, g4⟩ := key
    refine ⟨s'.2, ?_, fun x' y' hx' hy' h1 h2 => g3 x' y' hx' hy' h1 (by omega), g2⟩
    unfold FX8_findAround
    simp only [zlet]
    rw [show (1 : Int32) = iI 1 from rfl, iS]
    exact g4
  · intro i s hi hI
    obtain ⟨s1, sm⟩ := s
    obtain ⟨e1, e2, e3⟩ := hI
    have e1 : s1 = iI (y - 1 + (i : Int)) := e1
    subst e1
    have hc : zML L sm := h.zf e2 (by decide)
    obtain ⟨M', ⟨g1, g2⟩, g3⟩ := around_row hc hr hx (y := y - 1 + (i : Int)) (by omega) (iI (y - 1 + (i : Int)), sm) rfl
    refine ⟨(iI (y - 1 + (i : Int) + 1), M'), ⟨?_, e2.tr g1, fun x' y' hx' hy' h1 h2 => g2 x' y' hx' hy' ?_⟩, fun rec => ?_⟩
    · show iI (y - 1 + (i : Int) + 1) = iI (y - 1 + ((i + 1 : Nat) : Int))
      congr 1; omega
    · by_cases hq : y' = y - 1 + (i : Int)
      · exact Or.inr ⟨hq, h1⟩
      · exact Or.inl (e3 x' y' hx' hy' h1 (by omega))
    · unfold FX8_findAround_L4
      show (if iI y + (2 : Int32) < iI (y - 1 + (i : Int)) then _ else _) = _
      rw [show (2 : Int32) = iI 2 from rfl, iA, if_neg (fun z => by have := (iLt (by omega) (by omega)).mp z; omega)]
      simp only [zlet]
      rw [show (1 : Int32) = iI 1 from rfl, iS]
      exact g3 rec
  · intro s hI rec
    obtain ⟨s1, sm⟩ := s
    obtain ⟨e1, -, -⟩ := hI
    have e1 : s1 = iI (y - 1 + ((4 : Nat) : Int)) := e1
    subst e1
    unfold FX8_findAround_L4
    show (if iI y + (2 : Int32) < iI (y - 1 + ((4 : Nat) : Int)) then _ else _) = _
    rw [show (2 : Int32) = iI 2 from rfl, iA, if_pos ((iLt (by omega) (by omega)).mpr (by omega))]
  · exact ⟨by show iI (y - 1) = iI (y - 1 + ((0 : Nat) : Int)); congr 1; omega, zfr.rf, fun x' y' hx' hy' h1 h2 => by omega⟩
/-! under the told pixels -/
theorem findTold_eq {L : zL} {M : zMem} (h : zML L M) (hr : zRL L) : ∃ M', FX8_findTold M = some M' ∧ (∀ p, p < 2401 → M.1 106 p ≠ -9 → zLt 107 108 L M' (pX p) (pY p)) ∧ zfr [107, 108] M M' := by
  have key := zloop_inv (f := FX8_findTold_L2) (r := fun s => some s.2) (fun i s => s.1 = iI (i : Int) ∧ zfr [107, 108] M s.2 ∧ ∀ p, p < i → p < 2401 → M.1 106 p ≠ -9 → zLt 107 108 L s.2 (pX p) (pY p)) 2401 ?_ ?_ 2401 0 zFuel (iI 0, M) rfl (zfu (by omega)) ?_
  · obtain ⟨s', ⟨-, g2, g3⟩, g4⟩ := key
    exact ⟨s'.2, g4, fun p hp h1 => g3 p hp hp h1, g2⟩
  · intro i s hi hI
    obtain ⟨s1, sm⟩ := s
    obtain ⟨e1, e2, e3⟩ := hI
    have e1 : s1 = iI (i : Int) := e1
    subst e1
    have hc : zML L sm := h.zf e2 (by decide)
    have hp := pXY hi
    have ht : sm.1 106 = M.1 106 := e2.1 106 (by decide)
    by_cases hn : M.1 106 i = -9
    · refine ⟨(iI ((i : Int) + 1), sm), ⟨rfl, e2, fun p h1 h2 h3 => e3 p (by have : p ≠ i := fun z => h3 (by rw [z]; exact hn); omega) h2 h3⟩, fun rec => ?_⟩
      unfold FX8_findTold_L2
      show (if iI (i : Int) < (2401 : Int32) then _ else _) = _
      rw [show (2401 : Int32) = iI 2401 from rfl, if_pos ((iLt (by omega) (by omega)).mpr (by omega)), show (iI (i : Int), sm).fst = iI (i : Int) from rfl, zgI (by omega) (by omega) (by omega), zrI _ _ (by omega) (by omega), Int.toNat_natCast, if_pos (show (iI (i : Int), sm).snd.1 106 i = -9 from (congrFun ht i).trans hn)]
      simp only [zlet]
      rw [show (1 : Int32) = iI 1 from rfl, iA]
    · refine ⟨(iI ((i : Int) + 1), zfil L sm (pX i) (pY i)), ⟨rfl, zfil.fr e2, fun p h1 h2 h3 => ?_⟩, fun rec => ?_⟩
      · have hq := pXY h2
        refine zfil_at (by omega) (by omega) (by omega) (by omega) ?_
        by_cases e : p = i
        · exact Or.inl (by rw [e]; exact ⟨rfl, rfl⟩)
        · exact Or.inr (e3 p (by omega) h2 h3)
      · unfold FX8_findTold_L2
        show (if iI (i : Int) < (2401 : Int32) then _ else _) = _
        rw [show (2401 : Int32) = iI 2401 from rfl, if_pos ((iLt (by omega) (by omega)).mpr (by omega)), show (iI (i : Int), sm).fst = iI (i : Int) from rfl, zgI (by omega) (by omega) (by omega), zrI _ _ (by omega) (by omega), Int.toNat_natCast, if_neg (show ¬ (iI (i : Int), sm).snd.1 106 i = -9 from fun z => hn ((congrFun ht i).symm.trans z)), xOfM hi, yOfM hi]
        refine (fill_eq hc hr (x := pX i) (y := pY i) (by omega) (by omega) (fun M11 => zlet (iI (i : Int) + (1 : Int32)) fun x12 => rec (x12, M11))).trans ?_
        show rec (iI (i : Int) + (1 : Int32), _) = _
        rw [show (1 : Int32) = iI 1 from rfl, iA]
  · intro s hI rec
    obtain ⟨s1, sm⟩ := s
    obtain ⟨e1, -, -⟩ := hI
    have e1 : s1 = iI ((2401 : Nat) : Int) := e1
    subst e1
    unfold FX8_findTold_L2
    show (if iI ((2401 : Nat) : Int) < (2401 : Int32) then _ else _) = _
    rw [if_neg (by decide)]
  · exact ⟨rfl, zfr.rf, fun p h1 => by omega⟩
