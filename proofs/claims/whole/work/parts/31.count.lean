/-! ===== count ===== -/
def tC (t : Nat → Int) : Nat → Int
  | 0 => 0
  | n + 1 => tC t n + (if t n = -9 then 0 else 1)
def wS (ft : Nat → Nat → Int) : Nat → Int
  | 0 => 0
  | n + 1 => wS ft n + ft n 3
theorem tc_step (t : Nat → Int) (n : Nat) : tC t (n + 1) = tC t n + (if t n = -9 then 0 else 1) := rfl
theorem told_m9 {B : zBr} (h : zRB B) {i : Nat} (hi : i < 2401) : iI (B.2.1 i) = (-9 : Int32) ↔ B.2.1 i = -9 := by
  rw [show (-9 : Int32) = iI (-9) from rfl]
  have := h.2 i hi
  exact iEq (by omega) (by omega)
theorem toldC_eq {B : zBr} {M : zMem} (hr : zRB B) (h : ∀ i, i < 2401 → M.1 97 i = iI (B.2.1 i)) : zloop (FX0_toldCount_L4 M) zFuel ((0 : Int32), (0 : Int32)) = some (iI (tC B.2.1 2401)) := by
  have key := zloop_inv (f := FX0_toldCount_L4 M) (r := fun s => some s.1) (fun i s => s.1 = iI (tC B.2.1 i) ∧ s.2 = iI (i : Int)) 2401 ?_ ?_ 2401 0 zFuel ((0 : Int32), (0 : Int32)) rfl (zfu (by omega)) ⟨rfl, rfl⟩
  · obtain ⟨s', ⟨g1, -⟩, g2⟩ := key
    rw [g2, g1]
  · intro i s hi hI
    obtain ⟨s1, s2⟩ := s
    obtain ⟨e1, e2⟩ := hI
    have e1 : s1 = _ := e1
    have e2 : s2 = _ := e2
    subst e1 e2
    refine ⟨(iI (tC B.2.1 (i + 1)), iI ((i + 1 : Nat) : Int)), ⟨rfl, rfl⟩, fun rec => ?_⟩
    unfold FX0_toldCount_L4
    show (if iI (i : Int) < (2401 : Int32) then _ else _) = _
    rw [show (2401 : Int32) = iI 2401 from rfl, if_pos ((iLt (by omega) (by omega)).mpr (by omega))]
    simp only [zlet, zj]
    rw [zgI (by omega) (by omega) (by omega), zrI _ _ (by omega) (by omega), Int.toNat_natCast, h i hi, iA1, tc_step]
    by_cases e : B.2.1 i = -9
    · rw [if_pos ((told_m9 hr hi).mpr e), if_pos e, ← iA]
      rfl
    · rw [if_neg (fun z => e ((told_m9 hr hi).mp z)), if_neg e, ← iA]
      rfl
  · intro s hI rec
    obtain ⟨s1, s2⟩ := s
    obtain ⟨e1, e2⟩ := hI
    have e2 : s2 = iI ((2401 : Nat) : Int) := e2
    subst e2
    unfold FX0_toldCount_L4
    show (if iI ((2401 : Nat) : Int) < (2401 : Int32) then _ else _) = _
    rw [if_neg (by decide)]
theorem toldM_eq {B : zBr} {M : zMem} (hr : zRB B) (h : ∀ i, i < 2401 → M.1 106 i = iI (B.2.1 i)) : zloop (FX8_count_L57 M) zFuel ((0 : Int32), (0 : Int32)) = some (iI (tC B.2.1 2401)) := by
  have key := zloop_inv (f := FX8_count_L57 M) (r := fun s => some s.1) (fun i s => s.1 = iI (tC B.2.1 i) ∧ s.2 = iI (i : Int)) 2401 ?_ ?_ 2401 0 zFuel ((0 : Int32), (0 : Int32)) rfl (zfu (by omega)) ⟨rfl, rfl⟩
  · obtain ⟨s', ⟨g1, -⟩, g2⟩ := key
    rw [g2, g1]
  · intro i s hi hI
    obtain ⟨s1, s2⟩ := s
    obtain ⟨e1, e2⟩ := hI
    have e1 : s1 = _ := e1
    have e2 : s2 = _ := e2
    subst e1 e2
    refine ⟨(iI (tC B.2.1 (i + 1)), iI ((i + 1 : Nat) : Int)), ⟨rfl, rfl⟩, fun rec => ?_⟩
    unfold FX8_count_L57
    show (if iI (i : Int) < (2401 : Int32) then _ else _) = _
    rw [show (2401 : Int32) = iI 2401 from rfl, if_pos ((iLt (by omega) (by omega)).mpr (by omega))]
    simp only [zlet, zj]
    rw [zgI (by omega) (by omega) (by omega), zrI _ _ (by omega) (by omega), Int.toNat_natCast, h i hi, iA1, tc_step]
    by_cases e : B.2.1 i = -9
    · rw [if_pos ((told_m9 hr hi).mpr e), if_pos e, ← iA]
      rfl
    · rw [if_neg (fun z => e ((told_m9 hr hi).mp z)), if_neg e, ← iA]
      rfl
  · intro s hI rec
    obtain ⟨s1, s2⟩ := s
    obtain ⟨e1, e2⟩ := hI
    have e2 : s2 = iI ((2401 : Nat) : Int) := e2
    subst e2
    unfold FX8_count_L57
    show (if iI ((2401 : Nat) : Int) < (2401 : Int32) then _ else _) = _
    rw [if_neg (by decide)]
theorem weightsC_eq {L : zL} {M : zMem} (h : zCL L M) (hr : zRL L) : zloop (FX2_weights_L4 M) zFuel ((0 : Int32), (0 : Int32)) = some (iI (wS L.2.1 L.1)) := by
  have hn := hr.1
  have key := zloop_inv (f := FX2_weights_L4 M) (r := fun s => some s.1) (fun i s => s.1 = iI (wS L.2.1 i) ∧ s.2 = iI (i : Int)) L.1 ?_ ?_ L.1 0 zFuel ((0 : Int32), (0 : Int32)) (by omega) (zfu (by omega)) ⟨rfl, rfl⟩
  · obtain ⟨s', ⟨g1, -⟩, g2⟩ := key
    rw [g2, g1]
  · intro i s hi hI
    obtain ⟨s1, s2⟩ := s
    obtain ⟨e1, e2⟩ := hI
    have e1 : s1 = _ := e1
    have e2 : s2 = _ := e2
    subst e1 e2
    refine ⟨(iI (wS L.2.1 (i + 1)), iI ((i + 1 : Nat) : Int)), ⟨rfl, rfl⟩, fun rec => ?_⟩
    have hrow := crow h hr hi
    unfold FX2_weights_L4
    show (if iI (i : Int) < M.1 1 1 then _ else _) = _
    rw [h.2.1, if_pos ((iLt (by omega) (by omega)).mpr (by omega))]
    simp only [zlet]
    rw [zlb_def, len8 h, zrow_I _ i (by omega), hrow.1, zgI (by omega) (by omega) (by omega), zgT (by rfl), show zrd M (zlb M + 1 + i) 3 = iI (L.2.1 i 3) from hrow.2 3 (by decide), iA1, iA]
    rfl
  · intro s hI rec
    obtain ⟨s1, s2⟩ := s
    obtain ⟨e1, e2⟩ := hI
    have e2 : s2 = iI (L.1 : Int) := e2
    subst e2
    unfold FX2_weights_L4
    show (if iI (L.1 : Int) < M.1 1 1 then _ else _) = _
    rw [h.2.1, if_neg (fun z => by have := (iLt (by omega) (by omega)).mp z; omega)]
theorem weightsM_eq {L : zL} {M : zMem} (h : zML L M) (hr : zRL L) : zloop (FX8_count_L98 M) zFuel ((0 : Int32), (0 : Int32)) = some (iI (wS L.2.1 L.1)) := by
  have hn := hr.1
  have key := zloop_inv (f := FX8_count_L98 M) (r := fun s => some s.1) (fun i s => s.1 = iI (wS L.2.1 i) ∧ s.2 = iI (i : Int)) L.1 ?_ ?_ L.1 0 zFuel ((0 : Int32), (0 : Int32)) (by omega) (zfu (by omega)) ⟨rfl, rfl⟩
  · obtain ⟨s', ⟨g1, -⟩, g2⟩ := key
    rw [g2, g1]
  · intro i s hi hI
    obtain ⟨s1, s2⟩ := s
    obtain ⟨e1, e2⟩ := hI
    have e1 : s1 = _ := e1
    have e2 : s2 = _ := e2
    subst e1 e2
    refine ⟨(iI (wS L.2.1 (i + 1)), iI ((i + 1 : Nat) : Int)), ⟨rfl, rfl⟩, fun rec => ?_⟩
    unfold FX8_count_L98
    show (if iI (i : Int) < M.1 100 1 then _ else _) = _
    rw [h.1, if_pos ((iLt (by omega) (by omega)).mpr (by omega))]
    simp only [zlet]
    rw [show (6 : Int32) = iI 6 from rfl, iM, show (3 : Int32) = iI 3 from rfl, iA, zgI (by omega) (by omega) (by omega), zrI _ _ (by omega) (by omega), show (6 * (i : Int) + 3).toNat = 6 * i + 3 by omega, h.2.2.2 i 3 hi (by decide), iA1, iA]
    rfl
  · intro s hI rec
    obtain ⟨s1, s2⟩ := s
    obtain ⟨e1, e2⟩ := hI
    have e2 : s2 = iI (L.1 : Int) := e2
    subst e2
    unfold FX8_count_L98
    show (if iI (L.1 : Int) < M.1 100 1 then _ else _) = _
    rw [h.1, if_neg (fun z => by have := (iLt (by omega) (by omega)).mp z; omega)]
theorem count_case (x0 : Int32) : zCaseP (FX7_count x0) (FX8_count x0) := by
  intro S M hR hC hM
  unfold FX7_count FX8_count FX0_toldCount FX2_weights
  rw [toldC_eq hR.2.2.2 hC.2.2.2.1.2.1, toldM_eq hR.2.2.2 hM.2.2.2.2.1, weightsC_eq hC.1 hR.1, weightsM_eq hM.1 hR.1, hC.1.2.1, hM.1.1, hC.2.2.1.1, hM.2.2.1.1, hC.2.2.1.2.2.1, hM.2.2.1.2.2.1, hC.2.1.1, hM.2.1.1, Option.bind_some, Option.bind_some]
  by_cases h0 : x0 = 0
  · rw [if_pos h0]; exact ⟨_, rfl, rfl⟩
  · rw [if_neg h0]
    by_cases h1 : x0 = 1
    · rw [if_pos h1]; exact ⟨_, rfl, rfl⟩
    · rw [if_neg h1]
      by_cases h2 : x0 = 2
      · rw [if_pos h2]; exact ⟨_, rfl, rfl⟩
      · rw [if_neg h2]
        by_cases h3 : x0 = 3
        · rw [if_pos h3]; exact ⟨_, rfl, rfl⟩
        · rw [if_neg h3]
          by_cases h4 : x0 = 4
          · rw [if_pos h4]; exact ⟨_, rfl, rfl⟩
          · rw [if_neg h4]
            by_cases h5 : x0 = 5
            · rw [if_pos h5]; exact ⟨_, rfl, rfl⟩
            · rw [if_neg h5]; exact ⟨_, rfl, rfl⟩
