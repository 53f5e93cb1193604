/-! ===== far, filled ===== -/
theorem cellX_eq {L : zL} {M : zMem} (hr : zRL L) {x y : Int} (hx : -25 ≤ x ∧ x ≤ 25) (hy : -25 ≤ y ∧ y ≤ 25) (h : zLt 107 108 L M x y) : FX8_cellX (iI x) (iI y) M = some (iI (cel L x y 0)) := by
  have hp := plN_lt hx hy
  have c := lI_le hr (x := x) (y := y) (by omega) (by omega) 0
  unfold FX8_cellX
  rw [at_eqN hx hy, Option.bind_some, zgI (by omega) (by omega) (by omega), zrI _ _ (by omega) (by omega), Int.toNat_natCast, h.1, jI (by omega) (by omega), show (8 : Int64) = iJ 8 from rfl, jA, floored16 (by omega) (by omega)]
  rfl
theorem cellY_eq {L : zL} {M : zMem} (hr : zRL L) {x y : Int} (hx : -25 ≤ x ∧ x ≤ 25) (hy : -25 ≤ y ∧ y ≤ 25) (h : zLt 107 108 L M x y) : FX8_cellY (iI x) (iI y) M = some (iI (cel L x y 1)) := by
  have hp := plN_lt hx hy
  have c := lI_le hr (x := x) (y := y) (by omega) (by omega) 1
  unfold FX8_cellY
  rw [at_eqN hx hy, Option.bind_some, zgI (by omega) (by omega) (by omega), zrI _ _ (by omega) (by omega), Int.toNat_natCast, h.2, jI (by omega) (by omega), show (8 : Int64) = iJ 8 from rfl, jA, floored16 (by omega) (by omega)]
  rfl
abbrev fIs (L : zL) (t : Nat → Int) (kx ky : Int) (p : Nat) : Prop := t p ≠ -9 ∧ cel L (pX p) (pY p) 0 = kx ∧ cel L (pX p) (pY p) 1 = ky
def fSm (L : zL) (t : Nat → Int) (kx ky : Int) : Nat → Int
  | 0 => 0
  | n + 1 => if fIs L t kx ky n then fSm L t kx ky n + t n else fSm L t kx ky n
def fCn (L : zL) (t : Nat → Int) (kx ky : Int) : Nat → Int
  | 0 => 0
  | n + 1 => if fIs L t kx ky n then fCn L t kx ky n + 1 else fCn L t kx ky n
theorem fSm_p {L : zL} {t : Nat → Int} {kx ky : Int} {n : Nat} (h : fIs L t kx ky n) : fSm L t kx ky (n + 1) = fSm L t kx ky n + t n := if_pos h
theorem fSm_n {L : zL} {t : Nat → Int} {kx ky : Int} {n : Nat} (h : ¬ fIs L t kx ky n) : fSm L t kx ky (n + 1) = fSm L t kx ky n := if_neg h
theorem fCn_p {L : zL} {t : Nat → Int} {kx ky : Int} {n : Nat} (h : fIs L t kx ky n) : fCn L t kx ky (n + 1) = fCn L t kx ky n + 1 := if_pos h
theorem fCn_n {L : zL} {t : Nat → Int} {kx ky : Int} {n : Nat} (h : ¬ fIs L t kx ky n) : fCn L t kx ky (n + 1) = fCn L t kx ky n := if_neg h
def fR (L : zL) (t : Nat → Int) (kx ky : Int) : Int32 := if iI (fCn L t kx ky 2401) = 0 then -9 else iI (fSm L t kx ky 2401) / iI (fCn L t kx ky 2401)
theorem fR_eq (L : zL) (t : Nat → Int) (kx ky : Int) : (if iI (fCn L t kx ky 2401) = 0 then (some (-9 : Int32)) else (if iI (fCn L t kx ky 2401) = 0 then none else some (iI (fSm L t kx ky 2401) / iI (fCn L t kx ky 2401)))) = some (fR L t kx ky) := by
  unfold fR
  by_cases h : iI (fCn L t kx ky 2401) = 0
  · rw [if_pos h, if_pos h]
  · rw [if_neg h, if_neg h, if_neg h]
theorem farC_eq {L : zL} {B : zBr} {M : zMem} {kx ky : Int} (hr : zRL L) (hb : zRB B) (ht : ∀ i, i < 2401 → M.1 97 i = iI (B.2.1 i)) (hk : zPlC L M) (hkx : -3400 ≤ kx ∧ kx ≤ 3400) (hky : -3400 ≤ ky ∧ ky ≤ 3400) : zloop (FX0_farOf_L7 M (iI (keyI kx ky))) zFuel ((0 : Int32), (0 : Int32), (0 : Int32)) = some (fR L B.2.1 kx ky) := by
  have key := zloop_inv (f := FX0_farOf_L7 M (iI (keyI kx ky))) (r := fun s => if s.2.1 = 0 then (some (-9 : Int32)) else (if s.2.1 = 0 then none else some (s.1 / s.2.1))) (fun i s => s.1 = iI (fSm L B.2.1 kx ky i) ∧ s.2.1 = iI (fCn L B.2.1 kx ky i) ∧ s.2.2 = iI (i : Int)) 2401 ?_ ?_ 2401 0 zFuel ((0 : Int32), (0 : Int32), (0 : Int32)) rfl (zfu (by omega)) ⟨rfl, rfl, rfl⟩
  · obtain ⟨s', ⟨g1, g2, -⟩, g3⟩ := key
    rw [g3]
    simp only [g1, g2]
    exact fR_eq L B.2.1 kx ky
  · intro i s hi hI
    obtain ⟨s1, s2, s3⟩ := s
    obtain ⟨e1, e2, e3⟩ := hI
    have e1 : s1 = _ := e1
    have e2 : s2 = _ := e2
    have e3 : s3 = _ := e3
    subst e1 e2 e3
    have hp := pXY hi
    have cl := cel_le hr (x := pX i) (y := pY i) (by omega) (by omega)
    have cl0 := cl 0
    have cl1 := cl 1
    refine ⟨(iI (fSm L B.2.1 kx ky (i + 1)), iI (fCn L B.2.1 kx ky (i + 1)), iI ((i + 1 : Nat) : Int)), ⟨rfl, rfl, rfl⟩, fun rec => ?_⟩
    unfold FX0_farOf_L7
    show (if iI (i : Int) < (2401 : Int32) then _ else _) = _
    rw [show (2401 : Int32) = iI 2401 from rfl, if_pos ((iLt (by omega) (by omega)).mpr (by omega))]
    simp only [zlet]
    rw [zgI (by omega) (by omega) (by omega), zrI _ _ (by omega) (by omega), Int.toNat_natCast, ht i hi, iA1]
    by_cases e : B.2.1 i = -9
    · rw [if_pos ((told_m9 hb hi).mpr e), fSm_n (fun z => z.1 e), fCn_n (fun z => z.1 e)]
    · skip
      have hq := (hk.2 i hi).1
      rw [if_neg (fun z => e ((told_m9 hb hi).mp z)), zgI (by omega) (by omega) (by omega), zrI _ _ (by omega) (by omega), Int.toNat_natCast, hq]
      have ke : iI (keyI (cel L (pX i) (pY i) 0) (cel L (pX i) (pY i) 1)) = iI (keyI kx ky) ↔ cel L (pX i) (pY i) 0 = kx ∧ cel L (pX i) (pY i) 1 = ky := by
        rw [iEq (by unfold keyI; omega) (by unfold keyI; omega)]
        exact keyI_inj (by omega) (by omega)
      by_cases e2 : cel L (pX i) (pY i) 0 = kx ∧ cel L (pX i) (pY i) 1 = ky
      · rw [if_pos (ke.mpr e2), zgI (by omega) (by omega) (by omega), fSm_p ⟨e, e2⟩, fCn_p ⟨e, e2⟩, show (1 : Int32) = iI 1 from rfl, iA, iA]
      · rw [if_neg (fun z => e2 (ke.mp z)), fSm_n (fun z => e2 z.2), fCn_n (fun z => e2 z.2)]
  · intro s hI rec
    obtain ⟨s1, s2, s3⟩ := s
    obtain ⟨-, -, e3⟩ := hI
    have e3 : s3 = iI ((2401 : Nat) : Int) := e3
    subst e3
    unfold FX0_farOf_L7
    show (if iI ((2401 : Nat) : Int) < (2401 : Int32) then _ else _) = _
    rw [if_neg (by decide)]
theorem farM_eq {L : zL} {B : zBr} {M : zMem} {kx ky : Int} (hr : zRL L) (hb : zRB B) (ht : ∀ i, i < 2401 → M.1 106 i = iI (B.2.1 i)) (hk : ∀ p, p < 2401 → B.2.1 p ≠ -9 → zLt 107 108 L M (pX p) (pY p)) (hkx : -3400 ≤ kx ∧ kx ≤ 3400) (hky : -3400 ≤ ky ∧ ky ≤ 3400) : zloop (FX8_farOf_L8 M (iI kx) (iI ky)) zFuel ((0 : Int32), (0 : Int32), (0 : Int32)) = some (fR L B.2.1 kx ky) := by
  have key := zloop_inv (f := FX8_farOf_L8 M (iI kx) (iI ky)) (r := fun s => if s.2.1 = 0 then (some (-9 : Int32)) else (if s.2.1 = 0 then none else some (s.1 / s.2.1))) (fun i s => s.1 = iI (fSm L B.2.1 kx ky i) ∧ s.2.1 = iI (fCn L B.2.1 kx ky i) ∧ s.2.2 = iI (i : Int)) 2401 ?_ ?_ 2401 0 zFuel ((0 : Int32), (0 : Int32), (0 : Int32)) rfl (zfu (by omega)) ⟨rfl, rfl, rfl⟩
  · obtain ⟨s', ⟨g1, g2, -⟩, g3⟩ := key
    rw [g3]
    simp only [g1, g2]
    exact fR_eq L B.2.1 kx ky
  · intro i s hi hI
    obtain ⟨s1, s2, s3⟩ := s
    obtain ⟨e1, e2, e3⟩ := hI
    have e1 : s1 = _ := e1
    have e2 : s2 = _ := e2
    have e3 : s3 = _ := e3
    subst e1 e2 e3
    have hp := pXY hi
    have cl := cel_le hr (x := pX i) (y := pY i) (by omega) (by omega)
    have cl0 := cl 0
    have cl1 := cl 1
    refine ⟨(iI (fSm L B.2.1 kx ky (i + 1)), iI (fCn L B.2.1 kx ky (i + 1)), iI ((i + 1 : Nat) : Int)), ⟨rfl, rfl, rfl⟩, fun rec => ?_⟩
    unfold FX8_farOf_L8
    show (if iI (i : Int) < (2401 : Int32) then _ else _) = _
    rw [show (2401 : Int32) = iI 2401 from rfl, if_pos ((iLt (by omega) (by omega)).mpr (by omega))]
    simp only [zlet]
    rw [zgI (by omega) (by omega) (by omega), zrI _ _ (by omega) (by omega), Int.toNat_natCast, ht i hi, iA1]
    by_cases e : B.2.1 i = -9
    · rw [if_pos ((told_m9 hb hi).mpr e), fSm_n (fun z => z.1 e), fCn_n (fun z => z.1 e)]
    · skip
      have hq := hk i hi e
      rw [if_neg (fun z => e ((told_m9 hb hi).mp z)), xOfM hi, yOfM hi, cellX_eq hr (by omega) (by omega) hq, Option.bind_some, cellY_eq hr (by omega) (by omega) hq, Option.bind_some]
      have k1 : iI (cel L (pX i) (pY i) 0) = iI kx ↔ cel L (pX i) (pY i) 0 = kx := iEq (by omega) (by omega)
      have k2 : iI (cel L (pX i) (pY i) 1) = iI ky ↔ cel L (pX i) (pY i) 1 = ky := iEq (by omega) (by omega)
      by_cases e1 : cel L (pX i) (pY i) 0 = kx
      · rw [if_pos (k1.mpr e1)]
        by_cases e2 : cel L (pX i) (pY i) 1 = ky
        · rw [if_pos (k2.mpr e2), zgI (by omega) (by omega) (by omega), fSm_p ⟨e, e1, e2⟩, fCn_p ⟨e, e1, e2⟩, show (1 : Int32) = iI 1 from rfl, iA, iA]
        · rw [if_neg (fun z => e2 (k2.mp z)), fSm_n (fun z => e2 z.2.2), fCn_n (fun z => e2 z.2.2)]
      · rw [if_neg (fun z => e1 (k1.mp z)), fSm_n (fun z => e1 z.2.1), fCn_n (fun z => e1 z.2.1)]
  · intro s hI rec
    obtain ⟨s1, s2, s3⟩ := s
    obtain ⟨-, -, e3⟩ := hI
    have e3 : s3 = iI ((2401 : Nat) : Int) := e3
    subst e3
    unfold FX8_farOf_L8
    show (if iI ((2401 : Nat) : Int) < (2401 : Int32) then _ else _) = _
    rw [if_neg (by decide)]
theorem far_case (x0 x1 : Int32) : zCase (FX7_far x0 x1) (FX8_far x0 x1) := by
  refine zCase.of (fun S hR => ?_)
  obtain ⟨x, hx1, hx2, rfl⟩ := iOf x0
  obtain ⟨y, hy1, hy2, rfl⟩ := iOf x1
  by_cases h : pIn 99 (iI x) (iI y)
  · have h0 := (pIn_I ⟨hx1, hx2⟩ ⟨hy1, hy2⟩).mp h
    refine ⟨fR S.1 S.2.2.2.2.1 x y, S, hR, fun M hC => ?_, fun M hM => ?_⟩
    · obtain ⟨M', g1, g2, g3, g4, g5⟩ := hC.look hR
      refine ⟨M', ?_, g2, g5.agM (by decide)⟩
      unfold FX7_far
      rw [isWithin_99, Option.bind_some, zb_if, if_pos h, g1, Option.bind_some, keyOf_eq, Option.bind_some]
      unfold FX0_farOf
      rw [farC_eq hR.1 hR.2.2.2 g2.2.2.2.1.2.1 g4 (by omega) (by omega)]
      rfl
    · obtain ⟨M', g1, g2, g3⟩ := findTold_eq hM.1 hR.1
      have hM' := hM.qf (by decide) g3
      refine ⟨M', ?_, hM', g3.agC (by decide)⟩
      unfold FX8_far
      rw [isNear_99, Option.bind_some, zb_if, if_pos h, g1, Option.bind_some]
      unfold FX8_farOf
      rw [farM_eq hR.1 hR.2.2.2 hM'.2.2.2.2.1 (fun p hp ht => g2 p hp (fun z => ht (by rw [hM.2.2.2.2.1 p hp] at z; exact (told_m9 hR.2.2.2 hp).mp z))) (by omega) (by omega)]
      rfl
  · refine ⟨-1, S, hR, fun M hC => ⟨M, ?_, hC, zagM.rf⟩, fun M hM => ⟨M, ?_, hM, zagC.rf⟩⟩
    · unfold FX7_far
      rw [isWithin_99, Option.bind_some, zb_if, if_neg h]
    · unfold FX8_far
      rw [isNear_99, Option.bind_some, zb_if, if_neg h]
theorem filled_case (x0 x1 : Int32) : zCase (FX7_filled x0 x1) (FX8_filled x0 x1) := by
  refine zCase.of (fun S hR => ?_)
  obtain ⟨x, hx1, hx2, rfl⟩ := iOf x0
  obtain ⟨y, hy1, hy2, rfl⟩ := iOf x1
  by_cases h : pIn 24 (iI x) (iI y)
  · have h0 := (pIn_I ⟨hx1, hx2⟩ ⟨hy1, hy2⟩).mp h
    obtain ⟨q1, q2, q3⟩ := pxN_of h0.1 h0.2
    by_cases e : S.2.2.2.2.1 (pxN x y) = -9
    · have cl := cel_le hR.1 (x := x) (y := y) (by omega) (by omega)
      have cl0 := cl 0
      have cl1 := cl 1
      refine ⟨fR S.1 S.2.2.2.2.1 (cel S.1 x y 0) (cel S.1 x y 1), S, hR, fun M hC => ?_, fun M hM => ?_⟩
      · obtain ⟨M', g1, g2, g3, g4, g5⟩ := hC.look hR
        refine ⟨M', ?_, g2, g5.agM (by decide)⟩
        have hq := (g4.2 _ q1).1
        rw [q2, q3] at hq
        unfold FX7_filled
        rw [isWithin_24, Option.bind_some, zb_if, if_pos h, pixelAt_eq, Option.bind_some, pxN_I h0.1 h0.2, zgI (by omega) (by omega) (by omega), zrI _ _ (by omega) (by omega), Int.toNat_natCast, hC.2.2.2.1.2.1 _ q1, if_pos ((told_m9 hR.2.2.2 q1).mpr e), g1, Option.bind_some, zgI (by omega) (by omega) (by omega), zrI _ _ (by omega) (by omega), Int.toNat_natCast, hq]
        unfold FX0_farOf
        rw [farC_eq hR.1 hR.2.2.2 g2.2.2.2.1.2.1 g4 cl0 cl1]
        rfl
      · obtain ⟨M', g1, g2, g3⟩ := findTold_eq hM.1 hR.1
        have hM' := hM.qf (by decide) g3
        refine ⟨M', ?_, hM', g3.agC (by decide)⟩
        unfold FX8_filled
        rw [isPixel_eq, Option.bind_some, zb_if, if_pos h, pixel_eq, Option.bind_some, pxN_I h0.1 h0.2, zgI (by omega) (by omega) (by omega), zrI _ _ (by omega) (by omega), Int.toNat_natCast, hM.2.2.2.2.1 _ q1, if_pos ((told_m9 hR.2.2.2 q1).mpr e), g1, Option.bind_some, cellOfM_eq hM'.1 hR.1 (by omega) (by omega), Option.bind_some, cellOfM_eq hM'.1 hR.1 (by omega) (by omega), Option.bind_some]
        unfold FX8_farOf
        show (zloop (FX8_farOf_L8 M' (iI (cel S.1 x y 0)) (iI (cel S.1 x y 1))) zFuel (0, 0, 0)).bind _ = _
        rw [farM_eq hR.1 hR.2.2.2 hM'.2.2.2.2.1 (fun p hp ht => g2 p hp (fun z => ht (by rw [hM.2.2.2.2.1 p hp] at z; exact (told_m9 hR.2.2.2 hp).mp z))) cl0 cl1]
        rfl
    · refine ⟨iI (S.2.2.2.2.1 (pxN x y)), S, hR, fun M hC => ⟨M, ?_, hC, zagM.rf⟩, fun M hM => ⟨M, ?_, hM, zagC.rf⟩⟩
      · unfold FX7_filled
        rw [isWithin_24, Option.bind_some, zb_if, if_pos h, pixelAt_eq, Option.bind_some, pxN_I h0.1 h0.2, zgI (by omega) (by omega) (by omega), zrI _ _ (by omega) (by omega), Int.toNat_natCast, hC.2.2.2.1.2.1 _ q1, if_neg (fun z => e ((told_m9 hR.2.2.2 q1).mp z)), zgI (by omega) (by omega) (by omega)]
      · unfold FX8_filled
        rw [isPixel_eq, Option.bind_some, zb_if, if_pos h, pixel_eq, Option.bind_some, pxN_I h0.1 h0.2, zgI (by omega) (by omega) (by omega), zrI _ _ (by omega) (by omega), Int.toNat_natCast, hM.2.2.2.2.1 _ q1, if_neg (fun z => e ((told_m9 hR.2.2.2 q1).mp z)), Option.bind_some, zgI (by omega) (by omega) (by omega), zrI _ _ (by omega) (by omega), Int.toNat_natCast, hM.2.2.2.2.1 _ q1]
  · refine ⟨-1, S, hR, fun M hC => ⟨M, ?_, hC, zagM.rf⟩, fun M hM => ⟨M, ?_, hM, zagC.rf⟩⟩
    · unfold FX7_filled
      rw [isWithin_24, Option.bind_some, zb_if, if_neg h]
    · unfold FX8_filled
      rw [isPixel_eq, Option.bind_some, zb_if, if_neg h]
