theorem dS_sg (G : Int → Nat → Int) {c d s : Int} (h1 : 0 < d → s = 1) (h2 : d < 0 → s = -1) : dS (G (sgn d)) (sgn d) c d.natAbs = dS (G s) s c d.natAbs := by
  by_cases a : 0 < d
  · rw [show sgn d = s by unfold sgn; rw [if_pos a, h1 a]]
  · by_cases b : d < 0
    · rw [show sgn d = s by unfold sgn; rw [if_neg a, if_pos b, h2 b]]
    · have : d = 0 := by omega
      subst this
      rfl
theorem sgn_3 (d : Int) : (sgn d = 1 ∧ 0 < d) ∨ (sgn d = -1 ∧ d < 0) ∨ (sgn d = 0 ∧ d = 0) := by
  unfold sgn
  by_cases a : 0 < d
  · rw [if_pos a]; exact Or.inl ⟨rfl, a⟩
  · rw [if_neg a]
    by_cases b : d < 0
    · rw [if_pos b]; exact Or.inr (Or.inl ⟨rfl, b⟩)
    · rw [if_neg b]; exact Or.inr (Or.inr ⟨rfl, by omega⟩)
theorem delayC_eq {L : zL} {M : zMem} (hr : zRL L) (h : zPlC L M) {x y x2 y2 c c2 : Int} (hx : -24 ≤ x ∧ x ≤ 24) (hy : -24 ≤ y ∧ y ≤ 24) (hx2 : -24 ≤ x2 ∧ x2 ≤ 24) (hy2 : -24 ≤ y2 ∧ y2 ≤ 24) (hc : -2000 ≤ c ∧ c ≤ 2000) (hc2 : -2000 ≤ c2 ∧ c2 ≤ 2000) : FX3_delayOnWay (iI x) (iI y) (iI x2) (iI y2) (iI c) (iI c2) M = some (iJ (dS (fun i => lI L (x + (i : Int) * sgn (x2 - x)) y 0) (sgn (x2 - x)) c (x2 - x).natAbs + dS (fun i => lI L x2 (y + (i : Int) * sgn (y2 - y)) 1) (sgn (y2 - y)) c2 (y2 - y).natAbs)) := by
  unfold FX3_delayOnWay
  rw [placeAt_eq, Option.bind_some, iS, show (1 : Int32) = iI 1 from rfl]
  rw [along_eq (p := (y + 25) * 51 + x + 25) (V := fun i => lI L (x + (i : Int) * sgn (x2 - x)) y 0) (by decide) (by omega) hc (fun i hi => ?_), Option.bind_some, placeAt_eq, Option.bind_some, iS, show (51 : Int32) = iI 51 from rfl]
  rw [along_eq (p := (y + 25) * 51 + x2 + 25) (V := fun i => lI L x2 (y + (i : Int) * sgn (y2 - y)) 1) (by decide) (by omega) hc2 (fun i hi => ?_), Option.bind_some, jA]
  · have hb : (-24 ≤ y + (i : Int) * sgn (y2 - y) ∧ y + (i : Int) * sgn (y2 - y) ≤ 24) := by
      rcases sgn_3 (y2 - y) with ⟨e, g⟩ | ⟨e, g⟩ | ⟨e, g⟩ <;> rw [e] <;> omega
    have e2 : (y + 25) * 51 + x2 + 25 + (i : Int) * sgn (y2 - y) * 51 = (plN x2 (y + (i : Int) * sgn (y2 - y)) : Int) := by
      unfold plN; omega
    have hp := plN_lt (x := x2) (y := y + (i : Int) * sgn (y2 - y)) (by omega) (by omega)
    have hl := lI_le hr (x := x2) (y := y + (i : Int) * sgn (y2 - y)) (by omega) (by omega) 1
    rw [e2, Int.toNat_natCast]
    exact ⟨by omega, (h.1 _ _ (by omega) (by omega)).2, hl⟩
  · have hb : (-24 ≤ x + (i : Int) * sgn (x2 - x) ∧ x + (i : Int) * sgn (x2 - x) ≤ 24) := by
      rcases sgn_3 (x2 - x) with ⟨e, g⟩ | ⟨e, g⟩ | ⟨e, g⟩ <;> rw [e] <;> omega
    have e2 : (y + 25) * 51 + x + 25 + (i : Int) * sgn (x2 - x) * 1 = (plN (x + (i : Int) * sgn (x2 - x)) y : Int) := by
      unfold plN; omega
    have hp := plN_lt (x := x + (i : Int) * sgn (x2 - x)) (y := y) (by omega) (by omega)
    have hl := lI_le hr (x := x + (i : Int) * sgn (x2 - x)) (y := y) (by omega) (by omega) 0
    rw [e2, Int.toNat_natCast]
    exact ⟨by omega, (h.1 _ _ (by omega) (by omega)).1, hl⟩
theorem delayM_eq {L : zL} {M : zMem} (hr : zRL L) (h : zML L M) {x y x2 y2 c c2 : Int} (hx : -24 ≤ x ∧ x ≤ 24) (hy : -24 ≤ y ∧ y ≤ 24) (hx2 : -24 ≤ x2 ∧ x2 ≤ 24) (hy2 : -24 ≤ y2 ∧ y2 ≤ 24) (hc : -2000 ≤ c ∧ c ≤ 2000) (hc2 : -2000 ≤ c2 ∧ c2 ≤ 2000) : FX8_delay (iI x) (iI y) (iI x2) (iI y2) (iI c) (iI c2) M = some (iJ (dS (fun i => lI L (x + (i : Int) * sgn (x2 - x)) y 0) (sgn (x2 - x)) c (x2 - x).natAbs + dS (fun i => lI L x2 (y + (i : Int) * sgn (y2 - y)) 1) (sgn (y2 - y)) c2 (y2 - y).natAbs)) := by
  have ylow : ∀ a : Int, zj (fun (x17 : Int32) => zloop (FX8_delay_L123 M (iI x2) (iI y2) (iI c2) x17) zFuel (iJ a, iI y)) (fun k18 => if iI y < iI y2 then (k18 (1 : Int32)) else (k18 (-1 : Int32))) = some (iJ (a + dS (fun i => lI L x2 (y + (i : Int) * sgn (y2 - y)) 1) (sgn (y2 - y)) c2 (y2 - y).natAbs)) := by
    intro a
    show (if iI y < iI y2 then zloop (FX8_delay_L123 M (iI x2) (iI y2) (iI c2) (iI 1)) zFuel (iJ a, iI y) else zloop (FX8_delay_L123 M (iI x2) (iI y2) (iI c2) (iI (-1))) zFuel (iJ a, iI y)) = _
    by_cases g : y < y2
    · rw [if_pos ((iLt (by omega) (by omega)).mpr g), way_y h hr hx2 hy hy2 hc2 (Or.inl rfl) (by omega), dS_sg (fun s i => lI L x2 (y + (i : Int) * s) 1) (s := 1) (by omega) (by omega)]
    · rw [if_neg (fun z => g ((iLt (by omega) (by omega)).mp z)), way_y h hr hx2 hy hy2 hc2 (Or.inr rfl) (by omega), dS_sg (fun s i => lI L x2 (y + (i : Int) * s) 1) (s := -1) (by omega) (by omega)]
  unfold FX8_delay
  rw [isPixel_eq, Option.bind_some]
  refine zj_c (V := fun _ => some (-1000000000)) (fun _ => rfl) ?_
  rw [zb_if, if_pos ((pIn_I (by omega) (by omega)).mpr ⟨hx, hy⟩), isPixel_eq, Option.bind_some, zb_if, if_pos ((pIn_I (by omega) (by omega)).mpr ⟨hx2, hy2⟩), isNear_2000, Option.bind_some, zb_if, if_pos ((pIn_I (by omega) (by omega)).mpr ⟨hc, hc2⟩)]
  show (if iI x < iI x2 then zloop (FX8_delay_L52 M (iI y) (iI x2) (iI y2) (iI c) (iI c2) (iI 1)) zFuel (iJ 0, iI x) else zloop (FX8_delay_L52 M (iI y) (iI x2) (iI y2) (iI c) (iI c2) (iI (-1))) zFuel (iJ 0, iI x)) = _
  by_cases g : x < x2
  · rw [if_pos ((iLt (by omega) (by omega)).mpr g), way_x h hr hx hx2 hy hc (Or.inl rfl) (by omega), ylow, dS_sg (fun s i => lI L (x + (i : Int) * s) y 0) (s := 1) (by omega) (by omega)]
  · rw [if_neg (fun z => g ((iLt (by omega) (by omega)).mp z)), way_x h hr hx hx2 hy hc (Or.inr rfl) (by omega), ylow, dS_sg (fun s i => lI L (x + (i : Int) * s) y 0) (s := -1) (by omega) (by omega)]
theorem delay_case (x0 x1 x2 x3 x4 x5 : Int32) : ∀ S M, zRS S → zIC S M → zIM S M → ∃ r M1, FX7_delay x0 x1 x2 x3 x4 x5 M = some (r, M1) ∧ FX8_delay x0 x1 x2 x3 x4 x5 M1 = some r ∧ zIC S M1 ∧ zIM S M1 := by
  intro S M hR hC hM
  obtain ⟨x, hx1, hx2, rfl⟩ := iOf x0
  obtain ⟨y, hy1, hy2, rfl⟩ := iOf x1
  obtain ⟨u, hu1, hu2, rfl⟩ := iOf x2
  obtain ⟨v, hv1, hv2, rfl⟩ := iOf x3
  obtain ⟨c, hc1, hc2, rfl⟩ := iOf x4
  obtain ⟨d, hd1, hd2, rfl⟩ := iOf x5
  by_cases h1 : pIn 24 (iI x) (iI y)
  · by_cases h2 : pIn 24 (iI u) (iI v)
    · by_cases h3 : pIn 2000 (iI c) (iI d)
      · have p1 := (pIn_I ⟨hx1, hx2⟩ ⟨hy1, hy2⟩).mp h1
        have p2 := (pIn_I ⟨hu1, hu2⟩ ⟨hv1, hv2⟩).mp h2
        have p3 := (pIn_I ⟨hc1, hc2⟩ ⟨hd1, hd2⟩).mp h3
        obtain ⟨M', g1, g2, g3, g4, g5⟩ := hC.look hR
        have hM' := hM.ag (g5.agM (by decide))
        refine ⟨_, M', ?_, delayM_eq hR.1 hM'.1 p1.1 p1.2 p2.1 p2.2 p3.1 p3.2, g2, hM'⟩
        unfold FX7_delay
        rw [isWithin_24, Option.bind_some]
        refine zj_c (V := fun _ => some (-1000000000, M)) (fun _ => rfl) ?_
        rw [zb_if, if_pos h1, isWithin_24, Option.bind_some, zb_if, if_pos h2, isWithin_2000, Option.bind_some, zb_if, if_pos h3, g1, Option.bind_some, delayC_eq hR.1 g4 p1.1 p1.2 p2.1 p2.2 p3.1 p3.2]
        rfl
      · refine ⟨-1000000000, M, ?_, ?_, hC, hM⟩
        · unfold FX7_delay
          rw [isWithin_24, Option.bind_some]
          refine zj_c (V := fun _ => some (-1000000000, M)) (fun _ => rfl) ?_
          rw [zb_if, if_pos h1, isWithin_24, Option.bind_some, zb_if, if_pos h2, isWithin_2000, Option.bind_some, zb_if, if_neg h3]
        · unfold FX8_delay
          rw [isPixel_eq, Option.bind_some]
          refine zj_c (V := fun _ => some (-1000000000)) (fun _ => rfl) ?_
          rw [zb_if, if_pos h1, isPixel_eq, Option.bind_some, zb_if, if_pos h2, isNear_2000, Option.bind_some, zb_if, if_neg h3]
    · refine ⟨-1000000000, M, ?_, ?_, hC, hM⟩
      · unfold FX7_delay
        rw [isWithin_24, Option.bind_some]
        refine zj_c (V := fun _ => some (-1000000000, M)) (fun _ => rfl) ?_
        rw [zb_if, if_pos h1, isWithin_24, Option.bind_some, zb_if, if_neg h2]
      · unfold FX8_delay
        rw [isPixel_eq, Option.bind_some]
        refine zj_c (V := fun _ => some (-1000000000)) (fun _ => rfl) ?_
        rw [zb_if, if_pos h1, isPixel_eq, Option.bind_some, zb_if, if_neg h2]
  · refine ⟨-1000000000, M, ?_, ?_, hC, hM⟩
    · unfold FX7_delay
      rw [isWithin_24, Option.bind_some]
      refine zj_c (V := fun _ => some (-1000000000, M)) (fun _ => rfl) ?_
      rw [zb_if, if_neg h1]
    · unfold FX8_delay
      rw [isPixel_eq, Option.bind_some]
      refine zj_c (V := fun _ => some (-1000000000)) (fun _ => rfl) ?_
      rw [zb_if, if_neg h1]
