/-! ===== cases: helpers, and the easy ones ===== -/
theorem zIC.text {S : zSt} {T' : zTx} {M M' : zMem} (h : zIC S M) (r : zRS S) (f : zfr [23, 24] M M') (e : M'.1 23 1 = M.1 23 1) (t : zCT T' M') : zIC (S.1, T', S.2.2) M' := by
  obtain ⟨h1, h2, h3, h4, h5, h6⟩ := h
  have n : ∀ c, c ≠ 23 → c ≠ 24 → M'.1 c = M.1 c := fun c a b => f.1 c (by simp only [List.mem_cons, List.not_mem_nil, or_false]; omega)
  exact ⟨h1.fr r.1.1 (fun c hc => n c (by omega) (by omega)) e, t, h3.fr r.2.2.1 (fun j _ => by rw [n 34 (by omega) (by omega)]) (fun c h1 h2 => n c (by omega) (by omega)), h4.fr (by rw [n 96 (by omega) (by omega)]) (n 97 (by omega) (by omega)) (by rw [f.2]), h5.fr (by rw [n 15 (by omega) (by omega)]) (fun c h1 h2 => n c (by omega) (by omega)), h6.fr r.2.2.1 (fun j _ _ => by rw [n 34 (by omega) (by omega)]) (fun c hc => n c (by omega) (by omega))⟩
theorem zIC.prs {S : zSt} {P' : zPr} {M M' : zMem} (h : zIC S M) (r : zRS S) (f : ∀ c, ¬ (34 ≤ c ∧ c ≤ 54) → M'.1 c = M.1 c) (f2 : M'.2 = M.2) (e : M'.1 34 16 = 1) (t : zCP P' M') : zIC (S.1, S.2.1, P', S.2.2.2) M' := by
  obtain ⟨h1, h2, h3, h4, h5, h6⟩ := h
  exact ⟨h1.fr r.1.1 (fun c hc => f c (by omega)) (by rw [f 23 (by omega)]), h2.fr (by rw [f 23 (by omega)]) (f 24 (by omega)), t, h4.fr (by rw [f 96 (by omega)]) (f 97 (by omega)) (by rw [f2]), h5.fr (by rw [f 15 (by omega)]) (fun c h1 h2 => f c (by omega)), Or.inl e⟩
theorem zIC.bri {S : zSt} {B' : zBr} {M M' : zMem} (h : zIC S M) (r : zRS S) (f : ∀ c, c ≠ 96 → c ≠ 97 → M'.1 c = M.1 c) (t : zCB B' M') : zIC (S.1, S.2.1, S.2.2.1, B') M' := by
  obtain ⟨h1, h2, h3, h4, h5, h6⟩ := h
  exact ⟨h1.fr r.1.1 (fun c hc => f c (by omega) (by omega)) (by rw [f 23 (by omega) (by omega)]), h2.fr (by rw [f 23 (by omega) (by omega)]) (f 24 (by omega) (by omega)), h3.fr r.2.2.1 (fun j _ => by rw [f 34 (by omega) (by omega)]) (fun c h1 h2 => f c (by omega) (by omega)), t, h5.fr (by rw [f 15 (by omega) (by omega)]) (fun c h1 h2 => f c (by omega) (by omega)), h6.fr r.2.2.1 (fun j _ _ => by rw [f 34 (by omega) (by omega)]) (fun c hc => f c (by omega) (by omega))⟩
theorem zIC.len {S : zSt} {L' : zL} {M M' : zMem} (h : zIC S M) (r : zRS S) (f : ∀ c, ¬ (1 ≤ c ∧ c ≤ 10) → ¬ (25 ≤ c ∧ c ≤ 33) → c ≠ 15 → c ≠ 34 → M'.1 c = M.1 c) (f2 : M'.2 = M.2) (f3 : ∀ j, j ≠ 16 → M'.1 34 j = M.1 34 j) (e : M'.1 34 16 = 1) (e2 : M'.1 15 5 = 1) (t : zCL L' M') : zIC (L', S.2) M' := by
  obtain ⟨h1, h2, h3, h4, h5, h6⟩ := h
  exact ⟨t, h2.fr (by rw [f 23 (by omega) (by omega) (by omega) (by omega)]) (f 24 (by omega) (by omega) (by omega) (by omega)), h3.fr r.2.2.1 (fun j hj => f3 j (by omega)) (fun c h1 h2 => f c (by omega) (by omega) (by omega) (by omega)), h4.fr (by rw [f 96 (by omega) (by omega) (by omega) (by omega)]) (f 97 (by omega) (by omega) (by omega) (by omega)) (by rw [f2]), Or.inl e2, Or.inl e⟩
theorem zIM.text {S : zSt} {T' : zTx} {M M' : zMem} (h : zIM S M) (f : ∀ c, c ≠ 100 → c ≠ 102 → M'.1 c = M.1 c) (f2 : M'.2 = M.2) (e : ∀ j, j ≠ 5 → M'.1 100 j = M.1 100 j) (t : zMT T' M') : zIM (S.1, T', S.2.2) M' :=
  ⟨h.1.fr (fun j _ => e j (by omega)) (f 101 (by omega) (by omega)), t, h.2.2.1.fr (fun j _ => e j (by omega)) (f 103 (by omega) (by omega)) (f 104 (by omega) (by omega)) (f 105 (by omega) (by omega)), h.2.2.2.fr (e 9 (by omega)) (f 106 (by omega) (by omega)) (by rw [f2])⟩
theorem zIM.prs {S : zSt} {P' : zPr} {M M' : zMem} (h : zIM S M) (f : ∀ c, c ≠ 100 → ¬ (103 ≤ c ∧ c ≤ 105) → M'.1 c = M.1 c) (f2 : M'.2 = M.2) (e : ∀ j, j ≠ 6 → j ≠ 8 → j ≠ 10 → M'.1 100 j = M.1 100 j) (t : zMP P' M') : zIM (S.1, S.2.1, P', S.2.2.2) M' :=
  ⟨h.1.fr (fun j _ => e j (by omega) (by omega) (by omega)) (f 101 (by omega) (by omega)), h.2.1.fr (e 5 (by omega) (by omega) (by omega)) (f 102 (by omega) (by omega)), t, h.2.2.2.fr (e 9 (by omega) (by omega) (by omega)) (f 106 (by omega) (by omega)) (by rw [f2])⟩
theorem zIM.bri {S : zSt} {B' : zBr} {M M' : zMem} (h : zIM S M) (f : ∀ c, c ≠ 100 → c ≠ 106 → M'.1 c = M.1 c) (e : ∀ j, j ≠ 9 → M'.1 100 j = M.1 100 j) (t : zMB B' M') : zIM (S.1, S.2.1, S.2.2.1, B') M' :=
  ⟨h.1.fr (fun j _ => e j (by omega)) (f 101 (by omega) (by omega)), h.2.1.fr (e 5 (by omega)) (f 102 (by omega) (by omega)), h.2.2.1.fr (fun j _ => e j (by omega)) (f 103 (by omega) (by omega)) (f 104 (by omega) (by omega)) (f 105 (by omega) (by omega)), t⟩
theorem zIM.len {S : zSt} {L' : zL} {M M' : zMem} (h : zIM S M) (f : ∀ c, c ≠ 100 → c ≠ 101 → M'.1 c = M.1 c) (f2 : M'.2 = M.2) (e : ∀ j, j ≠ 1 → j ≠ 2 → j ≠ 3 → M'.1 100 j = M.1 100 j) (t : zML L' M') : zIM (L', S.2) M' :=
  ⟨t, h.2.1.fr (e 5 (by omega) (by omega) (by omega)) (f 102 (by omega) (by omega)), h.2.2.1.fr (fun j _ => e j (by omega) (by omega) (by omega)) (f 103 (by omega) (by omega)) (f 104 (by omega) (by omega)) (f 105 (by omega) (by omega)), h.2.2.2.fr (e 9 (by omega) (by omega) (by omega)) (f 106 (by omega) (by omega)) (by rw [f2])⟩
/-- cases of functions that only answer -/
def zCaseP {ρ : Type} (F7 F8 : zMem → Option ρ) : Prop := ∀ S M, zRS S → zIC S M → zIM S M → ∃ r, F7 M = some r ∧ F8 M = some r
theorem pIn_I {r x y : Int} (hx : -2147483648 ≤ x ∧ x ≤ 2147483647) (hy : -2147483648 ≤ y ∧ y ≤ 2147483647) : pIn r (iI x) (iI y) ↔ (-r ≤ x ∧ x ≤ r) ∧ (-r ≤ y ∧ y ≤ r) := by
  unfold pIn
  rw [iT hx.1 hx.2, iT hy.1 hy.2]
theorem from_case (x0 x1 x2 : Int32) : zCaseP (FX7_from x0 x1 x2) (FX8_from x0 x1 x2) := by
  intro S M hR hC hM
  obtain ⟨x, hx1, hx2, rfl⟩ := iOf x0
  obtain ⟨y, hy1, hy2, rfl⟩ := iOf x1
  unfold FX7_from FX8_from
  rw [isAsked_eq, isNear_60, in_0_1, Option.bind_some, Option.bind_some, Option.bind_some, zb_if, zb_if, zb_if]
  by_cases h : pIn 60 (iI x) (iI y) ∧ (0 ≤ x2.toInt ∧ x2.toInt ≤ 1)
  · have h0 := (pIn_I ⟨hx1, hx2⟩ ⟨hy1, hy2⟩).mp h.1
    rw [if_pos h, if_pos h.1, if_pos h.2, lightAt_eq hC.1 hR.1 h0.1 h0.2, fromOf_eq hM.1 hR.1 h0.1 h0.2]
    exact ⟨_, rfl, rfl⟩
  · rw [if_neg h]
    refine ⟨_, rfl, ?_⟩
    by_cases h1 : pIn 60 (iI x) (iI y)
    · rw [if_pos h1, if_neg (fun z => h ⟨h1, z⟩)]
    · rw [if_neg h1]
theorem cellOfM_eq {L : zL} {M : zMem} (h : zML L M) (hr : zRL L) {x y : Int} (hx : -60 ≤ x ∧ x ≤ 60) (hy : -60 ≤ y ∧ y ≤ 60) (ax : Int32) : FX8_cellOf (iI x) (iI y) ax M = some (iI (cel L x y ax.toInt)) := by
  have c := lI_le hr hx hy ax.toInt
  unfold FX8_cellOf
  rw [fromOf_eq h hr hx hy, Option.bind_some, jI (by omega) (by omega), show (8 : Int64) = iJ 8 from rfl, jA, floored16 (by omega) (by omega)]
  rfl
theorem cell_case (x0 x1 x2 : Int32) : zCaseP (FX7_cell x0 x1 x2) (FX8_cell x0 x1 x2) := by
  intro S M hR hC hM
  obtain ⟨x, hx1, hx2, rfl⟩ := iOf x0
  obtain ⟨y, hy1, hy2, rfl⟩ := iOf x1
  unfold FX7_cell FX8_cell
  rw [isAsked_eq, isNear_60, in_0_1, Option.bind_some, Option.bind_some, Option.bind_some, zb_if, zb_if, zb_if]
  by_cases h : pIn 60 (iI x) (iI y) ∧ (0 ≤ x2.toInt ∧ x2.toInt ≤ 1)
  · have h0 := (pIn_I ⟨hx1, hx2⟩ ⟨hy1, hy2⟩).mp h.1
    have c := lI_le hR.1 h0.1 h0.2 x2.toInt
    rw [if_pos h, if_pos h.1, if_pos h.2, lightAt_eq hC.1 hR.1 h0.1 h0.2, cellOfM_eq hM.1 hR.1 h0.1 h0.2, Option.bind_some, cellOf_eq (by omega) (by omega)]
    exact ⟨_, rfl, rfl⟩
  · rw [if_neg h]
    refine ⟨_, rfl, ?_⟩
    by_cases h1 : pIn 60 (iI x) (iI y)
    · rw [if_pos h1, if_neg (fun z => h ⟨h1, z⟩)]
    · rw [if_neg h1]
theorem trace_case : zCaseP FX7_trace FX8_trace := fun S M _ hC hM => ⟨_, rfl, by unfold FX8_trace; rw [hM.2.2.2.2.2, hC.2.2.2.1.2.2]⟩
theorem parity_case (x0 x1 : Int32) : zCase (FX7_parity x0 x1) (FX8_parity x0 x1) := by
  refine zCase.of (fun S hR => ?_)
  obtain ⟨x, hx1, hx2, rfl⟩ := iOf x0
  obtain ⟨y, hy1, hy2, rfl⟩ := iOf x1
  by_cases h : pIn 24 (iI x) (iI y)
  · have h0 := (pIn_I ⟨hx1, hx2⟩ ⟨hy1, hy2⟩).mp h
    refine ⟨iI (pI S.1 x y), S, hR, fun M hC => ?_, fun M hM => ?_⟩
    · obtain ⟨M', g1, g2, g3, g4, g5⟩ := hC.look hR
      refine ⟨M', ?_, g2, g5.agM (by decide)⟩
      unfold FX7_parity
      rw [isWithin_24, Option.bind_some, zb_if, if_pos h, g1, Option.bind_some, parityAt_eq g4 h0.1 h0.2]
      rfl
    · obtain ⟨M', g1, g2, g3⟩ := findAround_eq hM.1 hR.1 h0.1 h0.2
      refine ⟨M', ?_, hM.qf (by decide) g3, g3.agC (by decide)⟩
      unfold FX8_parity
      rw [isPixel_eq, Option.bind_some, zb_if, if_pos h, g1, Option.bind_some, parityOf_eq hR.1 h0.1 h0.2 (g2 _ _ (by omega) (by omega) (by omega) (by omega)) (g2 _ _ (by omega) (by omega) (by omega) (by omega)) (g2 _ _ (by omega) (by omega) (by omega) (by omega)) (g2 _ _ (by omega) (by omega) (by omega) (by omega))]
      rfl
  · refine ⟨-1000000000, S, hR, fun M hC => ⟨M, ?_, hC, zagM.rf⟩, fun M hM => ⟨M, ?_, hM, zagC.rf⟩⟩
    · unfold FX7_parity
      rw [isWithin_24, Option.bind_some, zb_if, if_neg h]
    · unfold FX8_parity
      rw [isPixel_eq, Option.bind_some, zb_if, if_neg h]
theorem critical_case (x0 x1 : Int32) : zCase (FX7_critical x0 x1) (FX8_critical x0 x1) := by
  refine zCase.of (fun S hR => ?_)
  obtain ⟨x, hx1, hx2, rfl⟩ := iOf x0
  obtain ⟨y, hy1, hy2, rfl⟩ := iOf x1
  by_cases h : pIn 24 (iI x) (iI y)
  · have h0 := (pIn_I ⟨hx1, hx2⟩ ⟨hy1, hy2⟩).mp h
    refine ⟨zb (crP S.1 x y), S, hR, fun M hC => ?_, fun M hM => ?_⟩
    · obtain ⟨M', g1, g2, g3, g4, g5⟩ := hC.look hR
      refine ⟨M', ?_, g2, g5.agM (by decide)⟩
      unfold FX7_critical
      rw [isWithin_24, Option.bind_some, zb_if, if_pos h, g1, Option.bind_some, isCritical_eq g4 h0.1 h0.2, Option.bind_some, zb_if]
      by_cases c : crP S.1 x y
      · rw [if_pos c]; unfold zb; rw [if_pos c]
      · rw [if_neg c]; unfold zb; rw [if_neg c]
    · obtain ⟨M', g1, g2, g3⟩ := findAround_eq hM.1 hR.1 h0.1 h0.2
      refine ⟨M', ?_, hM.qf (by decide) g3, g3.agC (by decide)⟩
      unfold FX8_critical
      rw [isPixel_eq, Option.bind_some, zb_if, if_pos h, g1, Option.bind_some, criticalNow_eq h0.1 h0.2 (parityOf_eq hR.1 h0.1 h0.2 (g2 _ _ (by omega) (by omega) (by omega) (by omega)) (g2 _ _ (by omega) (by omega) (by omega) (by omega)) (g2 _ _ (by omega) (by omega) (by omega) (by omega)) (g2 _ _ (by omega) (by omega) (by omega) (by omega))) (fun e => parityOf_eq hR.1 (by omega) h0.2 (g2 _ _ (by omega) (by omega) (by omega) (by omega)) (g2 _ _ (by omega) (by omega) (by omega) (by omega)) (g2 _ _ (by omega) (by omega) (by omega) (by omega)) (g2 _ _ (by omega) (by omega) (by omega) (by omega))) (fun e => parityOf_eq hR.1 h0.1 (by omega) (g2 _ _ (by omega) (by omega) (by omega) (by omega)) (g2 _ _ (by omega) (by omega) (by omega) (by omega)) (g2 _ _ (by omega) (by omega) (by omega) (by omega)) (g2 _ _ (by omega) (by omega) (by omega) (by omega))), Option.bind_some, zb_if]
      by_cases c : crP S.1 x y
      · rw [if_pos c]; unfold zb; rw [if_pos c]
      · rw [if_neg c]; unfold zb; rw [if_neg c]
  · refine ⟨-1, S, hR, fun M hC => ⟨M, ?_, hC, zagM.rf⟩, fun M hM => ⟨M, ?_, hM, zagC.rf⟩⟩
    · unfold FX7_critical
      rw [isWithin_24, Option.bind_some, zb_if, if_neg h]
    · unfold FX8_critical
      rw [isPixel_eq, Option.bind_some, zb_if, if_neg h]
