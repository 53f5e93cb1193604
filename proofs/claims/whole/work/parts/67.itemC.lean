/-! ===== read: the class's items ===== -/
def pP (s s' : rP) : Prop := s.1 = false → s' = s
theorem pP.rf (s : rP) : pP s s := fun _ => rfl
theorem pP.tr {s s' s'' : rP} (h1 : pP s s') (h2 : pP s' s'') : pP s s'' := fun h => by
  have e := h1 h
  rw [h2 (by rw [e]; exact h), e]
theorem pP_sg (T : zTx) (c : Int) (s : rP) : pP s (sgS T c s) := fun h => by
  unfold sgS
  rw [if_neg (by rw [h]; decide)]
theorem pP_nm (T : zTx) (most : Int) (below : Bool) (s : rP) : pP s (nmS T most below s).1 := fun h => by
  unfold nmS
  rw [if_neg (by rw [h]; decide)]
theorem p_s1 (T : zTx) (a : Nat) : pP (sgS T 44 (i1 T a).1) (i2 T a).1 := pP_nm _ _ _ _
theorem p_s2 (T : zTx) (a : Nat) : pP (sgS T 119 (i2 T a).1) (i3 T a).1 := pP_nm _ _ _ _
theorem p_s3 (T : zTx) (a : Nat) : pP (sgS T 111 (i3 T a).1) (i4 T a).1 := pP_nm _ _ _ _
theorem p_s4 (T : zTx) (a : Nat) : pP (sgS T 101 (i4 T a).1) (i5 T a).1 := pP_nm _ _ _ _
theorem p_i5 {T : zTx} {a : Nat} (hk : isK T a) (k : itK T a = 2) : pP (i5 T a).1 (itS T a) := by
  unfold itS itE
  rw [if_pos hk, if_neg (by omega), if_neg (by omega)]
  exact pP_sg _ _ _
theorem p_i4 {T : zTx} {a : Nat} (hk : isK T a) (k : ¬ itK T a = 0) : pP (i4 T a).1 (itS T a) := by
  by_cases k2 : itK T a = 1
  · unfold itS itE
    rw [if_pos hk, if_neg k, if_pos k2]
    exact pP_sg _ _ _
  · have := itK_r T a
    exact ((pP_sg _ _ _).tr (p_s4 T a)).tr (p_i5 hk (by omega))
theorem p_i3 {T : zTx} {a : Nat} (hk : isK T a) : pP (i3 T a).1 (itS T a) := by
  by_cases k2 : itK T a = 0
  · unfold itS itE
    rw [if_pos hk, if_pos k2]
    exact pP_sg _ _ _
  · exact ((pP_sg _ _ _).tr (p_s3 T a)).tr (p_i4 hk k2)
theorem p_i2 {T : zTx} {a : Nat} (hk : isK T a) : pP (i2 T a).1 (itS T a) := ((pP_sg _ _ _).tr (p_s2 T a)).tr (p_i3 hk)
theorem p_i1 {T : zTx} {a : Nat} (hk : isK T a) : pP (i1 T a).1 (itS T a) := ((pP_sg _ _ _).tr (p_s1 T a)).tr (p_i2 hk)
theorem rP_eta {s : rP} (h : s.1 = true) : (true, s.2) = s := by
  obtain ⟨a, b⟩ := s
  have h : a = true := h
  rw [h]
theorem sgC' {T : zTx} (hT : zRT T) {q : Nat} (hq : q ≠ 23) {s : rP} (hs : s.1 = true) {M : zMem} (h : cTa T s.2 M) (ha : s.2 ≤ T.1) {c : Nat} (hc : c < 256) : ∃ M', FX5_takeSign (iI c) M = some (bI (sgS T c s).1, M') ∧ cTa T (sgS T c s).2 M' ∧ cFq q M M' ∧ ∀ j, M'.1 q j = M.1 q j := by
  obtain ⟨M', a1, a2, a3⟩ := sgC hT h ha hc
  rw [rP_eta hs] at a1 a2
  obtain ⟨a4, a5⟩ := sgC_fr (q := q) hq a3
  exact ⟨M', a1, a2, a4, a5⟩
theorem nmC' {T : zTx} (hT : zRT T) {q f : Nat} {most : Int} {below : Bool} (hq : q ≠ 23 ∧ q ≠ 24) (hl : zlenI q = 6) (hf : f < 6) (hm : 0 ≤ most ∧ most ≤ 900) (hlo : zLO f < 0 ↔ below = true) (hmo : zMO f = iI most) (hneg : below = true → -(zLO f) = iI most) {s : rP} (hs : s.1 = true) {M : zMem} (hc : cTa T s.2 M) (ha : s.2 ≤ T.1) : ∃ M', FX5_takeNumber q (iI f) M = some (bI (nmS T most below s).1.1, M') ∧ cTa T (nmS T most below s).1.2 M' ∧ cFq q M M' ∧ ((nmS T most below s).1.1 = true → M'.1 q f = iI (nmS T most below s).2) ∧ ∀ j, j ≠ f → M'.1 q j = M.1 q j := by
  have e : nmS T most below s = nmP T most below s.2 := if_pos hs
  rw [e]
  exact nmC hT hq hl hf hm hlo hmo hneg ha hc
theorem kindC {T : zTx} (hT : zRT T) {q : Nat} (hq : q ≠ 23) {a : Nat} {M : zMem} (ha : a < T.1) (hc : cTa T a M) : ∃ M', FX5_takeKind M = some (if isK T a then iI (itK T a) else -1, M') ∧ cTa T (if isK T a then a + 1 else a) M' ∧ cFq q M M' := by
  have es : ∀ c : Int, sgS T c (true, a) = if T.2 a = c then (true, a + 1) else (false, a) := fun c => by
    unfold sgS
    rw [if_pos (show (true, a).1 = true from rfl)]
    by_cases h : T.2 a = c
    · rw [if_pos (show (true, a).2 < T.1 ∧ T.2 (true, a).2 = c from ⟨ha, h⟩), if_pos h]
    · rw [if_neg (show ¬ ((true, a).2 < T.1 ∧ T.2 (true, a).2 = c) from fun z => h z.2), if_neg h]
  obtain ⟨M1, a1, a2, a3⟩ := sgC hT hc (Nat.le_of_lt ha) (c := 112) (by decide)
  obtain ⟨a4, -⟩ := sgC_fr (q := q) hq a3
  rw [es] at a1 a2
  have a1 : FX5_takeSign 112 M = _ := a1
  unfold FX5_takeKind
  rw [a1, Option.bind_some]
  dsimp only
  unfold itK
  by_cases c1 : T.2 a = 112
  · rw [if_pos (show T.2 a = ((112 : Nat) : Int) from c1)] at a2 ⊢
    have hk : isK T a := ⟨ha, Or.inl c1⟩
    rw [if_neg bI_t, if_pos hk, if_pos hk, if_pos c1]
    exact ⟨M1, rfl, a2, a4⟩
  · rw [if_neg (show ¬ T.2 a = ((112 : Nat) : Int) from c1)] at a2 ⊢
    rw [if_pos bI_f, if_neg c1]
    obtain ⟨M2, b1, b2, b3⟩ := sgC hT a2 (Nat.le_of_lt ha) (c := 115) (by decide)
    obtain ⟨b4, -⟩ := sgC_fr (q := q) hq b3
    rw [show (false, a).2 = a from rfl, es] at b1 b2
    have b1 : FX5_takeSign 115 M1 = _ := b1
    rw [b1, Option.bind_some]
    dsimp only
    by_cases c2 : T.2 a = 115
    · rw [if_pos (show T.2 a = ((115 : Nat) : Int) from c2)] at b2 ⊢
      have hk : isK T a := ⟨ha, Or.inr (Or.inl c2)⟩
      rw [if_neg bI_t, if_pos hk, if_pos hk, if_pos c2]
      exact ⟨M2, rfl, b2, a4.tr b4⟩
    · rw [if_neg (show ¬ T.2 a = ((115 : Nat) : Int) from c2)] at b2 ⊢
      rw [if_pos bI_f, if_neg c2]
      obtain ⟨M3, d1, d2, d3⟩ := sgC hT b2 (Nat.le_of_lt ha) (c := 99) (by decide)
      obtain ⟨d4, -⟩ := sgC_fr (q := q) hq d3
      rw [show (false, a).2 = a from rfl, es] at d1 d2
      have d1 : FX5_takeSign 99 M2 = _ := d1
      rw [d1, Option.bind_some]
      dsimp only
      by_cases c3 : T.2 a = 99
      · rw [if_pos (show T.2 a = ((99 : Nat) : Int) from c3)] at d2 ⊢
        have hk : isK T a := ⟨ha, Or.inr (Or.inr c3)⟩
        rw [if_neg bI_t, if_pos hk, if_pos hk]
        exact ⟨M3, rfl, d2, (a4.tr b4).tr d4⟩
      · rw [if_neg (show ¬ T.2 a = ((99 : Nat) : Int) from c3)] at d2 ⊢
        have hk : ¬ isK T a := fun z => by
          rcases z.2 with z | z | z
          · exact c1 z
          · exact c2 z
          · exact c3 z
        rw [if_pos bI_f, if_neg hk, if_neg hk]
        exact ⟨M3, rfl, d2, (a4.tr b4).tr d4⟩
theorem itC_bad {T : zTx} {a q : Nat} {M Mk : zMem} {s : rP} (hP : pP s (itS T a)) (hs : s.1 = false) (hc : cTa T s.2 Mk) (hf : cFq q M Mk) : ∃ M', some ((0 : Int32), Mk) = some (bI (itS T a).1, M') ∧ cTa T (itS T a).2 M' ∧ cFq q M M' ∧ ((itS T a).1 = true → ∀ f, f < 6 → M'.1 q f = iI (itF T a f)) := by
  rw [hP hs]
  refine ⟨Mk, ?_, hc, hf, fun z => ?_⟩
  · rw [hs]; rfl
  · rw [hs] at z; cases z
theorem itemC {T : zTx} (hT : zRT T) {q : Nat} (hq : q ≠ 23 ∧ q ≠ 24) (hl : zlenI q = 6) {a : Nat} {M : zMem} (ha : a < T.1) (hc : cTa T a M) : ∃ M', FX5_takeItem q M = some (bI (itS T a).1, M') ∧ cTa T (itS T a).2 M' ∧ cFq q M M' ∧ ((itS T a).1 = true → ∀ f, f < 6 → M'.1 q f = iI (itF T a f)) := by
  have hr := i_r ha
  obtain ⟨M1, a1, a2, a3⟩ := kindC (q := q) hT hq.1 ha hc
  unfold FX5_takeItem
  rw [a1, Option.bind_some]
  dsimp only
  by_cases hk : isK T a
  · have hkr := itK_r T a
    rw [if_pos hk] at a2
    rw [if_pos hk, if_neg (show ¬ iI (itK T a) < 0 from fun z => by have := (iLt (b := 0) (by omega) (by omega)).mp z; omega)]
    have q1 : iI (itK T a) = 2 ↔ itK T a = 2 := iEq (b := 2) (by omega) (by omega)
    have q0 : iI (itK T a) = 0 ↔ itK T a = 0 := iEq (b := 0) (by omega) (by omega)
    simp only [zlet_e, zj_e, hl, zgT (show zin (0 : Int32) 6 = true from rfl), zgT (show zin (4 : Int32) 6 = true from rfl), zgT (show zin (5 : Int32) 6 = true from rfl)]
    have w0 : cTa T (a + 1) (zwr (zwr (zwr M1 q (zcl (0 : Int32)) (iI (itK T a))) q (zcl (4 : Int32)) (0 : Int32)) q (zcl (5 : Int32)) (zMO (zcl (5 : Int32)))) := ((a2.wq hq).wq hq).wq hq
    have f0 : cFq q M (zwr (zwr (zwr M1 q (zcl (0 : Int32)) (iI (itK T a))) q (zcl (4 : Int32)) (0 : Int32)) q (zcl (5 : Int32)) (zMO (zcl (5 : Int32)))) := ((a3.wq hq.1).wq hq.1).wq hq.1
    have k0 : (zwr (zwr (zwr M1 q (zcl (0 : Int32)) (iI (itK T a))) q (zcl (4 : Int32)) (0 : Int32)) q (zcl (5 : Int32)) (zMO (zcl (5 : Int32)))).1 q 0 = iI (itK T a) := (zwr_nj (by decide)).trans ((zwr_nj (by decide)).trans zwr_eq)
    have k4 : (zwr (zwr (zwr M1 q (zcl (0 : Int32)) (iI (itK T a))) q (zcl (4 : Int32)) (0 : Int32)) q (zcl (5 : Int32)) (zMO (zcl (5 : Int32)))).1 q 4 = iI 0 := (zwr_nj (by decide)).trans zwr_eq
    have k5 : (zwr (zwr (zwr M1 q (zcl (0 : Int32)) (iI (itK T a))) q (zcl (4 : Int32)) (0 : Int32)) q (zcl (5 : Int32)) (zMO (zcl (5 : Int32)))).1 q 5 = iI 90 := zwr_eq
    revert w0 f0 k0 k4 k5
    generalize zwr (zwr (zwr M1 q (zcl (0 : Int32)) (iI (itK T a))) q (zcl (4 : Int32)) (0 : Int32)) q (zcl (5 : Int32)) (zMO (zcl (5 : Int32))) = M5
    intro w0 f0 k0 k4 k5
    obtain ⟨M6, b1, b2, b3, b4, b5⟩ := nmC' hT (f := 1) (most := 40) (below := true) hq hl (by decide) (by decide) (by decide) rfl (fun _ => rfl) (s := (true, a + 1)) rfl w0 (show a + 1 ≤ T.1 from ha)
    have b1 : FX5_takeNumber q 1 M5 = some (bI (i1 T a).1.1, M6) := b1
    have b2 : cTa T (i1 T a).1.2 M6 := b2
    have b4 : (i1 T a).1.1 = true → M6.1 q 1 = iI (i1 T a).2 := b4
    rw [b1, Option.bind_some]
    dsimp only
    cases h1 : (i1 T a).1.1 with
    | false =>
      rw [if_pos bI_f]
      exact itC_bad (p_i1 hk) h1 b2 (f0.tr b3)
    | true =>
      rw [if_neg bI_t]
      obtain ⟨M7, c1, c2, c3, c4⟩ := sgC' hT hq.1 h1 b2 hr.1.1 (c := 44) (by decide)
      have c1 : FX5_takeSign 44 M6 = some (bI (sgS T 44 (i1 T a).1).1, M7) := c1
      have c2 : cTa T (sgS T 44 (i1 T a).1).2 M7 := c2
      rw [c1, Option.bind_some]
      dsimp only
      cases h2 : (sgS T 44 (i1 T a).1).1 with
      | false =>
        rw [if_pos bI_f]
        exact itC_bad ((p_s1 T a).tr (p_i2 hk)) h2 c2 ((f0.tr b3).tr c3)
      | true =>
        rw [if_neg bI_t]
        obtain ⟨M8, d1, d2, d3, d4, d5⟩ := nmC' hT (f := 2) (most := 40) (below := true) hq hl (by decide) (by decide) (by decide) rfl (fun _ => rfl) h2 c2 (sgS_le hr.1.1)
        have d1 : FX5_takeNumber q 2 M7 = some (bI (i2 T a).1.1, M8) := d1
        have d2 : cTa T (i2 T a).1.2 M8 := d2
        have d4 : (i2 T a).1.1 = true → M8.1 q 2 = iI (i2 T a).2 := d4
        rw [d1, Option.bind_some]
        dsimp only
        cases h3 : (i2 T a).1.1 with
        | false =>
          rw [if_pos bI_f]
          exact itC_bad (p_i2 hk) h3 d2 (((f0.tr b3).tr c3).tr d3)
        | true =>
          rw [if_neg bI_t]
          obtain ⟨M9, e1, e2, e3, e4⟩ := sgC' hT hq.1 h3 d2 hr.2.1.1 (c := 119) (by decide)
          have e1 : FX5_takeSign 119 M8 = some (bI (sgS T 119 (i2 T a).1).1, M9) := e1
          have e2 : cTa T (sgS T 119 (i2 T a).1).2 M9 := e2
          rw [e1, Option.bind_some]
          dsimp only
          cases h4 : (sgS T 119 (i2 T a).1).1 with
          | false =>
            rw [if_pos bI_f]
            exact itC_bad ((p_s2 T a).tr (p_i3 hk)) h4 e2 ((((f0.tr b3).tr c3).tr d3).tr e3)
          | true =>
            rw [if_neg bI_t]
            obtain ⟨M10, g1, g2, g3, g4, g5⟩ := nmC' hT (f := 3) (most := 400) (below := false) hq hl (by decide) (by decide) (by decide) rfl (fun z => Bool.noConfusion z) h4 e2 (sgS_le hr.2.1.1)
            have g1 : FX5_takeNumber q 3 M9 = some (bI (i3 T a).1.1, M10) := g1
            have g2 : cTa T (i3 T a).1.2 M10 := g2
            have g4 : (i3 T a).1.1 = true → M10.1 q 3 = iI (i3 T a).2 := g4
            rw [g1, Option.bind_some]
            dsimp only
            have f10 : cFq q M M10 := ((((f0.tr b3).tr c3).tr d3).tr e3).tr g3
            cases h5 : (i3 T a).1.1 with
            | false =>
              rw [if_pos bI_f]
              exact itC_bad (p_i3 hk) h5 g2 f10
            | true =>
              rw [if_neg bI_t]
              have v0 : M10.1 q 0 = iI (itK T a) := by rw [g5 0 (by decide), e4, d5 0 (by decide), c4, b5 0 (by decide)]; exact k0
              have v1 : M10.1 q 1 = iI (i1 T a).2 := by rw [g5 1 (by decide), e4, d5 1 (by decide), c4]; exact b4 h1
              have v2 : M10.1 q 2 = iI (i2 T a).2 := by rw [g5 2 (by decide), e4]; exact d4 h3
              have v3 : M10.1 q 3 = iI (i3 T a).2 := g4 h5
              have v4 : M10.1 q 4 = iI 0 := by rw [g5 4 (by decide), e4, d5 4 (by decide), c4, b5 4 (by decide)]; exact k4
              have v5 : M10.1 q 5 = iI 90 := by rw [g5 5 (by decide), e4, d5 5 (by decide), c4, b5 5 (by decide)]; exact k5
              have fin : ∀ (s : rP) (Mx : zMem), s.1 = true → s.2 ≤ T.1 → cTa T s.2 Mx → cFq q M Mx → itS T a = sgS T 59 s → (∀ f, f < 6 → Mx.1 q f = iI (itF T a f)) → ∃ M', ((FX5_takeSign 59 Mx).bind fun b15 => if b15.1 = 0 then some ((0 : Int32), b15.2) else some ((1 : Int32), b15.2)) = some (bI (itS T a).1, M') ∧ cTa T (itS T a).2 M' ∧ cFq q M M' ∧ ((itS T a).1 = true → ∀ f, f < 6 → M'.1 q f = iI (itF T a f)) := by
                intro s Mx hs hsl hcs hfx he hv
                obtain ⟨My, y1, y2, y3, y4⟩ := sgC' hT hq.1 hs hcs hsl (c := 59) (by decide)
                have y1 : FX5_takeSign 59 Mx = some (bI (sgS T 59 s).1, My) := y1
                have y2 : cTa T (sgS T 59 s).2 My := y2
                rw [y1, Option.bind_some, he]
                dsimp only
                cases hz : (sgS T 59 s).1 with
                | false =>
                  rw [if_pos bI_f]
                  exact ⟨My, rfl, y2, hfx.tr y3, fun z => Bool.noConfusion z⟩
                | true =>
                  rw [if_neg bI_t]
                  exact ⟨My, rfl, y2, hfx.tr y3, fun _ f hf => (y4 f).trans (hv f hf)⟩
              by_cases kk0 : itK T a = 0
              · rw [if_pos (q0.mpr kk0), if_neg (fun z => by have := q1.mp z; omega)]
                refine fin (i3 T a).1 M10 h5 hr.2.2.1.1 g2 f10 ?_ (fun f hf => ?_)
                · unfold itS itE
                  rw [if_pos hk, if_pos kk0]
                · have hc6 : f = 0 ∨ f = 1 ∨ f = 2 ∨ f = 3 ∨ f = 4 ∨ f = 5 := by omega
                  rcases hc6 with c | c | c | c | c | c
                  · rw [c]; exact v0
                  · rw [c]; exact v1
                  · rw [c]; exact v2
                  · rw [c]; exact v3
                  · rw [c]
                    show _ = iI (if itK T a = 0 then 0 else (i4 T a).2)
                    rw [if_pos kk0]; exact v4
                  · rw [c]
                    show _ = iI (if itK T a = 2 then (i5 T a).2 else 90)
                    rw [if_neg (by omega)]; exact v5
              · rw [if_neg (fun z => kk0 (q0.mp z))]
                obtain ⟨M11, m1, m2, m3, m4⟩ := sgC' hT hq.1 h5 g2 hr.2.2.1.1 (c := 111) (by decide)
                have m1 : FX5_takeSign 111 M10 = some (bI (sgS T 111 (i3 T a).1).1, M11) := m1
                have m2 : cTa T (sgS T 111 (i3 T a).1).2 M11 := m2
                rw [m1, Option.bind_some]
                dsimp only
                cases h6 : (sgS T 111 (i3 T a).1).1 with
                | false =>
                  rw [if_pos bI_f]
                  exact itC_bad ((p_s3 T a).tr (p_i4 hk kk0)) h6 m2 (f10.tr m3)
                | true =>
                  rw [if_neg bI_t]
                  obtain ⟨M12, o1, o2, o3, o4, o5⟩ := nmC' hT (f := 4) (most := 900) (below := false) hq hl (by decide) (by decide) (by decide) rfl (fun z => Bool.noConfusion z) h6 m2 (sgS_le hr.2.2.1.1)
                  have o1 : FX5_takeNumber q 4 M11 = some (bI (i4 T a).1.1, M12) := o1
                  have o2 : cTa T (i4 T a).1.2 M12 := o2
                  have o4 : (i4 T a).1.1 = true → M12.1 q 4 = iI (i4 T a).2 := o4
                  rw [o1, Option.bind_some]
                  dsimp only
                  have f12 : cFq q M M12 := (f10.tr m3).tr o3
                  cases h7 : (i4 T a).1.1 with
                  | false =>
                    rw [if_pos bI_f]
                    exact itC_bad (p_i4 hk kk0) h7 o2 f12
                  | true =>
                    rw [if_neg bI_t]
                    have u0 : M12.1 q 0 = iI (itK T a) := by rw [o5 0 (by decide), m4]; exact v0
                    have u1 : M12.1 q 1 = iI (i1 T a).2 := by rw [o5 1 (by decide), m4]; exact v1
                    have u2 : M12.1 q 2 = iI (i2 T a).2 := by rw [o5 2 (by decide), m4]; exact v2
                    have u3 : M12.1 q 3 = iI (i3 T a).2 := by rw [o5 3 (by decide), m4]; exact v3
                    have u4 : M12.1 q 4 = iI (i4 T a).2 := o4 h7
                    have u5 : M12.1 q 5 = iI 90 := by rw [o5 5 (by decide), m4]; exact v5
                    by_cases kk2 : itK T a = 2
                    · rw [if_pos (q1.mpr kk2)]
                      obtain ⟨M13, r1, r2, r3, r4⟩ := sgC' hT hq.1 h7 o2 hr.2.2.2.1.1 (c := 101) (by decide)
                      have r1 : FX5_takeSign 101 M12 = some (bI (sgS T 101 (i4 T a).1).1, M13) := r1
                      have r2 : cTa T (sgS T 101 (i4 T a).1).2 M13 := r2
                      rw [r1, Option.bind_some]
                      dsimp only
                      cases h8 : (sgS T 101 (i4 T a).1).1 with
                      | false =>
                        rw [if_pos bI_f]
                        exact itC_bad ((p_s4 T a).tr (p_i5 hk kk2)) h8 r2 (f12.tr r3)
                      | true =>
                        rw [if_neg bI_t]
                        obtain ⟨M14, t1, t2, t3, t4, t5⟩ := nmC' hT (f := 5) (most := 90) (below := false) hq hl (by decide) (by decide) (by decide) rfl (fun z => Bool.noConfusion z) h8 r2 (sgS_le hr.2.2.2.1.1)
                        have t1 : FX5_takeNumber q 5 M13 = some (bI (i5 T a).1.1, M14) := t1
                        have t2 : cTa T (i5 T a).1.2 M14 := t2
                        have t4 : (i5 T a).1.1 = true → M14.1 q 5 = iI (i5 T a).2 := t4
                        rw [t1, Option.bind_some]
                        dsimp only
                        cases h9 : (i5 T a).1.1 with
                        | false =>
                          rw [if_pos bI_f]
                          exact itC_bad (p_i5 hk kk2) h9 t2 ((f12.tr r3).tr t3)
                        | true =>
                          rw [if_neg bI_t]
                          refine fin (i5 T a).1 M14 h9 hr.2.2.2.2.1 t2 ((f12.tr r3).tr t3) ?_ (fun f hf => ?_)
                          · unfold itS itE
                            rw [if_pos hk, if_neg kk0, if_neg (by omega)]
                          · have hc6 : f = 0 ∨ f = 1 ∨ f = 2 ∨ f = 3 ∨ f = 4 ∨ f = 5 := by omega
                            rcases hc6 with c | c | c | c | c | c
                            · rw [c, t5 0 (by decide), r4]; exact u0
                            · rw [c, t5 1 (by decide), r4]; exact u1
                            · rw [c, t5 2 (by decide), r4]; exact u2
                            · rw [c, t5 3 (by decide), r4]; exact u3
                            · rw [c, t5 4 (by decide), r4]
                              show _ = iI (if itK T a = 0 then 0 else (i4 T a).2)
                              rw [if_neg kk0]; exact u4
                            · rw [c]
                              show _ = iI (if itK T a = 2 then (i5 T a).2 else 90)
                              rw [if_pos kk2]; exact t4 h9
                    · rw [if_neg (fun z => kk2 (q1.mp z))]
                      refine fin (i4 T a).1 M12 h7 hr.2.2.2.1.1 o2 f12 ?_ (fun f hf => ?_)
                      · unfold itS itE
                        rw [if_pos hk, if_neg kk0, if_pos (by omega)]
                      · have hc6 : f = 0 ∨ f = 1 ∨ f = 2 ∨ f = 3 ∨ f = 4 ∨ f = 5 := by omega
                        rcases hc6 with c | c | c | c | c | c
                        · rw [c]; exact u0
                        · rw [c]; exact u1
                        · rw [c]; exact u2
                        · rw [c]; exact u3
                        · rw [c]
                          show _ = iI (if itK T a = 0 then 0 else (i4 T a).2)
                          rw [if_neg kk0]; exact u4
                        · rw [c]
                          show _ = iI (if itK T a = 2 then (i5 T a).2 else 90)
                          rw [if_neg kk2]; exact u5
  · rw [if_neg hk] at a2
    rw [if_neg hk, if_pos (show (-1 : Int32) < 0 by decide)]
    have e : itS T a = (false, a) := if_neg hk
    rw [e]
    exact ⟨M1, rfl, a2, a3, fun z => Bool.noConfusion z⟩
