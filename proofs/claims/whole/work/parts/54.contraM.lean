/-! ===== contradicts: the reference ===== -/
theorem wipe110c (M : zMem) : ∃ M', (zfr [110] M M' ∧ ∀ p, p < 2401 → M'.1 110 p = -9) ∧ zloop (FX8_contradicts_L6) zFuel ((0 : Int32), M) = zloop (FX8_contradicts_L31) zFuel ((0 : Int32), (0 : Int32), M') := by
  have key := zloop_inv (f := FX8_contradicts_L6) (r := fun s => zloop (FX8_contradicts_L31) zFuel ((0 : Int32), (0 : Int32), s.2)) (fun i s => s.1 = iI (i : Int) ∧ zfr [110] M s.2 ∧ ∀ p, p < i → s.2.1 110 p = -9) 2401 ?_ ?_ 2401 0 zFuel ((0 : Int32), M) rfl (zfu (by omega)) ⟨rfl, zfr.rf, fun p hp => by omega⟩
  · obtain ⟨s', ⟨-, g1, g2⟩, g3⟩ := key
    exact ⟨s'.2, ⟨g1, g2⟩, g3⟩
  · intro i s hi hI
    obtain ⟨s1, sm⟩ := s
    obtain ⟨e1, e2, e3⟩ := hI
    have e1 : s1 = _ := e1
    subst e1
    refine ⟨(iI ((i + 1 : Nat) : Int), zwr sm 110 i (-9)), ⟨rfl, e2.wr (by decide), fun p hp => ?_⟩, fun rec => ?_⟩
    · by_cases e : p = i
      · subst e; exact zwr_eq
      · exact (zwr_nj e).trans (e3 p (by omega))
    · unfold FX8_contradicts_L6
      rw [if_pos (show iI (i : Int) < (2401 : Int32) from (iLt (b := 2401) (by omega) (by omega)).mpr (by omega))]
      refine (zgI (by omega) (by omega) (by omega)).trans ?_
      simp only [zlet_e]
      rw [iC (by omega) (by omega), Int.toNat_natCast, iA1]
  · intro s hI rec
    obtain ⟨s1, sm⟩ := s
    obtain ⟨e1, -⟩ := hI
    have e1 : s1 = iI ((2401 : Nat) : Int) := e1
    subst e1
    unfold FX8_contradicts_L6
    rw [if_neg (show ¬ iI ((2401 : Nat) : Int) < (2401 : Int32) by decide)]
def gT (L : zL) (t : Nat → Int) (i : Nat) (M : zMem) : Prop := ∀ q, q < 2401 → onT t q = true → (M.1 110 q = -9 ↔ ∀ i', i' < i → onT t i' = true → kP L i' ≠ kP L q)
def zTM (L : zL) (t : Nat → Int) (M : zMem) : Prop := (∀ p, p < 2401 → t p ≠ -9 → zLt 107 108 L M (pX p) (pY p)) ∧ ∀ p, p < 2401 → M.1 106 p = iI (t p)
theorem zTM.zf {L : zL} {t : Nat → Int} {M M' : zMem} (h : zTM L t M) (f : zfr [110] M M') : zTM L t M' := by
  refine ⟨fun p hp ht => ?_, fun p hp => ?_⟩
  · have := h.1 p hp ht
    unfold zLt at this ⊢
    rw [f.1 107 (by decide), f.1 108 (by decide)]
    exact this
  · rw [f.1 106 (by decide)]
    exact h.2 p hp
theorem in78 {L : zL} {t : Nat → Int} {M : zMem} (hr : zRL L) (hk : zTM L t M) (htr : ∀ i, i < 2401 → t i = -9 ∨ (0 ≤ t i ∧ t i ≤ 99)) {i n : Nat} {z : Int} (hz : M.1 100 9 = iI z) (hz2 : 0 ≤ z ∧ z ≤ 99) (hi : i < 2401) (hf : hF (onT t) (kP L) i = true) (hg : gT L t i M) (s5 : Int32 × Int32 × zMem) (h5 : s5.1 = iI n ∧ s5.2.1 = iI i) : ∃ M', (gT L t (i + 1) M' ∧ zfr [110] M M') ∧ ∀ (r4 : (Int32 × Int32 × zMem) → Option (Int32 × zMem)), zloop (FX8_contradicts_L78 r4 s5) zFuel (iI (t i), iI (t i), iI i, M) = r4 (iI ((n + (if cxP t (kP L) 2401 z i then 1 else 0) : Nat) : Int), iI ((i + 1 : Nat) : Int), M') := by
  obtain ⟨h51, h52⟩ := h5
  have hfi := (hF_iff.mp hf).2
  have hfo := (hF_iff.mp hf).1
  have hti := onT_iff.mp hfo
  have hti2 := htr i hi
  have hip := pXY hi
  have hmr : ∀ m, m ≤ 2401 → (0 ≤ mnF t (kP L) (kP L i) (t i) m ∧ mnF t (kP L) (kP L i) (t i) m ≤ 99) ∧ 0 ≤ mxF t (kP L) (kP L i) (t i) m ∧ mxF t (kP L) (kP L i) (t i) m ≤ 99 := fun m hm => mF_r (by omega) m (fun j hj ho => by have := onT_iff.mp ho; have := htr j (by omega); omega)
  have h0 := mF_0 (t := t) (κ := kP L) (k := kP L i) (v := t i) i hfi
  have key := zloop_invK (κ := (Int32 × Int32 × zMem) → Option (Int32 × zMem)) (f := fun r4 => FX8_contradicts_L78 r4 s5) (r := fun r4 st => r4 (iI ((n + (if cxP t (kP L) 2401 z i then 1 else 0) : Nat) : Int), iI ((i + 1 : Nat) : Int), st.2.2.2)) (fun u st => st.1 = iI (mnF t (kP L) (kP L i) (t i) (i + u)) ∧ st.2.1 = iI (mxF t (kP L) (kP L i) (t i) (i + u)) ∧ st.2.2.1 = iI ((i + u : Nat) : Int) ∧ zfr [110] M st.2.2.2 ∧ ∀ q, q < 2401 → onT t q = true → (st.2.2.2.1 110 q = -9 ↔ (M.1 110 q = -9 ∧ ¬ (i ≤ q ∧ q < i + u ∧ kP L q = kP L i)))) (2401 - i) ?_ ?_ (2401 - i) 0 zFuel (iI (t i), iI (t i), iI i, M) (Nat.zero_add _) (zfu (by omega)) ⟨?_, ?_, rfl, zfr.rf, fun q hq _ => ⟨fun w => ⟨w, fun w => by omega⟩, fun w => w.1⟩⟩
  · obtain ⟨⟨t1, t2, t3, t4⟩, ⟨-, -, -, g2, g3⟩, g4⟩ := key
    refine ⟨t4, ⟨fun q hq ho => ?_, g2⟩, g4⟩
    have g3 : t4.1 110 q = -9 ↔ _ := g3 q hq ho
    rw [g3, hg q hq ho]
    constructor
    · rintro ⟨z1, z2⟩ i' hi' ho'
      by_cases e : i' = i
      · subst e
        intro w
        by_cases c : i' ≤ q
        · exact z2 ⟨c, by omega, w.symm⟩
        · exact hfi q (by omega) ho w.symm
      · exact z1 i' (by omega) ho'
    · intro z
      exact ⟨fun i' hi' => z i' (by omega), fun w => z i (by omega) hfo w.2.2.symm⟩
  · intro u st hu hI
    obtain ⟨t1, t2, t3, t4⟩ := st
    obtain ⟨e1, e2, e3, e4, e5⟩ := hI
    have e1 : t1 = _ := e1
    have e2 : t2 = _ := e2
    have e3 : t3 = _ := e3
    have e4 : zfr [110] M t4 := e4
    have e5 : ∀ q, q < 2401 → onT t q = true → (t4.1 110 q = -9 ↔ _) := e5
    subst e1 e2 e3
    have hj : i + u < 2401 := by omega
    have hjp := pXY hj
    have k3 := hk.zf e4
    have tj := k3.2 _ hj
    have tjr := htr _ hj
    have mj := hmr (i + u) (by omega)
    by_cases ho : t (i + u) = -9
    · have hno : ¬ onT t (i + u) = true := fun w => onT_iff.mp w ho
      refine ⟨(iI (mnF t (kP L) (kP L i) (t i) (i + u + 1)), iI (mxF t (kP L) (kP L i) (t i) (i + u + 1)), iI ((i + u + 1 : Nat) : Int), t4), ⟨rfl, rfl, rfl, e4, fun q hq hoq => ?_⟩, fun r4 rec => ?_⟩
      · have hne : q ≠ i + u := fun w => hno (by rw [← w]; exact hoq)
        rw [e5 q hq hoq]
        exact ⟨fun w => ⟨w.1, fun y => w.2 ⟨y.1, by omega, y.2.2⟩⟩, fun w => ⟨w.1, fun y => w.2 ⟨y.1, by omega, y.2.2⟩⟩⟩
      · show FX8_contradicts_L78 r4 s5 rec _ = _
        unfold FX8_contradicts_L78
        rw [if_pos (show iI ((i + u : Nat) : Int) < (2401 : Int32) from (iLt (b := 2401) (by omega) (by omega)).mpr (by omega))]
        refine (zgI (by omega) (by omega) (by omega)).trans ?_
        rw [if_pos (show zrd t4 106 (iI ((i + u : Nat) : Int)) = -9 by rw [zrI _ _ (by omega) (by omega), Int.toNat_natCast, tj, ho]; rfl)]
        simp only [zlet_e]
        rw [iA1, mnF_n (fun w => hno w.1), mxF_n (fun w => hno w.1)]
    · have hon : onT t (i + u) = true := onT_iff.mpr ho
      have zj1 := k3.1 _ hj ho
      have zi := k3.1 _ hi hti
      have c0 := cel_le hr (x := pX (i + u)) (y := pY (i + u)) (by omega) (by omega)
      have c1 := cel_le hr (x := pX i) (y := pY i) (by omega) (by omega)
      have c00 := c0 0
      have c01 := c0 1
      have c10 := c1 0
      have c11 := c1 1
      have ke := kP_eq hr hj hi
      have kx : iI (cel L (pX (i + u)) (pY (i + u)) 0) = iI (cel L (pX i) (pY i) 0) ↔ _ := iEq (by omega) (by omega)
      have ky : iI (cel L (pX (i + u)) (pY (i + u)) 1) = iI (cel L (pX i) (pY i) 1) ↔ _ := iEq (by omega) (by omega)
      by_cases d : kP L (i + u) = kP L i
      · have hd := ke.mp d
        refine ⟨(iI (mnF t (kP L) (kP L i) (t i) (i + u + 1)), iI (mxF t (kP L) (kP L i) (t i) (i + u + 1)), iI ((i + u + 1 : Nat) : Int), zwr t4 110 (i + u) (iI i)), ⟨rfl, rfl, rfl, e4.wr (by decide), fun q hq hoq => ?_⟩, fun r4 rec => ?_⟩
        · show (zwr t4 110 (i + u) _).1 110 q = -9 ↔ _
          by_cases c : q = i + u
          · rw [c, zwr_eq]
            exact ⟨fun w => absurd w (g_m9 (by omega)), fun w => absurd ⟨by omega, by omega, d⟩ w.2⟩
          · rw [zwr_nj c, e5 q hq hoq]
            exact ⟨fun w => ⟨w.1, fun y => w.2 ⟨y.1, by omega, y.2.2⟩⟩, fun w => ⟨w.1, fun y => w.2 ⟨y.1, by omega, y.2.2⟩⟩⟩
        · show FX8_contradicts_L78 r4 s5 rec _ = _
          unfold FX8_contradicts_L78
          rw [if_pos (show iI ((i + u : Nat) : Int) < (2401 : Int32) from (iLt (b := 2401) (by omega) (by omega)).mpr (by omega)), h52]
          dsimp only
          rw [zgI (by omega) (by omega) (by omega), zrI _ _ (by omega) (by omega), Int.toNat_natCast, tj, if_neg (show ¬ iI (t (i + u)) = -9 by rw [show (-9 : Int32) = iI (-9) from rfl, iEq (by omega) (by omega)]; exact ho), xOfM hj, yOfM hj, xOfM hi, yOfM hi, cellX_eq hr (by omega) (by omega) zj1, Option.bind_some, cellX_eq hr (by omega) (by omega) zi, Option.bind_some, if_pos (kx.mpr hd.1), cellY_eq hr (by omega) (by omega) zj1, Option.bind_some, cellY_eq hr (by omega) (by omega) zi, Option.bind_some, if_pos (ky.mpr hd.2), zgI (by omega) (by omega) (by omega)]
          simp only [zlet_e, zj]
          rw [zrI _ _ (by omega) (by omega), iC (by omega) (by omega), Int.toNat_natCast, zwr_nc (c := 106) (by decide), tj, iA1, mnF_p ⟨hon, d⟩, mxF_p ⟨hon, d⟩]
          have hzg : ∀ F : Option (Int32 × zMem), zguard (zin (iI ((i + u : Nat) : Int)) 2401) F = F := fun F => zgI (by omega) (by omega) (by omega)
          simp only [hzg]
          by_cases a : t (i + u) < mnF t (kP L) (kP L i) (t i) (i + u)
          · rw [if_pos ((iLt (by omega) (by omega)).mpr a), if_pos a]
            by_cases b : mxF t (kP L) (kP L i) (t i) (i + u) < t (i + u)
            · rw [if_pos ((iLt (by omega) (by omega)).mpr b), if_pos b]
            · rw [if_neg (fun w => b ((iLt (by omega) (by omega)).mp w)), if_neg b]
          · rw [if_neg (fun w => a ((iLt (by omega) (by omega)).mp w)), if_neg a]
            by_cases b : mxF t (kP L) (kP L i) (t i) (i + u) < t (i + u)
            · rw [if_pos ((iLt (by omega) (by omega)).mpr b), if_pos b]
            · rw [if_neg (fun w => b ((iLt (by omega) (by omega)).mp w)), if_neg b]
      · refine ⟨(iI (mnF t (kP L) (kP L i) (t i) (i + u + 1)), iI (mxF t (kP L) (kP L i) (t i) (i + u + 1)), iI ((i + u + 1 : Nat) : Int), t4), ⟨rfl, rfl, rfl, e4, fun q hq hoq => ?_⟩, fun r4 rec => ?_⟩
        · rw [e5 q hq hoq]
          refine ⟨fun w => ⟨w.1, fun y => ?_⟩, fun w => ⟨w.1, fun y => w.2 ⟨y.1, by omega, y.2.2⟩⟩⟩
          by_cases c : q = i + u
          · rw [c] at y
            exact d y.2.2
          · exact w.2 ⟨y.1, by omega, y.2.2⟩
        · show FX8_contradicts_L78 r4 s5 rec _ = _
          unfold FX8_contradicts_L78
          rw [if_pos (show iI ((i + u : Nat) : Int) < (2401 : Int32) from (iLt (b := 2401) (by omega) (by omega)).mpr (by omega)), h52]
          dsimp only
          rw [zgI (by omega) (by omega) (by omega), zrI _ _ (by omega) (by omega), Int.toNat_natCast, tj, if_neg (show ¬ iI (t (i + u)) = -9 by rw [show (-9 : Int32) = iI (-9) from rfl, iEq (by omega) (by omega)]; exact ho), xOfM hj, yOfM hj, xOfM hi, yOfM hi, cellX_eq hr (by omega) (by omega) zj1, Option.bind_some, cellX_eq hr (by omega) (by omega) zi, Option.bind_some, mnF_n (fun w => d w.2), mxF_n (fun w => d w.2)]
          by_cases h1 : cel L (pX (i + u)) (pY (i + u)) 0 = cel L (pX i) (pY i) 0
          · rw [if_pos (kx.mpr h1), cellY_eq hr (by omega) (by omega) zj1, Option.bind_some, cellY_eq hr (by omega) (by omega) zi, Option.bind_some, if_neg (fun w => d (ke.mpr ⟨h1, ky.mp w⟩))]
            simp only [zlet_e]
            rw [iA1]
          · rw [if_neg (fun w => h1 (kx.mp w))]
            simp only [zlet_e]
            rw [iA1]
  · intro st hI r4 rec
    obtain ⟨t1, t2, t3, t4⟩ := st
    obtain ⟨f1, f2, f3, e4, -⟩ := hI
    have e4 : zfr [110] M t4 := e4
    have en : i + (2401 - i) = 2401 := by omega
    have e1 : t1 = iI (mnF t (kP L) (kP L i) (t i) 2401) := by
      have f1 : t1 = _ := f1
      rw [en] at f1
      exact f1
    have e2 : t2 = iI (mxF t (kP L) (kP L i) (t i) 2401) := by
      have f2 : t2 = _ := f2
      rw [en] at f2
      exact f2
    have e3 : t3 = iI ((2401 : Nat) : Int) := by
      have f3 : t3 = _ := f3
      rw [en] at f3
      exact f3
    subst e1 e2 e3
    have mj := hmr 2401 (Nat.le_refl _)
    have hz' : t4.1 100 9 = iI z := (congrFun (e4.1 100 (by decide)) 9).trans hz
    show FX8_contradicts_L78 r4 s5 rec _ = _
    unfold FX8_contradicts_L78
    rw [if_neg (show ¬ iI ((2401 : Nat) : Int) < (2401 : Int32) by decide), h51, h52]
    simp only [zlet_e, zj]
    rw [hz', iS, iA1 i]
    by_cases c : cxP t (kP L) 2401 z i
    · rw [if_pos c, if_pos ((iLt (by omega) (by omega)).mpr c), iA1]
    · rw [if_neg c, if_neg (fun w => c ((iLt (by omega) (by omega)).mp w)), show (0 : Int32) = iI 0 from rfl, iA, Int.add_zero]
      rfl
  · show iI (t i) = iI (mnF t (kP L) (kP L i) (t i) i)
    rw [h0.1]
  · show iI (t i) = iI (mxF t (kP L) (kP L i) (t i) i)
    rw [h0.2]
theorem contraM_loop {L : zL} {t : Nat → Int} {M : zMem} (hr : zRL L) (hk : zTM L t M) (htr : ∀ i, i < 2401 → t i = -9 ∨ (0 ≤ t i ∧ t i ≤ 99)) {z : Int} (hz : M.1 100 9 = iI z) (hz2 : 0 ≤ z ∧ z ≤ 99) (hg : gT L t 0 M) : ∃ M', zfr [110] M M' ∧ zloop (FX8_contradicts_L31) zFuel ((0 : Int32), (0 : Int32), M) = some (iI (cxI t (kP L) 2401 z 2401 : Nat), M') := by
  have key := zloop_inv (f := FX8_contradicts_L31) (r := fun s => some (s.1, s.2.2)) (fun i st => st.1 = iI (cxI t (kP L) 2401 z i : Nat) ∧ st.2.1 = iI (i : Int) ∧ zfr [110] M st.2.2 ∧ gT L t i st.2.2) 2401 ?_ ?_ 2401 0 zFuel ((0 : Int32), (0 : Int32), M) rfl (zfu (by omega)) ⟨rfl, rfl, zfr.rf, hg⟩
  · obtain ⟨⟨t1, t2, t3⟩, ⟨e1, -, e3, -⟩, g4⟩ := key
    have e1 : t1 = _ := e1
    refine ⟨t3, e3, g4.trans ?_⟩
    rw [e1]
  · intro i st hi hI
    obtain ⟨t1, t2, t3⟩ := st
    obtain ⟨e1, e2, e3, e4⟩ := hI
    have e1 : t1 = _ := e1
    have e2 : t2 = _ := e2
    have e3 : zfr [110] M t3 := e3
    have e4 : gT L t i t3 := e4
    subst e1 e2
    have k3 := hk.zf e3
    have ti := k3.2 _ hi
    have tr := htr _ hi
    have es : cxI t (kP L) 2401 z (i + 1) = cxI t (kP L) 2401 z i + (if hF (onT t) (kP L) i = true ∧ cxP t (kP L) 2401 z i then 1 else 0) := rfl
    have skip : ¬ hF (onT t) (kP L) i = true → gT L t (i + 1) t3 := by
      intro c q hq hoq
      rw [e4 q hq hoq]
      constructor
      · intro w i' hi' ho'
        by_cases e : i' = i
        · subst e
          intro y
          exact c (hF_iff.mpr ⟨ho', fun i2 hi2 ho2 w2 => w i2 hi2 ho2 (w2.trans y)⟩)
        · exact w i' (by omega) ho'
      · intro w i' hi'
        exact w i' (by omega)
    by_cases ho : t i = -9
    · have hno : ¬ onT t i = true := fun w => onT_iff.mp w ho
      have c : ¬ hF (onT t) (kP L) i = true := fun w => hno (hF_iff.mp w).1
      refine ⟨(iI (cxI t (kP L) 2401 z (i + 1) : Nat), iI ((i + 1 : Nat) : Int), t3), ⟨rfl, rfl, e3, skip c⟩, fun rec => ?_⟩
      unfold FX8_contradicts_L31
      rw [if_pos (show iI (i : Int) < (2401 : Int32) from (iLt (b := 2401) (by omega) (by omega)).mpr (by omega))]
      refine (zgI (by omega) (by omega) (by omega)).trans ?_
      rw [if_pos (show zrd t3 106 (iI (i : Int)) = -9 by rw [zrI _ _ (by omega) (by omega), Int.toNat_natCast, ti, ho]; rfl)]
      simp only [zlet_e]
      rw [iA1, es, if_neg (fun w => c w.1)]
      rfl
    · have hon : onT t i = true := onT_iff.mpr ho
      have hfg : hF (onT t) (kP L) i = true ↔ t3.1 110 i = -9 := by
        rw [hF_iff, e4 i hi hon]
        exact ⟨fun w => w.2, fun w => ⟨hon, w⟩⟩
      have hne : ¬ zrd t3 106 (iI (i : Int)) = -9 := by
        rw [zrI _ _ (by omega) (by omega), Int.toNat_natCast, ti, show (-9 : Int32) = iI (-9) from rfl, iEq (by omega) (by omega)]
        exact ho
      by_cases c : hF (onT t) (kP L) i = true
      · obtain ⟨M', ⟨a1, a2⟩, a3⟩ := in78 hr k3 htr (n := cxI t (kP L) 2401 z i) ((congrFun (e3.1 100 (by decide)) 9).trans hz) hz2 hi c e4 (iI (cxI t (kP L) 2401 z i : Nat), iI (i : Int), t3) ⟨rfl, rfl⟩
        refine ⟨(iI (cxI t (kP L) 2401 z (i + 1) : Nat), iI ((i + 1 : Nat) : Int), M'), ⟨rfl, rfl, e3.tr a2, a1⟩, fun rec => ?_⟩
        unfold FX8_contradicts_L31
        rw [if_pos (show iI (i : Int) < (2401 : Int32) from (iLt (b := 2401) (by omega) (by omega)).mpr (by omega))]
        refine (zgI (by omega) (by omega) (by omega)).trans ?_
        rw [if_neg hne]
        refine (zgI (by omega) (by omega) (by omega)).trans ?_
        rw [if_pos (show zrd t3 110 (iI (i : Int)) = -9 by rw [zrI _ _ (by omega) (by omega), Int.toNat_natCast]; exact hfg.mp c)]
        refine (zgI (by omega) (by omega) (by omega)).trans ?_
        rw [zlet_e]
        refine (zgI (by omega) (by omega) (by omega)).trans ?_
        rw [zlet_e, zrI _ _ (by omega) (by omega), Int.toNat_natCast, ti]
        refine (a3 rec).trans ?_
        rw [es]
        by_cases d : cxP t (kP L) 2401 z i
        · rw [if_pos d, if_pos ⟨c, d⟩]
        · rw [if_neg d, if_neg (fun w => d w.2)]
      · refine ⟨(iI (cxI t (kP L) 2401 z (i + 1) : Nat), iI ((i + 1 : Nat) : Int), t3), ⟨rfl, rfl, e3, skip c⟩, fun rec => ?_⟩
        unfold FX8_contradicts_L31
        rw [if_pos (show iI (i : Int) < (2401 : Int32) from (iLt (b := 2401) (by omega) (by omega)).mpr (by omega))]
        refine (zgI (by omega) (by omega) (by omega)).trans ?_
        rw [if_neg hne]
        refine (zgI (by omega) (by omega) (by omega)).trans ?_
        rw [if_neg (show ¬ zrd t3 110 (iI (i : Int)) = -9 by rw [zrI _ _ (by omega) (by omega), Int.toNat_natCast]; exact fun w => c (hfg.mpr w))]
        simp only [zlet_e]
        rw [iA1, es, if_neg (fun w => c w.1)]
        rfl
  · intro st hI rec
    obtain ⟨t1, t2, t3⟩ := st
    obtain ⟨-, e2, -⟩ := hI
    have e2 : t2 = iI ((2401 : Nat) : Int) := e2
    subst e2
    unfold FX8_contradicts_L31
    rw [if_neg (show ¬ iI ((2401 : Nat) : Int) < (2401 : Int32) by decide)]
theorem contradicts_case : zCase FX7_contradicts FX8_contradicts := by
  refine zCase.of (fun S hR => ?_)
  refine ⟨iI (cxI S.2.2.2.2.1 (kP S.1) 2401 S.2.2.2.1 2401 : Nat), S, hR, fun M hC => ?_, fun M hM => ?_⟩
  · have hb := fun N (hN : N = 2401) => cx_eq S.2.2.2.2.1 (kP S.1) N S.2.2.2.1 N (Nat.le_refl _)
    obtain ⟨M', a1, a2, a3⟩ := contraC hC hR rfl
    refine ⟨M', ?_, a2, a3⟩
    rw [a1, hb 2401 rfl]
  · obtain ⟨M1, a1, a2, a3⟩ := findTold_eq hM.1 hR.1
    obtain ⟨M2, ⟨b1, b2⟩, b3⟩ := wipe110c M1
    have hB := hM.2.2.2
    have hrB := hR.2.2.2
    have h106 : ∀ p, p < 2401 → M1.1 106 p = iI (S.2.2.2.2.1 p) := fun p hp => (congrFun (a3.1 106 (by decide)) p).trans (hB.2.1 p hp)
    have hT : zTM S.1 S.2.2.2.2.1 M1 := ⟨fun p hp ht => a2 p hp (by
      rw [hB.2.1 p hp, show (-9 : Int32) = iI (-9) from rfl]
      have := hrB.2 p hp
      exact fun w => ht ((iEq (by omega) (by omega)).mp w)), h106⟩
    obtain ⟨M3, c1, c2⟩ := contraM_loop hR.1 (hT.zf b1) hrB.2 (z := S.2.2.2.1) ((congrFun (b1.1 100 (by decide)) 9).trans ((congrFun (a3.1 100 (by decide)) 9).trans hB.1)) hrB.1 (fun q hq _ => ⟨fun _ i' hi' => absurd hi' (Nat.not_lt_zero _), fun _ => b2 q hq⟩)
    refine ⟨M3, ?_, ((hM.qf (by decide) a3).qf (by decide) b1).qf (by decide) c1, ((a3.agC (by decide)).tr (b1.agC (by decide))).tr (c1.agC (by decide))⟩
    unfold FX8_contradicts
    rw [a1, Option.bind_some, b3, c2]
