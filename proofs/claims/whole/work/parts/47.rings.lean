/-! ===== rings ===== -/
theorem cntP_eq {L : zL} {M : zMem} (hk : zPlC L M) {w : Int} (hw : -1 ≤ w ∧ w ≤ 1) : FX3_countOfParity (iI w) M = some (iI (nOf (fun p => zb (pI L (pX p) (pY p) = w)) 2401)) := by
  unfold FX3_countOfParity
  refine zloop_end (f := FX3_countOfParity_L4 M (iI w)) (fun i => (iI (nOf (fun p => zb (pI L (pX p) (pY p) = w)) i), iI (i : Int))) 2401 rfl (fun i hi rec => ?_) (fun rec => ?_) (zfu (by omega))
  · unfold FX3_countOfParity_L4
    have hp := pI_r L (pX i) (pY i)
    have e := (hk.2 i hi).2
    show (if iI (i : Int) < (2401 : Int32) then _ else _) = _
    rw [show (2401 : Int32) = iI 2401 from rfl, if_pos ((iLt (by omega) (by omega)).mpr (by omega))]
    refine (zgI (by omega) (by omega) (by omega)).trans ?_
    simp only [zj, zlet]
    rw [zrI _ _ (by omega) (by omega), Int.toNat_natCast, e, nOf_s, ← nOf_zb, iA1]
    by_cases h : pI L (pX i) (pY i) = w
    · rw [if_pos (show iI (pI L (pX i) (pY i)) = iI w by rw [h])]
      have : ¬ zb (pI L (pX i) (pY i) = w) = 0 := by unfold zb; rw [if_pos h]; decide
      rw [if_neg this]
    · rw [if_neg (fun z => h ((iEq (by omega) (by omega)).mp z))]
      have : zb (pI L (pX i) (pY i) = w) = 0 := by unfold zb; rw [if_neg h]
      rw [if_pos this]
  · unfold FX3_countOfParity_L4
    show (if iI ((2401 : Nat) : Int) < (2401 : Int32) then _ else _) = _
    rw [if_neg (by decide)]
/-- what rings marks -/
abbrev rgP (x0 : Int32) (L : zL) (p : Nat) : Prop := if x0 < 2 then crN L p else pI L (pX p) (pY p) = (if x0 = 2 then 1 else -1)
theorem ringsM_eq {L : zL} {M : zMem} (x0 : Int32) (hr : zRL L) (hk : zPlM L M) : ∃ M', (zfr [109] M M' ∧ ∀ p, p < 2401 → M'.1 109 p = zb (rgP x0 L p)) ∧ zloop (FX8_rings_L19 x0) zFuel ((0 : Int32), (0 : Int32), M) = (if x0 = (1 : Int32) then ((FX8_findGroups M').bind fun b6 => some ((b6.1 100 22), b6)) else (some (iI (nOf (fun p => zb (rgP x0 L p)) 2401), M'))) := by
  have key := zloop_inv (f := FX8_rings_L19 x0) (r := fun s => if x0 = (1 : Int32) then ((FX8_findGroups s.2.2).bind fun b6 => some ((b6.1 100 22), b6)) else (some (s.1, s.2.2))) (fun i s => s.1 = iI (nOf (fun p => zb (rgP x0 L p)) i) ∧ s.2.1 = iI (i : Int) ∧ zfr [109] M s.2.2 ∧ ∀ p, p < i → s.2.2.1 109 p = zb (rgP x0 L p)) 2401 ?_ ?_ 2401 0 zFuel ((0 : Int32), (0 : Int32), M) rfl (zfu (by omega)) ⟨rfl, rfl, zfr.rf, fun p hp => by omega⟩
  · obtain ⟨⟨s1, s2, s3⟩, ⟨g0, -, g1, g2⟩, g4⟩ := key
    have g0 : s1 = _ := g0
    refine ⟨s3, ⟨g1, g2⟩, g4.trans ?_⟩
    rw [g0]
  · intro i s hi hI
    obtain ⟨s1, s2, sm⟩ := s
    obtain ⟨e1, e2, e3, e4⟩ := hI
    have e1 : s1 = _ := e1
    have e2 : s2 = _ := e2
    subst e1 e2
    have hp := pXY hi
    have hq : zPlM L sm := fun x y hx hy => by
      have := hk x y hx hy
      unfold zLt at this ⊢
      rw [e3.1 107 (by decide), e3.1 108 (by decide)]
      exact this
    have hpar : ∀ x y, (-24 ≤ x ∧ x ≤ 24) → (-24 ≤ y ∧ y ≤ 24) → FX8_parityOf (iI x) (iI y) sm = some (iI (pI L x y)) := fun x y hx hy => parityOf_eq hr hx hy (hq _ _ (by omega) (by omega)) (hq _ _ (by omega) (by omega)) (hq _ _ (by omega) (by omega)) (hq _ _ (by omega) (by omega))
    have hcr : FX8_criticalNow (iI (pX i)) (iI (pY i)) sm = some (zb (crN L i)) := criticalNow_eq hp.1 hp.2.1 (hpar _ _ hp.1 hp.2.1) (fun z => hpar _ _ (by omega) hp.2.1) (fun z => hpar _ _ hp.1 (by omega))
    refine ⟨(iI (nOf (fun p => zb (rgP x0 L p)) (i + 1)), iI ((i + 1 : Nat) : Int), zwr sm 109 i (zb (rgP x0 L i))), ⟨rfl, rfl, e3.wr (by decide), fun p hp => ?_⟩, fun rec => ?_⟩
    · by_cases e : p = i
      · subst e; exact zwr_eq
      · exact (zwr_nj e).trans (e4 p (by omega))
    · unfold FX8_rings_L19
      show (if iI (i : Int) < (2401 : Int32) then _ else _) = _
      rw [show (2401 : Int32) = iI 2401 from rfl, if_pos ((iLt (by omega) (by omega)).mpr (by omega))]
      dsimp only
      rw [xOfM hi, yOfM hi, zlet_e, zlet_e]
      refine zj_p (fun t => t = zb (rgP x0 L i)) (r := rec (iI (nOf (fun p => zb (rgP x0 L p)) (i + 1)), iI ((i + 1 : Nat) : Int), zwr sm 109 i (zb (rgP x0 L i)))) (fun t ht => ?_) (fun k hkk => ?_)
      · subst ht
        refine (zgI (by omega) (by omega) (by omega)).trans ?_
        refine (zgI (by omega) (by omega) (by omega)).trans ?_
        simp only [zj]
        show (if zrd (zwr sm 109 (zcl (iI (i : Int))) (zb (rgP x0 L i) &&& 1)) 109 (iI (i : Int)) = 0 then rec (iI (nOf (fun p => zb (rgP x0 L p)) i) + 0, iI (i : Int) + 1, zwr sm 109 (zcl (iI (i : Int))) (zb (rgP x0 L i) &&& 1)) else rec (iI (nOf (fun p => zb (rgP x0 L p)) i) + 1, iI (i : Int) + 1, zwr sm 109 (zcl (iI (i : Int))) (zb (rgP x0 L i) &&& 1))) = _
        rw [zb_and1, iC (by omega) (by omega), Int.toNat_natCast, zrI _ _ (by omega) (by omega), Int.toNat_natCast, zwr_eq, iA1, nOf_s, ← nOf_zb]
        by_cases h : zb (rgP x0 L i) = 0
        · rw [if_pos h, if_pos h]
        · rw [if_neg h, if_neg h]
      · by_cases h2 : x0 < 2
        · rw [if_pos h2]
          show (FX8_criticalNow (iI (pX i)) (iI (pY i)) sm).bind _ = _
          rw [hcr, Option.bind_some]
          refine hkk _ (zb_congr ?_)
          show _ ↔ (if x0 < 2 then _ else _)
          rw [if_pos h2]
        · rw [if_neg h2]
          show (FX8_parityOf (iI (pX i)) (iI (pY i)) sm).bind _ = _
          rw [hpar _ _ hp.1 hp.2.1, Option.bind_some]
          have hpr := pI_r L (pX i) (pY i)
          have tail : ∀ w : Int, -1 ≤ w → w ≤ 1 → (if x0 = 2 then (1 : Int) else -1) = w → (if iI (pI L (pX i) (pY i)) = iI w then k 1 else k 0) = rec (iI (nOf (fun p => zb (rgP x0 L p)) (i + 1)), iI ((i + 1 : Nat) : Int), zwr sm 109 i (zb (rgP x0 L i))) := by
            intro w hw1 hw2 hw
            have hre : rgP x0 L i ↔ pI L (pX i) (pY i) = w := by
              show (if x0 < 2 then _ else _) ↔ _
              rw [if_neg h2, hw]
            by_cases h : pI L (pX i) (pY i) = w
            · rw [if_pos (show iI (pI L (pX i) (pY i)) = iI w by rw [h])]
              refine hkk _ ?_
              unfold zb
              rw [if_pos (hre.mpr h)]
            · rw [if_neg (fun z => h ((iEq (by omega) (by omega)).mp z))]
              refine hkk _ ?_
              unfold zb
              rw [if_neg (fun z => h (hre.mp z))]
          simp only [zj]
          by_cases e2 : x0 = 2
          · rw [if_pos e2]
            exact tail 1 (by omega) (by omega) (if_pos e2)
          · rw [if_neg e2]
            exact tail (-1) (by omega) (by omega) (if_neg e2)
  · intro s hI rec
    obtain ⟨s1, s2, sm⟩ := s
    obtain ⟨-, e2, -⟩ := hI
    have e2 : s2 = iI ((2401 : Nat) : Int) := e2
    subst e2
    unfold FX8_rings_L19
    show (if iI ((2401 : Nat) : Int) < (2401 : Int32) then _ else _) = _
    rw [if_neg (by decide)]
theorem rings_case (x0 : Int32) : zCase (FX7_rings x0) (FX8_rings x0) := by
  refine zCase.of (fun S hR => ?_)
  by_cases h : 0 ≤ x0.toInt ∧ x0.toInt ≤ 3
  · refine ⟨if x0 = 1 then iI ((gRun (fun p => decide (crN S.1 p)) 2401).2.1 : Nat) else iI (nOf (fun p => zb (rgP x0 S.1 p)) 2401), S, hR, fun M hC => ?_, fun M hM => ?_⟩
    · obtain ⟨M1, a1, a2, a3, a4, a5⟩ := hC.look hR
      unfold FX7_rings
      rw [within_0_3, Option.bind_some, zb_if, if_pos h, a1, Option.bind_some]
      by_cases h2 : x0 < 2
      · rw [if_pos h2]
        obtain ⟨M2, b1, b2, b3⟩ := critC_eq a4
        have hn : (fun p => zb (rgP x0 S.1 p)) = fun p => zb (crN S.1 p) := by
          funext p
          refine zb_congr ?_
          show (if x0 < 2 then _ else _) ↔ _
          rw [if_pos h2]
        rw [b1, Option.bind_some]
        by_cases e0 : x0 = 0
        · rw [if_pos e0, if_neg (show ¬ x0 = 1 by rw [e0]; decide), hn]
          exact ⟨M2, rfl, a2.qf hR (by unfold zsc; decide) b2, (a5.agM (by decide)).tr (b2.agM (by decide))⟩
        · have e1 : x0 = 1 := by
            have z1 := (Int32.lt_iff_toInt_lt).mp h2
            have z2 : ¬ x0.toInt = 0 := fun z => e0 (Int32.toInt_inj.mp (z.trans (show (0 : Int) = (0 : Int32).toInt from rfl)))
            exact Int32.toInt_inj.mp (show x0.toInt = 1 by have : (2 : Int32).toInt = 2 := rfl; omega)
          obtain ⟨M3, c1, c2, c3⟩ := splitC (W := fun p => decide (crN S.1 p)) (fun q hq => (b3 q hq).trans zb_W) (-9)
          rw [if_neg e0, if_pos e1]
          dsimp only
          rw [c1, Option.bind_some]
          exact ⟨M3, rfl, (a2.qf hR (by unfold zsc; decide) b2).qf hR (by unfold zsc; decide) c2, ((a5.agM (by decide)).tr (b2.agM (by decide))).tr (c2.agM (by decide))⟩
      · rw [if_neg h2, if_neg (show ¬ x0 = 1 from fun z => h2 (by rw [z]; decide))]
        have hn : ∀ w : Int, (if x0 = 2 then (1 : Int) else -1) = w → (fun p => zb (rgP x0 S.1 p)) = fun p => zb (pI S.1 (pX p) (pY p) = w) := by
          intro w hw
          funext p
          refine zb_congr ?_
          show (if x0 < 2 then _ else _) ↔ _
          rw [if_neg h2, hw]
        simp only [zj]
        by_cases e2 : x0 = 2
        · rw [if_pos e2, hn 1 (if_pos e2), show (1 : Int32) = iI 1 from rfl, cntP_eq a4 (by omega)]
          exact ⟨M1, rfl, a2, a5.agM (by decide)⟩
        · rw [if_neg e2, hn (-1) (if_neg e2), show (-1 : Int32) = iI (-1) from rfl, cntP_eq a4 (by omega)]
          exact ⟨M1, rfl, a2, a5.agM (by decide)⟩
    · obtain ⟨M1, a1, a2, a3⟩ := findPlane_eq hM.1 hR.1
      obtain ⟨M2, ⟨b1, b2⟩, b3⟩ := ringsM_eq x0 hR.1 a2
      have hM2 : zIM S M2 := (hM.qf (by decide) a3).qf (by decide) b1
      have hag : zagC M M2 := (a3.agC (by decide)).tr (b1.agC (by decide))
      unfold FX8_rings
      rw [in_0_3, Option.bind_some, zb_if, if_pos h, a1, Option.bind_some, b3]
      by_cases e1 : x0 = 1
      · have h2 : x0 < 2 := by rw [e1]; decide
        obtain ⟨M3, c1, c2, c3, -⟩ := groupsM_eq (W := fun p => decide (crN S.1 p)) (M := M2) (fun q hq => by
          rw [b2 q hq]
          have : zb (rgP x0 S.1 q) = zb (crN S.1 q) := zb_congr (by show (if x0 < 2 then _ else _) ↔ _; rw [if_pos h2])
          rw [this]
          exact zb_W0)
        rw [if_pos e1, if_pos e1, c1, Option.bind_some, c3]
        exact ⟨M3, rfl, hM2.qq (by decide) c2, hag.tr (c2.agC (by decide))⟩
      · rw [if_neg e1, if_neg e1]
        exact ⟨M2, rfl, hM2, hag⟩
  · refine ⟨-1, S, hR, fun M hC => ⟨M, ?_, hC, zagM.rf⟩, fun M hM => ⟨M, ?_, hM, zagC.rf⟩⟩
    · unfold FX7_rings
      rw [within_0_3, Option.bind_some, zb_if, if_neg h]
    · unfold FX8_rings
      rw [in_0_3, Option.bind_some, zb_if, if_neg h]
