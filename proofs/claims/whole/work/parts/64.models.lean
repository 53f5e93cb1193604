/-! ===== models, sure ===== -/
theorem nextM {L : zL} {P : zPr} {M0 M : zMem} {k d len : Nat} {e : Nat → Nat} (hr : zRL L) (hP : zMP P M) (hp : zRP P) (hd : 2 ≤ d ∧ d ≤ 16) (hs : sgE L P k d e len M) (hl : len ≤ 4096) : ∃ M', zloop (FX8_models_L184 (iI len, M0)) zFuel ((-9 : Int32), (-9 : Int32), (0 : Int32), M) = some (iI (if len = 0 then -9 else (nlB (fun s => mxc (kR L P k d e s 1) len) 0 P.2.2.1).1), M') ∧ zfq [117, 118] M M' := by
  have hp2 := hp.2.2.1
  by_cases c0 : len = 0
  · refine ⟨M, ?_, zfq.rf⟩
    rw [if_pos c0]
    show zloop _ (999999 + 1) _ = _
    rw [zloop_s]
    unfold FX8_models_L184
    dsimp only
    rw [hP.2.2.1, if_neg (show ¬ (0 : Int32) < iI len from fun z => by have := (iLt (a := 0) (by omega) (by omega)).mp z; omega)]
    by_cases c : (0 : Int32) < iI P.2.2.1
    · rw [if_pos c]; rfl
    · rw [if_neg c]; rfl
  · rw [if_neg c0]
    have hg : ∀ s, (fun s => mxc (kR L P k d e s 1) len) s ≤ 4096 := fun s => Nat.le_trans (mxc_le _ _) hl
    revert hg
    generalize hgd : (fun s => mxc (kR L P k d e s 1) len) = g
    intro hg
    have hend : (nlB g 0 P.2.2.1).1 = (nlB g (-9) P.2.2.1).1 := by
      by_cases h : 0 < P.2.2.1
      · rw [nlB_v g 0 (-9) _ h]
      · rw [show P.2.2.1 = 0 by omega]; rfl
    have key := zloop_inv (f := FX8_models_L184 (iI len, M0)) (r := fun st => some (st.1, st.2.2.2)) (fun s st => st.1 = iI (nlB g (-9) s).1 ∧ st.2.1 = iI (nlB g (-9) s).2 ∧ st.2.2.1 = iI (s : Int) ∧ zfq [117, 118] M st.2.2.2) P.2.2.1 ?_ ?_ P.2.2.1 0 zFuel ((-9 : Int32), (-9 : Int32), (0 : Int32), M) (Nat.zero_add _) (zfu (by omega)) ⟨rfl, rfl, rfl, zfq.rf⟩
    · obtain ⟨⟨t1, t2, t3, t4⟩, ⟨g1, -, -, g2⟩, g3⟩ := key
      have g1 : t1 = _ := g1
      refine ⟨t4, ?_, g2⟩
      rw [g3, g1, hend]
    · intro s st hsp hI
      obtain ⟨t1, t2, t3, t4⟩ := st
      obtain ⟨f1, f2, f3, f4⟩ := hI
      have f1 : t1 = _ := f1
      have f2 : t2 = _ := f2
      have f3 : t3 = _ := f3
      have f4 : zfq [117, 118] M t4 := f4
      subst f1 f2 f3
      have hs4 : sgE L P k d e len t4 := hs.fr (f4.1 115 (by decide) (by decide)) (f4.1 116 (by decide) (by decide))
      obtain ⟨M', a1, a2, -⟩ := heap_eq (f := s) (t := 1) hr hp hd hs4 hl (by omega)
      rw [show mxc (kR L P k d e s 1) len = g s from congrFun hgd s] at a1
      have hnr := nlB_r (v := -9) (by omega) hg s
      have hgs := hg s
      have h10 : t4.1 100 10 = iI P.2.2.1 := (f4.2.1 10 (by decide)).trans hP.2.2.1
      refine ⟨(iI (nlB g (-9) (s + 1)).1, iI (nlB g (-9) (s + 1)).2, iI ((s + 1 : Nat) : Int), M'), ⟨rfl, rfl, rfl, f4.tr a2⟩, fun rec => ?_⟩
      unfold FX8_models_L184
      dsimp only
      rw [h10, if_pos ((iLt (by omega) (by omega)).mpr (by omega)), if_pos (show (0 : Int32) < iI len from (iLt (a := 0) (by omega) (by omega)).mpr (by omega)), iA1, a1, Option.bind_some]
      simp only [zj_e, zlet_e]
      rw [show (-9 : Int32) = iI (-9) from rfl, nlB_s]
      have q1 : iI (nlB g (-9) s).1 = iI (-9) ↔ (nlB g (-9) s).1 = -9 := iEq (by omega) (by omega)
      have q3 : iI (nlB g (-9) s).2 = iI (-9) ↔ (nlB g (-9) s).2 = -9 := iEq (by omega) (by omega)
      have q2 : iI ((g s : Nat) : Int) < iI (nlB g (-9) s).2 ↔ ((g s : Nat) : Int) < (nlB g (-9) s).2 := iLt (by omega) (by omega)
      have q9 := nlB_9 g s
      by_cases c1 : (nlB g (-9) s).1 = -9
      · rw [if_pos (q1.mpr c1), if_pos (q3.mpr (q9.mp c1)), if_pos (Or.inl c1)]
      · rw [if_neg (fun z => c1 (q1.mp z))]
        by_cases c2 : ((g s : Nat) : Int) < (nlB g (-9) s).2
        · rw [if_pos (q2.mpr c2), if_neg (fun z => c1 (q9.mpr (q3.mp z))), if_pos (q2.mpr c2), if_pos (Or.inr c2)]
        · rw [if_neg (fun z => c2 (q2.mp z)), if_neg (fun z => c1 (q9.mpr (q3.mp z))), if_neg (fun z => c2 (q2.mp z)), if_neg (fun z => Or.elim z c1 c2)]
    · intro st hI rec
      obtain ⟨t1, t2, t3, t4⟩ := st
      obtain ⟨-, -, f3, f4⟩ := hI
      have f3 : t3 = _ := f3
      have f4 : zfq [117, 118] M t4 := f4
      subst f3
      have h10 : t4.1 100 10 = iI P.2.2.1 := (f4.2.1 10 (by decide)).trans hP.2.2.1
      unfold FX8_models_L184
      dsimp only
      rw [h10, if_neg (fun z => by have := (iLt (a := P.2.2.1) (b := P.2.2.1) (by omega) (by omega)).mp z; omega)]
theorem lsB_0 (e : Nat → Nat) (k d len : Nat) : (lsB e k d 0 len).1 = (lsB e k d (-9) len).1 := by
  by_cases h : 0 < len
  · rw [lsB_v e k d 0 (-9) _ h]
  · rw [show len = 0 by omega]; rfl
abbrev mdR (L : zL) (P : zPr) (k d : Nat) (x2 : Int32) : Int32 := if x2 = 0 then iI ((fitL L P k d).length : Nat) else if x2 = 1 then iI (lsB (fE L P k d) k d 0 (fitL L P k d).length).1 else if x2 = 2 then iI (hD onA (kR L P k d (fE L P k d) 0 P.2.2.1) (fitL L P k d).length : Nat) else iI (if (fitL L P k d).length = 0 then -9 else (nlB (fun s => mxc (kR L P k d (fE L P k d) s 1) (fitL L P k d).length) 0 P.2.2.1).1)
theorem modelsC {S : zSt} {M : zMem} (hC : zIC S M) (hR : zRS S) {k m : Nat} (hk : 1 ≤ k ∧ k ≤ 3) (hkL : k ≤ S.1.1) (hm : 1 ≤ m ∧ m ≤ 15) (x2 : Int32) (h2 : 0 ≤ x2.toInt ∧ x2.toInt ≤ 3) : ∃ M', ((FX6_load (iI k) (iI m) M).bind fun b6 => (FX6_gather b6).bind fun b7 => if x2 = (0 : Int32) then (some ((b7.1 34 15), b7)) else (if x2 = (1 : Int32) then ((FX6_least b7).bind fun b10 => some (b10, b7)) else (if x2 = (2 : Int32) then ((FX6_twins b7).bind fun b9 => some (b9.1, b9.2)) else ((FX6_nextLook b7).bind fun b8 => some (b8.1, b8.2))))) = some (mdR S.1 S.2.2.1 k (m + 1) x2, M') ∧ zIC S M' ∧ zagM M M' := by
  have hd : 2 ≤ m + 1 ∧ m + 1 ≤ 16 := by omega
  have hpw := pow_r hd hk.2
  obtain ⟨M1, a1, a2, a3, a4, a5, a6⟩ := load_eq hC hR hk hkL hm
  obtain ⟨M2, b1, b2, b3, b4, b5⟩ := gather_eq a2 hR a4 a5 a6
  have hl := fitL_len (L := S.1) (P := S.2.2.1) hd hk.2
  have he : ∀ i, i < (fitL S.1 S.2.2.1 k (m + 1)).length → M2.1 94 i = iI (fE S.1 S.2.2.1 k (m + 1) i : Nat) ∧ fE S.1 S.2.2.1 k (m + 1) i < 4096 := fun i hi => ⟨b5.at hi, by have := (fE_is hi).2; omega⟩
  rw [a1, Option.bind_some, b1, Option.bind_some]
  unfold mdR
  by_cases c0 : x2 = 0
  · rw [if_pos c0, if_pos c0, b5.2.1]
    exact ⟨M2, rfl, b2, a3.tr b3⟩
  · rw [if_neg c0, if_neg c0]
    by_cases c1 : x2 = 1
    · rw [if_pos c1, if_pos c1, leastC hk.2 hd hl b4.2.2.1 b4.2.2.2.1 b5.2.1 he]
      exact ⟨M2, rfl, b2, a3.tr b3⟩
    · rw [if_neg c1, if_neg c1]
      by_cases c2 : x2 = 2
      · rw [if_pos c2, if_pos c2]
        obtain ⟨M3, d1, d2⟩ := twinsC hR.1 b2.2.2.1 hR.2.2.1 b4 b5.2.1 hl he
        rw [d1, Option.bind_some]
        exact ⟨M3, rfl, b2.qf hR (by unfold zsc; decide) d2, (a3.tr b3).tr (d2.agM (by decide))⟩
      · rw [if_neg c2, if_neg c2]
        obtain ⟨M3, d1, d2⟩ := nextC hR.1 b2.2.2.1 hR.2.2.1 b4 b5.2.1 hl he
        rw [d1, Option.bind_some]
        exact ⟨M3, rfl, b2.qf hR (by unfold zsc; decide) d2, (a3.tr b3).tr (d2.agM (by decide))⟩
theorem modelsM {S : zSt} {M : zMem} (hM : zIM S M) (hR : zRS S) {k m : Nat} (hk : 1 ≤ k ∧ k ≤ 3) (hkL : k ≤ S.1.1) (hm : 1 ≤ m ∧ m ≤ 15) (x2 : Int32) : ∃ M', ((FX8_findFitting (iI k) (iI m) M).bind fun b6 => if x2 = 0 then (some (b6.1, b6.2)) else (if x2 = (1 : Int32) then (zloop (FX8_models_L51 b6 (iI m)) zFuel ((-9 : Int32), (-9 : Int32), (0 : Int32))) else (if x2 = (2 : Int32) then ((FX8_heap b6.1 (0 : Int32) (b6.2.1 100 10) b6.2).bind fun b19 => some ((b19.2.1 100 33), b19.2)) else (zloop (FX8_models_L184 b6) zFuel ((-9 : Int32), (-9 : Int32), (0 : Int32), b6.2))))) = some (mdR S.1 S.2.2.1 k (m + 1) x2, M') ∧ zIM S M' ∧ zagC M M' := by
  have hd : 2 ≤ m + 1 ∧ m + 1 ≤ 16 := by omega
  have hpw := pow_r hd hk.2
  obtain ⟨M1, a1, a2, a3⟩ := findFit_eq hM hR hk hkL hm
  have hM1 : zIM S M1 := hM.qq (by decide) a2
  have hag : zagC M M1 := a2.agC (by decide)
  have hl := fitL_len (L := S.1) (P := S.2.2.1) hd hk.2
  have he : ∀ i, i < (fitL S.1 S.2.2.1 k (m + 1)).length → M1.1 114 i = iI (fE S.1 S.2.2.1 k (m + 1) i : Nat) ∧ fE S.1 S.2.2.1 k (m + 1) i < (m + 1) ^ k := fun i hi => ⟨(a3.at hi).1, (fE_is hi).2⟩
  have hs : sgE S.1 S.2.2.1 k (m + 1) (fE S.1 S.2.2.1 k (m + 1)) (fitL S.1 S.2.2.1 k (m + 1)).length M1 := fun i hi => (a3.at hi).2
  rw [a1, Option.bind_some]
  unfold mdR
  by_cases c0 : x2 = 0
  · rw [if_pos c0, if_pos c0]
    exact ⟨M1, rfl, hM1, hag⟩
  · rw [if_neg c0, if_neg c0]
    by_cases c1 : x2 = 1
    · rw [if_pos c1, if_pos c1, leastM hk.2 hm hl he, lsB_0]
      exact ⟨M1, rfl, hM1, hag⟩
    · rw [if_neg c1, if_neg c1]
      by_cases c2 : x2 = 2
      · rw [if_pos c2, if_pos c2]
        obtain ⟨M3, d1, d2, d3⟩ := heap_eq (f := 0) (t := S.2.2.1.2.2.1) hR.1 hR.2.2.1 hd hs hl (by omega)
        rw [Nat.zero_add] at d1
        dsimp only
        rw [hM1.2.2.1.2.2.1, show (0 : Int32) = iI ((0 : Nat) : Int) from rfl, d1, Option.bind_some]
        dsimp only
        rw [d3]
        exact ⟨M3, rfl, hM1.qq (by decide) d2, hag.tr (d2.agC (by decide))⟩
      · rw [if_neg c2, if_neg c2]
        obtain ⟨M3, d1, d2⟩ := nextM (M0 := M1) hR.1 hM1.2.2.1 hR.2.2.1 hd hs hl
        dsimp only
        rw [d1]
        exact ⟨M3, rfl, hM1.qq (by decide) d2, hag.tr (d2.agC (by decide))⟩
theorem models_case (x0 x1 x2 : Int32) : zCase (FX7_models x0 x1 x2) (FX8_models x0 x1 x2) := by
  refine zCase.of (fun S hR => ?_)
  obtain ⟨n, hn1, hn2, rfl⟩ := iOf x0
  obtain ⟨m, hm1, hm2, rfl⟩ := iOf x1
  have h8 := hR.1.1
  by_cases h : tryP S.1 n m
  · have en : iI n = iI (n.toNat : Nat) := congrArg iI (Int.toNat_of_nonneg (by omega)).symm
    have em : iI m = iI (m.toNat : Nat) := congrArg iI (Int.toNat_of_nonneg (by omega)).symm
    by_cases h2 : 0 ≤ x2.toInt ∧ x2.toInt ≤ 3
    · refine ⟨mdR S.1 S.2.2.1 n.toNat (m.toNat + 1) x2, S, hR, fun M hC => ?_, fun M hM => ?_⟩
      · obtain ⟨M', a1, a2, a3⟩ := modelsC hC hR (k := n.toNat) (m := m.toNat) (by omega) (by omega) (by omega) x2 h2
        refine ⟨M', ?_, a2, a3⟩
        unfold FX7_models
        rw [isTrial_eq hC.1 h8 ⟨hn1, hn2⟩ ⟨hm1, hm2⟩, Option.bind_some, zb_if, if_pos h, within_0_3, Option.bind_some, zb_if, if_pos h2, en, em]
        exact a1
      · obtain ⟨M', a1, a2, a3⟩ := modelsM hM hR (k := n.toNat) (m := m.toNat) (by omega) (by omega) (by omega) x2
        refine ⟨M', ?_, a2, a3⟩
        unfold FX8_models
        rw [isTry_eq hM.1 h8 ⟨hn1, hn2⟩ ⟨hm1, hm2⟩, Option.bind_some, zb_if, if_pos h, in_0_3, Option.bind_some, zb_if, if_pos h2, en, em]
        exact a1
    · refine ⟨-1, S, hR, fun M hC => ⟨M, ?_, hC, zagM.rf⟩, fun M hM => ⟨M, ?_, hM, zagC.rf⟩⟩
      · unfold FX7_models
        rw [isTrial_eq hC.1 h8 ⟨hn1, hn2⟩ ⟨hm1, hm2⟩, Option.bind_some, zb_if, if_pos h, within_0_3, Option.bind_some, zb_if, if_neg h2]
      · unfold FX8_models
        rw [isTry_eq hM.1 h8 ⟨hn1, hn2⟩ ⟨hm1, hm2⟩, Option.bind_some, zb_if, if_pos h, in_0_3, Option.bind_some, zb_if, if_neg h2]
  · refine ⟨-1, S, hR, fun M hC => ⟨M, ?_, hC, zagM.rf⟩, fun M hM => ⟨M, ?_, hM, zagC.rf⟩⟩
    · unfold FX7_models
      rw [isTrial_eq hC.1 h8 ⟨hn1, hn2⟩ ⟨hm1, hm2⟩, Option.bind_some, zb_if, if_neg h]
    · unfold FX8_models
      rw [isTry_eq hM.1 h8 ⟨hn1, hn2⟩ ⟨hm1, hm2⟩, Option.bind_some, zb_if, if_neg h]
theorem sure_case (x0 x1 x2 : Int32) : zCase (FX7_sure x0 x1 x2) (FX8_sure x0 x1 x2) := by
  refine zCase.of (fun S hR => ?_)
  obtain ⟨n, hn1, hn2, rfl⟩ := iOf x0
  obtain ⟨m, hm1, hm2, rfl⟩ := iOf x1
  obtain ⟨b, hb1, hb2, rfl⟩ := iOf x2
  have h8 := hR.1.1
  by_cases h : tryP S.1 n m
  · have en : iI n = iI (n.toNat : Nat) := congrArg iI (Int.toNat_of_nonneg (by omega)).symm
    have em : iI m = iI (m.toNat : Nat) := congrArg iI (Int.toNat_of_nonneg (by omega)).symm
    have hd : 2 ≤ m.toNat + 1 ∧ m.toNat + 1 ≤ 16 := by omega
    have hpw := pow_r (d := m.toNat + 1) (k := n.toNat) hd (by omega)
    have hl := fitL_len (L := S.1) (P := S.2.2.1) (k := n.toNat) hd (by omega)
    have hw : (iI n - 1).toInt = n - 1 := by rw [show (1 : Int32) = iI 1 from rfl, iS, iT (by omega) (by omega)]
    by_cases h2 : 0 ≤ b ∧ b ≤ n - 1
    · have eb : iI b = iI (b.toNat : Nat) := congrArg iI (Int.toNat_of_nonneg h2.1).symm
      refine ⟨iI (suR (fE S.1 S.2.2.1 n.toNat (m.toNat + 1)) (m.toNat + 1) b.toNat (fitL S.1 S.2.2.1 n.toNat (m.toNat + 1)).length), S, hR, fun M hC => ?_, fun M hM => ?_⟩
      · obtain ⟨M1, a1, a2, a3, a4, a5, a6⟩ := load_eq hC hR (n := n.toNat) (m := m.toNat) (by omega) (by omega) (by omega)
        obtain ⟨M2, b1, b2, b3, b4, b5⟩ := gather_eq a2 hR a4 a5 a6
        have hsu := sureC (M := M2) (b := b.toNat) (e := fE S.1 S.2.2.1 n.toNat (m.toNat + 1)) hd (by omega) hl b4.2.2.2.1 b5.2.1 (fun i hi => ⟨b5.at hi, by have := (fE_is hi).2; omega⟩)
        refine ⟨M2, ?_, b2, a3.tr b3⟩
        unfold FX7_sure
        rw [isTrial_eq hC.1 h8 ⟨hn1, hn2⟩ ⟨hm1, hm2⟩, Option.bind_some, zb_if, if_pos h, within_eq, Option.bind_some, zb_if, hw, iT hb1 hb2, show (0 : Int32).toInt = 0 from rfl, if_pos h2, en, em, eb, a1, Option.bind_some, b1, Option.bind_some, hsu, Option.bind_some]
      · obtain ⟨M1, a1, a2, a3⟩ := findFit_eq hM hR (k := n.toNat) (m := m.toNat) (by omega) (by omega) (by omega)
        have hsu := sureM (M := M1) (k := n.toNat) (m := m.toNat) (b := b.toNat) (e := fE S.1 S.2.2.1 n.toNat (m.toNat + 1)) (by omega) (by omega) (by omega) hl (fun i hi => ⟨(a3.at hi).1, (fE_is hi).2⟩)
        refine ⟨M1, ?_, hM.qq (by decide) a2, a2.agC (by decide)⟩
        unfold FX8_sure
        rw [isTry_eq hM.1 h8 ⟨hn1, hn2⟩ ⟨hm1, hm2⟩, Option.bind_some, zb_if, if_pos h, in_eq, Option.bind_some, zb_if, hw, iT hb1 hb2, show (0 : Int32).toInt = 0 from rfl, if_pos h2, en, em, eb, a1, Option.bind_some]
        exact hsu
    · refine ⟨-1, S, hR, fun M hC => ⟨M, ?_, hC, zagM.rf⟩, fun M hM => ⟨M, ?_, hM, zagC.rf⟩⟩
      · unfold FX7_sure
        rw [isTrial_eq hC.1 h8 ⟨hn1, hn2⟩ ⟨hm1, hm2⟩, Option.bind_some, zb_if, if_pos h, within_eq, Option.bind_some, zb_if, hw, iT hb1 hb2, show (0 : Int32).toInt = 0 from rfl, if_neg h2]
      · unfold FX8_sure
        rw [isTry_eq hM.1 h8 ⟨hn1, hn2⟩ ⟨hm1, hm2⟩, Option.bind_some, zb_if, if_pos h, in_eq, Option.bind_some, zb_if, hw, iT hb1 hb2, show (0 : Int32).toInt = 0 from rfl, if_neg h2]
  · refine ⟨-1, S, hR, fun M hC => ⟨M, ?_, hC, zagM.rf⟩, fun M hM => ⟨M, ?_, hM, zagC.rf⟩⟩
    · unfold FX7_sure
      rw [isTrial_eq hC.1 h8 ⟨hn1, hn2⟩ ⟨hm1, hm2⟩, Option.bind_some, zb_if, if_neg h]
    · unfold FX8_sure
      rw [isTry_eq hM.1 h8 ⟨hn1, hn2⟩ ⟨hm1, hm2⟩, Option.bind_some, zb_if, if_neg h]
