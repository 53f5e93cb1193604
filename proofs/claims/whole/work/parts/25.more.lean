/-! ===== field, tolerance, bright ===== -/
theorem field_case (x0 x1 : Int32) : zCase (FX7_field x0 x1) (FX8_field x0 x1) := by
  refine zCase.of (fun S hR => ?_)
  obtain ⟨x, hx1, hx2, rfl⟩ := iOf x0
  obtain ⟨v, hv1, hv2, rfl⟩ := iOf x1
  by_cases h : 0 ≤ x ∧ x ≤ 1
  · by_cases h2 : -8 ≤ v ∧ v ≤ 8
    · have h' : 0 ≤ (iI x).toInt ∧ (iI x).toInt ≤ 1 := by rw [iT hx1 hx2]; exact h
      have h2' : -8 ≤ (iI v).toInt ∧ (iI v).toInt ≤ 8 := by rw [iT hv1 hv2]; exact h2
      have key : x = 0 ∨ x = 1 := by omega
      rcases key with rfl | rfl
      · refine ⟨iI S.1.2.2.1, ((S.1.1, S.1.2.1, v, S.1.2.2.2), S.2), ⟨⟨hR.1.1, hR.1.2.1, h2, hR.1.2.2.2⟩, hR.2⟩, fun M hC => ?_, fun M hM => ?_⟩
        · have hc := zLC_CL hC.1 hR.1
          refine ⟨_, ?_, hC.lc hR (M' := zwr (zLC M) 1 2 (iI v)) (fun c h1 h2 => zwr_ne (by omega)) rfl ⟨?_, ?_, zwr_eq, ?_, fun b f hb hf => ?_⟩, zLC_ag.wr (by decide)⟩
          · unfold FX7_field
            rw [within_0_1, Option.bind_some, zb_if, if_pos h', within_m8_8, Option.bind_some, zb_if, if_pos h2', zLC_eq, Option.bind_some, ← hc.2.2.1]
            rfl
          · rw [zwr_nj (by decide), zwr_nc (by decide)]; exact hc.1
          · rw [zwr_nj (by decide)]; exact hc.2.1
          · rw [zwr_nj (by decide)]; exact hc.2.2.2.1
          · have hb : b < S.1.1 := hb
            have hn := hR.1.1
            have hz := zlb_or hc
            have hl : zlb (zwr (zLC M) 1 2 (iI v)) = zlb (zLC M) := by unfold zlb; rw [zwr_nj (by decide)]
            rw [hl, zwr_nc (by omega)]
            exact hc.2.2.2.2 b f hb hf
        · refine ⟨_, ?_, hM.len (M' := zwr (zwr M 100 2 (iI v)) 100 3 (M.1 100 3)) (fun c h1 h2 => (zwr_ne h1).trans (zwr_ne h1)) rfl (fun j _ h1 h2 => (zwr_nj h2).trans (zwr_nj h1)) ⟨?_, ?_, ?_, fun b f hb hf => ?_⟩, (zagC.rf.wr (by decide)).wr (by decide)⟩
          · unfold FX8_field
            rw [in_0_1, Option.bind_some, zb_if, if_pos h', in_m8_8, Option.bind_some, zb_if, if_pos h2', ← hM.1.2.1]
            rfl
          · rw [zwr_nj (by decide), zwr_nj (by decide)]; exact hM.1.1
          · rw [zwr_nj (by decide), zwr_eq]
          · rw [zwr_eq]; exact hM.1.2.2.1
          · rw [zwr_nc (by decide), zwr_nc (by decide)]; exact hM.1.2.2.2 b f hb hf
      · refine ⟨iI S.1.2.2.2, ((S.1.1, S.1.2.1, S.1.2.2.1, v), S.2), ⟨⟨hR.1.1, hR.1.2.1, hR.1.2.2.1, h2⟩, hR.2⟩, fun M hC => ?_, fun M hM => ?_⟩
        · have hc := zLC_CL hC.1 hR.1
          refine ⟨_, ?_, hC.lc hR (M' := zwr (zLC M) 1 3 (iI v)) (fun c h1 h2 => zwr_ne (by omega)) rfl ⟨?_, ?_, ?_, zwr_eq, fun b f hb hf => ?_⟩, zLC_ag.wr (by decide)⟩
          · unfold FX7_field
            rw [within_0_1, Option.bind_some, zb_if, if_pos h', within_m8_8, Option.bind_some, zb_if, if_pos h2', zLC_eq, Option.bind_some, ← hc.2.2.2.1]
            rfl
          · rw [zwr_nj (by decide), zwr_nc (by decide)]; exact hc.1
          · rw [zwr_nj (by decide)]; exact hc.2.1
          · rw [zwr_nj (by decide)]; exact hc.2.2.1
          · have hb : b < S.1.1 := hb
            have hn := hR.1.1
            have hz := zlb_or hc
            have hl : zlb (zwr (zLC M) 1 3 (iI v)) = zlb (zLC M) := by unfold zlb; rw [zwr_nj (by decide)]
            rw [hl, zwr_nc (by omega)]
            exact hc.2.2.2.2 b f hb hf
        · refine ⟨_, ?_, hM.len (M' := zwr (zwr M 100 2 (M.1 100 2)) 100 3 (iI v)) (fun c h1 h2 => (zwr_ne h1).trans (zwr_ne h1)) rfl (fun j _ h1 h2 => (zwr_nj h2).trans (zwr_nj h1)) ⟨?_, ?_, ?_, fun b f hb hf => ?_⟩, (zagC.rf.wr (by decide)).wr (by decide)⟩
          · unfold FX8_field
            rw [in_0_1, Option.bind_some, zb_if, if_pos h', in_m8_8, Option.bind_some, zb_if, if_pos h2', ← hM.1.2.2.1]
            rfl
          · rw [zwr_nj (by decide), zwr_nj (by decide)]; exact hM.1.1
          · rw [zwr_nj (by decide), zwr_eq]; exact hM.1.2.1
          · rw [zwr_eq]
          · rw [zwr_nc (by decide), zwr_nc (by decide)]; exact hM.1.2.2.2 b f hb hf
    · have h2' : ¬ (-8 ≤ (iI v).toInt ∧ (iI v).toInt ≤ 8) := by rw [iT hv1 hv2]; exact h2
      have h' : 0 ≤ (iI x).toInt ∧ (iI x).toInt ≤ 1 := by rw [iT hx1 hx2]; exact h
      refine ⟨-1000000000, S, hR, fun M hC => ⟨M, ?_, hC, zagM.rf⟩, fun M hM => ⟨M, ?_, hM, zagC.rf⟩⟩
      · unfold FX7_field
        rw [within_0_1, Option.bind_some, zb_if, if_pos h', within_m8_8, Option.bind_some, zb_if, if_neg h2']
      · unfold FX8_field
        rw [in_0_1, Option.bind_some, zb_if, if_pos h', in_m8_8, Option.bind_some, zb_if, if_neg h2']
  · have h' : ¬ (0 ≤ (iI x).toInt ∧ (iI x).toInt ≤ 1) := by rw [iT hx1 hx2]; exact h
    refine ⟨-1000000000, S, hR, fun M hC => ⟨M, ?_, hC, zagM.rf⟩, fun M hM => ⟨M, ?_, hM, zagC.rf⟩⟩
    · unfold FX7_field
      rw [within_0_1, Option.bind_some, zb_if, if_neg h']
    · unfold FX8_field
      rw [in_0_1, Option.bind_some, zb_if, if_neg h']
theorem tolerance_case (x0 x1 : Int32) : zCase (FX7_tolerance x0 x1) (FX8_tolerance x0 x1) := by
  refine zCase.of (fun S hR => ?_)
  obtain ⟨x, hx1, hx2, rfl⟩ := iOf x0
  obtain ⟨v, hv1, hv2, rfl⟩ := iOf x1
  by_cases h : 0 ≤ x ∧ x ≤ 1
  · have h' : 0 ≤ (iI x).toInt ∧ (iI x).toInt ≤ 1 := by rw [iT hx1 hx2]; exact h
    have key : x = 0 ∨ x = 1 := by omega
    rcases key with rfl | rfl
    · have e7 : ∀ M, FX7_tolerance (iI 0) (iI v) M = (FX7_within (iI v) 0 64).bind fun b6 => if b6 = 0 then (some ((-1 : Int32), M)) else some (M.1 34 6, zwr (zwr M 34 6 (iI v)) 34 16 1) := fun M => by
        unfold FX7_tolerance
        rw [within_0_1, Option.bind_some, zb_if, if_pos h']
        rfl
      have e8 : ∀ M, FX8_tolerance (iI 0) (iI v) M = (FX8_in (iI v) 0 64).bind fun b6 => if b6 = 0 then (some ((-1 : Int32), M)) else some (M.1 100 8, zwr (zwr M 100 8 (iI v)) 100 9 (M.1 100 9)) := fun M => by
        unfold FX8_tolerance
        rw [in_0_1, Option.bind_some, zb_if, if_pos h']
        rfl
      by_cases h2 : 0 ≤ v ∧ v ≤ 64
      · have h2' : 0 ≤ (iI v).toInt ∧ (iI v).toInt ≤ 64 := by rw [iT hv1 hv2]; exact h2
        have hP := hR.2.2.1
        have p1 := hP.1
        have p2 := hP.2.2.1
        refine ⟨iI S.2.2.1.2.2.2.2.2, (S.1, S.2.1, (S.2.2.1.1, S.2.2.1.2.1, S.2.2.1.2.2.1, S.2.2.1.2.2.2.1, S.2.2.1.2.2.2.2.1, v), S.2.2.2), ⟨hR.1, hR.2.1, ⟨hP.1, hP.2.1, hP.2.2.1, hP.2.2.2.1, h2⟩, hR.2.2.2⟩, fun M hC => ?_, fun M hM => ?_⟩
        · have hp := hC.2.2.1
          refine ⟨zwr (zwr M 34 6 (iI v)) 34 16 1, ?_, hC.prs hR (fun c hc => (zwr_ne (by omega)).trans (zwr_ne (by omega))) rfl zwr_eq ⟨?_, fun i j hi hj => ?_, ?_, fun i hi => ?_, ?_⟩, (zagM.rf.wr (by decide)).wr (by decide)⟩
          · rw [e7, within_0_64, Option.bind_some, zb_if, if_pos h2', hp.2.2.2.2]
          · rw [zwr_nj (by decide), zwr_nj (by decide)]; exact hp.1
          · have hi : i < S.2.2.1.1 := hi
            rw [zwr_nc (by omega), zwr_nc (by omega)]; exact hp.2.1 i j hi hj
          · rw [zwr_nj (by decide), zwr_nj (by decide)]; exact hp.2.2.1
          · have hi : i < S.2.2.1.2.2.1 := hi
            exact ⟨(zwr_nc (by omega)).trans ((zwr_nc (by omega)).trans (hp.2.2.2.1 i hi).1), (zwr_nc (by omega)).trans ((zwr_nc (by omega)).trans (hp.2.2.2.1 i hi).2)⟩
          · rw [zwr_nj (by decide), zwr_eq]
        · have hp := hM.2.2.1
          have hb := hM.2.2.2
          refine ⟨zwr (zwr M 100 8 (iI v)) 100 9 (M.1 100 9), ?_, ⟨hM.1.fr (fun j hj => (zwr_nj (by omega)).trans (zwr_nj (by omega))) ((zwr_ne (by decide)).trans (zwr_ne (by decide))), hM.2.1.fr ((zwr_nj (by decide)).trans (zwr_nj (by decide))) ((zwr_ne (by decide)).trans (zwr_ne (by decide))), ⟨?_, fun i j hi hj => ?_, ?_, fun i hi => ?_, ?_⟩, hb.fr zwr_eq ((zwr_ne (by decide)).trans (zwr_ne (by decide))) rfl⟩, (zagC.rf.wr (by decide)).wr (by decide)⟩
          · rw [e8, in_0_64, Option.bind_some, zb_if, if_pos h2', hp.2.2.2.2]
          · rw [zwr_nj (by decide), zwr_nj (by decide)]; exact hp.1
          · rw [zwr_nc (by decide), zwr_nc (by decide)]; exact hp.2.1 i j hi hj
          · rw [zwr_nj (by decide), zwr_nj (by decide)]; exact hp.2.2.1
          · exact ⟨(zwr_nc (by decide)).trans ((zwr_nc (by decide)).trans (hp.2.2.2.1 i hi).1), (zwr_nc (by decide)).trans ((zwr_nc (by decide)).trans (hp.2.2.2.1 i hi).2)⟩
          · rw [zwr_nj (by decide), zwr_eq]
      · have h2' : ¬ (0 ≤ (iI v).toInt ∧ (iI v).toInt ≤ 64) := by rw [iT hv1 hv2]; exact h2
        refine ⟨-1, S, hR, fun M hC => ⟨M, ?_, hC, zagM.rf⟩, fun M hM => ⟨M, ?_, hM, zagC.rf⟩⟩
        · rw [e7, within_0_64, Option.bind_some, zb_if, if_neg h2']
        · rw [e8, in_0_64, Option.bind_some, zb_if, if_neg h2']
    · have e7 : ∀ M, FX7_tolerance (iI 1) (iI v) M = (FX7_within (iI v) 0 99).bind fun b6 => if b6 = 0 then (some ((-1 : Int32), M)) else some (M.1 96 5, zwr M 96 5 (iI v)) := fun M => by
        unfold FX7_tolerance
        rw [within_0_1, Option.bind_some, zb_if, if_pos h']
        rfl
      have e8 : ∀ M, FX8_tolerance (iI 1) (iI v) M = (FX8_in (iI v) 0 99).bind fun b6 => if b6 = 0 then (some ((-1 : Int32), M)) else some (M.1 100 9, zwr (zwr M 100 8 (M.1 100 8)) 100 9 (iI v)) := fun M => by
        unfold FX8_tolerance
        rw [in_0_1, Option.bind_some, zb_if, if_pos h']
        rfl
      by_cases h2 : 0 ≤ v ∧ v ≤ 99
      · have h2' : 0 ≤ (iI v).toInt ∧ (iI v).toInt ≤ 99 := by rw [iT hv1 hv2]; exact h2
        have hB := hR.2.2.2
        refine ⟨iI S.2.2.2.1, (S.1, S.2.1, S.2.2.1, (v, S.2.2.2.2)), ⟨hR.1, hR.2.1, hR.2.2.1, ⟨h2, hB.2⟩⟩, fun M hC => ?_, fun M hM => ?_⟩
        · have hp := hC.2.2.2.1
          refine ⟨zwr M 96 5 (iI v), ?_, hC.bri hR (fun c h1 h2 => zwr_ne h1) ⟨zwr_eq, fun i hi => ?_, hp.2.2⟩, zagM.rf.wr (by decide)⟩
          · rw [e7, within_0_99, Option.bind_some, zb_if, if_pos h2', hp.1]
          · rw [zwr_nc (by decide)]; exact hp.2.1 i hi
        · have hp := hM.2.2.1
          have hb := hM.2.2.2
          refine ⟨zwr (zwr M 100 8 (M.1 100 8)) 100 9 (iI v), ?_, ⟨hM.1.fr (fun j hj => (zwr_nj (by omega)).trans (zwr_nj (by omega))) ((zwr_ne (by decide)).trans (zwr_ne (by decide))), hM.2.1.fr ((zwr_nj (by decide)).trans (zwr_nj (by decide))) ((zwr_ne (by decide)).trans (zwr_ne (by decide))), ⟨?_, fun i j hi hj => ?_, ?_, fun i hi => ?_, ?_⟩, ⟨zwr_eq, fun i hi => ?_, hb.2.2⟩⟩, (zagC.rf.wr (by decide)).wr (by decide)⟩
          · rw [e8, in_0_99, Option.bind_some, zb_if, if_pos h2', hb.1]
          · rw [zwr_nj (by decide), zwr_nj (by decide)]; exact hp.1
          · rw [zwr_nc (by decide), zwr_nc (by decide)]; exact hp.2.1 i j hi hj
          · rw [zwr_nj (by decide), zwr_nj (by decide)]; exact hp.2.2.1
          · exact ⟨(zwr_nc (by decide)).trans ((zwr_nc (by decide)).trans (hp.2.2.2.1 i hi).1), (zwr_nc (by decide)).trans ((zwr_nc (by decide)).trans (hp.2.2.2.1 i hi).2)⟩
          · rw [zwr_nj (by decide), zwr_eq]; exact hp.2.2.2.2
          · rw [zwr_nc (by decide), zwr_nc (by decide)]; exact hb.2.1 i hi
      · have h2' : ¬ (0 ≤ (iI v).toInt ∧ (iI v).toInt ≤ 99) := by rw [iT hv1 hv2]; exact h2
        refine ⟨-1, S, hR, fun M hC => ⟨M, ?_, hC, zagM.rf⟩, fun M hM => ⟨M, ?_, hM, zagC.rf⟩⟩
        · rw [e7, within_0_99, Option.bind_some, zb_if, if_neg h2']
        · rw [e8, in_0_99, Option.bind_some, zb_if, if_neg h2']
  · have h' : ¬ (0 ≤ (iI x).toInt ∧ (iI x).toInt ≤ 1) := by rw [iT hx1 hx2]; exact h
    refine ⟨-1, S, hR, fun M hC => ⟨M, ?_, hC, zagM.rf⟩, fun M hM => ⟨M, ?_, hM, zagC.rf⟩⟩
    · unfold FX7_tolerance
      rw [within_0_1, Option.bind_some, zb_if, if_neg h']
    · unfold FX8_tolerance
      rw [in_0_1, Option.bind_some, zb_if, if_neg h']
