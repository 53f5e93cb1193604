/-! ===== clear, wipe, forget, drop, field ===== -/
theorem clear_case : zCase FX7_clear FX8_clear := by
  refine zCase.of (fun S hR => ⟨iI S.2.1.1, (S.1, (0, S.2.1.2), S.2.2), ⟨hR.1, ⟨Nat.zero_le _, fun i hi => absurd hi (Nat.not_lt_zero _)⟩, hR.2.2⟩, fun M hC => ?_, fun M hM => ?_⟩)
  · refine ⟨zwr M 23 2 0, ?_, hC.text hR (zfr.rf.wr (by decide)) (zwr_nj (by decide)) ⟨zwr_eq, fun i hi => absurd hi (Nat.not_lt_zero _)⟩, zagM.rf.wr (by decide)⟩
    show some (M.1 23 2, _) = _
    rw [hC.2.1.1]
  · refine ⟨zwr M 100 5 0, ?_, hM.text (fun c h1 h2 => zwr_ne h1) rfl (fun j hj => zwr_nj hj) ⟨zwr_eq, fun i hi => absurd hi (Nat.not_lt_zero _)⟩, zagC.rf.wr (by decide)⟩
    show some (M.1 100 5, _) = _
    rw [hM.2.1.1]
theorem wipe_case : zCase FX7_wipe FX8_wipe := by
  refine zCase.of (fun S hR => ⟨iI S.2.2.1.1, (S.1, S.2.1, (0, S.2.2.1.2), S.2.2.2), ⟨hR.1, hR.2.1, ⟨Nat.zero_le _, fun i j hi => absurd hi (Nat.not_lt_zero _), hR.2.2.1.2.2⟩, hR.2.2.2⟩, fun M hC => ?_, fun M hM => ?_⟩)
  · have h := hC.2.2.1
    refine ⟨zwr (zwr M 34 4 0) 34 16 1, ?_, hC.prs hR (fun c hc => (zwr_ne (by omega)).trans (zwr_ne (by omega))) rfl zwr_eq ⟨?_, fun i j hi => absurd hi (Nat.not_lt_zero _), ?_, ?_, ?_⟩, (zagM.rf.wr (by decide)).wr (by decide)⟩
    · show some (M.1 34 4, _) = _
      rw [h.1]
    · rw [zwr_nj (by decide), zwr_eq]; rfl
    · rw [zwr_nj (by decide), zwr_nj (by decide)]; exact h.2.2.1
    · intro i hi
      have hi : i < S.2.2.1.2.2.1 := hi
      have := hR.2.2.1.2.2.1
      rw [zwr_nc (by omega), zwr_nc (by omega), zwr_nc (by omega), zwr_nc (by omega)]
      exact h.2.2.2.1 i hi
    · rw [zwr_nj (by decide), zwr_nj (by decide)]; exact h.2.2.2.2
  · have h := hM.2.2.1
    refine ⟨zwr M 100 6 0, ?_, hM.prs (fun c h1 h2 => zwr_ne h1) rfl (fun j hj _ _ => zwr_nj hj) ⟨zwr_eq, fun i j hi => absurd hi (Nat.not_lt_zero _), ?_, ?_, ?_⟩, zagC.rf.wr (by decide)⟩
    · show some (M.1 100 6, _) = _
      rw [h.1]
    · rw [zwr_nj (by decide)]; exact h.2.2.1
    · intro i hi
      rw [zwr_nc (by decide), zwr_nc (by decide)]
      exact h.2.2.2.1 i hi
    · rw [zwr_nj (by decide)]; exact h.2.2.2.2
theorem forget_case : zCase FX7_forget FX8_forget := by
  refine zCase.of (fun S hR => ⟨iI S.2.2.1.2.2.1, (S.1, S.2.1, (S.2.2.1.1, S.2.2.1.2.1, 0, S.2.2.1.2.2.2), S.2.2.2), ⟨hR.1, hR.2.1, ⟨hR.2.2.1.1, hR.2.2.1.2.1, Nat.zero_le _, fun i hi => absurd hi (Nat.not_lt_zero _), hR.2.2.1.2.2.2.2⟩, hR.2.2.2⟩, fun M hC => ?_, fun M hM => ?_⟩)
  · have h := hC.2.2.1
    refine ⟨zwr (zwr M 34 5 0) 34 16 1, ?_, hC.prs hR (fun c hc => (zwr_ne (by omega)).trans (zwr_ne (by omega))) rfl zwr_eq ⟨?_, ?_, ?_, fun i hi => absurd hi (Nat.not_lt_zero _), ?_⟩, (zagM.rf.wr (by decide)).wr (by decide)⟩
    · show some (M.1 34 5, _) = _
      rw [h.2.2.1]
    · rw [zwr_nj (by decide), zwr_nj (by decide)]; exact h.1
    · intro i j hi hj
      have hi : i < S.2.2.1.1 := hi
      have := hR.2.2.1.1
      rw [zwr_nc (by omega), zwr_nc (by omega)]
      exact h.2.1 i j hi hj
    · rw [zwr_nj (by decide), zwr_eq]; rfl
    · rw [zwr_nj (by decide), zwr_nj (by decide)]; exact h.2.2.2.2
  · have h := hM.2.2.1
    refine ⟨zwr M 100 10 0, ?_, hM.prs (fun c h1 h2 => zwr_ne h1) rfl (fun j _ _ hj => zwr_nj hj) ⟨?_, ?_, zwr_eq, fun i hi => absurd hi (Nat.not_lt_zero _), ?_⟩, zagC.rf.wr (by decide)⟩
    · show some (M.1 100 10, _) = _
      rw [h.2.2.1]
    · rw [zwr_nj (by decide)]; exact h.1
    · intro i j hi hj
      rw [zwr_nc (by decide)]
      exact h.2.1 i j hi hj
    · rw [zwr_nj (by decide)]; exact h.2.2.2.2
/-- what lensChanges leaves -/
def zLC (M : zMem) : zMem := zwr (zwr M 15 5 1) 34 16 1
theorem zLC_eq (M : zMem) : FX7_lensChanges M = some (zLC M) := rfl
theorem zLC_at {M : zMem} {c : Nat} (h1 : c ≠ 15) (h2 : c ≠ 34) : (zLC M).1 c = M.1 c := (zwr_ne h2).trans (zwr_ne h1)
theorem zLC_CL {L : zL} {M : zMem} (h : zCL L M) (hr : zRL L) : zCL L (zLC M) := h.zf (S := [15, 34]) hr ((zfr.rf.wr (by decide)).wr (by decide)) (by decide)
theorem zLC_ag {M : zMem} : zagM M (zLC M) := (zagM.rf.wr (by decide)).wr (by decide)
/-- what the lens's writes leave standing behind lensChanges -/
theorem zIC.lc {S : zSt} {L' : zL} {M M' : zMem} (h : zIC S M) (r : zRS S) (f : ∀ c, ¬ (1 ≤ c ∧ c ≤ 10) → ¬ (25 ≤ c ∧ c ≤ 33) → M'.1 c = (zLC M).1 c) (f2 : M'.2 = M.2) (t : zCL L' M') : zIC (L', S.2) M' :=
  h.len r (fun c h1 h2 h3 h4 => (f c h1 h2).trans (zLC_at h3 h4)) f2 (fun j hj => by rw [f 34 (by omega) (by omega)]; exact (zwr_nj hj).trans (congrFun (zwr_ne (by decide)) j)) (by rw [f 34 (by omega) (by omega)]; exact zwr_eq) (by rw [f 15 (by omega) (by omega)]; exact (congrFun (zwr_ne (by decide)) 5).trans zwr_eq) t
theorem drop_case : zCase FX7_drop FX8_drop := by
  refine zCase.of (fun S hR => ?_)
  have hn := hR.1.1
  by_cases h0 : S.1.1 = 0
  · refine ⟨-2, S, hR, fun M hC => ⟨M, ?_, hC, zagM.rf⟩, fun M hM => ⟨M, ?_, hM, zagC.rf⟩⟩
    · unfold FX7_drop
      rw [hC.1.2.1, h0, if_neg (by decide)]
    · unfold FX8_drop
      rw [hM.1.1, h0, if_pos (by decide)]
  · have e1 : iI (S.1.1 : Int) - 1 = iI ((S.1.1 - 1 : Nat) : Int) := by
      rw [show (1 : Int32) = iI 1 from rfl, iS]
      congr 1
      omega
    refine ⟨iI ((S.1.1 - 1 : Nat) : Int), ((S.1.1 - 1, S.1.2), S.2), ⟨⟨by show S.1.1 - 1 ≤ 8; omega, fun b f hb hf => hR.1.2.1 b f (by have hb : b < S.1.1 - 1 := hb; omega) hf, hR.1.2.2⟩, hR.2⟩, fun M hC => ?_, fun M hM => ?_⟩
    · have hc := zLC_CL hC.1 hR.1
      refine ⟨zwr (zLC M) 1 1 (iI ((S.1.1 - 1 : Nat) : Int)), ?_, hC.lc hR (fun c h1 h2 => zwr_ne (by omega)) rfl ⟨?_, zwr_eq, ?_, ?_, fun b f hb hf => ?_⟩, zLC_ag.wr (by decide)⟩
      · unfold FX7_drop
        rw [hC.1.2.1, if_pos (show (0 : Int32) < iI (S.1.1 : Int) from (iLt (a := 0) (by omega) (by omega)).mpr (by omega)), zLC_eq, Option.bind_some]
        simp only [zlet]
        rw [hc.2.1, e1, zwr_eq]
      · rw [zwr_nj (by decide), zwr_nc (by decide)]; exact hc.1
      · rw [zwr_nj (by decide)]; exact hc.2.2.1
      · rw [zwr_nj (by decide)]; exact hc.2.2.2.1
      · have hb : b < S.1.1 - 1 := hb
        have hz := zlb_or hc
        have hl : zlb (zwr (zLC M) 1 1 (iI ((S.1.1 - 1 : Nat) : Int))) = zlb (zLC M) := by unfold zlb; rw [zwr_nj (by decide)]
        rw [hl, zwr_nc (by omega)]
        exact hc.2.2.2.2 b f (by omega) hf
    · refine ⟨zwr M 100 1 (iI ((S.1.1 - 1 : Nat) : Int)), ?_, hM.len (fun c h1 h2 => zwr_ne h1) rfl (fun j h1 _ _ => zwr_nj h1) ⟨zwr_eq, ?_, ?_, fun b f hb hf => ?_⟩, zagC.rf.wr (by decide)⟩
      · unfold FX8_drop
        rw [hM.1.1, if_neg (show ¬ iI (S.1.1 : Int) = 0 from fun z => h0 (by have := (iEq (b := 0) (by omega) (by omega)).mp z; omega))]
        simp only [zlet]
        rw [e1, zwr_eq]
      · rw [zwr_nj (by decide)]; exact hM.1.2.1
      · rw [zwr_nj (by decide)]; exact hM.1.2.2.1
      · have hb : b < S.1.1 - 1 := hb
        rw [zwr_nc (by decide)]
        exact hM.1.2.2.2 b f (by omega) hf
