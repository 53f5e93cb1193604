/-! ===== pair, bend ===== -/
theorem pair_case (x0 x1 x2 x3 : Int32) : zCase (FX7_pair x0 x1 x2 x3) (FX8_pair x0 x1 x2 x3) := by
  refine zCase.of (fun S hR => ?_)
  obtain ⟨x, hx1, hx2, rfl⟩ := iOf x0
  obtain ⟨y, hy1, hy2, rfl⟩ := iOf x1
  obtain ⟨u, hu1, hu2, rfl⟩ := iOf x2
  obtain ⟨v, hv1, hv2, rfl⟩ := iOf x3
  have hP := hR.2.2.1
  have hn := hP.1
  have hm := hP.2.2.1
  by_cases h : pIn 30 (iI x) (iI y)
  · have h0 := (pIn_I ⟨hx1, hx2⟩ ⟨hy1, hy2⟩).mp h
    by_cases k : pIn 30 (iI u) (iI v)
    · have k0 := (pIn_I ⟨hu1, hu2⟩ ⟨hv1, hv2⟩).mp k
      by_cases h8 : S.2.2.1.1 < 10
      · refine ⟨iI ((S.2.2.1.1 + 1 : Nat) : Int), (S.1, S.2.1, (S.2.2.1.1 + 1, zupr S.2.2.1.2.1 S.2.2.1.1 (zq4 x y u v), S.2.2.1.2.2), S.2.2.2), ⟨hR.1, hR.2.1, ⟨h8, fun i j hi hj => ?_, hP.2.2⟩, hR.2.2.2⟩, fun M hC => ?_, fun M hM => ?_⟩
        · show -30 ≤ zupr S.2.2.1.2.1 S.2.2.1.1 (zq4 x y u v) i j ∧ zupr S.2.2.1.2.1 S.2.2.1.1 (zq4 x y u v) i j ≤ 30
          have hi : i < S.2.2.1.1 + 1 := hi
          by_cases e : i = S.2.2.1.1
          · subst e; rw [zupr_eq]; exact zq4_r h0.1 h0.2 k0.1 k0.2 j
          · rw [zupr_ne e]; exact hP.2.1 i j (by omega) hj
        · have hp := hC.2.2.1
          refine ⟨_, ?_, hC.prs hR (M' := zwr (zwr (zw4 M (35 + 1 + S.2.2.1.1) 0 (iI x) (iI y) (iI u) (iI v)) 34 4 (iI ((S.2.2.1.1 + 1 : Nat) : Int))) 34 16 1) (fun c hc => (zwr_ne (by omega)).trans ((zwr_ne (by omega)).trans (zw4_ne (by omega)))) rfl zwr_eq ⟨?_, fun i j hi hj => ?_, ?_, fun i hi => ?_, ?_⟩, ((((((zagM.rf.wr (by omega)).wr (by omega)).wr (by omega)).wr (by omega)).wr (by decide)).wr (by decide))⟩
          · unfold FX7_pair
            rw [isWithin_30, Option.bind_some, zb_if, if_pos h, isWithin_30, Option.bind_some, zb_if, if_pos k, hp.1, if_pos (show iI (S.2.2.1.1 : Int) < (10 : Int32) from (iLt (b := 10) (by omega) (by omega)).mpr (by omega)), addPair_eq _ _ _ _ h8 hp.1]
            rfl
          · rw [zwr_nj (by decide), zwr_eq]
          · have hi : i < S.2.2.1.1 + 1 := hi
            refine (zwr_nc (by omega)).trans ((zwr_nc (by omega)).trans ?_)
            show _ = iI (zupr S.2.2.1.2.1 S.2.2.1.1 (zq4 x y u v) i j)
            by_cases e : i = S.2.2.1.1
            · subst e
              rw [zupr_eq, show 36 + S.2.2.1.1 = 35 + 1 + S.2.2.1.1 by omega, ← zw4_at (M := M) (q := 35 + 1 + S.2.2.1.1) (o := 0) hj, Nat.zero_add]
            · rw [zupr_ne e]
              exact (zw4_nc (by omega)).trans (hp.2.1 i j (by omega) hj)
          · exact (zwr_nj (by decide)).trans ((zwr_nj (by decide)).trans ((zw4_nc (by omega)).trans hp.2.2.1))
          · have hi : i < S.2.2.1.2.2.1 := hi
            exact ⟨(zwr_nc (by omega)).trans ((zwr_nc (by omega)).trans ((zw4_nc (by omega)).trans (hp.2.2.2.1 i hi).1)), (zwr_nc (by omega)).trans ((zwr_nc (by omega)).trans ((zw4_nc (by omega)).trans (hp.2.2.2.1 i hi).2))⟩
          · exact (zwr_nj (by decide)).trans ((zwr_nj (by decide)).trans ((zw4_nc (by omega)).trans hp.2.2.2.2))
        · have hp := hM.2.2.1
          refine ⟨_, ?_, hM.prs (M' := zwr (zw4 M 103 (4 * S.2.2.1.1) (iI x) (iI y) (iI u) (iI v)) 100 6 (iI ((S.2.2.1.1 + 1 : Nat) : Int))) (fun c h1 h2 => (zwr_ne h1).trans (zw4_ne (by omega))) rfl (fun j hj _ _ => (zwr_nj hj).trans (zw4_nc (by decide))) ⟨zwr_eq, fun i j hi hj => ?_, ?_, fun i hi => ?_, ?_⟩, ((((zagC.rf.wr (by omega)).wr (by omega)).wr (by omega)).wr (by omega)).wr (by decide)⟩
          · unfold FX8_pair
            rw [isNear_30, Option.bind_some, zb_if, if_pos h, isNear_30, Option.bind_some, zb_if, if_pos k, if_neg (show ¬ M.1 100 6 = (10 : Int32) from fun z => by rw [hp.1] at z; have := (iEq (b := 10) (by omega) (by omega)).mp z; omega)]
            exact addPairM_eq _ _ _ _ h8 hp.1
          · have hi : i < S.2.2.1.1 + 1 := hi
            refine (zwr_nc (by decide)).trans ?_
            show _ = iI (zupr S.2.2.1.2.1 S.2.2.1.1 (zq4 x y u v) i j)
            by_cases e : i = S.2.2.1.1
            · subst e
              rw [zupr_eq]
              exact zw4_at hj
            · rw [zupr_ne e]
              exact (zw4_nj (by omega)).trans (hp.2.1 i j (by omega) hj)
          · exact (zwr_nj (by decide)).trans ((zw4_nc (by decide)).trans hp.2.2.1)
          · exact ⟨(zwr_nc (by decide)).trans ((zw4_nc (by decide)).trans (hp.2.2.2.1 i hi).1), (zwr_nc (by decide)).trans ((zw4_nc (by decide)).trans (hp.2.2.2.1 i hi).2)⟩
          · exact (zwr_nj (by decide)).trans ((zw4_nc (by decide)).trans hp.2.2.2.2)
      · refine ⟨-3, S, hR, fun M hC => ⟨M, ?_, hC, zagM.rf⟩, fun M hM => ⟨M, ?_, hM, zagC.rf⟩⟩
        · unfold FX7_pair
          rw [isWithin_30, Option.bind_some, zb_if, if_pos h, isWithin_30, Option.bind_some, zb_if, if_pos k, hC.2.2.1.1, if_neg (show ¬ iI (S.2.2.1.1 : Int) < (10 : Int32) from fun z => by have := (iLt (b := 10) (by omega) (by omega)).mp z; omega)]
        · unfold FX8_pair
          rw [isNear_30, Option.bind_some, zb_if, if_pos h, isNear_30, Option.bind_some, zb_if, if_pos k, if_pos (show M.1 100 6 = (10 : Int32) by rw [hM.2.2.1.1]; exact (iEq (b := 10) (by omega) (by omega)).mpr (by omega))]
    · refine ⟨-1, S, hR, fun M hC => ⟨M, ?_, hC, zagM.rf⟩, fun M hM => ⟨M, ?_, hM, zagC.rf⟩⟩
      · unfold FX7_pair
        rw [isWithin_30, Option.bind_some, zb_if, if_pos h, isWithin_30, Option.bind_some, zb_if, if_neg k]
      · unfold FX8_pair
        rw [isNear_30, Option.bind_some, zb_if, if_pos h, isNear_30, Option.bind_some, zb_if, if_neg k]
  · refine ⟨-1, S, hR, fun M hC => ⟨M, ?_, hC, zagM.rf⟩, fun M hM => ⟨M, ?_, hM, zagC.rf⟩⟩
    · unfold FX7_pair
      rw [isWithin_30, Option.bind_some, zb_if, if_neg h]
    · unfold FX8_pair
      rw [isNear_30, Option.bind_some, zb_if, if_neg h]
