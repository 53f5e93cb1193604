/-! ===== spot, pair ===== -/
def zup (f : Nat → Int) (n : Nat) (v : Int) : Nat → Int := fun i => if i = n then v else f i
theorem zup_eq {f : Nat → Int} {n : Nat} {v : Int} : zup f n v n = v := if_pos rfl
theorem zup_ne {f : Nat → Int} {n i : Nat} {v : Int} (h : i ≠ n) : zup f n v i = f i := if_neg h
theorem len2 : ∀ q, q < 119 → 47 ≤ q ∧ q ≤ 54 → zlenI q = 2 := by decide +kernel
theorem len4 : ∀ q, q < 119 → 36 ≤ q ∧ q ≤ 45 → zlenI q = 4 := by decide +kernel
theorem addSpot_eq {M : zMem} {n : Nat} (x y : Int32) (hn : n < 8) (hs : M.1 34 5 = iI n) : FX6_addSpot x y M = some (iI ((n + 1 : Nat) : Int), zwr (zwr (zwr (zwr M (46 + 1 + n) 0 x) (46 + 1 + n) 1 y) 34 5 (iI ((n + 1 : Nat) : Int))) 34 16 1) := by
  unfold FX6_addSpot
  simp only [zlet]
  rw [show zcl (0 : Int32) = 0 from rfl, show zcl (1 : Int32) = 1 from rfl, hs, zrow_I 46 n (by omega), len2 (46 + 1 + n) (by omega) (by omega), zgI (by omega) (by omega) (by omega), zgT (by rfl)]
  rw [show (zwr M (46 + 1 + n) 0 x).1 34 5 = iI n from (zwr_nc (by omega)).trans hs, zrow_I 46 n (by omega), len2 (46 + 1 + n) (by omega) (by omega), zgI (by omega) (by omega) (by omega), zgT (by rfl)]
  rw [show (zwr (zwr M (46 + 1 + n) 0 x) (46 + 1 + n) 1 y).1 34 5 = iI n from (zwr_nc (by omega)).trans ((zwr_nc (by omega)).trans hs), iA1, zwr_nj (by decide), zwr_eq]
theorem spot_case (x0 x1 : Int32) : zCase (FX7_spot x0 x1) (FX8_spot x0 x1) := by
  refine zCase.of (fun S hR => ?_)
  obtain ⟨x, hx1, hx2, rfl⟩ := iOf x0
  obtain ⟨y, hy1, hy2, rfl⟩ := iOf x1
  have hP := hR.2.2.1
  have hn := hP.2.2.1
  by_cases h : pIn 30 (iI x) (iI y)
  · have h0 := (pIn_I ⟨hx1, hx2⟩ ⟨hy1, hy2⟩).mp h
    by_cases h8 : S.2.2.1.2.2.1 < 8
    · refine ⟨iI ((S.2.2.1.2.2.1 + 1 : Nat) : Int), (S.1, S.2.1, (S.2.2.1.1, S.2.2.1.2.1, S.2.2.1.2.2.1 + 1, zup S.2.2.1.2.2.2.1 S.2.2.1.2.2.1 x, zup S.2.2.1.2.2.2.2.1 S.2.2.1.2.2.1 y, S.2.2.1.2.2.2.2.2), S.2.2.2), ⟨hR.1, hR.2.1, ⟨hP.1, hP.2.1, h8, fun i hi => ?_, hP.2.2.2.2⟩, hR.2.2.2⟩, fun M hC => ?_, fun M hM => ?_⟩
      · show (-30 ≤ zup S.2.2.1.2.2.2.1 S.2.2.1.2.2.1 x i ∧ zup S.2.2.1.2.2.2.1 S.2.2.1.2.2.1 x i ≤ 30) ∧ (-30 ≤ zup S.2.2.1.2.2.2.2.1 S.2.2.1.2.2.1 y i ∧ zup S.2.2.1.2.2.2.2.1 S.2.2.1.2.2.1 y i ≤ 30)
        have hi : i < S.2.2.1.2.2.1 + 1 := hi
        by_cases e : i = S.2.2.1.2.2.1
        · subst e; rw [zup_eq, zup_eq]; exact h0
        · rw [zup_ne e, zup_ne e]; exact hP.2.2.2.1 i (by omega)
      · have hp := hC.2.2.1
        refine ⟨_, ?_, hC.prs hR (M' := zwr (zwr (zwr (zwr M (46 + 1 + S.2.2.1.2.2.1) 0 (iI x)) (46 + 1 + S.2.2.1.2.2.1) 1 (iI y)) 34 5 (iI ((S.2.2.1.2.2.1 + 1 : Nat) : Int))) 34 16 1) (fun c hc => (zwr_ne (by omega)).trans ((zwr_ne (by omega)).trans ((zwr_ne (by omega)).trans (zwr_ne (by omega))))) rfl zwr_eq ⟨?_, fun i j hi hj => ?_, ?_, fun i hi => ?_, ?_⟩, (((zagM.rf.wr (by omega)).wr (by omega)).wr (by decide)).wr (by decide)⟩
        · unfold FX7_spot
          rw [isWithin_30, Option.bind_some, zb_if, if_pos h, hp.2.2.1, if_pos (show iI (S.2.2.1.2.2.1 : Int) < (8 : Int32) from (iLt (b := 8) (by omega) (by omega)).mpr (by omega)), addSpot_eq _ _ h8 hp.2.2.1]
          rfl
        · rw [zwr_nj (by decide), zwr_nj (by decide), zwr_nc (by omega), zwr_nc (by omega)]; exact hp.1
        · have hi : i < S.2.2.1.1 := hi
          have := hP.1
          rw [zwr_nc (by omega), zwr_nc (by omega), zwr_nc (by omega), zwr_nc (by omega)]; exact hp.2.1 i j hi hj
        · rw [zwr_nj (by decide), zwr_eq]
        · have hi : i < S.2.2.1.2.2.1 + 1 := hi
          show _ = iI (zup S.2.2.1.2.2.2.1 S.2.2.1.2.2.1 x i) ∧ _ = iI (zup S.2.2.1.2.2.2.2.1 S.2.2.1.2.2.1 y i)
          by_cases e : i = S.2.2.1.2.2.1
          · subst e
            rw [show 47 + S.2.2.1.2.2.1 = 46 + 1 + S.2.2.1.2.2.1 by omega, zup_eq, zup_eq]
            exact ⟨(zwr_nc (by omega)).trans ((zwr_nc (by omega)).trans ((zwr_nj (by decide)).trans zwr_eq)), (zwr_nc (by omega)).trans ((zwr_nc (by omega)).trans zwr_eq)⟩
          · rw [zup_ne e, zup_ne e]
            exact ⟨(zwr_nc (by omega)).trans ((zwr_nc (by omega)).trans ((zwr_nc (by omega)).trans ((zwr_nc (by omega)).trans (hp.2.2.2.1 i (by omega)).1))), (zwr_nc (by omega)).trans ((zwr_nc (by omega)).trans ((zwr_nc (by omega)).trans ((zwr_nc (by omega)).trans (hp.2.2.2.1 i (by omega)).2)))⟩
        · rw [zwr_nj (by decide), zwr_nj (by decide), zwr_nc (by omega), zwr_nc (by omega)]; exact hp.2.2.2.2
      · have hp := hM.2.2.1
        refine ⟨_, ?_, hM.prs (M' := zwr (zwr (zwr M 104 S.2.2.1.2.2.1 (iI x)) 105 S.2.2.1.2.2.1 (iI y)) 100 10 (iI ((S.2.2.1.2.2.1 + 1 : Nat) : Int))) (fun c h1 h2 => (zwr_ne h1).trans ((zwr_ne (by omega)).trans (zwr_ne (by omega)))) rfl (fun j _ _ hj => (zwr_nj hj).trans (((zwr_nc (by decide))).trans (zwr_nc (by decide)))) ⟨?_, fun i j hi hj => ?_, zwr_eq, fun i hi => ?_, ?_⟩, ((zagC.rf.wr (by omega)).wr (by omega)).wr (by decide)⟩
        · unfold FX8_spot
          simp only [zlet]
          rw [isNear_30, Option.bind_some, zb_if, if_pos h, hp.2.2.1, if_neg (show ¬ iI (S.2.2.1.2.2.1 : Int) = (8 : Int32) from fun z => by have := (iEq (b := 8) (by omega) (by omega)).mp z; omega), zgI (by omega) (by omega) (by omega), iC (by omega) (by omega), Int.toNat_natCast]
          rw [show (zwr M 104 S.2.2.1.2.2.1 (iI x)).1 100 10 = iI S.2.2.1.2.2.1 from (zwr_nc (by decide)).trans hp.2.2.1, zgI (by omega) (by omega) (by omega), iC (by omega) (by omega), Int.toNat_natCast]
          rw [show (zwr (zwr M 104 S.2.2.1.2.2.1 (iI x)) 105 S.2.2.1.2.2.1 (iI y)).1 100 10 = iI S.2.2.1.2.2.1 from (zwr_nc (by decide)).trans ((zwr_nc (by decide)).trans hp.2.2.1), iA1, zwr_eq]
        · rw [zwr_nj (by decide), zwr_nc (by decide), zwr_nc (by decide)]; exact hp.1
        · rw [zwr_nc (by decide), zwr_nc (by decide), zwr_nc (by decide)]; exact hp.2.1 i j hi hj
        · have hi : i < S.2.2.1.2.2.1 + 1 := hi
          show _ = iI (zup S.2.2.1.2.2.2.1 S.2.2.1.2.2.1 x i) ∧ _ = iI (zup S.2.2.1.2.2.2.2.1 S.2.2.1.2.2.1 y i)
          by_cases e : i = S.2.2.1.2.2.1
          · subst e
            rw [zup_eq, zup_eq]
            exact ⟨(zwr_nc (by decide)).trans ((zwr_nc (by decide)).trans zwr_eq), (zwr_nc (by decide)).trans zwr_eq⟩
          · rw [zup_ne e, zup_ne e]
            exact ⟨(zwr_nc (by decide)).trans ((zwr_nc (by decide)).trans ((zwr_nj e).trans (hp.2.2.2.1 i (by omega)).1)), (zwr_nc (by decide)).trans ((zwr_nj e).trans ((zwr_nc (by decide)).trans (hp.2.2.2.1 i (by omega)).2))⟩
        · rw [zwr_nj (by decide), zwr_nc (by decide), zwr_nc (by decide)]; exact hp.2.2.2.2
    · refine ⟨-3, S, hR, fun M hC => ⟨M, ?_, hC, zagM.rf⟩, fun M hM => ⟨M, ?_, hM, zagC.rf⟩⟩
      · unfold FX7_spot
        rw [isWithin_30, Option.bind_some, zb_if, if_pos h, hC.2.2.1.2.2.1, if_neg (show ¬ iI (S.2.2.1.2.2.1 : Int) < (8 : Int32) from fun z => by have := (iLt (b := 8) (by omega) (by omega)).mp z; omega)]
      · unfold FX8_spot
        rw [isNear_30, Option.bind_some, zb_if, if_pos h, hM.2.2.1.2.2.1, if_pos (show iI (S.2.2.1.2.2.1 : Int) = (8 : Int32) from (iEq (b := 8) (by omega) (by omega)).mpr (by omega))]
  · refine ⟨-1, S, hR, fun M hC => ⟨M, ?_, hC, zagM.rf⟩, fun M hM => ⟨M, ?_, hM, zagC.rf⟩⟩
    · unfold FX7_spot
      rw [isWithin_30, Option.bind_some, zb_if, if_neg h]
    · unfold FX8_spot
      rw [isNear_30, Option.bind_some, zb_if, if_neg h]
