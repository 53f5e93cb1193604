/-! ===== bright, pair ===== -/
theorem bright_case (x0 x1 x2 : Int32) : zCase (FX7_bright x0 x1 x2) (FX8_bright x0 x1 x2) := by
  refine zCase.of (fun S hR => ?_)
  obtain ⟨x, hx1, hx2, rfl⟩ := iOf x0
  obtain ⟨y, hy1, hy2, rfl⟩ := iOf x1
  obtain ⟨v, hv1, hv2, rfl⟩ := iOf x2
  by_cases h : pIn 24 (iI x) (iI y)
  · have h0 := (pIn_I ⟨hx1, hx2⟩ ⟨hy1, hy2⟩).mp h
    obtain ⟨q1, q2, q3⟩ := pxN_of h0.1 h0.2
    have t9 : (iI v = (-9 : Int32)) ↔ v = -9 := by
      rw [show (-9 : Int32) = iI (-9) from rfl]
      exact iEq ⟨hv1, hv2⟩ (by omega)
    by_cases h2 : v = -9 ∨ (0 ≤ v ∧ v ≤ 99)
    · have hB := hR.2.2.2
      refine ⟨iI (S.2.2.2.2.1 (pxN x y)), (S.1, S.2.1, S.2.2.1, (S.2.2.2.1, zup S.2.2.2.2.1 (pxN x y) v, S.2.2.2.2.2)), ⟨hR.1, hR.2.1, hR.2.2.1, ⟨hB.1, fun i hi => ?_⟩⟩, fun M hC => ?_, fun M hM => ?_⟩
      · show zup S.2.2.2.2.1 (pxN x y) v i = -9 ∨ (0 ≤ zup S.2.2.2.2.1 (pxN x y) v i ∧ zup S.2.2.2.2.1 (pxN x y) v i ≤ 99)
        by_cases e : i = pxN x y
        · subst e; rw [zup_eq]; exact h2
        · rw [zup_ne e]; exact hB.2 i hi
      · have hp := hC.2.2.2.1
        refine ⟨zwr M 97 (pxN x y) (iI v), ?_, hC.bri hR (fun c h1 h2 => zwr_ne h2) ⟨(zwr_nc (by decide)).trans hp.1, fun i hi => ?_, hp.2.2⟩, zagM.rf.wr (by decide)⟩
        · unfold FX7_bright
          rw [isWithin_24, Option.bind_some, zb_if, if_pos h]
          refine zj_c (V := fun _ => some (iI (S.2.2.2.2.1 (pxN x y)), zwr M 97 (pxN x y) (iI v))) (fun _ => ?_) ?_
          · simp only [zlet]
            rw [pixelAt_eq, Option.bind_some, pxN_I h0.1 h0.2, zgI (by omega) (by omega) (by omega), zgI (by omega) (by omega) (by omega), zrI _ _ (by omega) (by omega), iC (by omega) (by omega), Int.toNat_natCast, hp.2.1 _ q1]
          · by_cases e : v = -9
            · rw [if_pos (t9.mpr e)]
            · rw [if_neg (fun z => e (t9.mp z)), within_0_99, Option.bind_some, zb_if, if_pos (show 0 ≤ (iI v).toInt ∧ (iI v).toInt ≤ 99 by rw [iT hv1 hv2]; omega)]
        · show (zwr M 97 (pxN x y) (iI v)).1 97 i = iI (zup S.2.2.2.2.1 (pxN x y) v i)
          by_cases e : i = pxN x y
          · subst e; rw [zup_eq, zwr_eq]
          · rw [zup_ne e, zwr_nj e]; exact hp.2.1 i hi
      · have hp := hM.2.2.2
        refine ⟨zwr M 106 (pxN x y) (iI v), ?_, hM.bri (fun c h1 h2 => zwr_ne h2) (fun j _ => zwr_nc (by decide)) ⟨(zwr_nc (by decide)).trans hp.1, fun i hi => ?_, hp.2.2⟩, zagC.rf.wr (by decide)⟩
        · unfold FX8_bright
          rw [isPixel_eq, Option.bind_some, zb_if, if_pos h]
          refine zj_c (V := fun _ => some (iI (S.2.2.2.2.1 (pxN x y)), zwr M 106 (pxN x y) (iI v))) (fun _ => ?_) ?_
          · simp only [zlet]
            rw [pixel_eq, Option.bind_some, pxN_I h0.1 h0.2, zgI (by omega) (by omega) (by omega), zrI _ _ (by omega) (by omega), Option.bind_some, zgI (by omega) (by omega) (by omega), iC (by omega) (by omega), Int.toNat_natCast, hp.2.1 _ q1]
          · by_cases e : v = -9
            · rw [if_pos (t9.mpr e)]
            · rw [if_neg (fun z => e (t9.mp z)), in_0_99, Option.bind_some, zb_if, if_pos (show 0 ≤ (iI v).toInt ∧ (iI v).toInt ≤ 99 by rw [iT hv1 hv2]; omega)]
        · show (zwr M 106 (pxN x y) (iI v)).1 106 i = iI (zup S.2.2.2.2.1 (pxN x y) v i)
          by_cases e : i = pxN x y
          · subst e; rw [zup_eq, zwr_eq]
          · rw [zup_ne e, zwr_nj e]; exact hp.2.1 i hi
    · have n9 : ¬ v = -9 := fun z => h2 (Or.inl z)
      have n99 : ¬ (0 ≤ (iI v).toInt ∧ (iI v).toInt ≤ 99) := by rw [iT hv1 hv2]; exact fun z => h2 (Or.inr z)
      refine ⟨-2, S, hR, fun M hC => ⟨M, ?_, hC, zagM.rf⟩, fun M hM => ⟨M, ?_, hM, zagC.rf⟩⟩
      · unfold FX7_bright
        rw [isWithin_24, Option.bind_some, zb_if, if_pos h]
        simp only [zj]
        rw [if_neg (fun z => n9 (t9.mp z)), within_0_99, Option.bind_some, zb_if, if_neg n99]
      · unfold FX8_bright
        rw [isPixel_eq, Option.bind_some, zb_if, if_pos h]
        simp only [zj]
        rw [if_neg (fun z => n9 (t9.mp z)), in_0_99, Option.bind_some, zb_if, if_neg n99]
  · refine ⟨-2, S, hR, fun M hC => ⟨M, ?_, hC, zagM.rf⟩, fun M hM => ⟨M, ?_, hM, zagC.rf⟩⟩
    · unfold FX7_bright
      rw [isWithin_24, Option.bind_some, zb_if, if_neg h]
    · unfold FX8_bright
      rw [isPixel_eq, Option.bind_some, zb_if, if_neg h]
def zq4 (a b c d : Int) (j : Nat) : Int := if j = 0 then a else if j = 1 then b else if j = 2 then c else d
theorem zq4_r {a b c d lo hi : Int} (ha : lo ≤ a ∧ a ≤ hi) (hb : lo ≤ b ∧ b ≤ hi) (hc : lo ≤ c ∧ c ≤ hi) (hd : lo ≤ d ∧ d ≤ hi) (j : Nat) : lo ≤ zq4 a b c d j ∧ zq4 a b c d j ≤ hi := by
  unfold zq4
  by_cases h0 : j = 0
  · rw [if_pos h0]; exact ha
  · rw [if_neg h0]
    by_cases h1 : j = 1
    · rw [if_pos h1]; exact hb
    · rw [if_neg h1]
      by_cases h2 : j = 2
      · rw [if_pos h2]; exact hc
      · rw [if_neg h2]; exact hd
def zupr (f : Nat → Nat → Int) (n : Nat) (g : Nat → Int) : Nat → Nat → Int := fun i j => if i = n then g j else f i j
theorem zupr_eq {f : Nat → Nat → Int} {n : Nat} {g : Nat → Int} {j : Nat} : zupr f n g n j = g j := if_pos rfl
theorem zupr_ne {f : Nat → Nat → Int} {n i : Nat} {g : Nat → Int} {j : Nat} (h : i ≠ n) : zupr f n g i j = f i j := if_neg h
/-- four slots from o on -/
def zw4 (M : zMem) (q o : Nat) (a b c d : Int32) : zMem := zwr (zwr (zwr (zwr M q o a) q (o + 1) b) q (o + 2) c) q (o + 3) d
theorem zw4_nc {M : zMem} {q o c j : Nat} {a b c' d : Int32} (h : c ≠ q) : (zw4 M q o a b c' d).1 c j = M.1 c j := (zwr_nc h).trans ((zwr_nc h).trans ((zwr_nc h).trans (zwr_nc h)))
theorem zw4_ne {M : zMem} {q o c : Nat} {a b c' d : Int32} (h : c ≠ q) : (zw4 M q o a b c' d).1 c = M.1 c := funext fun _ => zw4_nc h
theorem zw4_nj {M : zMem} {q o c j : Nat} {a b c' d : Int32} (h : ¬ (o ≤ j ∧ j < o + 4)) : (zw4 M q o a b c' d).1 c j = M.1 c j := (zwr_nj (by omega)).trans ((zwr_nj (by omega)).trans ((zwr_nj (by omega)).trans (zwr_nj (by omega))))
theorem zw4_at {M : zMem} {q o j : Nat} {a b c d : Int} (h : j < 4) : (zw4 M q o (iI a) (iI b) (iI c) (iI d)).1 q (o + j) = iI (zq4 a b c d j) := by
  have k : j = 0 ∨ j = 1 ∨ j = 2 ∨ j = 3 := by omega
  rcases k with rfl | rfl | rfl | rfl
  · exact (zwr_nj (by omega)).trans ((zwr_nj (by omega)).trans ((zwr_nj (by omega)).trans zwr_eq))
  · exact (zwr_nj (by omega)).trans ((zwr_nj (by omega)).trans zwr_eq)
  · exact (zwr_nj (by omega)).trans zwr_eq
  · exact zwr_eq
theorem addPair_eq {M : zMem} {n : Nat} (a b c d : Int32) (hn : n < 10) (hs : M.1 34 4 = iI n) : FX6_addPair a b c d M = some (iI ((n + 1 : Nat) : Int), zwr (zwr (zw4 M (35 + 1 + n) 0 a b c d) 34 4 (iI ((n + 1 : Nat) : Int))) 34 16 1) := by
  unfold FX6_addPair
  simp only [zlet]
  rw [show zcl (0 : Int32) = 0 from rfl, show zcl (1 : Int32) = 1 from rfl, show zcl (2 : Int32) = 2 from rfl, show zcl (3 : Int32) = 3 from rfl, hs, zrow_I 35 n (by omega), len4 (35 + 1 + n) (by omega) (by omega), zgI (by omega) (by omega) (by omega), zgT (by rfl), zgT (by rfl), zgT (by rfl), zgT (by rfl)]
  rw [show (zwr (zwr (zwr (zwr M (35 + 1 + n) 0 a) (35 + 1 + n) 1 b) (35 + 1 + n) 2 c) (35 + 1 + n) 3 d).1 34 4 = iI n from (zw4_nc (M := M) (o := 0) (by omega)).trans hs, iA1, zwr_nj (by decide), zwr_eq]
  rfl
theorem addPairM_eq {M : zMem} {n : Nat} (a b c d : Int32) (hn : n < 10) (hs : M.1 100 6 = iI n) : (zguard (zin ((4 : Int32) * (M.1 100 6)) 40) (zlet (zwr M 103 (zcl ((4 : Int32) * (M.1 100 6))) a) fun M7 => zguard (zin (((4 : Int32) * (M7.1 100 6)) + (1 : Int32)) 40) (zlet (zwr M7 103 (zcl (((4 : Int32) * (M7.1 100 6)) + (1 : Int32))) b) fun M8 => zguard (zin (((4 : Int32) * (M8.1 100 6)) + (2 : Int32)) 40) (zlet (zwr M8 103 (zcl (((4 : Int32) * (M8.1 100 6)) + (2 : Int32))) c) fun M9 => zguard (zin (((4 : Int32) * (M9.1 100 6)) + (3 : Int32)) 40) (zlet (zwr M9 103 (zcl (((4 : Int32) * (M9.1 100 6)) + (3 : Int32))) d) fun M10 => zlet (zwr M10 100 6 ((M10.1 100 6) + (1 : Int32))) fun M11 => some ((M11.1 100 6), M11)))))) = some (iI ((n + 1 : Nat) : Int), zwr (zw4 M 103 (4 * n) a b c d) 100 6 (iI ((n + 1 : Nat) : Int))) := by
  have g0 : ∀ (M : zMem) (i : Nat) (v : Int32), (zwr M 103 i v).1 100 6 = M.1 100 6 := fun M i v => zwr_nc (by decide)
  have c0 : zcl (iI (4 * (n : Int))) = 4 * n := (iC (by omega) (by omega)).trans (by omega)
  have c1 : zcl (iI (4 * (n : Int) + 1)) = 4 * n + 1 := (iC (by omega) (by omega)).trans (by omega)
  have c2 : zcl (iI (4 * (n : Int) + 2)) = 4 * n + 2 := (iC (by omega) (by omega)).trans (by omega)
  have c3 : zcl (iI (4 * (n : Int) + 3)) = 4 * n + 3 := (iC (by omega) (by omega)).trans (by omega)
  simp only [zlet, g0]
  rw [hs, show (4 : Int32) = iI 4 from rfl, iM, show (1 : Int32) = iI 1 from rfl, show (2 : Int32) = iI 2 from rfl, show (3 : Int32) = iI 3 from rfl, iA, iA, iA, c0, c1, c2, c3, zgI (by omega) (by omega) (by omega), zgI (by omega) (by omega) (by omega), zgI (by omega) (by omega) (by omega), zgI (by omega) (by omega) (by omega), zwr_eq, show iI (n : Int) + iI 1 = iI ((n + 1 : Nat) : Int) from iA1 n]
  rfl
