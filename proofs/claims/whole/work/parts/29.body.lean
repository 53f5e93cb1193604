/-! ===== body ===== -/
def zq6 (a b c d e f : Int) (j : Nat) : Int := if j = 0 then a else if j = 1 then b else if j = 2 then c else if j = 3 then d else if j = 4 then e else f
def zw6 (M : zMem) (q o : Nat) (a b c d e f : Int32) : zMem := zwr (zwr (zw4 M q o a b c d) q (o + 4) e) q (o + 5) f
theorem zw6_nc {M : zMem} {q o c j : Nat} {a b c' d e f : Int32} (h : c ≠ q) : (zw6 M q o a b c' d e f).1 c j = M.1 c j := (zwr_nc h).trans ((zwr_nc h).trans (zw4_nc h))
theorem zw6_ne {M : zMem} {q o c : Nat} {a b c' d e f : Int32} (h : c ≠ q) : (zw6 M q o a b c' d e f).1 c = M.1 c := funext fun _ => zw6_nc h
theorem zw6_nj {M : zMem} {q o c j : Nat} {a b c' d e f : Int32} (h : ¬ (o ≤ j ∧ j < o + 6)) : (zw6 M q o a b c' d e f).1 c j = M.1 c j := (zwr_nj (by omega)).trans ((zwr_nj (by omega)).trans (zw4_nj (by omega)))
theorem zw6_at {M : zMem} {q o j : Nat} {a b c d e f : Int} (h : j < 6) : (zw6 M q o (iI a) (iI b) (iI c) (iI d) (iI e) (iI f)).1 q (o + j) = iI (zq6 a b c d e f j) := by
  have k : j = 0 ∨ j = 1 ∨ j = 2 ∨ j = 3 ∨ j = 4 ∨ j = 5 := by omega
  rcases k with rfl | rfl | rfl | rfl | rfl | rfl
  · exact (zwr_nj (by omega)).trans ((zwr_nj (by omega)).trans (zw4_at (j := 0) (by omega)))
  · exact (zwr_nj (by omega)).trans ((zwr_nj (by omega)).trans (zw4_at (j := 1) (by omega)))
  · exact (zwr_nj (by omega)).trans ((zwr_nj (by omega)).trans (zw4_at (j := 2) (by omega)))
  · exact (zwr_nj (by omega)).trans ((zwr_nj (by omega)).trans (zw4_at (j := 3) (by omega)))
  · exact (zwr_nj (by omega)).trans zwr_eq
  · exact zwr_eq
theorem add_eq {L : zL} {M : zMem} (h : zCL L M) (hr : zRL L) (h8 : L.1 < 8) (a b c d : Int32) : FX2_add a b c d M = some (iI (L.1 : Int), zwr (zw6 M (zlb M + 1 + L.1) 0 a b c d (iI 0) (iI 90)) 1 1 (iI ((L.1 + 1 : Nat) : Int))) := by
  have hz := zlb_or h
  have hl : zlenI (zlb M + 1 + L.1) = 6 := len6 _ (by omega) (by omega)
  unfold FX2_add
  simp only [zlet]
  rw [zlb_def, h.2.1, len8 h, zrow_I (zlb M) L.1 (by omega), hl, show zcl (0 : Int32) = 0 from rfl, show zcl (1 : Int32) = 1 from rfl, show zcl (2 : Int32) = 2 from rfl, show zcl (3 : Int32) = 3 from rfl, show zcl (4 : Int32) = 4 from rfl, show zcl (5 : Int32) = 5 from rfl, zgI (by omega) (by omega) (by omega), zgT (by rfl), zgT (by rfl), zgT (by rfl), zgT (by rfl), zgT (by rfl), zgT (by rfl), zgT (by rfl), show zMO 5 = iI 90 from rfl]
  rw [show (zwr (zwr (zwr (zwr (zwr (zwr M (zlb M + 1 + L.1) 0 a) (zlb M + 1 + L.1) 1 b) (zlb M + 1 + L.1) 2 c) (zlb M + 1 + L.1) 3 d) (zlb M + 1 + L.1) 4 0) (zlb M + 1 + L.1) 5 (iI 90)).1 1 1 = iI L.1 from (zw6_nc (M := M) (o := 0) (by omega)).trans h.2.1, iA1]
  rfl
theorem body_case (x0 x1 x2 x3 : Int32) : zCase (FX7_body x0 x1 x2 x3) (FX8_body x0 x1 x2 x3) := by
  refine zCase.of (fun S hR => ?_)
  obtain ⟨kd, hk1, hk2, rfl⟩ := iOf x0
  obtain ⟨x, hx1, hx2, rfl⟩ := iOf x1
  obtain ⟨y, hy1, hy2, rfl⟩ := iOf x2
  obtain ⟨w, hw1, hw2, rfl⟩ := iOf x3
  have hn := hR.1.1
  by_cases h1 : 0 ≤ (iI kd).toInt ∧ (iI kd).toInt ≤ 2
  · by_cases h2 : -40 ≤ (iI x).toInt ∧ (iI x).toInt ≤ 40
    · by_cases h3 : -40 ≤ (iI y).toInt ∧ (iI y).toInt ≤ 40
      · by_cases h4 : 0 ≤ (iI w).toInt ∧ (iI w).toInt ≤ 400
        · by_cases h8 : S.1.1 < 8
          · have r1 := h1
            have r2 := h2
            have r3 := h3
            have r4 := h4
            rw [iT hk1 hk2] at r1
            rw [iT hx1 hx2] at r2
            rw [iT hy1 hy2] at r3
            rw [iT hw1 hw2] at r4
            refine ⟨iI (S.1.1 : Int), ((S.1.1 + 1, zupr S.1.2.1 S.1.1 (zq6 kd x y w 0 90), S.1.2.2), S.2), ⟨⟨h8, fun b f hb hf => ?_, hR.1.2.2⟩, hR.2⟩, fun M hC => ?_, fun M hM => ?_⟩
            · show fLo f ≤ zupr S.1.2.1 S.1.1 (zq6 kd x y w 0 90) b f ∧ zupr S.1.2.1 S.1.1 (zq6 kd x y w 0 90) b f ≤ fHi f
              have hb : b < S.1.1 + 1 := hb
              by_cases e : b = S.1.1
              · subst e
                rw [zupr_eq]
                have k : f = 0 ∨ f = 1 ∨ f = 2 ∨ f = 3 ∨ f = 4 ∨ f = 5 := by omega
                rcases k with rfl | rfl | rfl | rfl | rfl | rfl
                · exact r1
                · exact r2
                · exact r3
                · exact r4
                · exact (show (0 : Int) ≤ 0 ∧ (0 : Int) ≤ 900 by omega)
                · exact (show (0 : Int) ≤ 90 ∧ (90 : Int) ≤ 90 by omega)
              · rw [zupr_ne e]; exact hR.1.2.1 b f (by omega) hf
            · have hc := zLC_CL hC.1 hR.1
              have hz := zlb_or hc
              have hl : zlb (zwr (zw6 (zLC M) (zlb (zLC M) + 1 + S.1.1) 0 (iI kd) (iI x) (iI y) (iI w) (iI 0) (iI 90)) 1 1 (iI ((S.1.1 + 1 : Nat) : Int))) = zlb (zLC M) := by
                unfold zlb
                rw [zwr_nj (by decide)]
                exact congrArg zcl (zw6_nc (by unfold zlb at hz; omega))
              refine ⟨_, ?_, hC.lc hR (M' := zwr (zw6 (zLC M) (zlb (zLC M) + 1 + S.1.1) 0 (iI kd) (iI x) (iI y) (iI w) (iI 0) (iI 90)) 1 1 (iI ((S.1.1 + 1 : Nat) : Int))) (fun c h1 h2 => (zwr_ne (by omega)).trans (zw6_ne (by omega))) rfl ⟨?_, zwr_eq, ?_, ?_, fun b f hb hf => ?_⟩, ((((((((zLC_ag).wr (by omega)).wr (by omega)).wr (by omega)).wr (by omega)).wr (by omega)).wr (by omega)).wr (by omega))⟩
              · unfold FX7_body
                rw [isFeat0, Option.bind_some, zb_if, if_pos h1, isFeat1, Option.bind_some, zb_if, if_pos h2, isFeat2, Option.bind_some, zb_if, if_pos h3, isFeat3, Option.bind_some, zb_if, if_pos h4, hC.1.2.1, if_pos (show iI (S.1.1 : Int) < (8 : Int32) from (iLt (b := 8) (by omega) (by omega)).mpr (by omega)), zLC_eq, Option.bind_some, add_eq hc hR.1 h8]
                rfl
              · exact (or_congr (and_congr (by rw [zwr_nj (by decide), zw6_nc (by omega)]) (by rw [zwr_nc (by decide), zw6_nc (by omega)])) (and_congr (by rw [zwr_nj (by decide), zw6_nc (by omega)]) (by rw [zwr_nc (by decide), zw6_nc (by omega)]))).mpr hc.1
              · rw [zwr_nj (by decide), zw6_nc (by omega)]; exact hc.2.2.1
              · rw [zwr_nj (by decide), zw6_nc (by omega)]; exact hc.2.2.2.1
              · have hb : b < S.1.1 + 1 := hb
                rw [hl]
                refine (zwr_nc (by omega)).trans ?_
                show _ = iI (zupr S.1.2.1 S.1.1 (zq6 kd x y w 0 90) b f)
                by_cases e : b = S.1.1
                · subst e
                  rw [zupr_eq, ← zw6_at (M := zLC M) (q := zlb (zLC M) + 1 + S.1.1) (o := 0) hf, Nat.zero_add]
                · rw [zupr_ne e]
                  exact (zw6_nc (by omega)).trans (hc.2.2.2.2 b f (by omega) hf)
            · have hp := hM.1
              refine ⟨_, ?_, hM.len (M' := zwr (zw6 M 101 (6 * S.1.1) (iI kd) (iI x) (iI y) (iI w) (iI 0) (iI 90)) 100 1 (iI ((S.1.1 + 1 : Nat) : Int))) (fun c h1 h2 => (zwr_ne h1).trans (zw6_ne h2)) rfl (fun j h1 _ _ => (zwr_nj h1).trans (zw6_nc (by decide))) ⟨zwr_eq, ?_, ?_, fun b f hb hf => ?_⟩, ((((((zagC.rf.wr (by omega)).wr (by omega)).wr (by omega)).wr (by omega)).wr (by omega)).wr (by omega)).wr (by decide)⟩
              · have c0 : zcl (iI (6 * (S.1.1 : Int))) = 6 * S.1.1 := (iC (by omega) (by omega)).trans (by omega)
                have c1 : zcl (iI (6 * (S.1.1 : Int) + 1)) = 6 * S.1.1 + 1 := (iC (by omega) (by omega)).trans (by omega)
                have c2 : zcl (iI (6 * (S.1.1 : Int) + 2)) = 6 * S.1.1 + 2 := (iC (by omega) (by omega)).trans (by omega)
                have c3 : zcl (iI (6 * (S.1.1 : Int) + 3)) = 6 * S.1.1 + 3 := (iC (by omega) (by omega)).trans (by omega)
                have c4 : zcl (iI (6 * (S.1.1 : Int) + 4)) = 6 * S.1.1 + 4 := (iC (by omega) (by omega)).trans (by omega)
                have c5 : zcl (iI (6 * (S.1.1 : Int) + 5)) = 6 * S.1.1 + 5 := (iC (by omega) (by omega)).trans (by omega)
                have g0 : ∀ (M : zMem) (i : Nat) (v : Int32), (zwr M 101 i v).1 100 1 = M.1 100 1 := fun M i v => zwr_nc (by decide)
                unfold FX8_body
                rw [in_0_2, Option.bind_some, zb_if, if_pos h1, isNear_40, Option.bind_some, zb_if, if_pos (show pIn 40 (iI x) (iI y) from ⟨h2, h3⟩), in_0_400, Option.bind_some, zb_if, if_pos h4]
                simp only [zlet, g0]
                rw [hp.1, if_neg (show ¬ iI (S.1.1 : Int) = (8 : Int32) from fun z => by have := (iEq (b := 8) (by omega) (by omega)).mp z; omega), show (6 : Int32) = iI 6 from rfl, iM, show (1 : Int32) = iI 1 from rfl, show (2 : Int32) = iI 2 from rfl, show (3 : Int32) = iI 3 from rfl, show (4 : Int32) = iI 4 from rfl, show (5 : Int32) = iI 5 from rfl, iA, iA, iA, iA, iA, c0, c1, c2, c3, c4, c5, zgI (by omega) (by omega) (by omega), zgI (by omega) (by omega) (by omega), zgI (by omega) (by omega) (by omega), zgI (by omega) (by omega) (by omega), zgI (by omega) (by omega) (by omega), zgI (by omega) (by omega) (by omega), zwr_eq, show iI (S.1.1 : Int) + iI 1 = iI ((S.1.1 + 1 : Nat) : Int) from iA1 _, iS, show ((S.1.1 + 1 : Nat) : Int) - 1 = (S.1.1 : Int) by omega]
                rfl
              · rw [zwr_nj (by decide), zw6_nc (by decide)]; exact hp.2.1
              · rw [zwr_nj (by decide), zw6_nc (by decide)]; exact hp.2.2.1
              · have hb : b < S.1.1 + 1 := hb
                refine (zwr_nc (by decide)).trans ?_
                show _ = iI (zupr S.1.2.1 S.1.1 (zq6 kd x y w 0 90) b f)
                by_cases e : b = S.1.1
                · subst e
                  rw [zupr_eq]
                  exact zw6_at hf
                · rw [zupr_ne e]
                  exact (zw6_nj (by omega)).trans (hp.2.2.2 b f (by omega) hf)
          · refine ⟨-3, S, hR, fun M hC => ⟨M, ?_, hC, zagM.rf⟩, fun M hM => ⟨M, ?_, hM, zagC.rf⟩⟩
            · unfold FX7_body
              rw [isFeat0, Option.bind_some, zb_if, if_pos h1, isFeat1, Option.bind_some, zb_if, if_pos h2, isFeat2, Option.bind_some, zb_if, if_pos h3, isFeat3, Option.bind_some, zb_if, if_pos h4, hC.1.2.1, if_neg (show ¬ iI (S.1.1 : Int) < (8 : Int32) from fun z => by have := (iLt (b := 8) (by omega) (by omega)).mp z; omega)]
            · unfold FX8_body
              rw [in_0_2, Option.bind_some, zb_if, if_pos h1, isNear_40, Option.bind_some, zb_if, if_pos (show pIn 40 (iI x) (iI y) from ⟨h2, h3⟩), in_0_400, Option.bind_some, zb_if, if_pos h4, hM.1.1, if_pos (show iI (S.1.1 : Int) = (8 : Int32) from (iEq (b := 8) (by omega) (by omega)).mpr (by omega))]
        · refine ⟨-1, S, hR, fun M hC => ⟨M, ?_, hC, zagM.rf⟩, fun M hM => ⟨M, ?_, hM, zagC.rf⟩⟩
          · unfold FX7_body
            rw [isFeat0, Option.bind_some, zb_if, if_pos h1, isFeat1, Option.bind_some, zb_if, if_pos h2, isFeat2, Option.bind_some, zb_if, if_pos h3, isFeat3, Option.bind_some, zb_if, if_neg h4]
          · unfold FX8_body
            rw [in_0_2, Option.bind_some, zb_if, if_pos h1, isNear_40, Option.bind_some, zb_if, if_pos (show pIn 40 (iI x) (iI y) from ⟨h2, h3⟩), in_0_400, Option.bind_some, zb_if, if_neg h4]
      · refine ⟨-1, S, hR, fun M hC => ⟨M, ?_, hC, zagM.rf⟩, fun M hM => ⟨M, ?_, hM, zagC.rf⟩⟩
        · unfold FX7_body
          rw [isFeat0, Option.bind_some, zb_if, if_pos h1, isFeat1, Option.bind_some, zb_if, if_pos h2, isFeat2, Option.bind_some, zb_if, if_neg h3]
        · unfold FX8_body
          rw [in_0_2, Option.bind_some, zb_if, if_pos h1, isNear_40, Option.bind_some, zb_if, if_neg (show ¬ pIn 40 (iI x) (iI y) from fun z => h3 z.2)]
    · refine ⟨-1, S, hR, fun M hC => ⟨M, ?_, hC, zagM.rf⟩, fun M hM => ⟨M, ?_, hM, zagC.rf⟩⟩
      · unfold FX7_body
        rw [isFeat0, Option.bind_some, zb_if, if_pos h1, isFeat1, Option.bind_some, zb_if, if_neg h2]
      · unfold FX8_body
        rw [in_0_2, Option.bind_some, zb_if, if_pos h1, isNear_40, Option.bind_some, zb_if, if_neg (show ¬ pIn 40 (iI x) (iI y) from fun z => h2 z.1)]
  · refine ⟨-1, S, hR, fun M hC => ⟨M, ?_, hC, zagM.rf⟩, fun M hM => ⟨M, ?_, hM, zagC.rf⟩⟩
    · unfold FX7_body
      rw [isFeat0, Option.bind_some, zb_if, if_neg h1]
    · unfold FX8_body
      rw [in_0_2, Option.bind_some, zb_if, if_neg h1]
