/-! ===== read: the class's numbers ===== -/
theorem bI_t : ¬ bI true = 0 := by decide
theorem bI_f : bI false = 0 := rfl
def k7P (T : zTx) (most : Int) (neg : Prop) [Decidable neg] (a : Nat) : rP × Int := if a < T.1 ∧ 49 ≤ T.2 a ∧ T.2 a ≤ 57 then ((nmD T most (T.1 + 1) a 0).1, if neg then -(nmD T most (T.1 + 1) a 0).2 else (nmD T most (T.1 + 1) a 0).2) else ((false, a), 0)
theorem k7C {T : zTx} (hT : zRT T) {q f : Nat} {most : Int} (hq : q ≠ 23 ∧ q ≠ 24) (hl : zlenI q = 6) (hf : f < 6) (hm : 0 ≤ most ∧ most ≤ 900) (neg : Prop) [Decidable neg] {x3 mo : Int32} (hx : x3 = if neg then 1 else 0) (hmo : mo = iI most) {a : Nat} {M : zMem} (ha : a ≤ T.1) (hc : cTa T a M) : ∃ M', (if (M.1 23 3) < (M.1 23 2) then zguard (zin (M.1 23 3) 200) ((FX7_within (zrd M 24 (M.1 23 3)) 49 57).bind fun b8 => if b8 = 0 then some ((0 : Int32), M) else zguard (zin (iI f) 6) (zloop (FX5_takeNumber_L97 q (iI f) x3 mo) zFuel ((0 : Int32), M))) else some ((0 : Int32), M)) = some (bI (k7P T most neg a).1.1, M') ∧ cTa T (k7P T most neg a).1.2 M' ∧ cFq q M M' ∧ ((k7P T most neg a).1.1 = true → M'.1 q f = iI (k7P T most neg a).2) ∧ ∀ j, j ≠ f → M'.1 q j = M.1 q j := by
  have h200 := hT.1
  subst hx hmo
  unfold k7P
  rw [hc.1, hc.2.1]
  by_cases c1 : a < T.1
  · have hb := hT.2 a c1
    rw [if_pos ((iLt (by omega) (by omega)).mpr (by omega)), zgI (by omega) (by omega) (by omega), zrI _ _ (by omega) (by omega), Int.toNat_natCast, hc.2.2 a c1, within_eq, Option.bind_some, zb_if, show (49 : Int32).toInt = 49 from rfl, show (57 : Int32).toInt = 57 from rfl, iT (by omega) (by omega)]
    by_cases c2 : 49 ≤ T.2 a ∧ T.2 a ≤ 57
    · rw [if_pos c2, if_pos (show a < T.1 ∧ 49 ≤ T.2 a ∧ T.2 a ≤ 57 from ⟨c1, c2⟩), zgI (by omega) (by omega) (by omega)]
      exact digC hT hq hl hf hm neg (T.1 + 1) a zFuel 0 M ha (by omega) (zfu (by omega)) ⟨Int.le_refl _, hm.1⟩ hc
    · rw [if_neg c2, if_neg (show ¬ (a < T.1 ∧ 49 ≤ T.2 a ∧ T.2 a ≤ 57) from fun z => c2 z.2)]
      exact ⟨M, rfl, hc, cFq.rf, fun z => Bool.noConfusion (show false = true from z), fun _ _ => rfl⟩
  · rw [if_neg (fun z => c1 (by have := (iLt (by omega) (by omega)).mp z; omega)), if_neg (show ¬ (a < T.1 ∧ 49 ≤ T.2 a ∧ T.2 a ≤ 57) from fun z => c1 z.1)]
    exact ⟨M, rfl, hc, cFq.rf, fun z => Bool.noConfusion (show false = true from z), fun _ _ => rfl⟩
theorem sgC_fr {q a : Nat} {M M' : zMem} (hq : q ≠ 23) (h : M' = M ∨ M' = zwr M 23 3 (iI ((a + 1 : Nat) : Int))) : cFq q M M' ∧ ∀ j, M'.1 q j = M.1 q j := by
  rcases h with h | h
  · rw [h]; exact ⟨cFq.rf, fun _ => rfl⟩
  · rw [h]; exact ⟨cFq.rf.at, fun _ => zwr_nc hq⟩
/-- behind no minus -/
theorem posC {T : zTx} (hT : zRT T) {q f : Nat} {most : Int} (hq : q ≠ 23 ∧ q ≠ 24) (hl : zlenI q = 6) (hf : f < 6) (hm : 0 ≤ most ∧ most ≤ 900) {mo : Int32} (hmo : mo = iI most) {below : Bool} {a : Nat} {M : zMem} (ha : a ≤ T.1) (hc : cTa T a M) (hn : ¬ lsP T below a) : ∃ M', ((FX5_takeSign 48 M).bind fun b21 => if b21.1 = 0 then (if (b21.2.1 23 3) < (b21.2.1 23 2) then zguard (zin (b21.2.1 23 3) 200) ((FX7_within (zrd b21.2 24 (b21.2.1 23 3)) 49 57).bind fun b8 => if b8 = 0 then some ((0 : Int32), b21.2) else zguard (zin (iI f) 6) (zloop (FX5_takeNumber_L97 q (iI f) 0 mo) zFuel ((0 : Int32), b21.2))) else some ((0 : Int32), b21.2)) else zguard (zin (iI f) (zlenI q)) (zlet (zwr b21.2 q f 0) fun M22 => some ((1 : Int32), M22))) = some (bI (nmP T most below a).1.1, M') ∧ cTa T (nmP T most below a).1.2 M' ∧ cFq q M M' ∧ ((nmP T most below a).1.1 = true → M'.1 q f = iI (nmP T most below a).2) ∧ ∀ j, j ≠ f → M'.1 q j = M.1 q j := by
  obtain ⟨M1, a1, a2, a3⟩ := sgC hT hc ha (c := 48) (by decide)
  obtain ⟨a4, a5⟩ := sgC_fr (q := q) hq.1 a3
  have a1 : FX5_takeSign 48 M = _ := a1
  have hA : lsA T below a = a := if_neg hn
  rw [a1, Option.bind_some]
  dsimp only
  unfold nmP
  rw [hA]
  unfold sgS at a2 ⊢
  rw [if_pos (show (true, a).1 = true from rfl)] at a2 ⊢
  by_cases c : a < T.1 ∧ T.2 a = 48
  · rw [if_pos (show (true, a).2 < T.1 ∧ T.2 (true, a).2 = ((48 : Nat) : Int) from c)] at a2 ⊢
    rw [if_neg bI_t, if_pos (show ¬ lsP T below a ∧ a < T.1 ∧ T.2 a = 48 from ⟨hn, c⟩), hl, zgI (by omega) (by omega) (by omega), zlet_e]
    exact ⟨_, rfl, a2.wq hq, a4.wq hq.1, fun _ => zwr_eq, fun j hj => (zwr_nj hj).trans (a5 j)⟩
  · rw [if_neg (show ¬ ((true, a).2 < T.1 ∧ T.2 (true, a).2 = ((48 : Nat) : Int)) from c)] at a2 ⊢
    rw [if_pos bI_f, if_neg (show ¬ (¬ lsP T below a ∧ a < T.1 ∧ T.2 a = 48) from fun z => c z.2)]
    obtain ⟨M2, b1, b2, b3, b4, b5⟩ := k7C hT hq hl hf hm (lsP T below a) (x3 := 0) (by rw [if_neg hn]) hmo ha a2
    exact ⟨M2, b1, b2, a4.tr b3, b4, fun j hj => (b5 j hj).trans (a5 j)⟩
theorem nmC {T : zTx} (hT : zRT T) {q f : Nat} {most : Int} {below : Bool} (hq : q ≠ 23 ∧ q ≠ 24) (hl : zlenI q = 6) (hf : f < 6) (hm : 0 ≤ most ∧ most ≤ 900) (hlo : zLO f < 0 ↔ below = true) (hmo : zMO f = iI most) (hneg : below = true → -(zLO f) = iI most) {a : Nat} {M : zMem} (ha : a ≤ T.1) (hc : cTa T a M) : ∃ M', FX5_takeNumber q (iI f) M = some (bI (nmP T most below a).1.1, M') ∧ cTa T (nmP T most below a).1.2 M' ∧ cFq q M M' ∧ ((nmP T most below a).1.1 = true → M'.1 q f = iI (nmP T most below a).2) ∧ ∀ j, j ≠ f → M'.1 q j = M.1 q j := by
  have h200 := hT.1
  unfold FX5_takeNumber
  rw [zgI (by omega) (by omega) (by omega), iC (by omega) (by omega), Int.toNat_natCast]
  simp only [zj_e, if_true]
  by_cases hb : below = true
  · rw [if_pos (hlo.mpr hb)]
    obtain ⟨M1, a1, a2, a3⟩ := sgC hT hc ha (c := 45) (by decide)
    obtain ⟨a4, a5⟩ := sgC_fr (q := q) hq.1 a3
    have a1 : FX5_takeSign 45 M = _ := a1
    rw [a1, Option.bind_some]
    dsimp only
    unfold sgS at a2 ⊢
    rw [if_pos (show (true, a).1 = true from rfl)] at a2 ⊢
    by_cases c : a < T.1 ∧ T.2 a = 45
    · rw [if_pos (show (true, a).2 < T.1 ∧ T.2 (true, a).2 = ((45 : Nat) : Int) from c)] at a2 ⊢
      rw [if_neg bI_t, if_neg (show ¬ (1 : Int32) = 0 by decide)]
      have hls : lsP T below a := ⟨hb, c⟩
      have hA : lsA T below a = a + 1 := if_pos hls
      obtain ⟨M2, b1, b2, b3, b4, b5⟩ := k7C hT hq hl hf hm (lsP T below a) (x3 := 1) (by rw [if_pos hls]) (hneg hb) (a := a + 1) c.1 a2
      have e : nmP T most below a = k7P T most (lsP T below a) (a + 1) := by
        unfold nmP k7P
        rw [hA, if_neg (show ¬ (¬ lsP T below a ∧ a + 1 < T.1 ∧ T.2 (a + 1) = 48) from fun z => z.1 hls)]
      rw [e]
      refine ⟨M2, ?_, b2, a4.tr b3, b4, fun j hj => (b5 j hj).trans (a5 j)⟩
      rw [← b1]
      by_cases cc : M1.1 23 3 < M1.1 23 2
      · rw [if_pos cc, if_pos cc]
        simp only [if_neg (show ¬ (1 : Int32) = 0 by decide)]
      · rw [if_neg cc, if_neg cc]
    · rw [if_neg (show ¬ ((true, a).2 < T.1 ∧ T.2 (true, a).2 = ((45 : Nat) : Int)) from c)] at a2 ⊢
      rw [if_pos bI_f]
      obtain ⟨M2, b1, b2, b3, b4, b5⟩ := posC hT hq hl hf hm hmo (below := below) ha a2 (fun z => c z.2)
      exact ⟨M2, b1, b2, a4.tr b3, b4, fun j hj => (b5 j hj).trans (a5 j)⟩
  · rw [if_neg (fun z => hb (hlo.mp z))]
    exact posC hT hq hl hf hm hmo (below := below) ha hc (fun z => hb z.1)
