/-! ===== the class's and the reference's bends are bV ===== -/
theorem zj_c {α β ρ : Type} {J V : α → β} {f : (α → β) → ρ} {r : ρ} (hJ : ∀ a, J a = V a) (hf : f V = r) : zj J f = r := by
  have e : J = V := funext hJ
  subst e
  exact hf
theorem zj_p {α β : Type} {J : α → β} {ρ : Type} {f : (α → β) → ρ} {r : β} {r2 : ρ} (P : α → Prop) (hJ : ∀ a, P a → J a = r) (hf : ∀ k : α → β, (∀ a, P a → k a = r) → f k = r2) : zj J f = r2 := hf J hJ
theorem i0 {a : Int} (h1 : -2147483648 ≤ a) (h2 : a ≤ 2147483647) : (iI a = 0) ↔ a = 0 := by
  rw [show (0 : Int32) = iI 0 from rfl]
  exact iEq ⟨h1, h2⟩ ⟨by omega, by omega⟩
theorem iK {a : Int} (k : Nat) (hk : k ≤ 2147483647) (h1 : -2147483648 ≤ a) (h2 : a ≤ 2147483647) : (iI a = iI k) ↔ a = k := iEq ⟨h1, h2⟩ ⟨by omega, by omega⟩
theorem x0 (x : Int32) : (x = 0) ↔ x.toInt = 0 := by
  rw [← Int32.toInt_inj]
  exact Iff.rfl
def rowOK (M : zMem) (q : Nat) (F : Nat → Int) : Prop := zlenI q = 6 ∧ ∀ f, f < 6 → M.1 q f = iI (F f)
theorem squares_eq {M : zMem} {q : Nat} {F : Nat → Int} (x y : Int) (h : rowOK M q F) : FX2_squares q (iI x) (iI y) M = some (iI (bR F x y)) := by
  unfold FX2_squares
  simp only [zlet]
  rw [h.1, zgT (by rfl), zgT (by rfl), show zrd M q 1 = iI (F 1) from h.2 1 (by decide), show zrd M q 2 = iI (F 2) from h.2 2 (by decide), iS, iS, iM, iM, iA]
  rfl
theorem cut_eq {M : zMem} {q : Nat} {F : Nat → Int} {r : Int} (h : rowOK M q F) (hF : fIn F) (h0 : 0 ≤ r) (h1 : r ≤ 2147483647) : FX2_isCutAway q (iI r) M = some (zb (F 5 * F 5 < r)) := by
  have h5 := hF.all.2.2.2.2.2
  have hs := sq_le (a := F 5) (n := 90) (by omega)
  have hs0 := sq_nn (F 5)
  unfold FX2_isCutAway
  rw [h.1, zgT (by rfl), zgT (by rfl), show zrd M q 5 = iI (F 5) from h.2 5 (by decide), iM]
  unfold zb
  by_cases hc : F 5 * F 5 < r
  · rw [if_pos ((iLt (by omega) (by omega)).mpr hc), if_pos hc]
  · rw [if_neg (fun z => hc ((iLt (by omega) (by omega)).mp z)), if_neg hc]
theorem bendBy_eq {M : zMem} {q : Nat} {F : Nat → Int} {kd w x y : Int} {ax : Int32} (h : rowOK M q F) (hF : fIn F) (hk : 0 ≤ kd ∧ kd ≤ 2) (hw : 0 ≤ w ∧ w ≤ 400) (hx : -60 ≤ x ∧ x ≤ 60) (hy : -60 ≤ y ∧ y ≤ 60) : FX2_bendBy (iI kd) q (iI w) (iI x) (iI y) ax M = some (iI (bV F kd w x y ax.toInt)) := by
  have hR := bR_le hF hx hy
  have hR0 := bR_nn F x y
  have h4 := hF.all.2.2.2.2.1
  have hd := bD_100 hF hx hy ax.toInt
  have hq := bQ_le hw hd
  have hpr := bPR_le hF hw hx hy ax.toInt
  unfold FX2_bendBy
  rw [squares_eq x y h, Option.bind_some]
  unfold bV
  by_cases h0 : bR F x y = 0
  · rw [if_pos ((i0 (by omega) (by omega)).mpr h0), if_pos h0]
    rfl
  · have h0' : ¬ iI (bR F x y) = 0 := fun z => h0 ((i0 (by omega) (by omega)).mp z)
    rw [if_neg h0', if_neg h0]
    refine zj_c (V := fun _ => some (iI (if kd = 0 then bP F w x y ax.toInt else (bP F w x y ax.toInt * bR F x y).tdiv (bR F x y + F 4)))) (fun _ => ?_) ?_
    · refine zj_p (r := some (iI (if kd = 0 then bP F w x y ax.toInt else (bP F w x y ax.toInt * bR F x y).tdiv (bR F x y + F 4)))) (fun x10 => x10 = iI (bD F x y ax.toInt)) (fun x10 hx10 => ?_) (fun k hk1 => ?_)
      · rw [if_neg h0']
        subst hx10
        simp only [zlet]
        rw [show (16 : Int32) = iI 16 from rfl, iM, iM, iD (by omega) (by omega)]
        show (if iI kd = 0 then some (iI (bP F w x y ax.toInt)) else zguard (zin 4 (zlenI q)) (if iI (bR F x y) + zrd M q 4 = 0 then none else some (iI (bP F w x y ax.toInt) * iI (bR F x y) / (iI (bR F x y) + zrd M q 4)))) = _
        by_cases hk0 : kd = 0
        · rw [if_pos ((i0 (by omega) (by omega)).mpr hk0), if_pos hk0]
        · rw [if_neg (fun z => hk0 ((i0 (by omega) (by omega)).mp z)), if_neg hk0, h.1, zgT (by rfl), show zrd M q 4 = iI (F 4) from h.2 4 (by decide), iA, if_neg (fun z => by have := (i0 (by omega) (by omega)).mp z; omega), iM, iD (by omega) (by omega)]
      · rw [h.1, zgT (by rfl), zgT (by rfl), show zrd M q 1 = iI (F 1) from h.2 1 (by decide), show zrd M q 2 = iI (F 2) from h.2 2 (by decide), iS, iS]
        by_cases ha : ax = 0
        · have ha' := (x0 ax).mp ha
          rw [if_pos ha]
          exact hk1 _ (by unfold bD; rw [if_pos ha'])
        · have ha' : ¬ ax.toInt = 0 := fun z => ha ((x0 ax).mpr z)
          rw [if_neg ha]
          exact hk1 _ (by unfold bD; rw [if_neg ha'])
    · show (if iI kd = (2 : Int32) then ((FX2_isCutAway q (iI (bR F x y)) M).bind fun b13 => if b13 = 0 then _ else some (0 : Int32)) else _) = _
      rw [cut_eq h hF hR0 (by omega), Option.bind_some, zb_if]
      by_cases h2 : kd = 2
      · rw [if_pos (by rw [h2]; rfl)]
        by_cases hc : F 5 * F 5 < bR F x y
        · rw [if_pos hc, if_pos (show kd = 2 ∧ F 5 * F 5 < bR F x y from ⟨h2, hc⟩)]
          rfl
        · rw [if_neg hc, if_neg (show ¬ (kd = 2 ∧ F 5 * F 5 < bR F x y) from fun z => hc z.2)]
      · rw [if_neg (show ¬ iI kd = (2 : Int32) from fun z => h2 ((iK 2 (by decide) (by omega) (by omega)).mp z)), if_neg (show ¬ (kd = 2 ∧ F 5 * F 5 < bR F x y) from fun z => h2 z.1)]
def mrow (M : zMem) (b : Nat) (F : Nat → Int) : Prop := b < 8 ∧ ∀ f, f < 6 → M.1 101 (6 * b + f) = iI (F f)
theorem mrow_rd {M : zMem} {b : Nat} {F : Nat → Int} (h : mrow M b F) (f : Nat) (hf : f < 6) : zrd M 101 (iI 6 * iI b + iI f) = iI (F f) := by
  have := h.1
  rw [iM, iA, zrI M 101 (by omega) (by omega), show ((6 * (b : Int) + (f : Int)).toNat) = 6 * b + f by omega]
  exact h.2 f hf
theorem mrow_in {b : Nat} (h : b < 8) (f : Nat) (hf : f < 6) : zin (iI 6 * iI b + iI f) 96 = true := by
  rw [iM, iA]
  exact iIn (by omega) (by omega) (by omega)
theorem bendOf_eq {M : zMem} {b : Nat} {F : Nat → Int} {kd x y : Int} {ax : Int32} (h : mrow M b F) (hF : fIn F) (hk : 0 ≤ kd ∧ kd ≤ 2) (hx : -60 ≤ x ∧ x ≤ 60) (hy : -60 ≤ y ∧ y ≤ 60) : FX8_bendOf (iI kd) (iI b) (iI x) (iI y) ax M = some (iI (bV F kd (F 3) x y ax.toInt)) := by
  have hR := bR_le hF hx hy
  have hR0 := bR_nn F x y
  obtain ⟨-, -, -, hw, h4, h5⟩ := hF.all
  have hd := bD_100 hF hx hy ax.toInt
  have hq := bQ_le hw hd
  have hpr := bPR_le hF hw hx hy ax.toInt
  have hb := h.1
  have hs := sq_le (a := F 5) (n := 90) (by omega)
  have hs0 := sq_nn (F 5)
  unfold FX8_bendOf
  rw [show (6 : Int32) = iI 6 from rfl, show (1 : Int32) = iI (1 : Nat) from rfl, show (2 : Int32) = iI (2 : Nat) from rfl, show (3 : Int32) = iI (3 : Nat) from rfl, show (4 : Int32) = iI (4 : Nat) from rfl, show (5 : Int32) = iI (5 : Nat) from rfl]
  rw [zgT (mrow_in hb 1 (by decide)), mrow_rd h 1 (by decide), mrow_rd h 2 (by decide), mrow_rd h 3 (by decide), mrow_rd h 4 (by decide), mrow_rd h 5 (by decide), iS, iS]
  simp only [zlet]
  rw [zgT (mrow_in hb 2 (by decide)), iM, iM, iA]
  rw [show iI ((x - F 1) * (x - F 1) + (y - F 2) * (y - F 2)) = iI (bR F x y) from rfl]
  unfold bV
  refine zj_p (r := some (iI (if bR F x y = 0 then 0 else if kd = 2 ∧ F 5 * F 5 < bR F x y then 0 else if kd = 0 then bP F (F 3) x y ax.toInt else (bP F (F 3) x y ax.toInt * bR F x y).tdiv (bR F x y + F 4)))) (fun x10 => x10 = iI (bD F x y ax.toInt)) (fun x10 hx10 => ?_) (fun k hk1 => ?_)
  · subst hx10
    by_cases h0 : bR F x y = 0
    · rw [if_pos ((i0 (by omega) (by omega)).mpr h0), if_pos h0]
      rfl
    · have h0' : ¬ iI (bR F x y) = 0 := fun z => h0 ((i0 (by omega) (by omega)).mp z)
      rw [if_neg h0', if_neg h0]
      refine zj_c (V := fun _ => some (iI (if kd = 0 then bP F (F 3) x y ax.toInt else (bP F (F 3) x y ax.toInt * bR F x y).tdiv (bR F x y + F 4)))) (fun _ => ?_) ?_
      · rw [zgT (mrow_in hb 3 (by decide)), if_neg h0', show (16 : Int32) = iI 16 from rfl, iM, iM, iD (by omega) (by omega)]
        show (if iI kd = 0 then some (iI (bP F (F 3) x y ax.toInt)) else zguard (zin (iI 6 * iI b + iI (4 : Nat)) 96) (if (iI (bR F x y) + iI (F 4)).toInt64 = 0 then none else some (((iI (bP F (F 3) x y ax.toInt)).toInt64 * (iI (bR F x y)).toInt64) / (iI (bR F x y) + iI (F 4)).toInt64).toInt32)) = _
        by_cases hk0 : kd = 0
        · rw [if_pos ((i0 (by omega) (by omega)).mpr hk0), if_pos hk0]
        · have hp2 := bP_le (F := F) (x := x) (y := y) (ax := ax.toInt) hw.1
          rw [if_neg (fun z => hk0 ((i0 (by omega) (by omega)).mp z)), if_neg hk0, zgT (mrow_in hb 4 (by decide)), iA, jI (by omega) (by omega), jI (by omega) (by omega), jI (by omega) (by omega), if_neg (fun z => by rw [show (0 : Int64) = iJ 0 from rfl, jEq (by omega) (by omega)] at z; omega), jM, jD (by omega) (by omega), iJI]
      · by_cases h2 : kd = 2
        · rw [if_pos (show iI kd = iI (2 : Nat) by rw [h2]; rfl), zgT (mrow_in hb 5 (by decide)), zgT (mrow_in hb 5 (by decide)), iM]
          by_cases hc : F 5 * F 5 < bR F x y
          · rw [if_pos ((iLt (by omega) (by omega)).mpr hc), if_pos (show kd = 2 ∧ F 5 * F 5 < bR F x y from ⟨h2, hc⟩)]
            rfl
          · rw [if_neg (fun z => hc ((iLt (by omega) (by omega)).mp z)), if_neg (show ¬ (kd = 2 ∧ F 5 * F 5 < bR F x y) from fun z => hc z.2)]
        · rw [if_neg (show ¬ iI kd = iI (2 : Nat) from fun z => h2 ((iK 2 (by decide) (by omega) (by omega)).mp z)), if_neg (show ¬ (kd = 2 ∧ F 5 * F 5 < bR F x y) from fun z => h2 z.1)]
  · by_cases ha : ax = 0
    · have ha' := (x0 ax).mp ha
      rw [if_pos ha]
      exact hk1 _ (by unfold bD; rw [if_pos ha'])
    · have ha' : ¬ ax.toInt = 0 := fun z => ha ((x0 ax).mpr z)
      rw [if_neg ha]
      exact hk1 _ (by unfold bD; rw [if_neg ha'])
