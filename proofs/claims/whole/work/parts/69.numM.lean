/-! ===== read: the reference's signs and numbers ===== -/
theorem byteN : ∀ n : Nat, n < 256 → (iI (n : Int)).toInt8.toInt32 = iI (if (n : Int) < 128 then (n : Int) else (n : Int) - 256) := by decide +kernel
theorem byteI {b : Int} (h : 0 ≤ b ∧ b ≤ 255) : (iI b).toInt8.toInt32 = iI (if b < 128 then b else b - 256) := by
  have := byteN b.toNat (by omega)
  rw [show ((b.toNat : Nat) : Int) = b by omega] at this
  exact this
def hB (T : zTx) (a : Nat) : Int := if a < T.1 then (if T.2 a < 128 then T.2 a else T.2 a - 256) else -1
theorem hB_r {T : zTx} (hT : zRT T) (a : Nat) : -128 ≤ hB T a ∧ hB T a ≤ 127 := by
  unfold hB
  by_cases c : a < T.1
  · have := hT.2 a c
    rw [if_pos c]
    by_cases c2 : T.2 a < 128
    · rw [if_pos c2]; omega
    · rw [if_neg c2]; omega
  · rw [if_neg c]; omega
theorem hB_is {T : zTx} (hT : zRT T) {a c : Nat} (hc : c < 128) : iI (hB T a) = iI c ↔ a < T.1 ∧ T.2 a = c := by
  have hr := hB_r hT a
  rw [iEq (by omega) (by omega)]
  unfold hB
  by_cases c1 : a < T.1
  · have := hT.2 a c1
    rw [if_pos c1]
    by_cases c2 : T.2 a < 128
    · rw [if_pos c2]; exact ⟨fun z => ⟨c1, z⟩, fun z => z.2⟩
    · rw [if_neg c2]; omega
  · rw [if_neg c1]; omega
theorem hB_d {T : zTx} (hT : zRT T) {a : Nat} : (48 ≤ hB T a ∧ hB T a ≤ 57) ↔ (a < T.1 ∧ 48 ≤ T.2 a ∧ T.2 a ≤ 57) := by
  unfold hB
  by_cases c1 : a < T.1
  · have := hT.2 a c1
    rw [if_pos c1]
    by_cases c2 : T.2 a < 128
    · rw [if_pos c2]; exact ⟨fun z => ⟨c1, z⟩, fun z => z.2⟩
    · rw [if_neg c2]; omega
  · rw [if_neg c1]; omega
theorem hB_v {T : zTx} {a : Nat} (h : a < T.1 ∧ 48 ≤ T.2 a ∧ T.2 a ≤ 57) : hB T a = T.2 a := by
  unfold hB
  rw [if_pos h.1, if_pos (by omega)]
theorem here_eq {T : zTx} (hT : zRT T) {a : Nat} {M : zMem} (hM : zMT T M) (h : M.1 100 23 = iI a) (ha : a ≤ 300) : FX8_here M = some (iI (hB T a)) := by
  have h200 := hT.1
  unfold FX8_here hB
  rw [h, hM.1]
  by_cases c : a < T.1
  · rw [if_pos ((iLt (by omega) (by omega)).mpr (by omega)), if_pos c, zgI (by omega) (by omega) (by omega), zrI _ _ (by omega) (by omega), Int.toNat_natCast, hM.2 a c, byteI (hT.2 a c)]
  · rw [if_neg (fun z => c (by have := (iLt (by omega) (by omega)).mp z; omega)), if_neg c]
    rfl
theorem isDig_eq {T : zTx} (hT : zRT T) {a : Nat} {M : zMem} (hM : zMT T M) (h : M.1 100 23 = iI a) (ha : a ≤ 300) : FX8_isDigit M = some (zb (a < T.1 ∧ 48 ≤ T.2 a ∧ T.2 a ≤ 57)) := by
  have hr := hB_r hT a
  unfold FX8_isDigit
  rw [here_eq hT hM h ha, Option.bind_some, in_eq, Option.bind_some, zb_g, show (48 : Int32).toInt = 48 from rfl, show (57 : Int32).toInt = 57 from rfl, iT (by omega) (by omega)]
  exact congrArg some (zb_congr (hB_d hT))
def rSt (T : zTx) (s : rP) (M : zMem) : Prop := zMT T M ∧ (s.1 = true → M.1 100 23 = iI s.2 ∧ M.1 100 24 = -9) ∧ (s.1 = false → M.1 100 24 = iI s.2)
def rF0 (M M' : zMem) : Prop := (∀ c, c ≠ 100 → M'.1 c = M.1 c) ∧ (∀ j, j ≠ 23 → j ≠ 24 → M'.1 100 j = M.1 100 j) ∧ M'.2 = M.2
theorem rF0.rf {M : zMem} : rF0 M M := ⟨fun _ _ => rfl, fun _ _ _ => rfl, rfl⟩
theorem rF0.tr {M M1 M2 : zMem} (h1 : rF0 M M1) (h2 : rF0 M1 M2) : rF0 M M2 := ⟨fun c a => (h2.1 c a).trans (h1.1 c a), fun j a b => (h2.2.1 j a b).trans (h1.2.1 j a b), h2.2.2.trans h1.2.2⟩
theorem rF0.w {M M1 : zMem} {i : Nat} {v : Int32} (h : rF0 M M1) (hi : i = 23 ∨ i = 24) : rF0 M (zwr M1 100 i v) := ⟨fun c a => (zwr_ne a).trans (h.1 c a), fun j a b => (zwr_nj (by omega)).trans (h.2.1 j a b), h.2.2⟩
theorem zMT.f0 {T : zTx} {M M' : zMem} (h : zMT T M) (f : rF0 M M') : zMT T M' := h.fr (f.2.1 5 (by decide) (by decide)) (f.1 102 (by decide))
theorem flt_ne {p : Nat} (h : p ≤ 300) : ¬ iI p = (-9 : Int32) := g_m9' (by omega)
theorem sgnM {T : zTx} (hT : zRT T) {s : rP} {M : zMem} (h : rSt T s M) (hs : s.2 ≤ T.1) {c : Nat} (hc : c < 128) : ∃ M', FX8_sign (iI c) M = some M' ∧ rSt T (sgS T c s) M' ∧ rF0 M M' := by
  have h200 := hT.1
  obtain ⟨h1, h2, h3⟩ := h
  unfold FX8_sign sgS
  cases hb : s.1 with
  | true =>
    obtain ⟨p1, p2⟩ := h2 hb
    rw [if_pos p2, here_eq hT h1 p1 (by omega), Option.bind_some, if_pos rfl]
    simp only [zj_e, zlet_e]
    by_cases c1 : s.2 < T.1 ∧ T.2 s.2 = c
    · rw [if_pos ((hB_is hT hc).mpr c1), if_pos c1, zwr_nj (by decide), p1, iA1]
      exact ⟨_, rfl, ⟨h1.f0 ((rF0.rf.w (Or.inr rfl)).w (Or.inl rfl)), fun _ => ⟨zwr_eq, (zwr_nj (by decide)).trans zwr_eq⟩, fun z => Bool.noConfusion z⟩, (rF0.rf.w (Or.inr rfl)).w (Or.inl rfl)⟩
    · rw [if_neg (fun z => c1 ((hB_is hT hc).mp z)), if_neg c1, zwr_nj (by decide), p1, iA1]
      exact ⟨_, rfl, ⟨h1.f0 ((rF0.rf.w (Or.inr rfl)).w (Or.inl rfl)), fun z => Bool.noConfusion z, fun _ => (zwr_nj (by decide)).trans zwr_eq⟩, (rF0.rf.w (Or.inr rfl)).w (Or.inl rfl)⟩
  | false =>
    rw [h3 hb, if_neg (flt_ne (by omega)), if_neg (show ¬ (false = true) from Bool.noConfusion)]
    exact ⟨M, rfl, ⟨h1, fun z => absurd (hb.symm.trans z) Bool.noConfusion, fun _ => h3 hb⟩, rF0.rf⟩
theorem digM {T : zTx} (hT : zRT T) {most : Int} (hm : 0 ≤ most ∧ most ≤ 900) (neg : Prop) [Decidable neg] : ∀ (fu a u : Nat) (v : Int) (M : zMem), a ≤ T.1 → T.1 < a + fu → fu < u → 0 ≤ v ∧ v ≤ most → rSt T (true, a) M → ∃ r M', zloop (FX8_number_L100 (iI most) (if neg then 1 else 0) 0) u (iI v, zb (a < T.1 ∧ 48 ≤ T.2 a ∧ T.2 a ≤ 57), M) = some (r, M') ∧ rSt T (nmD T most fu a v).1 M' ∧ rF0 M M' ∧ ((nmD T most fu a v).1.1 = true → r = iI (if neg then -(nmD T most fu a v).2 else (nmD T most fu a v).2)) := by
  have h200 := hT.1
  have stop : ∀ (u : Nat) (v : Int) (M : zMem), 0 < u → zloop (FX8_number_L100 (iI most) (if neg then 1 else 0) 0) u (iI v, (0 : Int32), M) = some (iI (if neg then -v else v), M) := by
    intro u v M hu
    cases u with
    | zero => omega
    | succ u =>
      rw [zloop_s]
      unfold FX8_number_L100
      dsimp only
      rw [if_pos rfl]
      by_cases n : neg
      · rw [if_pos n, if_neg (show ¬ (1 : Int32) = 0 by decide), if_pos n, iN]
      · rw [if_neg n, if_pos rfl, if_neg n]
  intro fu
  induction fu with
  | zero => intro a u v M h1 h2; omega
  | succ fu ih =>
    intro a u v M h1 h2 hu hv hs
    obtain ⟨g1, g2, -⟩ := hs
    obtain ⟨p1, p2⟩ := g2 rfl
    have p1 : M.1 100 23 = iI a := p1
    have es : nmD T most (fu + 1) a v = if a < T.1 ∧ 48 ≤ T.2 a ∧ T.2 a ≤ 57 then (if most < 10 * v + T.2 a - 48 then ((false, a), 0) else nmD T most fu (a + 1) (10 * v + T.2 a - 48)) else ((true, a), v) := rfl
    rw [es]
    by_cases c : a < T.1 ∧ 48 ≤ T.2 a ∧ T.2 a ≤ 57
    · rw [if_pos c]
      have hz1 : zb (a < T.1 ∧ 48 ≤ T.2 a ∧ T.2 a ≤ 57) = 1 := if_pos c
      rw [hz1]
      cases u with
      | zero => omega
      | succ u =>
        rw [zloop_s]
        have st0 := stop u
        have ih' := ih (a + 1) u (10 * v + T.2 a - 48)
        revert st0 ih'
        generalize zloop (FX8_number_L100 (iI most) (if neg then 1 else 0) 0) u = rec
        intro st0 ih'
        unfold FX8_number_L100
        dsimp only
        rw [if_neg (show ¬ (1 : Int32) = 0 by decide), here_eq hT g1 p1 (by omega), Option.bind_some, hB_v c, show (10 : Int32) = iI 10 from rfl, show (48 : Int32) = iI 48 from rfl, iM, iA, iS]
        simp only [zj_e, zlet_e, if_true]
        have tt := fun x : Int32 => ((rF0.rf (M := M)).w (v := x) (Or.inr rfl)).w (v := iI ((a + 1 : Nat) : Int)) (Or.inl rfl)
        by_cases c3 : most < 10 * v + T.2 a - 48
        · rw [if_pos ((iLt (by omega) (by omega)).mpr c3), if_pos c3, zwr_nj (show 23 ≠ 24 by decide), p1, iA1, zwr_nj (show 24 ≠ 23 by decide), zwr_eq, if_neg (flt_ne (by omega)), st0 _ _ (by omega)]
          exact ⟨_, _, rfl, ⟨g1.f0 (tt _), fun z => Bool.noConfusion z, fun _ => (zwr_nj (by decide)).trans zwr_eq⟩, tt _, fun z => Bool.noConfusion z⟩
        · rw [if_neg (fun z => c3 ((iLt (by omega) (by omega)).mp z)), if_neg c3, zwr_nj (show 23 ≠ 24 by decide), p1, iA1, zwr_nj (show 24 ≠ 23 by decide), zwr_eq, if_pos rfl]
          have hs2 : rSt T (true, a + 1) (zwr (zwr M 100 24 (-9)) 100 23 (iI ((a + 1 : Nat) : Int))) := ⟨g1.f0 (tt _), fun _ => ⟨zwr_eq, (zwr_nj (by decide)).trans zwr_eq⟩, fun z => Bool.noConfusion z⟩
          rw [isDig_eq hT hs2.1 (a := a + 1) zwr_eq (by omega), Option.bind_some, zb_if]
          obtain ⟨r, M', k1, k2, k3, k4⟩ := ih' _ (by omega) (by omega) (by omega) (by omega) hs2
          refine ⟨r, M', ?_, k2, (tt _).tr k3, k4⟩
          rw [← k1]
          by_cases cc : a + 1 < T.1 ∧ 48 ≤ T.2 (a + 1) ∧ T.2 (a + 1) ≤ 57
          · rw [if_pos cc]
            unfold zb
            rw [if_pos cc]
          · rw [if_neg cc]
            unfold zb
            rw [if_neg cc]
    · rw [if_neg c]
      have hz0 : zb (a < T.1 ∧ 48 ≤ T.2 a ∧ T.2 a ≤ 57) = 0 := if_neg c
      rw [hz0, stop u v M (by omega)]
      exact ⟨_, _, rfl, ⟨g1, g2, fun z => Bool.noConfusion z⟩, rF0.rf, fun _ => rfl⟩
theorem zerM {most : Int} (hm : 0 ≤ most ∧ most ≤ 900) {T : zTx} (hT : zRT T) {a : Nat} {M : zMem} (hs : rSt T (true, a) M) (hc : a < T.1 ∧ T.2 a = 48) : ∃ M', zloop (FX8_number_L100 (iI most) 0 1) zFuel ((0 : Int32), (1 : Int32), M) = some (iI 0, M') ∧ rSt T (true, a + 1) M' ∧ rF0 M M' := by
  have h200 := hT.1
  obtain ⟨g1, g2, -⟩ := hs
  obtain ⟨p1, p2⟩ := g2 rfl
  have p1 : M.1 100 23 = iI a := p1
  have tt := ((rF0.rf (M := M)).w (v := -9) (Or.inr rfl)).w (v := iI ((a + 1 : Nat) : Int)) (Or.inl rfl)
  refine ⟨zwr (zwr M 100 24 (-9)) 100 23 (iI ((a + 1 : Nat) : Int)), ?_, ⟨g1.f0 tt, fun _ => ⟨zwr_eq, (zwr_nj (by decide)).trans zwr_eq⟩, fun z => Bool.noConfusion z⟩, tt⟩
  show zloop _ (999998 + 1 + 1) _ = _
  rw [zloop_s]
  have e3 : ∀ Mx : zMem, zloop (FX8_number_L100 (iI most) 0 1) (999998 + 1) (iI 0, (0 : Int32), Mx) = some (iI 0, Mx) := fun Mx => by
    rw [zloop_s]
    unfold FX8_number_L100
    dsimp only
    rw [if_pos rfl, if_pos rfl]
  revert e3
  generalize zloop (FX8_number_L100 (iI most) 0 1) (999998 + 1) = rec
  intro e3
  unfold FX8_number_L100
  dsimp only
  rw [if_neg (show ¬ (1 : Int32) = 0 by decide), here_eq hT g1 p1 (by omega), Option.bind_some, hB_v ⟨hc.1, by omega, by omega⟩, hc.2, show (10 : Int32) = iI 10 from rfl, show (0 : Int32) = iI 0 from rfl, show (48 : Int32) = iI 48 from rfl, iM, iA, iS]
  simp only [zj_e, zlet_e]
  rw [if_neg (fun z => by have := (iLt (by omega) (by omega)).mp z; omega), zwr_nj (show 23 ≠ 24 by decide), p1, iA1, zwr_nj (show 24 ≠ 23 by decide), zwr_eq, if_pos rfl, if_neg (show ¬ (1 : Int32) = iI 0 by decide)]
  exact e3 _
