/-! ===== pictures, group, rings ===== -/
theorem zb_W {p : Prop} [Decidable p] : zb p = if decide p = true then (1 : Int32) else 0 := by
  unfold zb
  by_cases h : p
  · rw [if_pos h, if_pos (decide_eq_true h)]
  · rw [if_neg h, if_neg (fun z => h (of_decide_eq_true z))]
theorem zb_W0 {p : Prop} [Decidable p] : decide p = true ↔ ¬ zb p = 0 := by
  unfold zb
  by_cases h : p
  · rw [if_pos h]; exact ⟨fun _ => by decide, fun _ => decide_eq_true h⟩
  · rw [if_neg h]; exact ⟨fun z => absurd (of_decide_eq_true z) h, fun z => absurd rfl z⟩
theorem nOf_r (g : Nat → Int32) : ∀ n, 0 ≤ nOf g n ∧ nOf g n ≤ n := by
  intro n
  induction n with
  | zero => exact ⟨Int.le_refl _, Int.le_refl _⟩
  | succ n ih =>
    rw [nOf_s]
    by_cases h : g n = 0
    · rw [if_pos h]; omega
    · rw [if_neg h]; omega
theorem nOf_0 (g : Nat → Int32) : ∀ n, nOf g n = 0 → ∀ p, p < n → g p = 0 := by
  intro n
  induction n with
  | zero => intro _ p hp; omega
  | succ n ih =>
    intro h p hp
    rw [nOf_s] at h
    have := nOf_r g n
    by_cases h2 : g n = 0
    · rw [if_pos h2] at h
      by_cases e : p = n
      · rw [e]; exact h2
      · exact ih (by omega) p (by omega)
    · rw [if_neg h2] at h; omega
theorem gRun_none {W : Nat → Bool} : ∀ n, (∀ p, p < n → ¬ W p = true) → gRun W n = (W, 0, fun _ => 0, fun _ => 0) := by
  intro n
  induction n with
  | zero => intro _; rfl
  | succ n ih =>
    intro h
    have e := ih (fun p hp => h p (by omega))
    rw [gRun_n (by rw [e]; exact h n (by omega)), e]
abbrev pkW (L : zL) (kx ky : Int) : Nat → Bool := fun p => decide (pkP L kx ky p)
abbrev pkN (L : zL) (kx ky : Int) : Int := nOf (fun p => zb (pkP L kx ky p)) 2401
theorem picC {S : zSt} {M : zMem} (hC : zIC S M) (hR : zRS S) {kx ky : Int} (hkx : -99 ≤ kx ∧ kx ≤ 99) (hky : -99 ≤ ky ∧ ky ≤ 99) : ∃ M', FX7_markPictures (iI kx) (iI ky) M = some (iI (pkN S.1 kx ky), M') ∧ zIC S M' ∧ zagM M M' ∧ zPlC S.1 M' ∧ ∀ q, q < 2401 → M'.1 21 q = (if pkW S.1 kx ky q = true then (1 : Int32) else 0) := by
  obtain ⟨M1, a1, a2, a3, a4, a5⟩ := hC.look hR
  obtain ⟨M2, b1, b2, b3⟩ := marksC_eq hR.1 a4 (kx := kx) (ky := ky) (by omega) (by omega)
  refine ⟨M2, ?_, a2.qf hR (by unfold zsc; decide) b2, (a5.agM (by decide)).tr (b2.agM (by decide)), a4.fr (fun c h1 h2 => b2.1 c (by simp only [List.mem_cons, List.not_mem_nil, or_false]; omega)), fun q hq => ?_⟩
  · unfold FX7_markPictures
    rw [a1, Option.bind_some, keyOf_eq, Option.bind_some]
    exact b1
  · rw [b3 q hq]
    exact zb_W
theorem picM {S : zSt} {M : zMem} (hM : zIM S M) (hR : zRS S) {kx ky : Int} (hkx : -99 ≤ kx ∧ kx ≤ 99) (hky : -99 ≤ ky ∧ ky ≤ 99) : ∃ M', FX8_findPictures (iI kx) (iI ky) M = some (iI (pkN S.1 kx ky), M') ∧ zIM S M' ∧ zagC M M' ∧ zPlM S.1 M' ∧ ∀ q, q < 2401 → (pkW S.1 kx ky q = true ↔ ¬ M'.1 109 q = 0) := by
  obtain ⟨M1, a1, a2, a3⟩ := findPlane_eq hM.1 hR.1
  obtain ⟨M2, b1, b2, b3⟩ := marksM_eq hR.1 a2 (kx := kx) (ky := ky) (by omega) (by omega)
  refine ⟨M2, ?_, (hM.qf (by decide) a3).qf (by decide) b2, (a3.agC (by decide)).tr (b2.agC (by decide)), fun x y hx hy => ?_, fun q hq => ?_⟩
  · unfold FX8_findPictures
    rw [a1, Option.bind_some]
    exact b1
  · have := a2 x y hx hy
    unfold zLt at this ⊢
    rw [b2.1 107 (by decide), b2.1 108 (by decide)]
    exact this
  · rw [b3 q hq]
    exact zb_W0
theorem parityOf_pl {L : zL} {M : zMem} (hr : zRL L) (k : zPlM L M) {x y : Int} (hx : -24 ≤ x ∧ x ≤ 24) (hy : -24 ≤ y ∧ y ≤ 24) : FX8_parityOf (iI x) (iI y) M = some (iI (pI L x y)) := parityOf_eq hr hx hy (k _ _ (by omega) (by omega)) (k _ _ (by omega) (by omega)) (k _ _ (by omega) (by omega)) (k _ _ (by omega) (by omega))
theorem pictures_case (x0 x1 x2 : Int32) : zCase (FX7_pictures x0 x1 x2) (FX8_pictures x0 x1 x2) := by
  refine zCase.of (fun S hR => ?_)
  obtain ⟨x, hx1, hx2, rfl⟩ := iOf x0
  obtain ⟨y, hy1, hy2, rfl⟩ := iOf x1
  by_cases h : pIn 99 (iI x) (iI y)
  · have h0 := (pIn_I ⟨hx1, hx2⟩ ⟨hy1, hy2⟩).mp h
    by_cases h2 : 0 ≤ x2.toInt ∧ x2.toInt ≤ 1
    · refine ⟨if x2 = 0 then iI (pkN S.1 x y) else iI ((gRun (pkW S.1 x y) 2401).2.1 : Nat), S, hR, fun M hC => ?_, fun M hM => ?_⟩
      · obtain ⟨M1, a1, a2, a3, a4, a5⟩ := picC hC hR h0.1 h0.2
        obtain ⟨M2, b1, b2, b3⟩ := splitC a5 (-9)
        unfold FX7_pictures
        rw [isWithin_99, Option.bind_some, zb_if, if_pos h, within_0_1, Option.bind_some, zb_if, if_pos h2, a1, Option.bind_some]
        by_cases e : x2 = 0
        · rw [if_pos e, if_pos e]
          exact ⟨M1, rfl, a2, a3⟩
        · rw [if_neg e, if_neg e, b1, Option.bind_some]
          exact ⟨M2, rfl, a2.qf hR (by unfold zsc; decide) b2, a3.tr (b2.agM (by decide))⟩
      · obtain ⟨M1, a1, a2, a3, a4, a5⟩ := picM hM hR h0.1 h0.2
        obtain ⟨M2, b1, b2, b3, b4⟩ := groupsM_eq a5
        unfold FX8_pictures
        rw [isNear_99, Option.bind_some, zb_if, if_pos h, in_0_1, Option.bind_some, zb_if, if_pos h2, a1, Option.bind_some, b1, Option.bind_some]
        by_cases e : x2 = 0
        · rw [if_pos e, if_pos e]
          exact ⟨M2, rfl, a2.qq (by decide) b2, a3.tr (b2.agC (by decide))⟩
        · rw [if_neg e, if_neg e, b3]
          exact ⟨M2, rfl, a2.qq (by decide) b2, a3.tr (b2.agC (by decide))⟩
    · refine ⟨-1, S, hR, fun M hC => ⟨M, ?_, hC, zagM.rf⟩, fun M hM => ⟨M, ?_, hM, zagC.rf⟩⟩
      · unfold FX7_pictures
        rw [isWithin_99, Option.bind_some, zb_if, if_pos h, within_0_1, Option.bind_some, zb_if, if_neg h2]
      · unfold FX8_pictures
        rw [isNear_99, Option.bind_some, zb_if, if_pos h, in_0_1, Option.bind_some, zb_if, if_neg h2]
  · refine ⟨-1, S, hR, fun M hC => ⟨M, ?_, hC, zagM.rf⟩, fun M hM => ⟨M, ?_, hM, zagC.rf⟩⟩
    · unfold FX7_pictures
      rw [isWithin_99, Option.bind_some, zb_if, if_neg h]
    · unfold FX8_pictures
      rw [isNear_99, Option.bind_some, zb_if, if_neg h]
abbrev gpR (L : zL) (W : Nat → Bool) (w : Nat) (x3 : Int32) : Int32 := if x3 = 0 then iI (pX ((gRun W 2401).2.2.1 w)) else if x3 = 1 then iI (pY ((gRun W 2401).2.2.1 w)) else if x3 = 2 then iI ((gRun W 2401).2.2.2 w : Nat) else iI (pI L (pX ((gRun W 2401).2.2.1 w)) (pY ((gRun W 2401).2.2.1 w)))
theorem group_case (x0 x1 x2 x3 : Int32) : zCase (FX7_group x0 x1 x2 x3) (FX8_group x0 x1 x2 x3) := by
  refine zCase.of (fun S hR => ?_)
  obtain ⟨x, hx1, hx2, rfl⟩ := iOf x0
  obtain ⟨y, hy1, hy2, rfl⟩ := iOf x1
  obtain ⟨i, hi1, hi2, rfl⟩ := iOf x2
  by_cases h : pIn 99 (iI x) (iI y)
  · have h0 := (pIn_I ⟨hx1, hx2⟩ ⟨hy1, hy2⟩).mp h
    by_cases hi : i < 0
    · have hi' : iI i < 0 := (iLt (b := 0) (by omega) (by omega)).mpr hi
      refine ⟨-1000000000, S, hR, fun M hC => ⟨M, ?_, hC, zagM.rf⟩, fun M hM => ⟨M, ?_, hM, zagC.rf⟩⟩
      · unfold FX7_group
        rw [isWithin_99, Option.bind_some, zb_if, if_pos h, if_pos hi']
      · unfold FX8_group
        rw [isNear_99, Option.bind_some, zb_if, if_pos h, in_0_3, Option.bind_some, zb_if, if_pos hi']
        by_cases h3 : 0 ≤ x3.toInt ∧ x3.toInt ≤ 3
        · rw [if_pos h3]
        · rw [if_neg h3]
    · have ei : iI i = iI (i.toNat : Nat) := congrArg iI (Int.toNat_of_nonneg (by omega)).symm
      have hi' : ¬ iI i < 0 := fun z => hi ((iLt (b := 0) (by omega) (by omega)).mp z)
      by_cases h3 : 0 ≤ x3.toInt ∧ x3.toInt ≤ 3
      · have hg := gRun_le (pkW S.1 x y) 2401
        by_cases hlt : i < ((gRun (pkW S.1 x y) 2401).2.1 : Nat)
        · have hlt' : iI i < iI ((gRun (pkW S.1 x y) 2401).2.1 : Nat) := (iLt (by omega) (by omega)).mpr hlt
          have hw : i.toNat < (gRun (pkW S.1 x y) 2401).2.1 := by omega
          have hf := gRun_first (pkW S.1 x y) 2401 (Nat.le_refl _) i.toNat hw
          have hxy := pXY hf
          refine ⟨gpR S.1 (pkW S.1 x y) i.toNat x3, S, hR, fun M hC => ?_, fun M hM => ?_⟩
          · obtain ⟨M1, a1, a2, a3, a4, a5⟩ := picC hC hR h0.1 h0.2
            obtain ⟨M2, b1, b2, b3⟩ := splitC a5 (iI i)
            obtain ⟨c1, c2⟩ := b3 i.toNat ei hw
            have k4 : zPlC S.1 M2 := a4.fr (fun c h1 h2 => b2.1 c (by simp only [List.mem_cons, List.not_mem_nil, or_false]; omega))
            refine ⟨M2, ?_, a2.qf hR (by unfold zsc; decide) b2, a3.tr (b2.agM (by decide))⟩
            unfold FX7_group
            rw [isWithin_99, Option.bind_some, zb_if, if_pos h, if_neg hi', within_0_3, Option.bind_some, zb_if, if_pos h3, a1, Option.bind_some, b1, Option.bind_some, if_pos hlt']
            show (FX7_xOf (M2.1 20 2)).bind _ = _
            rw [c1, xOf_eq hf, Option.bind_some]
            rw [yOf_eq hf, Option.bind_some]
            show (if x3 = 0 then _ else if x3 = 1 then _ else if x3 = 2 then some (M2.1 20 3, M2) else (FX3_parityAt _ _ M2).bind _) = some ((if x3 = 0 then _ else if x3 = 1 then _ else if x3 = 2 then _ else _), _)
            by_cases e0 : x3 = 0
            · rw [if_pos e0, if_pos e0]
            · rw [if_neg e0, if_neg e0]
              by_cases e1 : x3 = 1
              · rw [if_pos e1, if_pos e1]
              · rw [if_neg e1, if_neg e1]
                by_cases e2 : x3 = 2
                · rw [if_pos e2, if_pos e2, c2]
                · rw [if_neg e2, if_neg e2, parityAt_eq k4 hxy.1 hxy.2.1]
                  rfl
          · obtain ⟨M1, a1, a2, a3, a4, a5⟩ := picM hM hR h0.1 h0.2
            obtain ⟨M2, b1, b2, b3, b4⟩ := groupsM_eq a5
            obtain ⟨c1, c2⟩ := b4 i.toNat hw
            have k4 : zPlM S.1 M2 := fun x y hx hy => by
              have := a4 x y hx hy
              unfold zLt at this ⊢
              rw [b2.1 107 (by decide) (by decide), b2.1 108 (by decide) (by decide)]
              exact this
            have hn : ¬ iI (pkN S.1 x y) = 0 := by
              intro z
              have hr : 0 ≤ pkN S.1 x y ∧ pkN S.1 x y ≤ 2401 := nOf_r _ 2401
              have z0 := (i0 (by omega) (by omega)).mp z
              have z1 := nOf_0 _ 2401 z0
              have z2 := gRun_none (W := pkW S.1 x y) 2401 (fun p hp w => (zb_W0.mp w) (z1 p hp))
              rw [z2] at hw
              exact absurd hw (Nat.not_lt_zero _)
            refine ⟨M2, ?_, a2.qq (by decide) b2, a3.tr (b2.agC (by decide))⟩
            unfold FX8_group
            rw [isNear_99, Option.bind_some, zb_if, if_pos h, in_0_3, Option.bind_some, zb_if, if_pos h3, if_neg hi', a1, Option.bind_some, b1, Option.bind_some, b3, if_pos hlt', if_neg hn, zgI (by omega) (by omega) (by omega), zrI _ _ (by omega) (by omega), c1, xOfM hf]
            simp only [zlet]
            rw [zgI (by omega) (by omega) (by omega), yOfM hf]
            show (if x3 = 0 then _ else if x3 = 1 then _ else if x3 = 2 then _ else (FX8_parityOf _ _ M2).bind _) = some ((if x3 = 0 then _ else if x3 = 1 then _ else if x3 = 2 then _ else _), _)
            by_cases e0 : x3 = 0
            · rw [if_pos e0, if_pos e0]
            · rw [if_neg e0, if_neg e0]
              by_cases e1 : x3 = 1
              · rw [if_pos e1, if_pos e1]
              · rw [if_neg e1, if_neg e1]
                by_cases e2 : x3 = 2
                · rw [if_pos e2, if_pos e2, zgI (by omega) (by omega) (by omega), zrI _ _ (by omega) (by omega), c2]
                · rw [if_neg e2, if_neg e2, parityOf_pl hR.1 k4 hxy.1 hxy.2.1]
                  rfl
        · have hlt' : ¬ iI i < iI ((gRun (pkW S.1 x y) 2401).2.1 : Nat) := fun z => hlt ((iLt (by omega) (by omega)).mp z)
          refine ⟨-1000000000, S, hR, fun M hC => ?_, fun M hM => ?_⟩
          · obtain ⟨M1, a1, a2, a3, a4, a5⟩ := picC hC hR h0.1 h0.2
            obtain ⟨M2, b1, b2, b3⟩ := splitC a5 (iI i)
            refine ⟨M2, ?_, a2.qf hR (by unfold zsc; decide) b2, a3.tr (b2.agM (by decide))⟩
            unfold FX7_group
            rw [isWithin_99, Option.bind_some, zb_if, if_pos h, if_neg hi', within_0_3, Option.bind_some, zb_if, if_pos h3, a1, Option.bind_some, b1, Option.bind_some, if_neg hlt']
          · obtain ⟨M1, a1, a2, a3, a4, a5⟩ := picM hM hR h0.1 h0.2
            obtain ⟨M2, b1, b2, b3, b4⟩ := groupsM_eq a5
            refine ⟨M2, ?_, a2.qq (by decide) b2, a3.tr (b2.agC (by decide))⟩
            unfold FX8_group
            rw [isNear_99, Option.bind_some, zb_if, if_pos h, in_0_3, Option.bind_some, zb_if, if_pos h3, if_neg hi', a1, Option.bind_some, b1, Option.bind_some, b3, if_neg hlt']
      · refine ⟨-1000000000, S, hR, fun M hC => ⟨M, ?_, hC, zagM.rf⟩, fun M hM => ⟨M, ?_, hM, zagC.rf⟩⟩
        · unfold FX7_group
          rw [isWithin_99, Option.bind_some, zb_if, if_pos h, if_neg hi', within_0_3, Option.bind_some, zb_if, if_neg h3]
        · unfold FX8_group
          rw [isNear_99, Option.bind_some, zb_if, if_pos h, in_0_3, Option.bind_some, zb_if, if_neg h3]
  · refine ⟨-1000000000, S, hR, fun M hC => ⟨M, ?_, hC, zagM.rf⟩, fun M hM => ⟨M, ?_, hM, zagC.rf⟩⟩
    · unfold FX7_group
      rw [isWithin_99, Option.bind_some, zb_if, if_neg h]
    · unfold FX8_group
      rw [isNear_99, Option.bind_some, zb_if, if_neg h]
