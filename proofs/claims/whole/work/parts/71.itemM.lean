/-! ===== read: the reference's items ===== -/
def itT (b3 x2 : Int32) (M22 : zMem) : Option zMem := zj (fun (M23 : zMem) => zj (fun (M25 : zMem) => (FX8_sign (59 : Int32) M25).bind fun b27 => some b27) fun k26 => if b3 = (99 : Int32) then ((FX8_sign (101 : Int32) M23).bind fun b28 => (FX8_number (90 : Int32) (0 : Int32) b28).bind fun b29 => zguard (zin (x2 + (5 : Int32)) 96) (zlet (zwr b29.2 101 (zcl (x2 + (5 : Int32))) b29.1) fun M30 => k26 M30)) else (k26 M23)) fun k24 => if b3 = (112 : Int32) then (k24 M22) else ((FX8_sign (111 : Int32) M22).bind fun b31 => (FX8_number (900 : Int32) (0 : Int32) b31).bind fun b32 => zguard (zin (x2 + (4 : Int32)) 96) (zlet (zwr b32.2 101 (zcl (x2 + (4 : Int32))) b32.1) fun M33 => k24 M33))
/-- the frame of an item whose features lie from lo on -/
def rFi (lo : Nat) (M M' : zMem) : Prop := (∀ c, c ≠ 100 → c ≠ 101 → M'.1 c = M.1 c) ∧ (∀ j, j ≠ 23 → j ≠ 24 → M'.1 100 j = M.1 100 j) ∧ (∀ i, ¬ (lo ≤ i ∧ i < lo + 6) → M'.1 101 i = M.1 101 i) ∧ M'.2 = M.2
theorem rFi.rf {lo : Nat} {M : zMem} : rFi lo M M := ⟨fun _ _ _ => rfl, fun _ _ _ => rfl, fun _ _ => rfl, rfl⟩
theorem rFi.tr {lo : Nat} {M M1 M2 : zMem} (h1 : rFi lo M M1) (h2 : rFi lo M1 M2) : rFi lo M M2 := ⟨fun c a b => (h2.1 c a b).trans (h1.1 c a b), fun j a b => (h2.2.1 j a b).trans (h1.2.1 j a b), fun i hi => (h2.2.2.1 i hi).trans (h1.2.2.1 i hi), h2.2.2.2.trans h1.2.2.2⟩
theorem rF0.i {lo : Nat} {M M' : zMem} (h : rF0 M M') : rFi lo M M' := ⟨fun c a _ => h.1 c a, h.2.1, fun i _ => by rw [h.1 101 (by decide)], h.2.2⟩
theorem rFi.w {lo i : Nat} {v : Int32} {M M1 : zMem} (h : rFi lo M M1) (hi : lo ≤ i ∧ i < lo + 6) : rFi lo M (zwr M1 101 i v) := ⟨fun c a b => (zwr_ne b).trans (h.1 c a b), fun j a b => (zwr_nc (by decide)).trans (h.2.1 j a b), fun j hj => (zwr_nj (fun z => hj (by rw [z]; exact hi))).trans (h.2.2.1 j hj), h.2.2.2⟩
theorem rSt.w {T : zTx} {s : rP} {M : zMem} {i : Nat} {v : Int32} (h : rSt T s M) : rSt T s (zwr M 101 i v) := ⟨h.1.fr (zwr_nc (by decide)) (zwr_ne (by decide)), fun z => ⟨(zwr_nc (by decide)).trans (h.2.1 z).1, (zwr_nc (by decide)).trans (h.2.1 z).2⟩, fun z => (zwr_nc (by decide)).trans (h.2.2 z)⟩
theorem pP_ok {s s' : rP} (h : pP s s') (h' : s'.1 = true) : s.1 = true := by
  cases hb : s.1 with
  | true => rfl
  | false => rw [h hb] at h'; exact absurd (hb.symm.trans h') Bool.noConfusion
/-- the last stages, by kind -/
theorem tailM {T : zTx} (hT : zRT T) {a lo : Nat} {M22 : zMem} (ha : a < T.1) (hk : isK T a) (hlo : lo + 6 ≤ 96) (h : rSt T (i3 T a).1 M22) (h4 : M22.1 101 (lo + 4) = iI 0) (h5 : M22.1 101 (lo + 5) = iI 90) : ∃ M', itT (iI (hB T a)) (iI lo) M22 = some M' ∧ rSt T (itS T a) M' ∧ rFi lo M22 M' ∧ (∀ i, i ≠ lo + 4 → i ≠ lo + 5 → M'.1 101 i = M22.1 101 i) ∧ ((itS T a).1 = true → M'.1 101 (lo + 4) = iI (itF T a 4) ∧ M'.1 101 (lo + 5) = iI (itF T a 5)) := by
  have hr := i_r ha
  have e4 : iI (lo : Int) + 4 = iI ((lo + 4 : Nat) : Int) := by rw [show (4 : Int32) = iI 4 from rfl, iA]; rfl
  have e5 : iI (lo : Int) + 5 = iI ((lo + 5 : Nat) : Int) := by rw [show (5 : Int32) = iI 5 from rfl, iA]; rfl
  have k112 : iI (hB T a) = 112 ↔ T.2 a = 112 := ⟨fun z => ((hB_is hT (c := 112) (by decide)).mp z).2, fun z => (hB_is hT (c := 112) (by decide)).mpr ⟨ha, z⟩⟩
  have k99 : iI (hB T a) = 99 ↔ T.2 a = 99 := ⟨fun z => ((hB_is hT (c := 99) (by decide)).mp z).2, fun z => (hB_is hT (c := 99) (by decide)).mpr ⟨ha, z⟩⟩
  have hK : itK T a = if T.2 a = 112 then 0 else if T.2 a = 115 then 1 else 2 := rfl
  have f4e : itF T a 4 = if itK T a = 0 then 0 else (i4 T a).2 := rfl
  have f5e : itF T a 5 = if itK T a = 2 then (i5 T a).2 else 90 := rfl
  unfold itT
  by_cases c0 : T.2 a = 112
  · have hk0 : itK T a = 0 := by rw [hK, if_pos c0]
    have e : itS T a = sgS T 59 (i3 T a).1 := by
      unfold itS itE
      rw [if_pos hk, if_pos hk0]
    obtain ⟨M1, a1, a2, a3⟩ := sgnM hT h hr.2.2.1.1 (c := 59) (by decide)
    have a1 : FX8_sign 59 M22 = some M1 := a1
    rw [zj_e, if_pos (k112.mpr c0)]
    dsimp only
    rw [zj_e, if_neg (show ¬ iI (hB T a) = 99 from fun z => by have := k99.mp z; omega)]
    dsimp only
    rw [a1, e, f4e, f5e, if_pos hk0, if_neg (by omega)]
    have e101 := a3.1 101 (by decide)
    exact ⟨M1, rfl, a2, a3.i, fun i _ _ => by rw [e101], fun _ => ⟨by rw [e101]; exact h4, by rw [e101]; exact h5⟩⟩
  · obtain ⟨M1, a1, a2, a3⟩ := sgnM hT h hr.2.2.1.1 (c := 111) (by decide)
    have a1 : FX8_sign 111 M22 = some M1 := a1
    have a2 : rSt T (sgS T 111 (i3 T a).1) M1 := a2
    obtain ⟨r, M2, b1, b2, b3, b4⟩ := nmnM hT (most := 900) (by decide) false a2 (sgS_le hr.2.2.1.1) (x1 := 0) rfl
    have b1 : FX8_number 900 0 M1 = some (r, M2) := b1
    have b2 : rSt T (i4 T a).1 M2 := b2
    have b4 : (i4 T a).1.1 = true → r = iI (i4 T a).2 := b4
    have e101 : M2.1 101 = M22.1 101 := (b3.1 101 (by decide)).trans (a3.1 101 (by decide))
    have fr : rFi lo M22 (zwr M2 101 (lo + 4) r) := ((a3.tr b3).i).w (by omega)
    have hk0 : ¬ itK T a = 0 := by
      rw [hK, if_neg c0]
      by_cases c1 : T.2 a = 115
      · rw [if_pos c1]; omega
      · rw [if_neg c1]; omega
    rw [zj_e, if_neg (show ¬ iI (hB T a) = 112 from fun z => c0 (k112.mp z)), a1, Option.bind_some, b1, Option.bind_some, e4, zgI (by omega) (by omega) (by omega), zlet_e, iC (by omega) (by omega), Int.toNat_natCast]
    dsimp only
    by_cases c2 : T.2 a = 99
    · have hk2 : itK T a = 2 := by rw [hK, if_neg c0, if_neg (by omega)]
      have e : itS T a = sgS T 59 (i5 T a).1 := by
        unfold itS itE
        rw [if_pos hk, if_neg hk0, if_neg (by omega)]
      obtain ⟨M3, d1, d2, d3⟩ := sgnM hT (b2.w (i := lo + 4) (v := r)) hr.2.2.2.1.1 (c := 101) (by decide)
      have d1 : FX8_sign 101 (zwr M2 101 (lo + 4) r) = some M3 := d1
      have d2 : rSt T (sgS T 101 (i4 T a).1) M3 := d2
      obtain ⟨r', M4, g1, g2, g3, g4⟩ := nmnM hT (most := 90) (by decide) false d2 (sgS_le hr.2.2.2.1.1) (x1 := 0) rfl
      have g1 : FX8_number 90 0 M3 = some (r', M4) := g1
      have g2 : rSt T (i5 T a).1 M4 := g2
      have g4 : (i5 T a).1.1 = true → r' = iI (i5 T a).2 := g4
      obtain ⟨M5, m1, m2, m3⟩ := sgnM hT (g2.w (i := lo + 5) (v := r')) hr.2.2.2.2.1 (c := 59) (by decide)
      have m1 : FX8_sign 59 (zwr M4 101 (lo + 5) r') = some M5 := m1
      have e3 : M4.1 101 = (zwr M2 101 (lo + 4) r).1 101 := (g3.1 101 (by decide)).trans (d3.1 101 (by decide))
      have e5' : M5.1 101 = (zwr M4 101 (lo + 5) r').1 101 := m3.1 101 (by decide)
      rw [zj_e, if_pos (k99.mpr c2), d1, Option.bind_some, g1, Option.bind_some, e5, zgI (by omega) (by omega) (by omega), zlet_e, iC (by omega) (by omega), Int.toNat_natCast]
      dsimp only
      rw [m1, e, f4e, f5e, if_neg hk0, if_pos hk2]
      refine ⟨M5, rfl, m2, fr.tr ((((d3.tr g3).i).w (by omega)).tr m3.i), fun i i1 i2 => ?_, fun hok => ?_⟩
      · rw [e5', zwr_nj i2, e3, zwr_nj i1, e101]
      · have ok5 : (i5 T a).1.1 = true := pP_ok (pP_sg _ _ _) hok
        have ok4 : (i4 T a).1.1 = true := pP_ok ((pP_sg _ _ _).tr (p_s4 T a)) ok5
        refine ⟨?_, ?_⟩
        · rw [e5', zwr_nj (by omega), e3, zwr_eq]; exact b4 ok4
        · rw [e5', zwr_eq]; exact g4 ok5
    · have hk1 : itK T a = 1 := by
        rw [hK, if_neg c0]
        by_cases c1 : T.2 a = 115
        · rw [if_pos c1]
        · rcases hk.2 with z | z | z
          · exact absurd z c0
          · exact absurd z c1
          · exact absurd z c2
      have e : itS T a = sgS T 59 (i4 T a).1 := by
        unfold itS itE
        rw [if_pos hk, if_neg hk0, if_pos hk1]
      obtain ⟨M5, m1, m2, m3⟩ := sgnM hT (b2.w (i := lo + 4) (v := r)) hr.2.2.2.1.1 (c := 59) (by decide)
      have m1 : FX8_sign 59 (zwr M2 101 (lo + 4) r) = some M5 := m1
      have e5' : M5.1 101 = (zwr M2 101 (lo + 4) r).1 101 := m3.1 101 (by decide)
      rw [zj_e, if_neg (show ¬ iI (hB T a) = 99 from fun z => c2 (k99.mp z))]
      dsimp only
      rw [m1, e, f4e, f5e, if_neg hk0, if_neg (by omega)]
      refine ⟨M5, rfl, m2, fr.tr m3.i, fun i i1 i2 => ?_, fun hok => ?_⟩
      · rw [e5', zwr_nj i1, e101]
      · have ok4 : (i4 T a).1.1 = true := pP_ok (pP_sg _ _ _) hok
        refine ⟨?_, ?_⟩
        · rw [e5', zwr_eq]; exact b4 ok4
        · rw [e5', zwr_nj (by omega), e101]; exact h5
theorem itemM {T : zTx} (hT : zRT T) {a j : Nat} {M : zMem} (ha : a < T.1) (hj : j < 8) (h : rSt T (true, a) M) : ∃ M', FX8_item (iI j) M = some M' ∧ rSt T (itS T a) M' ∧ rFi (48 + 6 * j) M M' ∧ ((itS T a).1 = true → ∀ f, f < 6 → M'.1 101 (48 + 6 * j + f) = iI (itF T a f)) := by
  have h200 := hT.1
  have hr := i_r ha
  obtain ⟨p1, p2⟩ := h.2.1 rfl
  have p1 : M.1 100 23 = iI a := p1
  have e48 : (48 : Int32) + (6 : Int32) * iI j = iI ((48 + 6 * j : Nat) : Int) := by
    rw [show (48 : Int32) = iI 48 from rfl, show (6 : Int32) = iI 6 from rfl, iM, iA]
    rfl
  have k112 : iI (hB T a) = 112 ↔ T.2 a = 112 := ⟨fun z => ((hB_is hT (c := 112) (by decide)).mp z).2, fun z => (hB_is hT (c := 112) (by decide)).mpr ⟨ha, z⟩⟩
  have k115 : iI (hB T a) = 115 ↔ T.2 a = 115 := ⟨fun z => ((hB_is hT (c := 115) (by decide)).mp z).2, fun z => (hB_is hT (c := 115) (by decide)).mpr ⟨ha, z⟩⟩
  have k99 : iI (hB T a) = 99 ↔ T.2 a = 99 := ⟨fun z => ((hB_is hT (c := 99) (by decide)).mp z).2, fun z => (hB_is hT (c := 99) (by decide)).mpr ⟨ha, z⟩⟩
  have hj8 : ¬ iI (j : Int) = 8 := fun z => by have := (iEq (b := 8) (by omega) (by omega)).mp z; omega
  by_cases hk : isK T a
  · have hlo : 48 + 6 * j + 6 ≤ 96 := by omega
    generalize hlod : 48 + 6 * j = lo at *
    have e1 : iI (lo : Int) + 1 = iI ((lo + 1 : Nat) : Int) := iA1 lo
    have e2 : iI (lo : Int) + 2 = iI ((lo + 2 : Nat) : Int) := by rw [show (2 : Int32) = iI 2 from rfl, iA]; rfl
    have e3 : iI (lo : Int) + 3 = iI ((lo + 3 : Nat) : Int) := by rw [show (3 : Int32) = iI 3 from rfl, iA]; rfl
    have e4 : iI (lo : Int) + 4 = iI ((lo + 4 : Nat) : Int) := by rw [show (4 : Int32) = iI 4 from rfl, iA]; rfl
    have e5 : iI (lo : Int) + 5 = iI ((lo + 5 : Nat) : Int) := by rw [show (5 : Int32) = iI 5 from rfl, iA]; rfl
    have f9 : rF0 M (zwr M 100 23 (iI ((a + 1 : Nat) : Int))) := rF0.rf.w (Or.inl rfl)
    have s9 : rSt T (true, a + 1) (zwr M 100 23 (iI ((a + 1 : Nat) : Int))) := ⟨h.1.f0 f9, fun _ => ⟨zwr_eq, (zwr_nj (by decide)).trans p2⟩, fun z => Bool.noConfusion z⟩
    obtain ⟨r1, M13, a1, a2, a3, a4⟩ := nmnM hT (most := 40) (by decide) true (s9.w (i := lo) (v := iI (itK T a))) (show a + 1 ≤ T.1 from ha) (x1 := 1) rfl
    have a1 : FX8_number 40 1 (zwr (zwr M 100 23 (iI ((a + 1 : Nat) : Int))) 101 lo (iI (itK T a))) = some (r1, M13) := a1
    have a2 : rSt T (i1 T a).1 M13 := a2
    have a4 : (i1 T a).1.1 = true → r1 = iI (i1 T a).2 := a4
    obtain ⟨M15, b1, b2, b3⟩ := sgnM hT (a2.w (i := lo + 1) (v := r1)) hr.1.1 (c := 44) (by decide)
    have b1 : FX8_sign 44 (zwr M13 101 (lo + 1) r1) = some M15 := b1
    have b2 : rSt T (sgS T 44 (i1 T a).1) M15 := b2
    obtain ⟨r2, M16, c1, c2, c3, c4⟩ := nmnM hT (most := 40) (by decide) true b2 (sgS_le hr.1.1) (x1 := 1) rfl
    have c1 : FX8_number 40 1 M15 = some (r2, M16) := c1
    have c2 : rSt T (i2 T a).1 M16 := c2
    have c4 : (i2 T a).1.1 = true → r2 = iI (i2 T a).2 := c4
    obtain ⟨M18, d1, d2, d3⟩ := sgnM hT (c2.w (i := lo + 2) (v := r2)) hr.2.1.1 (c := 119) (by decide)
    have d1 : FX8_sign 119 (zwr M16 101 (lo + 2) r2) = some M18 := d1
    have d2 : rSt T (sgS T 119 (i2 T a).1) M18 := d2
    obtain ⟨r3, M19, g1, g2, g3, g4⟩ := nmnM hT (most := 400) (by decide) false d2 (sgS_le hr.2.1.1) (x1 := 0) rfl
    have g1 : FX8_number 400 0 M18 = some (r3, M19) := g1
    have g2 : rSt T (i3 T a).1 M19 := g2
    have g4 : (i3 T a).1.1 = true → r3 = iI (i3 T a).2 := g4
    obtain ⟨M', t1, t2, t3, t4, t5⟩ := tailM hT ha hk hlo (((g2.w (i := lo + 3) (v := r3)).w (i := lo + 4) (v := 0)).w (i := lo + 5) (v := 90)) ((zwr_nj (by omega)).trans zwr_eq) zwr_eq
    have x13 : M13.1 101 = (zwr (zwr M 100 23 (iI ((a + 1 : Nat) : Int))) 101 lo (iI (itK T a))).1 101 := a3.1 101 (by decide)
    have x16 : M16.1 101 = (zwr M13 101 (lo + 1) r1).1 101 := (c3.1 101 (by decide)).trans (b3.1 101 (by decide))
    have x19 : M19.1 101 = (zwr M16 101 (lo + 2) r2).1 101 := (g3.1 101 (by decide)).trans (d3.1 101 (by decide))
    refine ⟨M', ?_, t2, ?_, fun hok f hf => ?_⟩
    · unfold FX8_item
      rw [zlet_e, e48, bind_here (here_eq hT h.1 p1 (by omega)), zj_e, if_neg hj8]
      refine zj_c (V := fun _ => some M') (fun _ => ?_) ?_
      · rw [zlet_e, p1, iA1]
        refine zj_p (fun t => t = iI (itK T a)) (r := some M') (fun t ht => ?_) (fun k hkk => ?_)
        · subst ht
          rw [zgI (by omega) (by omega) (by omega), zlet_e, iC (by omega) (by omega), Int.toNat_natCast, a1, Option.bind_some, e1, zgI (by omega) (by omega) (by omega), zlet_e, iC (by omega) (by omega), Int.toNat_natCast]
          dsimp only
          rw [b1, Option.bind_some, c1, Option.bind_some, e2, zgI (by omega) (by omega) (by omega), zlet_e, iC (by omega) (by omega), Int.toNat_natCast]
          dsimp only
          rw [d1, Option.bind_some, g1, Option.bind_some, e3, zgI (by omega) (by omega) (by omega), zlet_e, iC (by omega) (by omega), Int.toNat_natCast]
          dsimp only
          rw [e4, zgI (by omega) (by omega) (by omega), zlet_e, iC (by omega) (by omega), Int.toNat_natCast, e5, zgI (by omega) (by omega) (by omega), zlet_e, iC (by omega) (by omega), Int.toNat_natCast]
          unfold itT at t1
          rw [e4, e5, iC (a := ((lo + 4 : Nat) : Int)) (by omega) (by omega), iC (a := ((lo + 5 : Nat) : Int)) (by omega) (by omega), Int.toNat_natCast, Int.toNat_natCast] at t1
          exact t1
        · by_cases c0 : T.2 a = 112
          · rw [if_pos (k112.mpr c0)]
            exact hkk _ (by unfold itK; rw [if_pos c0]; rfl)
          · rw [if_neg (show ¬ iI (hB T a) = 112 from fun z => c0 (k112.mp z))]
            by_cases c1 : T.2 a = 115
            · rw [if_pos (k115.mpr c1)]
              exact hkk _ (by unfold itK; rw [if_neg c0, if_pos c1]; rfl)
            · rw [if_neg (show ¬ iI (hB T a) = 115 from fun z => c1 (k115.mp z))]
              exact hkk _ (by unfold itK; rw [if_neg c0, if_neg c1]; rfl)
      · by_cases c0 : T.2 a = 112
        · rw [if_pos (k112.mpr c0)]
        · rw [if_neg (show ¬ iI (hB T a) = 112 from fun z => c0 (k112.mp z))]
          by_cases c1 : T.2 a = 115
          · rw [if_pos (k115.mpr c1)]
          · rw [if_neg (show ¬ iI (hB T a) = 115 from fun z => c1 (k115.mp z)), if_pos (k99.mpr (by rcases hk.2 with z | z | z; exact absurd z c0; exact absurd z c1; exact z))]
    · exact (((((((f9.i).w (by omega)).tr a3.i).w (by omega)).tr b3.i).tr c3.i).w (by omega)).tr (((((d3.i).tr g3.i).w (by omega)).w (by omega)).w (by omega) |>.tr t3)
    · have hc6 : f = 0 ∨ f = 1 ∨ f = 2 ∨ f = 3 ∨ f = 4 ∨ f = 5 := by omega
      have ok3 : (i3 T a).1.1 = true := pP_ok (p_i3 hk) hok
      have ok2 : (i2 T a).1.1 = true := pP_ok (p_i2 hk) hok
      have ok1 : (i1 T a).1.1 = true := pP_ok (p_i1 hk) hok
      rcases hc6 with c | c | c | c | c | c
      · rw [c, t4 _ (by omega) (by omega), zwr_nj (by omega), zwr_nj (by omega), zwr_nj (by omega), x19, zwr_nj (by omega), x16, zwr_nj (by omega), x13]
        exact zwr_eq
      · rw [c, t4 _ (by omega) (by omega), zwr_nj (by omega), zwr_nj (by omega), zwr_nj (by omega), x19, zwr_nj (by omega), x16, zwr_eq]
        exact a4 ok1
      · rw [c, t4 _ (by omega) (by omega), zwr_nj (by omega), zwr_nj (by omega), zwr_nj (by omega), x19, zwr_eq]
        exact c4 ok2
      · rw [c, t4 _ (by omega) (by omega), zwr_nj (by omega), zwr_nj (by omega), zwr_eq]
        exact g4 ok3
      · rw [c]; exact (t5 hok).1
      · rw [c]; exact (t5 hok).2
  · have e : itS T a = (false, a) := if_neg hk
    have n0 : ¬ T.2 a = 112 := fun z => hk ⟨ha, Or.inl z⟩
    have n1 : ¬ T.2 a = 115 := fun z => hk ⟨ha, Or.inr (Or.inl z)⟩
    have n2 : ¬ T.2 a = 99 := fun z => hk ⟨ha, Or.inr (Or.inr z)⟩
    obtain ⟨f1, f2⟩ := fltM h
    rw [e]
    refine ⟨zwr M 100 24 (M.1 100 23), ?_, f1, f2.i, fun z => Bool.noConfusion z⟩
    unfold FX8_item
    rw [zlet_e, bind_here (here_eq hT h.1 p1 (by omega)), zj_e, if_neg hj8]
    rw [zj_e, if_neg (show ¬ iI (hB T a) = 112 from fun z => n0 (k112.mp z)), if_neg (show ¬ iI (hB T a) = 115 from fun z => n1 (k115.mp z)), if_neg (show ¬ iI (hB T a) = 99 from fun z => n2 (k99.mp z)), zlet_e]
theorem itemM8 {T : zTx} (hT : zRT T) {a : Nat} {M : zMem} (ha : a < T.1) (h : rSt T (true, a) M) : ∃ M', FX8_item (iI ((8 : Nat) : Int)) M = some M' ∧ rSt T (false, a) M' ∧ rF0 M M' := by
  have h200 := hT.1
  obtain ⟨p1, p2⟩ := h.2.1 rfl
  have p1 : M.1 100 23 = iI a := p1
  obtain ⟨f1, f2⟩ := fltM h
  refine ⟨zwr M 100 24 (M.1 100 23), ?_, f1, f2⟩
  unfold FX8_item
  rw [zlet_e, bind_here (here_eq hT h.1 p1 (by omega)), zj_e, if_pos (show iI ((8 : Nat) : Int) = 8 from rfl), zlet_e]
