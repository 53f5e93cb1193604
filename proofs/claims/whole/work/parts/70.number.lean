/-! ===== read: the reference's numbers ===== -/
theorem fltM {T : zTx} {a : Nat} {M : zMem} (h : rSt T (true, a) M) : rSt T (false, a) (zwr M 100 24 (M.1 100 23)) ∧ rF0 M (zwr M 100 24 (M.1 100 23)) := by
  have f := (rF0.rf (M := M)).w (v := M.1 100 23) (Or.inr rfl : (24 : Nat) = 23 ∨ (24 : Nat) = 24)
  exact ⟨⟨h.1.f0 f, fun z => Bool.noConfusion z, fun _ => by rw [zwr_eq]; exact (h.2.1 rfl).1⟩, f⟩
/-- behind no minus -/
theorem posM {T : zTx} (hT : zRT T) {most : Int} (hm : 0 ≤ most ∧ most ≤ 900) {a : Nat} {M : zMem} (h : rSt T (true, a) M) (ha : a ≤ T.1) : ∃ r M', ((FX8_isDigit M).bind fun b8 => if b8 = 0 then some ((0 : Int32), zwr M 100 24 (M.1 100 23)) else (FX8_here M).bind fun b14 => if b14 = 48 then zloop (FX8_number_L100 (iI most) 0 1) zFuel ((0 : Int32), (1 : Int32), M) else zloop (FX8_number_L100 (iI most) 0 0) zFuel ((0 : Int32), (1 : Int32), M)) = some (r, M') ∧ rSt T (if a < T.1 ∧ T.2 a = 48 then ((true, a + 1), 0) else k7P T most False a : rP × Int).1 M' ∧ rF0 M M' ∧ ((if a < T.1 ∧ T.2 a = 48 then ((true, a + 1), 0) else k7P T most False a : rP × Int).1.1 = true → r = iI (if a < T.1 ∧ T.2 a = 48 then ((true, a + 1), 0) else k7P T most False a : rP × Int).2) := by
  have h200 := hT.1
  have p1 := (h.2.1 rfl).1
  have p1 : M.1 100 23 = iI a := p1
  rw [isDig_eq hT h.1 p1 (by omega), Option.bind_some, zb_if]
  by_cases c : a < T.1 ∧ 48 ≤ T.2 a ∧ T.2 a ≤ 57
  · rw [if_pos c, here_eq hT h.1 p1 (by omega), Option.bind_some]
    by_cases c8 : a < T.1 ∧ T.2 a = 48
    · rw [if_pos (show iI (hB T a) = 48 from (hB_is hT (c := 48) (by decide)).mpr c8), if_pos c8]
      obtain ⟨M', k1, k2, k3⟩ := zerM hm hT h c8
      exact ⟨_, M', k1, k2, k3, fun _ => rfl⟩
    · rw [if_neg (show ¬ iI (hB T a) = 48 from fun z => c8 ((hB_is hT (c := 48) (by decide)).mp z)), if_neg c8]
      have c9 : a < T.1 ∧ 49 ≤ T.2 a ∧ T.2 a ≤ 57 := ⟨c.1, by
        have : ¬ T.2 a = 48 := fun z => c8 ⟨c.1, z⟩
        omega, c.2.2⟩
      have e : k7P T most False a = ((nmD T most (T.1 + 1) a 0).1, if False then -(nmD T most (T.1 + 1) a 0).2 else (nmD T most (T.1 + 1) a 0).2) := if_pos c9
      rw [e]
      obtain ⟨r, M', k1, k2, k3, k4⟩ := digM hT hm False (T.1 + 1) a zFuel 0 M ha (by omega) (zfu (by omega)) ⟨Int.le_refl _, hm.1⟩ h
      have hz1 : zb (a < T.1 ∧ 48 ≤ T.2 a ∧ T.2 a ≤ 57) = 1 := if_pos c
      rw [hz1, if_neg (show ¬ False from id)] at k1
      exact ⟨r, M', k1, k2, k3, k4⟩
  · rw [if_neg c, if_neg (fun z => c ⟨z.1, by omega, by omega⟩)]
    have e : k7P T most False a = ((false, a), 0) := if_neg (fun z => c ⟨z.1, by omega, z.2.2⟩)
    rw [e]
    obtain ⟨f1, f2⟩ := fltM h
    exact ⟨_, _, rfl, f1, f2, fun z => Bool.noConfusion z⟩
theorem negM {T : zTx} (hT : zRT T) {most : Int} (hm : 0 ≤ most ∧ most ≤ 900) {a : Nat} {M : zMem} (h : rSt T (true, a) M) (ha : a ≤ T.1) : ∃ r M', ((FX8_isDigit M).bind fun b8 => if b8 = 0 then some ((0 : Int32), zwr M 100 24 (M.1 100 23)) else (FX8_here M).bind fun b30 => if b30 = 48 then some ((0 : Int32), zwr M 100 24 (M.1 100 23)) else (FX8_here M).bind fun b14 => if b14 = 48 then zloop (FX8_number_L100 (iI most) 1 1) zFuel ((0 : Int32), (1 : Int32), M) else zloop (FX8_number_L100 (iI most) 1 0) zFuel ((0 : Int32), (1 : Int32), M)) = some (r, M') ∧ rSt T (k7P T most True a).1 M' ∧ rF0 M M' ∧ ((k7P T most True a).1.1 = true → r = iI (k7P T most True a).2) := by
  have h200 := hT.1
  have p1 := (h.2.1 rfl).1
  have p1 : M.1 100 23 = iI a := p1
  obtain ⟨f1, f2⟩ := fltM h
  rw [isDig_eq hT h.1 p1 (by omega), Option.bind_some, zb_if]
  by_cases c : a < T.1 ∧ 48 ≤ T.2 a ∧ T.2 a ≤ 57
  · rw [if_pos c, here_eq hT h.1 p1 (by omega), Option.bind_some, Option.bind_some]
    by_cases c8 : a < T.1 ∧ T.2 a = 48
    · rw [if_pos (show iI (hB T a) = 48 from (hB_is hT (c := 48) (by decide)).mpr c8)]
      have e : k7P T most True a = ((false, a), 0) := if_neg (fun z => by have := c8.2; omega)
      rw [e]
      exact ⟨_, _, rfl, f1, f2, fun z => Bool.noConfusion z⟩
    · rw [if_neg (show ¬ iI (hB T a) = 48 from fun z => c8 ((hB_is hT (c := 48) (by decide)).mp z)), if_neg (show ¬ iI (hB T a) = 48 from fun z => c8 ((hB_is hT (c := 48) (by decide)).mp z))]
      have c9 : a < T.1 ∧ 49 ≤ T.2 a ∧ T.2 a ≤ 57 := ⟨c.1, by
        have : ¬ T.2 a = 48 := fun z => c8 ⟨c.1, z⟩
        omega, c.2.2⟩
      have e : k7P T most True a = ((nmD T most (T.1 + 1) a 0).1, if True then -(nmD T most (T.1 + 1) a 0).2 else (nmD T most (T.1 + 1) a 0).2) := if_pos c9
      rw [e]
      obtain ⟨r, M', k1, k2, k3, k4⟩ := digM hT hm True (T.1 + 1) a zFuel 0 M ha (by omega) (zfu (by omega)) ⟨Int.le_refl _, hm.1⟩ h
      have hz1 : zb (a < T.1 ∧ 48 ≤ T.2 a ∧ T.2 a ≤ 57) = 1 := if_pos c
      rw [hz1, if_pos True.intro] at k1
      exact ⟨r, M', k1, k2, k3, k4⟩
  · rw [if_neg c]
    have e : k7P T most True a = ((false, a), 0) := if_neg (fun z => c ⟨z.1, by omega, z.2.2⟩)
    rw [e]
    exact ⟨_, _, rfl, f1, f2, fun z => Bool.noConfusion z⟩
theorem k7P_c {T : zTx} {most : Int} {p q : Prop} [Decidable p] [Decidable q] (h : p ↔ q) (a : Nat) : k7P T most p a = k7P T most q a := by
  unfold k7P
  by_cases hp : p
  · rw [if_pos hp, if_pos (h.mp hp)]
  · rw [if_neg hp, if_neg (fun z => hp (h.mpr z))]
theorem nmP_neg {T : zTx} {most : Int} {below : Bool} {a : Nat} (h : lsP T below a) : nmP T most below a = k7P T most True (a + 1) := by
  have hA : lsA T below a = a + 1 := if_pos h
  rw [k7P_c (show True ↔ lsP T below a from ⟨fun _ => h, fun _ => True.intro⟩)]
  unfold nmP k7P
  rw [hA, if_neg (show ¬ (¬ lsP T below a ∧ a + 1 < T.1 ∧ T.2 (a + 1) = 48) from fun z => z.1 h)]
theorem nmP_pos {T : zTx} {most : Int} {below : Bool} {a : Nat} (h : ¬ lsP T below a) : nmP T most below a = if a < T.1 ∧ T.2 a = 48 then ((true, a + 1), 0) else k7P T most False a := by
  have hA : lsA T below a = a := if_neg h
  rw [k7P_c (show False ↔ lsP T below a from ⟨False.elim, h⟩)]
  unfold nmP k7P
  rw [hA]
  by_cases c : a < T.1 ∧ T.2 a = 48
  · rw [if_pos c, if_pos (show ¬ lsP T below a ∧ a < T.1 ∧ T.2 a = 48 from ⟨h, c⟩)]
  · rw [if_neg c, if_neg (show ¬ (¬ lsP T below a ∧ a < T.1 ∧ T.2 a = 48) from fun z => c z.2)]
theorem bind_here {α β : Type} {o : Option α} {v : α} (h : o = some v) {K : α → Option β} : o.bind K = K v := by rw [h]; rfl
theorem nmnM {T : zTx} (hT : zRT T) {most : Int} (hm : 0 ≤ most ∧ most ≤ 900) (below : Bool) {s : rP} {M : zMem} (h : rSt T s M) (hs : s.2 ≤ T.1) {x1 : Int32} (hx : x1 = bI below) : ∃ r M', FX8_number (iI most) x1 M = some (r, M') ∧ rSt T (nmS T most below s).1 M' ∧ rF0 M M' ∧ ((nmS T most below s).1.1 = true → r = iI (nmS T most below s).2) := by
  have h200 := hT.1
  subst hx
  unfold FX8_number nmS
  cases hb : s.1 with
  | false =>
    rw [h.2.2 hb, if_neg (flt_ne (by omega)), if_neg (show ¬ (false = true) from Bool.noConfusion)]
    exact ⟨_, M, rfl, h, rF0.rf, fun z => absurd (hb.symm.trans z) Bool.noConfusion⟩
  | true =>
    obtain ⟨p1, p2⟩ := h.2.1 hb
    have h' : rSt T (true, s.2) M := by rw [rP_eta hb]; exact h
    rw [p2, if_pos rfl, if_pos rfl]
    simp only [zj_e, zlet_e, if_true]
    rw [p1]
    have z0 : iI (s.2 : Int) + 0 = iI s.2 := by rw [show (0 : Int32) = iI 0 from rfl, iA, Int.add_zero]
    have hsame : zwr M 100 23 (iI s.2) = M := by
      refine Prod.ext (funext fun c => funext fun j => ?_) rfl
      by_cases e : c = 100 ∧ j = 23
      · rw [e.1, e.2, zwr_eq]; exact p1.symm
      · exact if_neg e
    rw [z0, hsame]
    have pos := fun (hn : ¬ lsP T below s.2) => by
      have := posM hT hm h' hs
      rw [← nmP_pos (below := below) (most := most) hn] at this
      exact this
    cases below with
    | false =>
      rw [show bI false = 0 from rfl, if_pos rfl]
      exact pos (fun z => Bool.noConfusion z.1)
    | true =>
      rw [show bI true = 1 from rfl, if_neg (show ¬ (1 : Int32) = 0 by decide), bind_here (here_eq hT h.1 p1 (by omega))]
      by_cases c : s.2 < T.1 ∧ T.2 s.2 = 45
      · rw [if_pos (show iI (hB T s.2) = 45 from (hB_is hT (c := 45) (by decide)).mpr c), iA1]
        have hf : rF0 M (zwr M 100 23 (iI ((s.2 + 1 : Nat) : Int))) := rF0.rf.w (Or.inl rfl)
        have hs1 : rSt T (true, s.2 + 1) (zwr M 100 23 (iI ((s.2 + 1 : Nat) : Int))) := ⟨h.1.f0 hf, fun _ => ⟨zwr_eq, (zwr_nj (by decide)).trans p2⟩, fun z => Bool.noConfusion z⟩
        rw [nmP_neg (show lsP T true s.2 from ⟨rfl, c⟩)]
        obtain ⟨r, M', k1, k2, k3, k4⟩ := negM hT hm hs1 (show s.2 + 1 ≤ T.1 from c.1)
        refine ⟨r, M', ?_, k2, hf.tr k3, k4⟩
        rw [← k1]
        simp only [if_neg (show ¬ (1 : Int32) = 0 by decide)]
      · rw [if_neg (show ¬ iI (hB T s.2) = 45 from fun z => c ((hB_is hT (c := 45) (by decide)).mp z))]
        exact pos (fun z => c z.2)
