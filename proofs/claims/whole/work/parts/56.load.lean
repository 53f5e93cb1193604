/-! ===== trials: load ===== -/
abbrev rwV (L : zL) (P : zPr) (k d r : Nat) (M : zMem) : Prop := rowV k d r (rwP P (lS L k) r) (fun b w => rwP P (bW L b w) r) M
theorem rowV.fr {k d r : Nat} {f : Int} {g : Nat → Nat → Int} {M M' : zMem} (h : rowV k d r f g M) (e1 : M'.1 55 r = M.1 55 r) (e2 : M'.1 (56 + 1 + r) = M.1 (56 + 1 + r)) : rowV k d r f g M' := ⟨e1.trans h.1, fun b w hb hw => by rw [e2]; exact h.2 b w hb hw⟩
theorem rowV.eq {k d r : Nat} {f f' : Int} {g g' : Nat → Nat → Int} {M : zMem} (h : rowV k d r f g M) (e1 : f = f') (e2 : ∀ b w, g b w = g' b w) : rowV k d r f' g' M := ⟨by rw [← e1]; exact h.1, fun b w hb hw => by rw [← e2]; exact h.2 b w hb hw⟩
theorem len4p : ∀ i, i < 10 → zlenI (35 + 1 + i) = 4 := by decide +kernel
theorem len2s : ∀ i, i < 8 → zlenI (46 + 1 + i) = 2 := by decide +kernel
theorem pairStep {L : zL} {P : zPr} {M : zMem} (hL : zCL L M) (hr : zRL L) (hP : zCP P M) (hp : zRP P) {k d i a : Nat} (hk : k ≤ 3) (hkL : k ≤ L.1) (hd : d ≤ 16) (hi : i < P.1) (ha : a ≤ 1) (h12 : M.1 34 12 = iI k) (h13 : M.1 34 13 = iI d) : ∃ M', (rwV L P k d (2 * i + a) M' ∧ zfg (fun c => c = 55 ∨ c = 56 + 1 + (2 * i + a)) M M' ∧ ∀ j, j ≠ 2 * i + a → M'.1 55 j = M.1 55 j) ∧ ∀ (r10 : (Int32 × zMem) → Option zMem) (s11 : Int32 × zMem) (rec : (Int32 × zMem) → Option zMem), s11.1 = iI a → FX6_load_L79 r10 s11 rec (iI i, M) = rec (iI ((i + 1 : Nat) : Int), M') := by
  have hp1 := hp.1
  have hi10 : i < 10 := by omega
  have hx := fun j (hj : j < 4) => hp.2.1 i j hi hj
  have er : (2 : Int32) * iI i + iI a = iI ((2 * i + a : Nat) : Int) := by
    rw [show (2 : Int32) = iI 2 from rfl, iM, iA]
    rfl
  have hv := hP.2.1 i
  have h4 := hP.1
  obtain ⟨M1, a1, a2, a3, a4⟩ := startRow_eq (k := k) (d := d) M (r := 2 * i + a) (by omega) hk hd
  have n1 : ∀ c, ¬ (c = 55 ∨ c = 56 + 1 + (2 * i + a)) → M1.1 c = M.1 c := fun c hc => a3.1 c hc
  have hL1 : zCL L M1 := hL.fr hr.1 (fun c hc => n1 c (by omega)) (by rw [n1 23 (by omega)])
  obtain ⟨M2, b1, b2, b3, b4⟩ := addToRow_eq (s := 1) hL1 hr (by omega) hk hkL hd (hx 0 (by omega)) (hx 1 (by omega)) (a := (a : Int)) (by omega) (by rw [n1 34 (by omega)]; exact h12) (by rw [n1 34 (by omega)]; exact h13) a2
  have n2 : ∀ c, ¬ (c = 55 ∨ c = 56 + 1 + (2 * i + a)) → M2.1 c = M.1 c := fun c hc => (b3.1 c hc).trans (n1 c hc)
  have hL2 : zCL L M2 := hL.fr hr.1 (fun c hc => n2 c (by omega)) (by rw [n2 23 (by omega)])
  obtain ⟨M3, c1, c2, c3, c4⟩ := addToRow_eq (s := -1) hL2 hr (by omega) hk hkL hd (hx 2 (by omega)) (hx 3 (by omega)) (a := (a : Int)) (by omega) (by rw [n2 34 (by omega)]; exact h12) (by rw [n2 34 (by omega)]; exact h13) b2
  have erw : ∀ g : Int → Int → Int → Int, rwP P g (2 * i + a) = g (P.2.1 i 0) (P.2.1 i 1) a - g (P.2.1 i 2) (P.2.1 i 3) a := fun g => by
    unfold rwP
    rw [if_pos (show 2 * i + a < 20 by omega), show (2 * i + a) / 2 = i by omega, show (2 * i + a) % 2 = a by omega]
  refine ⟨M3, ⟨c2.eq ?_ (fun b w => ?_), (a3.tr b3).tr c3, fun j hj => (c4 j hj).trans ((b4 j hj).trans (a4 j hj))⟩, fun r10 s11 rec h11 => ?_⟩
  · rw [erw]; omega
  · rw [erw]; omega
  · have v0 : zrd M1 (zrow 35 (iI i)) 0 = iI (P.2.1 i 0) := by
      rw [zrow_I 35 i (by omega)]
      show M1.1 (35 + 1 + i) 0 = _
      rw [n1 _ (by omega)]; exact hv 0 hi (by omega)
    have v1 : zrd M1 (zrow 35 (iI i)) 1 = iI (P.2.1 i 1) := by
      rw [zrow_I 35 i (by omega)]
      show M1.1 (35 + 1 + i) 1 = _
      rw [n1 _ (by omega)]; exact hv 1 hi (by omega)
    have v2 : zrd M2 (zrow 35 (iI i)) 2 = iI (P.2.1 i 2) := by
      rw [zrow_I 35 i (by omega)]
      show M2.1 (35 + 1 + i) 2 = _
      rw [n2 _ (by omega)]; exact hv 2 hi (by omega)
    have v3 : zrd M2 (zrow 35 (iI i)) 3 = iI (P.2.1 i 3) := by
      rw [zrow_I 35 i (by omega)]
      show M2.1 (35 + 1 + i) 3 = _
      rw [n2 _ (by omega)]; exact hv 3 hi (by omega)
    unfold FX6_load_L79
    rw [h11]
    dsimp only
    rw [h4, if_pos ((iLt (by omega) (by omega)).mpr (by omega)), er, a1, Option.bind_some, v0, v1]
    have hl : zlenI (zrow 35 (iI i)) = 4 := by rw [zrow_I 35 i (by omega)]; exact len4p i hi10
    rw [hl]
    simp only [zgT (show zin (iI (i : Int)) 10 = true from iIn (by omega) (by omega) (by omega)), zgT (show zin (0 : Int32) 4 = true from rfl), zgT (show zin (1 : Int32) 4 = true from rfl), zgT (show zin (2 : Int32) 4 = true from rfl), zgT (show zin (3 : Int32) 4 = true from rfl)]
    have b1' : FX6_addToRow (iI ((2 * i + a : Nat) : Int)) (1 : Int32) (iI (P.2.1 i 0)) (iI (P.2.1 i 1)) (iI a) M1 = some M2 := b1
    have c1' : FX6_addToRow (iI ((2 * i + a : Nat) : Int)) (-1 : Int32) (iI (P.2.1 i 2)) (iI (P.2.1 i 3)) (iI a) M2 = some M3 := c1
    rw [b1', Option.bind_some, v2, v3, c1', Option.bind_some, zlet_e, iA1]
theorem spotStep {L : zL} {P : zPr} {M : zMem} (hL : zCL L M) (hr : zRL L) (hP : zCP P M) (hp : zRP P) {k d i a : Nat} (hk : k ≤ 3) (hkL : k ≤ L.1) (hd : d ≤ 16) (hi : i < P.2.2.1) (ha : a ≤ 1) (h12 : M.1 34 12 = iI k) (h13 : M.1 34 13 = iI d) : ∃ M', (rwV L P k d (20 + 2 * i + a) M' ∧ zfg (fun c => c = 55 ∨ c = 56 + 1 + (20 + 2 * i + a)) M M' ∧ ∀ j, j ≠ 20 + 2 * i + a → M'.1 55 j = M.1 55 j) ∧ ∀ (r10 : (Int32 × zMem) → Option zMem) (s11 : Int32 × zMem) (rec : (Int32 × zMem) → Option zMem), s11.1 = iI a → FX6_load_L167 r10 s11 rec (iI i, M) = rec (iI ((i + 1 : Nat) : Int), M') := by
  have hp2 := hp.2.2.1
  have hi8 : i < 8 := by omega
  have hx := hp.2.2.2.1 i hi
  have er : (20 : Int32) + (2 : Int32) * iI i + iI a = iI ((20 + 2 * i + a : Nat) : Int) := by
    rw [show (2 : Int32) = iI 2 from rfl, show (20 : Int32) = iI 20 from rfl, iM, iA, iA]
    rfl
  have hv := hP.2.2.2.1 i hi
  have h5 := hP.2.2.1
  obtain ⟨M1, a1, a2, a3, a4⟩ := startRow_eq (k := k) (d := d) M (r := 20 + 2 * i + a) (by omega) hk hd
  have n1 : ∀ c, ¬ (c = 55 ∨ c = 56 + 1 + (20 + 2 * i + a)) → M1.1 c = M.1 c := fun c hc => a3.1 c hc
  have hL1 : zCL L M1 := hL.fr hr.1 (fun c hc => n1 c (by omega)) (by rw [n1 23 (by omega)])
  obtain ⟨M2, b1, b2, b3, b4⟩ := addToRow_eq (s := 1) hL1 hr (by omega) hk hkL hd hx.1 hx.2 (a := (a : Int)) (by omega) (by rw [n1 34 (by omega)]; exact h12) (by rw [n1 34 (by omega)]; exact h13) a2
  have erw : ∀ g : Int → Int → Int → Int, rwP P g (20 + 2 * i + a) = g (P.2.2.2.1 i) (P.2.2.2.2.1 i) a := fun g => by
    unfold rwP
    rw [if_neg (show ¬ 20 + 2 * i + a < 20 by omega), show (20 + 2 * i + a - 20) / 2 = i by omega, show (20 + 2 * i + a) % 2 = a by omega]
  refine ⟨M2, ⟨b2.eq ?_ (fun b w => ?_), a3.tr b3, fun j hj => (b4 j hj).trans (a4 j hj)⟩, fun r10 s11 rec h11 => ?_⟩
  · rw [erw]; omega
  · rw [erw]; omega
  · have v0 : zrd M1 (zrow 46 (iI i)) 0 = iI (P.2.2.2.1 i) := by
      rw [zrow_I 46 i (by omega)]
      show M1.1 (46 + 1 + i) 0 = _
      rw [n1 _ (by omega)]; exact hv.1
    have v1 : zrd M1 (zrow 46 (iI i)) 1 = iI (P.2.2.2.2.1 i) := by
      rw [zrow_I 46 i (by omega)]
      show M1.1 (46 + 1 + i) 1 = _
      rw [n1 _ (by omega)]; exact hv.2
    unfold FX6_load_L167
    rw [h11]
    dsimp only
    rw [h5, if_pos ((iLt (by omega) (by omega)).mpr (by omega)), er, a1, Option.bind_some, v0, v1]
    have hl : zlenI (zrow 46 (iI i)) = 2 := by rw [zrow_I 46 i (by omega)]; exact len2s i hi8
    rw [hl]
    simp only [zgT (show zin (iI (i : Int)) 8 = true from iIn (by omega) (by omega) (by omega)), zgT (show zin (0 : Int32) 2 = true from rfl), zgT (show zin (1 : Int32) 2 = true from rfl)]
    have b1' : FX6_addToRow (iI ((20 + 2 * i + a : Nat) : Int)) (1 : Int32) (iI (P.2.2.2.1 i)) (iI (P.2.2.2.2.1 i)) (iI a) M1 = some M2 := b1
    rw [b1', Option.bind_some, zlet_e, iA1]
theorem axisStep {L : zL} {P : zPr} {M : zMem} (hL : zCL L M) (hr : zRL L) (hP : zCP P M) (hp : zRP P) {k d a : Nat} (hk : k ≤ 3) (hkL : k ≤ L.1) (hd : d ≤ 16) (ha : a ≤ 1) (h12 : M.1 34 12 = iI k) (h13 : M.1 34 13 = iI d) (D : Nat → Prop) (hD : ∀ r, r < 36 → D r → r % 2 ≠ a ∧ rwV L P k d r M) (s11 : Int32 × zMem) (h11 : s11.1 = iI a) : ∃ M', (zfg qR M M' ∧ ∀ r, r < 36 → (D r ∨ (rwOn P r ∧ r % 2 = a)) → rwV L P k d r M') ∧ ∀ (r10 : (Int32 × zMem) → Option zMem), zloop (FX6_load_L79 r10 s11) zFuel ((0 : Int32), M) = r10 (iI ((a + 1 : Nat) : Int), M') := by
  have hp1 := hp.1
  have hp2 := hp.2.2.1
  have base : ∀ M1 : zMem, zfg qR M M1 → zCL L M1 ∧ zCP P M1 ∧ M1.1 34 12 = iI k ∧ M1.1 34 13 = iI d := fun M1 f => ⟨hL.zg hr f (fun c h => qR_L h), hP.zg hp f (fun c h => qR_P h), by rw [f.1 34 (by unfold qR; omega)]; exact h12, by rw [f.1 34 (by unfold qR; omega)]; exact h13⟩
  have key2 : ∀ M0 : zMem, zfg qR M M0 → (∀ r, r < 36 → (D r ∨ (r < 2 * P.1 ∧ r % 2 = a)) → rwV L P k d r M0) → ∃ M', (zfg qR M M' ∧ ∀ r, r < 36 → (D r ∨ (rwOn P r ∧ r % 2 = a)) → rwV L P k d r M') ∧ ∀ (r10 : (Int32 × zMem) → Option zMem), zloop (FX6_load_L167 r10 s11) zFuel ((0 : Int32), M0) = r10 (iI ((a + 1 : Nat) : Int), M') := by
    intro M0 f0 v0
    have key := zloop_invK (κ := (Int32 × zMem) → Option zMem) (f := fun r10 => FX6_load_L167 r10 s11) (r := fun r10 st => r10 (iI ((a + 1 : Nat) : Int), st.2)) (fun i st => st.1 = iI (i : Int) ∧ zfg qR M st.2 ∧ ∀ r, r < 36 → (D r ∨ (r < 2 * P.1 ∧ r % 2 = a) ∨ (20 ≤ r ∧ r < 20 + 2 * i ∧ r % 2 = a)) → rwV L P k d r st.2) P.2.2.1 ?_ ?_ P.2.2.1 0 zFuel ((0 : Int32), M0) (Nat.zero_add _) (zfu (by omega)) ⟨rfl, f0, fun r hr36 h => v0 r hr36 (by rcases h with h | h | h; exact Or.inl h; exact Or.inr h; omega)⟩
    · obtain ⟨⟨t1, t2⟩, ⟨-, g1, g2⟩, g3⟩ := key
      refine ⟨t2, ⟨g1, fun r hr36 h => g2 r hr36 ?_⟩, g3⟩
      rcases h with h | ⟨h, h'⟩
      · exact Or.inl h
      · rcases h with h | h
        · exact Or.inr (Or.inl ⟨h, h'⟩)
        · exact Or.inr (Or.inr ⟨h.1, h.2, h'⟩)
    · intro i st hi hI
      obtain ⟨t1, t2⟩ := st
      obtain ⟨f1, f2, f3⟩ := hI
      have f1 : t1 = _ := f1
      have f2 : zfg qR M t2 := f2
      have f3 : ∀ r, r < 36 → _ → rwV L P k d r t2 := f3
      subst f1
      obtain ⟨c1, c2, c3, c4⟩ := base t2 f2
      obtain ⟨M', ⟨w1, w2, w3⟩, w4⟩ := spotStep c1 hr c2 hp hk hkL hd hi ha c3 c4
      refine ⟨(iI ((i + 1 : Nat) : Int), M'), ⟨rfl, f2.tr (w2.mono (fun c hc => by unfold qR; omega)), fun r hr36 h => ?_⟩, fun q rec => w4 q s11 rec h11⟩
      by_cases e : r = 20 + 2 * i + a
      · subst e; exact w1
      · refine (f3 r hr36 ?_).fr (w3 r e) (w2.1 _ (by omega))
        rcases h with h | h | h
        · exact Or.inl h
        · exact Or.inr (Or.inl h)
        · exact Or.inr (Or.inr ⟨h.1, by omega, h.2.2⟩)
    · intro st hI q rec
      obtain ⟨t1, t2⟩ := st
      obtain ⟨f1, f2, -⟩ := hI
      have f1 : t1 = _ := f1
      have f2 : zfg qR M t2 := f2
      subst f1
      obtain ⟨c1, c2, c3, c4⟩ := base t2 f2
      have h5 := c2.2.2.1
      show FX6_load_L167 q s11 rec _ = _
      unfold FX6_load_L167
      rw [h11]
      dsimp only
      rw [h5, if_neg (fun z => by have := (iLt (a := P.2.2.1) (b := P.2.2.1) (by omega) (by omega)).mp z; omega), zlet_e, iA1]
  have key1 := zloop_invK (κ := (Int32 × zMem) → Option zMem) (f := fun r10 => FX6_load_L79 r10 s11) (r := fun r10 st => zloop (FX6_load_L167 r10 s11) zFuel ((0 : Int32), st.2)) (fun i st => st.1 = iI (i : Int) ∧ zfg qR M st.2 ∧ ∀ r, r < 36 → (D r ∨ (r < 2 * i ∧ r % 2 = a)) → rwV L P k d r st.2) P.1 ?_ ?_ P.1 0 zFuel ((0 : Int32), M) (Nat.zero_add _) (zfu (by omega)) ⟨rfl, zfg.rf, fun r hr36 h => (hD r hr36 (by rcases h with h | h; exact h; omega)).2⟩
  · obtain ⟨⟨t1, t2⟩, ⟨-, g1, g2⟩, g3⟩ := key1
    obtain ⟨M', g4, g5⟩ := key2 t2 g1 g2
    exact ⟨M', g4, fun r10 => (g3 r10).trans (g5 r10)⟩
  · intro i st hi hI
    obtain ⟨t1, t2⟩ := st
    obtain ⟨f1, f2, f3⟩ := hI
    have f1 : t1 = _ := f1
    have f2 : zfg qR M t2 := f2
    have f3 : ∀ r, r < 36 → _ → rwV L P k d r t2 := f3
    subst f1
    obtain ⟨c1, c2, c3, c4⟩ := base t2 f2
    obtain ⟨M', ⟨w1, w2, w3⟩, w4⟩ := pairStep c1 hr c2 hp hk hkL hd hi ha c3 c4
    refine ⟨(iI ((i + 1 : Nat) : Int), M'), ⟨rfl, f2.tr (w2.mono (fun c hc => by unfold qR; omega)), fun r hr36 h => ?_⟩, fun q rec => w4 q s11 rec h11⟩
    by_cases e : r = 2 * i + a
    · subst e; exact w1
    · refine (f3 r hr36 ?_).fr (w3 r e) (w2.1 _ (by omega))
      rcases h with h | h
      · exact Or.inl h
      · exact Or.inr ⟨by omega, h.2⟩
  · intro st hI q rec
    obtain ⟨t1, t2⟩ := st
    obtain ⟨f1, f2, -⟩ := hI
    have f1 : t1 = _ := f1
    have f2 : zfg qR M t2 := f2
    subst f1
    obtain ⟨c1, c2, c3, c4⟩ := base t2 f2
    have h4 := c2.1
    show FX6_load_L79 q s11 rec _ = _
    unfold FX6_load_L79
    rw [show (iI ((P.1 : Nat) : Int), t2).2.1 34 4 = iI P.1 from h4, if_neg (show ¬ iI (P.1 : Int) < iI P.1 from fun z => by have := (iLt (a := P.1) (b := P.1) (by omega) (by omega)).mp z; omega)]
theorem axes_eq {L : zL} {P : zPr} {M : zMem} (hL : zCL L M) (hr : zRL L) (hP : zCP P M) (hp : zRP P) {k d : Nat} (hk : k ≤ 3) (hkL : k ≤ L.1) (hd : d ≤ 16) (h12 : M.1 34 12 = iI k) (h13 : M.1 34 13 = iI d) : ∃ M', (zfg qR M M' ∧ ∀ r, r < 36 → rwOn P r → rwV L P k d r M') ∧ zloop FX6_load_L71 zFuel ((0 : Int32), M) = some (zwr (zwr M' 34 16 0) 34 17 0) := by
  have key := zloop_inv (f := FX6_load_L71) (r := fun st => some (zwr (zwr st.2 34 16 0) 34 17 0)) (fun a st => st.1 = iI (a : Int) ∧ zfg qR M st.2 ∧ ∀ r, r < 36 → (rwOn P r ∧ r % 2 < a) → rwV L P k d r st.2) 2 ?_ ?_ 2 0 zFuel ((0 : Int32), M) rfl (zfu (by omega)) ⟨rfl, zfg.rf, fun r _ h => by omega⟩
  · obtain ⟨⟨t1, t2⟩, ⟨-, g1, g2⟩, g3⟩ := key
    exact ⟨t2, ⟨g1, fun r h1 h2 => g2 r h1 ⟨h2, Nat.mod_lt _ (by decide)⟩⟩, g3⟩
  · intro a st ha hI
    obtain ⟨t1, t2⟩ := st
    obtain ⟨f1, f2, f3⟩ := hI
    have f1 : t1 = _ := f1
    have f2 : zfg qR M t2 := f2
    have f3 : ∀ r, r < 36 → _ → rwV L P k d r t2 := f3
    subst f1
    have hL2 : zCL L t2 := hL.zg hr f2 (fun c h => qR_L h)
    have hP2 : zCP P t2 := hP.zg hp f2 (fun c h => qR_P h)
    obtain ⟨M', ⟨w1, w2⟩, w3⟩ := axisStep hL2 hr hP2 hp hk hkL hd (a := a) (by omega) (by rw [f2.1 34 (by unfold qR; omega)]; exact h12) (by rw [f2.1 34 (by unfold qR; omega)]; exact h13) (fun r => rwOn P r ∧ r % 2 < a) (fun r hr36 h => ⟨by omega, f3 r hr36 h⟩) (iI (a : Int), t2) rfl
    refine ⟨(iI ((a + 1 : Nat) : Int), M'), ⟨rfl, f2.tr w1, fun r hr36 h => w2 r hr36 ?_⟩, fun rec => ?_⟩
    · by_cases e : r % 2 = a
      · exact Or.inr ⟨h.1, e⟩
      · exact Or.inl ⟨h.1, by omega⟩
    · unfold FX6_load_L71
      rw [if_pos (show iI (a : Int) < (2 : Int32) from (iLt (b := 2) (by omega) (by omega)).mpr (by omega))]
      exact w3 rec
  · intro st hI rec
    obtain ⟨t1, t2⟩ := st
    obtain ⟨f1, -⟩ := hI
    have f1 : t1 = iI ((2 : Nat) : Int) := f1
    subst f1
    unfold FX6_load_L71
    rw [if_neg (show ¬ iI ((2 : Nat) : Int) < (2 : Int32) by decide)]
    simp only [zlet_e]
theorem digits_eq {M : zMem} {k d : Nat} (hk : k ≤ 3) (h13 : M.1 34 13 = iI d) (h14 : M.1 34 14 = 1) : ∃ M', ((zfg (fun c => c = 34) M M' ∧ ∀ j, j ≠ 14 → M'.1 34 j = M.1 34 j) ∧ M'.1 34 14 = iI (d ^ k : Nat)) ∧ zloop (FX6_load_L45 (iI k)) zFuel ((0 : Int32), M) = zloop FX6_load_L71 zFuel ((0 : Int32), M') := by
  have key := zloop_inv (f := FX6_load_L45 (iI k)) (r := fun st => zloop FX6_load_L71 zFuel ((0 : Int32), st.2)) (fun b st => st.1 = iI (b : Int) ∧ (zfg (fun c => c = 34) M st.2 ∧ ∀ j, j ≠ 14 → st.2.1 34 j = M.1 34 j) ∧ st.2.1 34 14 = iI (d ^ b : Nat)) k ?_ ?_ k 0 zFuel ((0 : Int32), M) (Nat.zero_add _) (zfu (by omega)) ⟨rfl, ⟨zfg.rf, fun _ _ => rfl⟩, h14⟩
  · obtain ⟨⟨t1, t2⟩, ⟨-, g1, g2⟩, g3⟩ := key
    exact ⟨t2, ⟨g1, g2⟩, g3⟩
  · intro b st hb hI
    obtain ⟨t1, t2⟩ := st
    obtain ⟨f1, ⟨f2, f3⟩, f4⟩ := hI
    have f1 : t1 = _ := f1
    have f2 : zfg _ M t2 := f2
    have f3 : ∀ j, j ≠ 14 → t2.1 34 j = M.1 34 j := f3
    have f4 : t2.1 34 14 = _ := f4
    subst f1
    refine ⟨(iI ((b + 1 : Nat) : Int), zwr t2 34 14 (iI (d ^ (b + 1) : Nat))), ⟨rfl, ⟨f2.wr rfl, fun j hj => (zwr_nj hj).trans (f3 j hj)⟩, zwr_eq⟩, fun rec => ?_⟩
    unfold FX6_load_L45
    rw [if_pos (show iI (b : Int) < iI k from (iLt (by omega) (by omega)).mpr (by omega))]
    simp only [zlet_e]
    rw [f4, f3 13 (by decide), h13, iM, iA1, Nat.pow_succ, Int.natCast_mul]
  · intro st hI rec
    obtain ⟨t1, t2⟩ := st
    obtain ⟨f1, -⟩ := hI
    have f1 : t1 = _ := f1
    subst f1
    unfold FX6_load_L45
    rw [if_neg (show ¬ iI (k : Int) < iI k from fun z => by have := (iLt (by omega) (by omega)).mp z; omega)]
theorem zj_e {α ρ : Type} (e : α) (f : α → ρ) : zj e f = f e := Eq.trans rfl rfl
theorem load_eq {S : zSt} {M : zMem} (hC : zIC S M) (hR : zRS S) {n m : Nat} (hn : 1 ≤ n ∧ n ≤ 3) (hnL : n ≤ S.1.1) (hm : 1 ≤ m ∧ m ≤ 15) : ∃ M', FX6_load (iI n) (iI m) M = some M' ∧ zIC S M' ∧ zagM M M' ∧ M'.1 34 16 = 0 ∧ zTrV S.1 S.2.2.1 M' n (m + 1) ∧ (M'.1 34 17 = 0 ∨ zTrG S.1 S.2.2.1 M' n (m + 1)) := by
  unfold FX6_load
  rw [iA1]
  have cold : ∃ M', (zlet (zwr M 34 12 (iI n)) fun M5 => zlet (zwr M5 34 13 (iI ((m + 1 : Nat) : Int))) fun M6 => zlet (zwr M6 34 14 (1 : Int32)) fun M7 => zloop (FX6_load_L45 (iI n)) zFuel ((0 : Int32), M7)) = some M' ∧ zIC S M' ∧ zagM M M' ∧ M'.1 34 16 = 0 ∧ zTrV S.1 S.2.2.1 M' n (m + 1) ∧ (M'.1 34 17 = 0 ∨ zTrG S.1 S.2.2.1 M' n (m + 1)) := by
    simp only [zlet_e]
    obtain ⟨M1, ⟨⟨a1, a2⟩, a3⟩, a4⟩ := digits_eq (M := zwr (zwr (zwr M 34 12 (iI n)) 34 13 (iI ((m + 1 : Nat) : Int))) 34 14 1) (k := n) (d := m + 1) hn.2 (by rw [zwr_nj (by decide), zwr_eq]) zwr_eq
    rw [a4]
    obtain ⟨h1, h2, h3, h4, h5, h6⟩ := hC
    have n1 : ∀ c, c ≠ 34 → M1.1 c = M.1 c := fun c hc => (a1.1 c hc).trans ((zwr_ne hc).trans ((zwr_ne hc).trans (zwr_ne hc)))
    have j1 : ∀ j, j ≠ 12 → j ≠ 13 → j ≠ 14 → M1.1 34 j = M.1 34 j := fun j e1 e2 e3 => (a2 j e3).trans ((zwr_nj e3).trans ((zwr_nj e2).trans (zwr_nj e1)))
    have hL1 : zCL S.1 M1 := h1.fr hR.1.1 (fun c hc => n1 c (by omega)) (by rw [n1 23 (by omega)])
    have hP1 : zCP S.2.2.1 M1 := h3.fr hR.2.2.1 (fun j hj => j1 j (by omega) (by omega) (by omega)) (fun c c1 c2 => n1 c (by omega))
    have h12 : M1.1 34 12 = iI n := (a2 12 (by decide)).trans ((zwr_nj (by decide)).trans ((zwr_nj (by decide)).trans zwr_eq))
    have h13 : M1.1 34 13 = iI ((m + 1 : Nat) : Int) := (a2 13 (by decide)).trans ((zwr_nj (by decide)).trans zwr_eq)
    obtain ⟨M2, ⟨b1, b2⟩, b3⟩ := axes_eq hL1 hR.1 hP1 hR.2.2.1 hn.2 hnL (show m + 1 ≤ 16 by omega) h12 h13
    have n2 : ∀ c, c ≠ 34 → ¬ qR c → (zwr (zwr M2 34 16 0) 34 17 0).1 c = M.1 c := fun c e1 e2 => (zwr_ne e1).trans ((zwr_ne e1).trans ((b1.1 c e2).trans (n1 c e1)))
    have e34 : M2.1 34 = M1.1 34 := b1.1 34 (by unfold qR; omega)
    have j2 : ∀ j, j ≠ 16 → j ≠ 17 → (zwr (zwr M2 34 16 0) 34 17 0).1 34 j = M1.1 34 j := fun j e1 e2 => (zwr_nj e2).trans ((zwr_nj e1).trans (congrFun e34 j))
    have e16 : (zwr (zwr M2 34 16 0) 34 17 0).1 34 16 = 0 := (zwr_nj (by decide)).trans zwr_eq
    have hV : zTrV S.1 S.2.2.1 (zwr (zwr M2 34 16 0) 34 17 0) n (m + 1) := by
      refine ⟨⟨hn.1, hn.2, hnL⟩, ⟨by omega, by omega⟩, (j2 12 (by decide) (by decide)).trans h12, (j2 13 (by decide) (by decide)).trans h13, (j2 14 (by decide) (by decide)).trans a3, fun r hr => ?_⟩
      have hr36 : r < 36 := by
        have q1 := hR.2.2.1.1
        have q2 := hR.2.2.1.2.2.1
        unfold rwOn at hr
        omega
      have := b2 r hr36 hr
      rw [zwr_nc (c := 55) (by decide), zwr_nc (c := 55) (by decide)]
      refine ⟨this.1, fun b w hb hw => ?_⟩
      rw [zwr_nc (by omega), zwr_nc (by omega)]
      exact this.2 b w hb hw
    have f2 : (zwr (zwr M2 34 16 0) 34 17 0).2 = M.2 := b1.2.trans a1.2
    refine ⟨_, b3, ⟨h1.fr hR.1.1 (fun c hc => n2 c (by omega) (by unfold qR; omega)) (by rw [n2 23 (by omega) (by unfold qR; omega)]), h2.fr (by rw [n2 23 (by omega) (by unfold qR; omega)]) (n2 24 (by omega) (by unfold qR; omega)), h3.fr hR.2.2.1 (fun j hj => (j2 j (by omega) (by omega)).trans (j1 j (by omega) (by omega) (by omega))) (fun c c1 c2 => n2 c (by omega) (by unfold qR; omega)), h4.fr (by rw [n2 96 (by omega) (by unfold qR; omega)]) (n2 97 (by omega) (by unfold qR; omega)) (by rw [f2]), h5.fr (by rw [n2 15 (by omega) (by unfold qR; omega)]) (fun c c1 c2 => n2 c (by omega) (by unfold qR; omega)), Or.inr ⟨e16, n, m + 1, hV, Or.inl zwr_eq⟩⟩, ⟨fun c hc => n2 c (by omega) (by unfold qR; omega), by rw [f2]⟩, e16, hV, Or.inl zwr_eq⟩
  simp only [zj_e]
  by_cases c1 : M.1 34 16 = 0
  · rw [if_pos c1]
    by_cases c2 : M.1 34 12 = iI n
    · rw [if_pos c2]
      by_cases c3 : M.1 34 13 = iI ((m + 1 : Nat) : Int)
      · rw [if_pos c3]
        rcases hC.2.2.2.2.2 with h | ⟨-, k, d, hV, hG⟩
        · rw [h] at c1; exact absurd c1 (by decide)
        · have hL8 := hR.1.1
          have ek : k = n := by
            have := hV.2.2.1.symm.trans c2
            have q := hV.1
            have := (iEq (by omega) (by omega)).mp this
            omega
          have ed : d = m + 1 := by
            have := hV.2.2.2.1.symm.trans c3
            have q := hV.2.1
            have := (iEq (by omega) (by omega)).mp this
            omega
          subst ek ed
          exact ⟨M, rfl, hC, zagM.rf, c1, hV, hG⟩
      · rw [if_neg c3]; exact cold
    · rw [if_neg c2]; exact cold
  · rw [if_neg c1]; exact cold
