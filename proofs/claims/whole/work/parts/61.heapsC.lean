/-! ===== trials: the class's heaps ===== -/
theorem shI_spot {L : zL} (P : zPr) {k : Nat} (hk : k ≤ L.1) (d n s a : Nat) (ha : a ≤ 1) : cF (shI L P k d n (20 + 2 * s + a)) = cW L P k d n s a := by
  rw [shI_eq P hk]
  unfold rwP
  rw [if_neg (show ¬ 20 + 2 * s + a < 20 by omega), show (20 + 2 * s + a - 20) / 2 = s by omega, show (20 + 2 * s + a) % 2 = a by omega]
  rfl
theorem cW_le {L : zL} {P : zPr} (hr : zRL L) (hp : zRP P) {k d n s : Nat} (hd : 2 ≤ d ∧ d ≤ 16) (hs : s < P.2.2.1) (a : Int) : -3400 ≤ cW L P k d n s a ∧ cW L P k d n s a ≤ 3400 := by
  have h := hp.2.2.2.1 s hs
  exact cel_le (wL_R hr hd) (by omega) (by omega) a
abbrev kS (L : zL) (P : zPr) (k d : Nat) (e h : Nat → Nat) (s a i : Nat) : Int := (h i : Int) * 8192 + cW L P k d (e i) s a + 4096
theorem kS_r {L : zL} {P : zPr} (hr : zRL L) (hp : zRP P) {k d s a i : Nat} {e h : Nat → Nat} (hd : 2 ≤ d ∧ d ≤ 16) (hs : s < P.2.2.1) (hh : h i < 4096) : 0 ≤ kS L P k d e h s a i ∧ kS L P k d e h s a i ≤ 33554431 := by
  have := cW_le hr hp (k := k) (n := e i) hd hs (a : Int)
  show 0 ≤ (h i : Int) * 8192 + cW L P k d (e i) s a + 4096 ∧ (h i : Int) * 8192 + cW L P k d (e i) s a + 4096 ≤ _
  omega
theorem kS_eq {L : zL} {P : zPr} (hr : zRL L) (hp : zRP P) {k d s a i j : Nat} {e h : Nat → Nat} (hd : 2 ≤ d ∧ d ≤ 16) (hs : s < P.2.2.1) : kS L P k d e h s a i = kS L P k d e h s a j ↔ h i = h j ∧ cW L P k d (e i) s a = cW L P k d (e j) s a := by
  have h1 := cW_le hr hp (k := k) (n := e i) hd hs (a : Int)
  have h2 := cW_le hr hp (k := k) (n := e j) hd hs (a : Int)
  show (h i : Int) * 8192 + cW L P k d (e i) s a + 4096 = (h j : Int) * 8192 + cW L P k d (e j) s a + 4096 ↔ _
  omega
theorem splitHC {L : zL} {P : zPr} {M : zMem} {k d len s a : Nat} {e h : Nat → Nat} (hr : zRL L) (hp : zRP P) (hV : zTrV L P M k d) (hs : s < P.2.2.1) (ha : a ≤ 1) (h15 : M.1 34 15 = iI len) (hl : len ≤ 4096) (he : ∀ i, i < len → M.1 94 i = iI (e i : Nat) ∧ e i < 4096) (hh : ∀ i, i < len → M.1 95 i = iI (h i : Nat) ∧ h i < 4096) : ∃ M', FX6_splitHeaps (iI ((20 + 2 * s + a : Nat) : Int)) M = some M' ∧ zfr [11, 12, 13, 14, 93, 95] M M' ∧ tyA onA (kS L P k d e h s a) len M' ∧ ∀ i, i < len → ∃ i0, i0 < len ∧ hF onA (kS L P k d e h s a) i0 = true ∧ kS L P k d e h s a i0 = kS L P k d e h s a i ∧ M'.1 95 i = iI (hD onA (kS L P k d e h s a) i0 : Nat) := by
  have hk := hV.1
  have hd := hV.2.1
  have hp2 := hp.2.2.1
  have hon : rwOn P (20 + 2 * s + a) := Or.inr ⟨by omega, by omega⟩
  obtain ⟨M1, a1, a2, a3⟩ := ty_start M onA (kS L P k d e h s a)
  have key := zloop_inv (f := FX6_splitHeaps_L9 (iI ((20 + 2 * s + a : Nat) : Int))) (r := fun st => some st.2) (fun i st => st.1 = iI (i : Int) ∧ zfr [11, 12, 13, 14, 93, 95] M st.2 ∧ tyA onA (kS L P k d e h s a) i st.2 ∧ (∀ j, i ≤ j → st.2.1 95 j = M.1 95 j) ∧ ∀ j, j < i → ∃ i0, i0 < i ∧ hF onA (kS L P k d e h s a) i0 = true ∧ kS L P k d e h s a i0 = kS L P k d e h s a j ∧ st.2.1 95 j = iI (hD onA (kS L P k d e h s a) i0 : Nat)) len ?_ ?_ len 0 zFuel ((0 : Int32), M1) (Nat.zero_add _) (zfu (by omega)) ⟨rfl, a2.mono (by decide), a3, fun j _ => by rw [a2.1 95 (by decide)], fun j hj => absurd hj (Nat.not_lt_zero _)⟩
  · obtain ⟨⟨t1, t2⟩, ⟨-, g1, g2, -, g3⟩, g4⟩ := key
    refine ⟨t2, ?_, g1, g2, g3⟩
    unfold FX6_splitHeaps
    rw [a1, Option.bind_some, g4]
  · intro i st hi hI
    obtain ⟨t1, t2⟩ := st
    obtain ⟨f1, f2, f3, f4, f5⟩ := hI
    have f1 : t1 = _ := f1
    have f2 : zfr [11, 12, 13, 14, 93, 95] M t2 := f2
    have f3 : tyA onA _ i t2 := f3
    have f4 : ∀ j, i ≤ j → t2.1 95 j = M.1 95 j := f4
    have f5 : ∀ j, j < i → ∃ i0, i0 < i ∧ hF onA (kS L P k d e h s a) i0 = true ∧ kS L P k d e h s a i0 = kS L P k d e h s a j ∧ t2.1 95 j = iI (hD onA (kS L P k d e h s a) i0 : Nat) := f5
    subst f1
    have e34 : t2.1 34 = M.1 34 := f2.1 34 (by decide)
    have e94 : t2.1 94 i = iI (e i : Nat) := (congrFun (f2.1 94 (by decide)) i).trans (he i hi).1
    have hei := (he i hi).2
    have hhi := hh i hi
    obtain ⟨M2, b1, b2, b3⟩ := aim_eq (M := t2) (k := k) (d := d) (n := e i) hk.2.1 hd (by omega) (by rw [e34]; exact hV.2.2.1) (by rw [e34]; exact hV.2.2.2.1)
    have n2 : ∀ c, c ∉ [11, 12, 13, 14, 93, 95] → M2.1 c = M.1 c := fun c hc => (b2.1 c (fun z => hc (by simp only [List.mem_cons, List.not_mem_nil, or_false] at z ⊢; omega))).trans (f2.1 c hc)
    have hrow : rwV L P k d (20 + 2 * s + a) M2 := (hV.row hon).fr (by rw [n2 55 (by decide)]) (by rw [n2 (56 + 1 + (20 + 2 * s + a)) (by simp only [List.mem_cons, List.not_mem_nil, or_false]; omega)])
    have hsh := shown_eq (n := e i) hk.2.1 hd (show 20 + 2 * s + a < 36 by omega) (by rw [n2 34 (by decide)]; exact hV.2.2.1) hrow b3
    have hle := shI_le hr hp (n := e i) hk.2.2 hd hon
    have ty2 : tyA onA (kS L P k d e h s a) i M2 := f3.fr b2 (by decide)
    have hdl := hD_le onA (kS L P k d e h s a) i
    obtain ⟨i0, M3, c1, c2, c3, c4, c5, c6⟩ := ty_step ty2 rfl (by omega) (fun j hj => by have := kS_r hr hp (k := k) (a := a) (i := j) (e := e) (h := h) hd hs (hh j (by omega)).2; omega)
    have e95 : M2.1 95 i = iI (h i : Nat) := by rw [b2.1 95 (by decide), f4 i (Nat.le_refl _)]; exact hhi.1
    refine ⟨(iI ((i + 1 : Nat) : Int), zwr M3 95 i (iI (hD onA (kS L P k d e h s a) i0 : Nat))), ⟨rfl, ((f2.tr (b2.mono (by decide))).tr (c5.mono (by decide))).wr (by decide), c6.fr ((zfr.rf (S := [95])).wr (by decide)) (by decide), fun j hj => ?_, fun j hj => ?_⟩, fun rec => ?_⟩
    · refine (zwr_nj (by omega)).trans ?_
      rw [c5.1 95 (by decide), b2.1 95 (by decide)]
      exact f4 j (by omega)
    · by_cases ej : j = i
      · subst ej
        exact ⟨i0, c1, c2, c3, zwr_eq⟩
      · obtain ⟨i1, d1, d2, d3, d4⟩ := f5 j (by omega)
        refine ⟨i1, by omega, d2, d3, (zwr_nj ej).trans ?_⟩
        rw [c5.1 95 (by decide), b2.1 95 (by decide)]
        exact d4
    · unfold FX6_splitHeaps_L9
      dsimp only
      rw [e34, h15, if_pos ((iLt (by omega) (by omega)).mpr (by omega)), zgI (by omega) (by omega) (by omega), zrI _ _ (by omega) (by omega), Int.toNat_natCast, e94, b1, Option.bind_some, zgI (by omega) (by omega) (by omega), hsh, Option.bind_some, cellOf_eq (by omega) (by omega), Option.bind_some, shI_spot P hk.2.2 d (e i) s a ha, zrI _ _ (by omega) (by omega), Int.toNat_natCast, e95, show (8192 : Int32) = iI 8192 from rfl, show (4096 : Int32) = iI 4096 from rfl, iM, iA, iA, c4, Option.bind_some, zgI (by omega) (by omega) (by omega)]
      simp only [zlet_e]
      rw [iC (by omega) (by omega), Int.toNat_natCast, iA1]
  · intro st hI rec
    obtain ⟨t1, t2⟩ := st
    obtain ⟨f1, f2, -⟩ := hI
    have f1 : t1 = _ := f1
    have f2 : zfr [11, 12, 13, 14, 93, 95] M t2 := f2
    subst f1
    unfold FX6_splitHeaps_L9
    dsimp only
    rw [f2.1 34 (by decide), h15, if_neg (fun z => by have := (iLt (a := len) (b := len) (by omega) (by omega)).mp z; omega)]
/-- what is behind a split: numbers by keys -/
theorem split_h {κ : Nat → Int} {len : Nat} {M : zMem} (hl : len ≤ 4096) (h : ∀ i, i < len → ∃ i0, i0 < len ∧ hF onA κ i0 = true ∧ κ i0 = κ i ∧ M.1 95 i = iI (hD onA κ i0 : Nat)) : (∀ i, i < len → M.1 95 i = iI (zcl (M.1 95 i) : Nat) ∧ zcl (M.1 95 i) < 4096) ∧ ∀ i j, i < len → j < len → (zcl (M.1 95 i) = zcl (M.1 95 j) ↔ κ i = κ j) := by
  have hz : ∀ i, i < len → ∃ i0, i0 < len ∧ hF onA κ i0 = true ∧ κ i0 = κ i ∧ M.1 95 i = iI (hD onA κ i0 : Nat) ∧ zcl (M.1 95 i) = hD onA κ i0 := fun i hi => by
    obtain ⟨i0, a1, a2, a3, a4⟩ := h i hi
    have := hD_le onA κ i0
    refine ⟨i0, a1, a2, a3, a4, ?_⟩
    rw [a4, iC (by omega) (by omega), Int.toNat_natCast]
  refine ⟨fun i hi => ?_, fun i j hi hj => ?_⟩
  · obtain ⟨i0, a1, a2, a3, a4, a5⟩ := hz i hi
    have := hD_le onA κ i0
    rw [a5]
    exact ⟨a4, by omega⟩
  · obtain ⟨i0, a1, a2, a3, a4, a5⟩ := hz i hi
    obtain ⟨j0, b1, b2, b3, b4, b5⟩ := hz j hj
    rw [a5, b5, ← a3, ← b3]
    constructor
    · intro z
      rw [hD_inj a2 b2 z]
    · intro z
      rw [hF_uniq a2 b2 z]
/-- the cells of the spots f .. f + t - 1, of the fitting models -/
def kR (L : zL) (P : zPr) (k d : Nat) (e : Nat → Nat) (f t i : Nat) : List (Int × Int) := (List.range t).map (fun s => (cW L P k d (e i) (f + s) 0, cW L P k d (e i) (f + s) 1))
theorem kR_eq {L : zL} {P : zPr} {k d f t i j : Nat} {e : Nat → Nat} : kR L P k d e f t i = kR L P k d e f t j ↔ ∀ s, s < t → cW L P k d (e i) (f + s) 0 = cW L P k d (e j) (f + s) 0 ∧ cW L P k d (e i) (f + s) 1 = cW L P k d (e j) (f + s) 1 := by
  unfold kR
  rw [List.map_inj_left]
  constructor
  · intro z s hs
    have := z s (List.mem_range.mpr hs)
    exact ⟨congrArg Prod.fst this, congrArg Prod.snd this⟩
  · intro z s hs
    have := z s (List.mem_range.mp hs)
    rw [this.1, this.2]
/-- both splits of a spot -/
theorem split2 {L : zL} {P : zPr} {M : zMem} {k d len s : Nat} {e h : Nat → Nat} (hr : zRL L) (hp : zRP P) (hV : zTrV L P M k d) (hs : s < P.2.2.1) (h15 : M.1 34 15 = iI len) (hl : len ≤ 4096) (he : ∀ i, i < len → M.1 94 i = iI (e i : Nat) ∧ e i < 4096) (hh : ∀ i, i < len → M.1 95 i = iI (h i : Nat) ∧ h i < 4096) : ∃ (M1 M' : zMem) (κ : Nat → Int) (h' : Nat → Nat), FX6_splitHeaps ((20 : Int32) + (2 : Int32) * iI s) M = some M1 ∧ FX6_splitHeaps (((20 : Int32) + (2 : Int32) * iI s) + 1) M1 = some M' ∧ zfr [11, 12, 13, 14, 93, 95] M M' ∧ tyA onA κ len M' ∧ (∀ i, i < len → M'.1 95 i = iI (h' i : Nat) ∧ h' i < 4096) ∧ (∀ i j, i < len → j < len → (h' i = h' j ↔ κ i = κ j)) ∧ ∀ i j, i < len → j < len → (κ i = κ j ↔ h i = h j ∧ cW L P k d (e i) s 0 = cW L P k d (e j) s 0 ∧ cW L P k d (e i) s 1 = cW L P k d (e j) s 1) := by
  have e0 : (20 : Int32) + (2 : Int32) * iI s = iI ((20 + 2 * s + 0 : Nat) : Int) := by
    rw [show (20 : Int32) = iI 20 from rfl, show (2 : Int32) = iI 2 from rfl, iM, iA]
    rfl
  have e1 : iI ((20 + 2 * s + 0 : Nat) : Int) + 1 = iI ((20 + 2 * s + 1 : Nat) : Int) := iA1 _
  obtain ⟨M1, a1, a2, a3, a4⟩ := splitHC (a := 0) hr hp hV hs (by omega) h15 hl he hh
  obtain ⟨b1, b2⟩ := split_h hl a4
  have hV1 : zTrV L P M1 k d := hV.fr hp (fun j _ => by rw [a2.1 34 (by decide)]) (fun c hc => a2.1 c (by simp only [List.mem_cons, List.not_mem_nil, or_false]; omega))
  obtain ⟨M2, c1, c2, c3, c4⟩ := splitHC (a := 1) (e := e) (h := fun i => zcl (M1.1 95 i)) hr hp hV1 hs (by omega) (by rw [a2.1 34 (by decide)]; exact h15) hl (fun i hi => by rw [a2.1 94 (by decide)]; exact he i hi) b1
  obtain ⟨d1, d2⟩ := split_h hl c4
  refine ⟨M1, M2, _, fun i => zcl (M2.1 95 i), ?_, ?_, a2.tr c2, c3, d1, d2, fun i j hi hj => ?_⟩
  · rw [e0]; exact a1
  · rw [e0, e1]; exact c1
  · rw [kS_eq hr hp hV.2.1 hs, b2 i j hi hj, kS_eq hr hp hV.2.1 hs]
    exact ⟨fun z => ⟨z.1.1, z.1.2, z.2⟩, fun z => ⟨⟨z.1, z.2.1⟩, z.2.2⟩⟩
theorem hD_const {α : Type} [DecidableEq α] {κ : Nat → α} (h : ∀ i j, κ i = κ j) : ∀ n, hD onA κ n = if 0 < n then 1 else 0 := by
  intro n
  induction n with
  | zero => rfl
  | succ n ih =>
    by_cases c : n = 0
    · subst c
      rw [hD_p (hF_iff.mpr ⟨rfl, fun i hi => absurd hi (Nat.not_lt_zero _)⟩)]
      rfl
    · rw [hD_n (fun z => (hF_iff.mp z).2 0 (by omega) rfl (h 0 n)), ih, if_pos (by omega), if_pos (by omega)]
theorem twinsC {L : zL} {P : zPr} {M : zMem} {k d len : Nat} {e : Nat → Nat} (hr : zRL L) (hP : zCP P M) (hp : zRP P) (hV : zTrV L P M k d) (h15 : M.1 34 15 = iI len) (hl : len ≤ 4096) (he : ∀ i, i < len → M.1 94 i = iI (e i : Nat) ∧ e i < 4096) : ∃ M', FX6_twins M = some (iI (hD onA (kR L P k d e 0 P.2.2.1) len : Nat), M') ∧ zfr [11, 12, 13, 14, 93, 95] M M' := by
  have hp2 := hp.2.2.1
  obtain ⟨M0, a1, a2, a3⟩ := fillQ (q := 95) (n := 4096) (by decide) (by decide) 0 M
  have key := zloop_inv (f := FX6_twins_L23) (r := fun st => some (st.1, st.2.2)) (fun s st => st.1 = iI (hD onA (kR L P k d e 0 s) len : Nat) ∧ st.2.1 = iI (s : Int) ∧ zfr [11, 12, 13, 14, 93, 95] M st.2.2 ∧ ∃ h : Nat → Nat, (∀ i, i < len → st.2.2.1 95 i = iI (h i : Nat) ∧ h i < 4096) ∧ ∀ i j, i < len → j < len → (h i = h j ↔ kR L P k d e 0 s i = kR L P k d e 0 s j)) P.2.2.1 ?_ ?_ P.2.2.1 0 zFuel (iI (hD onA (kR L P k d e 0 0) len : Nat), (0 : Int32), M0) (Nat.zero_add _) (zfu (by omega)) ⟨rfl, rfl, a2.mono (by decide), fun _ => 0, fun i hi => ⟨a3 i (by omega), by show 0 < 4096; decide⟩, fun i j _ _ => ⟨fun _ => rfl, fun _ => rfl⟩⟩
  · obtain ⟨⟨t1, t2, t3⟩, ⟨g1, -, g2, -⟩, g3⟩ := key
    have g1 : t1 = _ := g1
    refine ⟨t3, ?_, g2⟩
    have e0 := hD_const (κ := kR L P k d e 0 0) (fun _ _ => rfl) len
    unfold FX6_twins
    rw [zj_e]
    dsimp only
    rw [h15, a1]
    by_cases c : 0 < len
    · rw [if_pos c] at e0
      rw [e0] at g3
      rw [if_pos (show (0 : Int32) < iI len from (iLt (a := 0) (by omega) (by omega)).mpr (by omega)), Option.bind_some]
      exact g3.trans (by rw [g1])
    · rw [if_neg c] at e0
      rw [e0] at g3
      rw [if_neg (show ¬ (0 : Int32) < iI len from fun z => by have := (iLt (a := 0) (by omega) (by omega)).mp z; omega), Option.bind_some]
      exact g3.trans (by rw [g1])
  · intro s st hs hI
    obtain ⟨t1, t2, t3⟩ := st
    obtain ⟨f1, f2, f3, h, f4, f5⟩ := hI
    have f1 : t1 = _ := f1
    have f2 : t2 = _ := f2
    have f3 : zfr [11, 12, 13, 14, 93, 95] M t3 := f3
    subst f1 f2
    have hV3 : zTrV L P t3 k d := hV.fr hp (fun j _ => by rw [f3.1 34 (by decide)]) (fun c hc => f3.1 c (by simp only [List.mem_cons, List.not_mem_nil, or_false]; omega))
    obtain ⟨M1, M', κ, h', b1, b2, b3, b4, b5, b6, b7⟩ := split2 (e := e) (h := h) hr hp hV3 hs (by rw [f3.1 34 (by decide)]; exact h15) hl (fun i hi => by rw [f3.1 94 (by decide)]; exact he i hi) f4
    have hpat : ∀ i j, i < len → j < len → (κ i = κ j ↔ kR L P k d e 0 (s + 1) i = kR L P k d e 0 (s + 1) j) := by
      intro i j hi hj
      rw [b7 i j hi hj, f5 i j hi hj, kR_eq, kR_eq]
      constructor
      · rintro ⟨z1, z2, z3⟩ s' hs'
        by_cases c : s' = s
        · rw [c, Nat.zero_add]; exact ⟨z2, z3⟩
        · exact z1 s' (by omega)
      · intro z
        have := z s (by omega)
        rw [Nat.zero_add] at this
        exact ⟨fun s' hs' => z s' (by omega), this.1, this.2⟩
    refine ⟨(iI (hD onA (kR L P k d e 0 (s + 1)) len : Nat), iI ((s + 1 : Nat) : Int), M'), ⟨rfl, rfl, f3.tr b3, h', b5, fun i j hi hj => (b6 i j hi hj).trans (hpat i j hi hj)⟩, fun rec => ?_⟩
    have h5 : t3.1 34 5 = iI P.2.2.1 := by rw [f3.1 34 (by decide)]; exact hP.2.2.1
    unfold FX6_twins_L23
    dsimp only
    rw [h5, if_pos ((iLt (by omega) (by omega)).mpr (by omega)), b1, Option.bind_some, b2, Option.bind_some]
    simp only [zlet_e]
    rw [b4.1, iA1, hD_congr len hpat]
  · intro st hI rec
    obtain ⟨t1, t2, t3⟩ := st
    obtain ⟨-, f2, f3, -⟩ := hI
    have f2 : t2 = _ := f2
    have f3 : zfr [11, 12, 13, 14, 93, 95] M t3 := f3
    subst f2
    have h5 : t3.1 34 5 = iI P.2.2.1 := by rw [f3.1 34 (by decide)]; exact hP.2.2.1
    unfold FX6_twins_L23
    dsimp only
    rw [h5, if_neg (fun z => by have := (iLt (a := P.2.2.1) (b := P.2.2.1) (by omega) (by omega)).mp z; omega)]
