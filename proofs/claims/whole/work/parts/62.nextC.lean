/-! ===== trials: the class's next look ===== -/
def mxc {α : Type} [DecidableEq α] (κ : Nat → α) : Nat → Nat
  | 0 => 0
  | n + 1 => if mxc κ n < hC onA κ (κ n) (n + 1) then hC onA κ (κ n) (n + 1) else mxc κ n
theorem mxc_s {α : Type} [DecidableEq α] (κ : Nat → α) (n : Nat) : mxc κ (n + 1) = if mxc κ n < hC onA κ (κ n) (n + 1) then hC onA κ (κ n) (n + 1) else mxc κ n := rfl
theorem mxc_le {α : Type} [DecidableEq α] (κ : Nat → α) : ∀ n, mxc κ n ≤ n := by
  intro n
  induction n with
  | zero => exact Nat.le_refl _
  | succ n ih =>
    have := hC_le onA κ (κ n) (n + 1)
    rw [mxc_s]
    by_cases c : mxc κ n < hC onA κ (κ n) (n + 1)
    · rw [if_pos c]; exact this
    · rw [if_neg c]; omega
theorem mxc_is {α : Type} [DecidableEq α] (κ : Nat → α) : ∀ n, (∀ i, i < n → hC onA κ (κ i) n ≤ mxc κ n) ∧ (0 < n → ∃ i, i < n ∧ mxc κ n = hC onA κ (κ i) n) := by
  intro n
  induction n with
  | zero => exact ⟨fun i hi => absurd hi (Nat.not_lt_zero _), fun h => absurd h (Nat.lt_irrefl _)⟩
  | succ n ih =>
    have hm := mxc_s κ n
    have hs : ∀ k : α, hC onA κ k (n + 1) = hC onA κ k n + (if onA n = true ∧ κ n = k then 1 else 0) := fun k => rfl
    have hge : hC onA κ (κ n) (n + 1) ≤ mxc κ (n + 1) := by
      rw [hm]
      by_cases c : mxc κ n < hC onA κ (κ n) (n + 1)
      · rw [if_pos c]; exact Nat.le_refl _
      · rw [if_neg c]; omega
    have hge2 : mxc κ n ≤ mxc κ (n + 1) := by
      rw [hm]
      by_cases c : mxc κ n < hC onA κ (κ n) (n + 1)
      · rw [if_pos c]; omega
      · rw [if_neg c]; exact Nat.le_refl _
    refine ⟨fun i hi => ?_, fun _ => ?_⟩
    · by_cases e : κ n = κ i
      · rw [← e]; exact hge
      · have hin : i < n := by
          by_cases c : i = n
          · subst c; exact absurd rfl e
          · omega
        have := ih.1 i hin
        rw [hs, if_neg (fun z => e z.2)]
        omega
    · by_cases c : mxc κ n < hC onA κ (κ n) (n + 1)
      · exact ⟨n, by omega, by rw [hm, if_pos c]⟩
      · by_cases c0 : 0 < n
        · obtain ⟨i, hi, hv⟩ := ih.2 c0
          refine ⟨i, by omega, ?_⟩
          rw [hm, if_neg c, hs]
          by_cases e : κ n = κ i
          · exfalso
            apply c
            rw [e, hs, if_pos ⟨rfl, e⟩]
            omega
          · rw [if_neg (fun z => e z.2)]
            omega
        · have h0 : n = 0 := by omega
          subst h0
          exfalso
          apply c
          rw [hs, if_pos ⟨rfl, rfl⟩]
          show mxc κ 0 < _
          show 0 < _
          omega
theorem mxc_congr {α β : Type} [DecidableEq α] [DecidableEq β] {κ : Nat → α} {κ' : Nat → β} : ∀ n, (∀ i j, i < n → j < n → (κ i = κ j ↔ κ' i = κ' j)) → mxc κ n = mxc κ' n := by
  intro n
  induction n with
  | zero => intro _; rfl
  | succ n ih =>
    intro h
    rw [mxc_s, mxc_s, ih (fun i j hi hj => h i j (by omega) (by omega)), hC_congr (k := κ n) (k' := κ' n) (n + 1) (fun i hi => h i n hi (by omega))]
theorem bB_max (c : Nat → Nat) : ∀ d j, j < d → c j ≤ c (bB c d) := by
  intro d
  induction d with
  | zero => intro j h; omega
  | succ d ih =>
    intro j hj
    show c j ≤ c (if c (bB c d) < c d then d else bB c d)
    by_cases h : c (bB c d) < c d
    · rw [if_pos h]
      by_cases e : j = d
      · rw [e]; exact Nat.le_refl _
      · have := ih j (by omega); omega
    · rw [if_neg h]
      by_cases e : j = d
      · rw [e]; omega
      · exact ih j (by omega)
theorem best_mxc (κ : Nat → Int) {n : Nat} (hn : 0 < n) : cE onA κ n (bB (cE onA κ n) (hD onA κ n)) = mxc κ n := by
  obtain ⟨m1, m2⟩ := mxc_is κ n
  obtain ⟨i, hi, hv⟩ := m2 hn
  have hb := bB_lt (cE onA κ n) _ (hD_pos κ hn)
  obtain ⟨b1, b2, b3⟩ := hE_is onA κ n _ hb
  have up := m1 _ b1
  obtain ⟨i0, f1, f2, f3⟩ := hFirst (on := onA) (κ := κ) (k := κ i) n ⟨i, hi, rfl, rfl⟩
  have hlt := hD_lt f2 f1
  have := bB_max (cE onA κ n) (hD onA κ n) (hD onA κ i0) hlt
  have he : cE onA κ n (hD onA κ i0) = hC onA κ (κ i) n := by
    show hC onA κ (κ (hE onA κ n (hD onA κ i0))) n = _
    rw [hE_D f1 f2, f3]
  rw [he] at this
  have up : cE onA κ n (bB (cE onA κ n) (hD onA κ n)) ≤ mxc κ n := up
  omega
/-- the spot of the least crowd among the first i -/
def nlB (g : Nat → Nat) (v : Int) : Nat → Int × Int
  | 0 => (-9, v)
  | i + 1 => if (nlB g v i).1 = -9 ∨ ((g i : Nat) : Int) < (nlB g v i).2 then ((i : Nat), (g i : Nat)) else nlB g v i
theorem nlB_s (g : Nat → Nat) (v : Int) (i : Nat) : nlB g v (i + 1) = if (nlB g v i).1 = -9 ∨ ((g i : Nat) : Int) < (nlB g v i).2 then (((i : Nat) : Int), ((g i : Nat) : Int)) else nlB g v i := rfl
theorem nlB_r {g : Nat → Nat} {v : Int} (hv : -9 ≤ v ∧ v ≤ 0) (hg : ∀ i, g i ≤ 4096) : ∀ i, (-9 ≤ (nlB g v i).1 ∧ (nlB g v i).1 ≤ i) ∧ (-9 ≤ (nlB g v i).2 ∧ (nlB g v i).2 ≤ 4096) := by
  intro i
  induction i with
  | zero => exact ⟨⟨by show (-9 : Int) ≤ -9; omega, by show (-9 : Int) ≤ 0; omega⟩, hv.1, by show v ≤ 4096; omega⟩
  | succ i ih =>
    have := hg i
    rw [nlB_s]
    by_cases c : (nlB g v i).1 = -9 ∨ ((g i : Nat) : Int) < (nlB g v i).2
    · rw [if_pos c]
      dsimp only
      omega
    · rw [if_neg c]
      omega
theorem nlB_pos (g : Nat → Nat) (v : Int) : ∀ i, 0 < i → 0 ≤ (nlB g v i).1 ∧ 0 ≤ (nlB g v i).2 := by
  intro i
  induction i with
  | zero => intro h; omega
  | succ i ih =>
    intro _
    rw [nlB_s]
    by_cases c : (nlB g v i).1 = -9 ∨ ((g i : Nat) : Int) < (nlB g v i).2
    · rw [if_pos c]
      exact ⟨Int.natCast_nonneg _, Int.natCast_nonneg _⟩
    · rw [if_neg c]
      by_cases h : 0 < i
      · exact ih h
      · have h0 : i = 0 := by omega
        subst h0
        exact absurd (Or.inl rfl) c
theorem nlB_9 (g : Nat → Nat) (i : Nat) : (nlB g (-9) i).1 = -9 ↔ (nlB g (-9) i).2 = -9 := by
  by_cases h : 0 < i
  · have := nlB_pos g (-9) i h
    omega
  · have h0 : i = 0 := by omega
    subst h0
    exact ⟨fun _ => rfl, fun _ => rfl⟩
theorem nlB_v (g : Nat → Nat) (v v' : Int) : ∀ i, 0 < i → nlB g v i = nlB g v' i := by
  intro i
  induction i with
  | zero => intro h; omega
  | succ i ih =>
    intro _
    by_cases c : i = 0
    · subst c
      have e1 : ∀ v : Int, nlB g v (0 + 1) = (((0 : Nat) : Int), ((g 0 : Nat) : Int)) := fun v => if_pos (Or.inl rfl)
      rw [e1, e1]
    · have ih := ih (by omega)
      rw [nlB_s, nlB_s, ih]
theorem nextC {L : zL} {P : zPr} {M : zMem} {k d len : Nat} {e : Nat → Nat} (hr : zRL L) (hP : zCP P M) (hp : zRP P) (hV : zTrV L P M k d) (h15 : M.1 34 15 = iI len) (hl : len ≤ 4096) (he : ∀ i, i < len → M.1 94 i = iI (e i : Nat) ∧ e i < 4096) : ∃ M', FX6_nextLook M = some (iI (if len = 0 then -9 else (nlB (fun s => mxc (kR L P k d e s 1) len) 0 P.2.2.1).1), M') ∧ zfr [11, 12, 13, 14, 93, 95] M M' := by
  have hp2 := hp.2.2.1
  by_cases c0 : len = 0
  · refine ⟨M, ?_, zfr.rf⟩
    rw [if_pos c0]
    unfold FX6_nextLook
    show zloop _ (999999 + 1) _ = _
    rw [zloop_s]
    unfold FX6_nextLook_L7
    dsimp only
    rw [h15, hP.2.2.1, if_neg (show ¬ (0 : Int32) < iI len from fun z => by have := (iLt (a := 0) (by omega) (by omega)).mp z; omega)]
    by_cases c : (0 : Int32) < iI P.2.2.1
    · rw [if_pos c]; rfl
    · rw [if_neg c]; rfl
  · rw [if_neg c0]
    have hg : ∀ s, (fun s => mxc (kR L P k d e s 1) len) s ≤ 4096 := fun s => Nat.le_trans (mxc_le _ _) hl
    revert hg
    generalize hgd : (fun s => mxc (kR L P k d e s 1) len) = g
    intro hg
    have key := zloop_inv (f := FX6_nextLook_L7) (r := fun st => some (st.1, st.2.2.2)) (fun s st => st.1 = iI (nlB g 0 s).1 ∧ st.2.1 = iI (nlB g 0 s).2 ∧ st.2.2.1 = iI (s : Int) ∧ zfr [11, 12, 13, 14, 93, 95] M st.2.2.2) P.2.2.1 ?_ ?_ P.2.2.1 0 zFuel ((-9 : Int32), (0 : Int32), (0 : Int32), M) (Nat.zero_add _) (zfu (by omega)) ⟨rfl, rfl, rfl, zfr.rf⟩
    · obtain ⟨⟨t1, t2, t3, t4⟩, ⟨g1, -, -, g2⟩, g3⟩ := key
      have g1 : t1 = _ := g1
      refine ⟨t4, ?_, g2⟩
      unfold FX6_nextLook
      rw [g3, g1]
    · intro s st hs hI
      obtain ⟨t1, t2, t3, t4⟩ := st
      obtain ⟨f1, f2, f3, f4⟩ := hI
      have f1 : t1 = _ := f1
      have f2 : t2 = _ := f2
      have f3 : t3 = _ := f3
      have f4 : zfr [11, 12, 13, 14, 93, 95] M t4 := f4
      subst f1 f2 f3
      obtain ⟨M0, a1, a2, a3⟩ := fillQ (q := 95) (n := 4096) (by decide) (by decide) 0 t4
      have f4' : zfr [11, 12, 13, 14, 93, 95] M M0 := f4.tr (a2.mono (by decide))
      have hV3 : zTrV L P M0 k d := hV.fr hp (fun j _ => by rw [f4'.1 34 (by decide)]) (fun c hc => f4'.1 c (by simp only [List.mem_cons, List.not_mem_nil, or_false]; omega))
      obtain ⟨M1, M', κ, h', b1, b2, b3, b4, b5, b6, b7⟩ := split2 (e := e) (h := fun _ => 0) hr hp hV3 hs (by rw [f4'.1 34 (by decide)]; exact h15) hl (fun i hi => by rw [f4'.1 94 (by decide)]; exact he i hi) (fun i hi => ⟨a3 i (by omega), by show 0 < 4096; decide⟩)
      have hpat : ∀ i j, i < len → j < len → (κ i = κ j ↔ kR L P k d e s 1 i = kR L P k d e s 1 j) := by
        intro i j hi hj
        rw [b7 i j hi hj, kR_eq]
        constructor
        · rintro ⟨-, z2, z3⟩ s' hs'
          rw [show s + s' = s by omega]
          exact ⟨z2, z3⟩
        · intro z
          have := z 0 (by omega)
          rw [Nat.add_zero] at this
          exact ⟨rfl, this.1, this.2⟩
      have hpos := hD_pos κ (n := len) (by omega)
      have hgr := greatest_eq b4 hpos hl
      have hbl := bB_lt (cE onA κ len) _ hpos
      have hdl := hD_le onA κ len
      have hnum := (ty_num b4 hbl).2
      rw [best_mxc κ (by omega), mxc_congr len hpat, show mxc (kR L P k d e s 1) len = g s from congrFun hgd s] at hnum
      have hnr := nlB_r (v := 0) (by omega) hg s
      have hgs := hg s
      have h5 : t4.1 34 5 = iI P.2.2.1 := by rw [f4.1 34 (by decide)]; exact hP.2.2.1
      have h15' : t4.1 34 15 = iI len := by rw [f4.1 34 (by decide)]; exact h15
      refine ⟨(iI (nlB g 0 (s + 1)).1, iI (nlB g 0 (s + 1)).2, iI ((s + 1 : Nat) : Int), M'), ⟨rfl, rfl, rfl, f4'.tr b3⟩, fun rec => ?_⟩
      unfold FX6_nextLook_L7
      dsimp only
      rw [h5, h15', if_pos ((iLt (by omega) (by omega)).mpr (by omega)), if_pos (show (0 : Int32) < iI len from (iLt (a := 0) (by omega) (by omega)).mpr (by omega)), a1, Option.bind_some, b1, Option.bind_some, b2, Option.bind_some, hgr, Option.bind_some, zgI (by omega) (by omega) (by omega)]
      simp only [zj_e, zlet_e]
      rw [zrI _ _ (by omega) (by omega), Int.toNat_natCast, hnum, iA1, show (-9 : Int32) = iI (-9) from rfl, nlB_s]
      have q1 : iI (nlB g 0 s).1 = iI (-9) ↔ (nlB g 0 s).1 = -9 := iEq (by omega) (by omega)
      have q2 : iI ((g s : Nat) : Int) < iI (nlB g 0 s).2 ↔ ((g s : Nat) : Int) < (nlB g 0 s).2 := iLt (by omega) (by omega)
      by_cases c1 : (nlB g 0 s).1 = -9
      · rw [if_pos (q1.mpr c1), if_pos (Or.inl c1)]
      · rw [if_neg (fun z => c1 (q1.mp z))]
        by_cases c2 : ((g s : Nat) : Int) < (nlB g 0 s).2
        · rw [if_pos (q2.mpr c2), if_pos (Or.inr c2)]
        · rw [if_neg (fun z => c2 (q2.mp z)), if_neg (fun z => Or.elim z c1 c2)]
    · intro st hI rec
      obtain ⟨t1, t2, t3, t4⟩ := st
      obtain ⟨-, -, f3, f4⟩ := hI
      have f3 : t3 = _ := f3
      have f4 : zfr [11, 12, 13, 14, 93, 95] M t4 := f4
      subst f3
      have h5 : t4.1 34 5 = iI P.2.2.1 := by rw [f4.1 34 (by decide)]; exact hP.2.2.1
      unfold FX6_nextLook_L7
      dsimp only
      rw [h5, if_neg (fun z => by have := (iLt (a := P.2.2.1) (b := P.2.2.1) (by omega) (by omega)).mp z; omega)]
