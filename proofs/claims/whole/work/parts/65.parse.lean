/-! ===== read: the text's grammar, as pictures; a state is (still right, place or fault) ===== -/
abbrev rP : Type := Bool × Nat
def sgS (T : zTx) (c : Int) (s : rP) : rP := if s.1 = true then (if s.2 < T.1 ∧ T.2 s.2 = c then (true, s.2 + 1) else (false, s.2)) else s
def nmD (T : zTx) (most : Int) : Nat → Nat → Int → rP × Int
  | 0, a, v => ((true, a), v)
  | f + 1, a, v => if a < T.1 ∧ 48 ≤ T.2 a ∧ T.2 a ≤ 57 then (if most < 10 * v + T.2 a - 48 then ((false, a), 0) else nmD T most f (a + 1) (10 * v + T.2 a - 48)) else ((true, a), v)
abbrev lsP (T : zTx) (below : Bool) (a : Nat) : Prop := below = true ∧ a < T.1 ∧ T.2 a = 45
def lsA (T : zTx) (below : Bool) (a : Nat) : Nat := if lsP T below a then a + 1 else a
def nmP (T : zTx) (most : Int) (below : Bool) (a : Nat) : rP × Int :=
  if ¬ lsP T below a ∧ lsA T below a < T.1 ∧ T.2 (lsA T below a) = 48 then ((true, lsA T below a + 1), 0)
  else if lsA T below a < T.1 ∧ 49 ≤ T.2 (lsA T below a) ∧ T.2 (lsA T below a) ≤ 57 then ((nmD T most (T.1 + 1) (lsA T below a) 0).1, if lsP T below a then -(nmD T most (T.1 + 1) (lsA T below a) 0).2 else (nmD T most (T.1 + 1) (lsA T below a) 0).2)
  else ((false, lsA T below a), 0)
def nmS (T : zTx) (most : Int) (below : Bool) (s : rP) : rP × Int := if s.1 = true then nmP T most below s.2 else (s, 0)
theorem sgS_le {T : zTx} {c : Int} {s : rP} (h : s.2 ≤ T.1) : (sgS T c s).2 ≤ T.1 := by
  unfold sgS
  by_cases h1 : s.1 = true
  · rw [if_pos h1]
    by_cases h2 : s.2 < T.1 ∧ T.2 s.2 = c
    · rw [if_pos h2]; exact h2.1
    · rw [if_neg h2]; exact h
  · rw [if_neg h1]; exact h
theorem nmD_r (T : zTx) {most : Int} : ∀ f a v, a ≤ T.1 → 0 ≤ v ∧ v ≤ most → (nmD T most f a v).1.2 ≤ T.1 ∧ 0 ≤ (nmD T most f a v).2 ∧ (nmD T most f a v).2 ≤ most := by
  intro f
  induction f with
  | zero => intro a v ha hv; exact ⟨ha, hv⟩
  | succ f ih =>
    intro a v ha hv
    show (if a < T.1 ∧ 48 ≤ T.2 a ∧ T.2 a ≤ 57 then (if most < 10 * v + T.2 a - 48 then ((false, a), 0) else nmD T most f (a + 1) (10 * v + T.2 a - 48)) else ((true, a), v) : rP × Int).1.2 ≤ T.1 ∧ 0 ≤ (if a < T.1 ∧ 48 ≤ T.2 a ∧ T.2 a ≤ 57 then (if most < 10 * v + T.2 a - 48 then ((false, a), 0) else nmD T most f (a + 1) (10 * v + T.2 a - 48)) else ((true, a), v) : rP × Int).2 ∧ (if a < T.1 ∧ 48 ≤ T.2 a ∧ T.2 a ≤ 57 then (if most < 10 * v + T.2 a - 48 then ((false, a), 0) else nmD T most f (a + 1) (10 * v + T.2 a - 48)) else ((true, a), v) : rP × Int).2 ≤ most
    by_cases c : a < T.1 ∧ 48 ≤ T.2 a ∧ T.2 a ≤ 57
    · rw [if_pos c]
      by_cases c2 : most < 10 * v + T.2 a - 48
      · rw [if_pos c2]; exact ⟨ha, Int.le_refl _, by show (0 : Int) ≤ most; omega⟩
      · rw [if_neg c2]; exact ih (a + 1) _ (by omega) (by omega)
    · rw [if_neg c]; exact ⟨ha, hv⟩
theorem lsA_le {T : zTx} {below : Bool} {a : Nat} (h : a ≤ T.1) : lsA T below a ≤ T.1 := by
  unfold lsA
  by_cases c : lsP T below a
  · rw [if_pos c]; exact c.2.1
  · rw [if_neg c]; exact h
theorem nmP_r {T : zTx} {most : Int} (hm : 0 ≤ most) (below : Bool) {a : Nat} (h : a ≤ T.1) : (nmP T most below a).1.2 ≤ T.1 ∧ (-most ≤ (nmP T most below a).2 ∧ (nmP T most below a).2 ≤ most) ∧ (below = false → 0 ≤ (nmP T most below a).2) := by
  have ha := lsA_le (below := below) h
  unfold nmP
  by_cases c1 : ¬ lsP T below a ∧ lsA T below a < T.1 ∧ T.2 (lsA T below a) = 48
  · rw [if_pos c1]
    exact ⟨c1.2.1, ⟨by show -most ≤ (0 : Int); omega, hm⟩, fun _ => Int.le_refl _⟩
  · rw [if_neg c1]
    by_cases c2 : lsA T below a < T.1 ∧ 49 ≤ T.2 (lsA T below a) ∧ T.2 (lsA T below a) ≤ 57
    · rw [if_pos c2]
      have := nmD_r T (most := most) (T.1 + 1) _ 0 ha ⟨Int.le_refl _, hm⟩
      by_cases c3 : lsP T below a
      · rw [if_pos c3]
        refine ⟨this.1, ⟨by dsimp only; omega, by dsimp only; omega⟩, fun z => ?_⟩
        rw [z] at c3
        exact absurd c3.1 (by decide)
      · rw [if_neg c3]
        exact ⟨this.1, ⟨by dsimp only; omega, this.2.2⟩, fun _ => this.2.1⟩
    · rw [if_neg c2]
      exact ⟨ha, ⟨by show -most ≤ (0 : Int); omega, hm⟩, fun _ => Int.le_refl _⟩
theorem nmS_r {T : zTx} {most : Int} (hm : 0 ≤ most) (below : Bool) {s : rP} (h : s.2 ≤ T.1) : (nmS T most below s).1.2 ≤ T.1 ∧ (-most ≤ (nmS T most below s).2 ∧ (nmS T most below s).2 ≤ most) ∧ (below = false → 0 ≤ (nmS T most below s).2) := by
  unfold nmS
  by_cases c : s.1 = true
  · rw [if_pos c]; exact nmP_r hm below h
  · rw [if_neg c]; exact ⟨h, ⟨by show -most ≤ (0 : Int); omega, hm⟩, fun _ => Int.le_refl _⟩
/-- an item behind its first sign, by its stages -/
def i1 (T : zTx) (a : Nat) : rP × Int := nmS T 40 true (true, a + 1)
def i2 (T : zTx) (a : Nat) : rP × Int := nmS T 40 true (sgS T 44 (i1 T a).1)
def i3 (T : zTx) (a : Nat) : rP × Int := nmS T 400 false (sgS T 119 (i2 T a).1)
def i4 (T : zTx) (a : Nat) : rP × Int := nmS T 900 false (sgS T 111 (i3 T a).1)
def i5 (T : zTx) (a : Nat) : rP × Int := nmS T 90 false (sgS T 101 (i4 T a).1)
def itK (T : zTx) (a : Nat) : Int := if T.2 a = 112 then 0 else if T.2 a = 115 then 1 else 2
abbrev isK (T : zTx) (a : Nat) : Prop := a < T.1 ∧ (T.2 a = 112 ∨ T.2 a = 115 ∨ T.2 a = 99)
def itE (T : zTx) (a : Nat) : rP := if itK T a = 0 then (i3 T a).1 else if itK T a = 1 then (i4 T a).1 else (i5 T a).1
def itS (T : zTx) (a : Nat) : rP := if isK T a then sgS T 59 (itE T a) else (false, a)
def itF (T : zTx) (a : Nat) (f : Nat) : Int := if f = 0 then itK T a else if f = 1 then (i1 T a).2 else if f = 2 then (i2 T a).2 else if f = 3 then (i3 T a).2 else if f = 4 then (if itK T a = 0 then 0 else (i4 T a).2) else (if itK T a = 2 then (i5 T a).2 else 90)
theorem itK_r (T : zTx) (a : Nat) : itK T a = 0 ∨ itK T a = 1 ∨ itK T a = 2 := by
  unfold itK
  by_cases c : T.2 a = 112
  · rw [if_pos c]; exact Or.inl rfl
  · rw [if_neg c]
    by_cases c2 : T.2 a = 115
    · rw [if_pos c2]; exact Or.inr (Or.inl rfl)
    · rw [if_neg c2]; exact Or.inr (Or.inr rfl)
theorem i_r {T : zTx} {a : Nat} (h : a < T.1) : ((i1 T a).1.2 ≤ T.1 ∧ -40 ≤ (i1 T a).2 ∧ (i1 T a).2 ≤ 40) ∧ ((i2 T a).1.2 ≤ T.1 ∧ -40 ≤ (i2 T a).2 ∧ (i2 T a).2 ≤ 40) ∧ ((i3 T a).1.2 ≤ T.1 ∧ 0 ≤ (i3 T a).2 ∧ (i3 T a).2 ≤ 400) ∧ ((i4 T a).1.2 ≤ T.1 ∧ 0 ≤ (i4 T a).2 ∧ (i4 T a).2 ≤ 900) ∧ ((i5 T a).1.2 ≤ T.1 ∧ 0 ≤ (i5 T a).2 ∧ (i5 T a).2 ≤ 90) := by
  have h1 := nmS_r (T := T) (most := 40) (by omega) true (s := (true, a + 1)) (by show a + 1 ≤ T.1; omega)
  have h2 := nmS_r (T := T) (most := 40) (by omega) true (sgS_le (c := 44) h1.1)
  have h3 := nmS_r (T := T) (most := 400) (by omega) false (sgS_le (c := 119) h2.1)
  have h4 := nmS_r (T := T) (most := 900) (by omega) false (sgS_le (c := 111) h3.1)
  have h5 := nmS_r (T := T) (most := 90) (by omega) false (sgS_le (c := 101) h4.1)
  exact ⟨⟨h1.1, h1.2.1⟩, ⟨h2.1, h2.2.1⟩, ⟨h3.1, h3.2.2 rfl, h3.2.1.2⟩, ⟨h4.1, h4.2.2 rfl, h4.2.1.2⟩, ⟨h5.1, h5.2.2 rfl, h5.2.1.2⟩⟩
theorem itS_le {T : zTx} {a : Nat} (h : a < T.1) : (itS T a).2 ≤ T.1 := by
  have hi := i_r h
  unfold itS
  by_cases c : isK T a
  · rw [if_pos c]
    refine sgS_le ?_
    unfold itE
    rcases itK_r T a with k | k | k
    · rw [if_pos k]; exact hi.2.2.1.1
    · rw [if_neg (by omega), if_pos k]; exact hi.2.2.2.1.1
    · rw [if_neg (by omega), if_neg (by omega)]; exact hi.2.2.2.2.1
  · rw [if_neg c]; exact Nat.le_of_lt h
theorem itF_r {T : zTx} {a : Nat} (h : a < T.1) : fIn (itF T a) := by
  have hi := i_r h
  have hk := itK_r T a
  intro f hf
  unfold itF
  have hc : f = 0 ∨ f = 1 ∨ f = 2 ∨ f = 3 ∨ f = 4 ∨ f = 5 := by omega
  rcases hc with c | c | c | c | c | c
  · subst c
    show (0 : Int) ≤ itK T a ∧ itK T a ≤ 2
    omega
  · subst c
    exact hi.1.2
  · subst c
    exact hi.2.1.2
  · subst c
    exact hi.2.2.1.2
  · subst c
    show (0 : Int) ≤ (if itK T a = 0 then 0 else (i4 T a).2) ∧ (if itK T a = 0 then 0 else (i4 T a).2) ≤ (900 : Int)
    by_cases c2 : itK T a = 0
    · rw [if_pos c2]; omega
    · rw [if_neg c2]; exact hi.2.2.2.1.2
  · subst c
    show (0 : Int) ≤ (if itK T a = 2 then (i5 T a).2 else 90) ∧ (if itK T a = 2 then (i5 T a).2 else 90) ≤ (90 : Int)
    by_cases c2 : itK T a = 2
    · rw [if_pos c2]; exact hi.2.2.2.2.2
    · rw [if_neg c2]; omega
/-- the state behind j items -/
def rdS (T : zTx) : Nat → rP
  | 0 => (true, 0)
  | j + 1 => itS T (rdS T j).2
/-- how it ends: right or the fault, and how many were told -/
def rdO (T : zTx) : Nat → Nat → rP × Nat
  | 0, j => (if (rdS T j).2 < T.1 then (false, (rdS T j).2) else (true, (rdS T j).2), j)
  | f + 1, j => if (rdS T j).2 < T.1 then (if (rdS T (j + 1)).1 = true then rdO T f (j + 1) else (rdS T (j + 1), j)) else ((true, (rdS T j).2), j)
/-! ===== read: the class's signs and numbers ===== -/
def cTa (T : zTx) (a : Nat) (M : zMem) : Prop := M.1 23 3 = iI a ∧ zCT T M
def cFq (q : Nat) (M M' : zMem) : Prop := (∀ c, c ≠ 23 → c ≠ q → M'.1 c = M.1 c) ∧ (∀ j, j ≠ 3 → M'.1 23 j = M.1 23 j) ∧ M'.2 = M.2
theorem cFq.rf {q : Nat} {M : zMem} : cFq q M M := ⟨fun _ _ _ => rfl, fun _ _ => rfl, rfl⟩
theorem cFq.tr {q : Nat} {M M1 M2 : zMem} (h1 : cFq q M M1) (h2 : cFq q M1 M2) : cFq q M M2 := ⟨fun c a b => (h2.1 c a b).trans (h1.1 c a b), fun j hj => (h2.2.1 j hj).trans (h1.2.1 j hj), h2.2.2.trans h1.2.2⟩
theorem cFq.at {q : Nat} {M M1 : zMem} {v : Int32} (h : cFq q M M1) : cFq q M (zwr M1 23 3 v) := ⟨fun c a b => (zwr_ne a).trans (h.1 c a b), fun j hj => (zwr_nj hj).trans (h.2.1 j hj), h.2.2⟩
theorem cFq.wq {q i : Nat} {M M1 : zMem} {v : Int32} (h : cFq q M M1) (hq : q ≠ 23) : cFq q M (zwr M1 q i v) := ⟨fun c a b => (zwr_ne b).trans (h.1 c a b), fun j hj => (zwr_nc (Ne.symm hq)).trans (h.2.1 j hj), h.2.2⟩
theorem cTa.mv {T : zTx} {a a' : Nat} {M : zMem} (h : cTa T a M) : cTa T a' (zwr M 23 3 (iI a')) := ⟨zwr_eq, (zwr_nj (by decide)).trans h.2.1, fun i hi => (zwr_nc (by decide)).trans (h.2.2 i hi)⟩
theorem cTa.wq {T : zTx} {a q i : Nat} {v : Int32} {M : zMem} (h : cTa T a M) (hq : q ≠ 23 ∧ q ≠ 24) : cTa T a (zwr M q i v) := ⟨(zwr_nc (Ne.symm hq.1)).trans h.1, (zwr_nc (Ne.symm hq.1)).trans h.2.1, fun j hj => (zwr_nc (Ne.symm hq.2)).trans (h.2.2 j hj)⟩
def bI (b : Bool) : Int32 := if b = true then 1 else 0
theorem sgC {T : zTx} (hT : zRT T) {a : Nat} {M : zMem} (h : cTa T a M) (ha : a ≤ T.1) {c : Nat} (hc : c < 256) : ∃ M', FX5_takeSign (iI c) M = some (bI (sgS T c (true, a)).1, M') ∧ cTa T (sgS T c (true, a)).2 M' ∧ (M' = M ∨ M' = zwr M 23 3 (iI ((a + 1 : Nat) : Int))) := by
  have h200 := hT.1
  unfold FX5_takeSign sgS
  rw [if_pos (show (true, a).1 = true from rfl), h.1, h.2.1]
  by_cases c1 : a < T.1
  · have hb := hT.2 a c1
    rw [if_pos ((iLt (by omega) (by omega)).mpr (by omega)), zgI (by omega) (by omega) (by omega), zrI _ _ (by omega) (by omega), Int.toNat_natCast, h.2.2 a c1]
    by_cases c2 : T.2 a = c
    · rw [if_pos (show iI (T.2 a) = iI c by rw [c2]), if_pos (show (true, a).2 < T.1 ∧ T.2 (true, a).2 = c from ⟨c1, c2⟩), zlet_e, iA1]
      exact ⟨_, rfl, h.mv, Or.inr rfl⟩
    · rw [if_neg (fun z => c2 ((iEq (by omega) (by omega)).mp z)), if_neg (show ¬ ((true, a).2 < T.1 ∧ T.2 (true, a).2 = c) from fun z => c2 z.2)]
      exact ⟨_, rfl, h, Or.inl rfl⟩
  · rw [if_neg (fun z => c1 (by have := (iLt (by omega) (by omega)).mp z; omega)), if_neg (show ¬ ((true, a).2 < T.1 ∧ T.2 (true, a).2 = c) from fun z => c1 z.1)]
    exact ⟨_, rfl, h, Or.inl rfl⟩
theorem digC {T : zTx} (hT : zRT T) {q f : Nat} {most : Int} (hq : q ≠ 23 ∧ q ≠ 24) (hl : zlenI q = 6) (hf : f < 6) (hm : 0 ≤ most ∧ most ≤ 900) (neg : Prop) [Decidable neg] : ∀ (fu a u : Nat) (v : Int) (M : zMem), a ≤ T.1 → T.1 < a + fu → fu < u → 0 ≤ v ∧ v ≤ most → cTa T a M → ∃ M', zloop (FX5_takeNumber_L97 q (iI f) (if neg then 1 else 0) (iI most)) u (iI v, M) = some (bI (nmD T most fu a v).1.1, M') ∧ cTa T (nmD T most fu a v).1.2 M' ∧ cFq q M M' ∧ ((nmD T most fu a v).1.1 = true → M'.1 q f = iI (if neg then -(nmD T most fu a v).2 else (nmD T most fu a v).2)) ∧ ∀ j, j ≠ f → M'.1 q j = M.1 q j := by
  have h200 := hT.1
  intro fu
  induction fu with
  | zero => intro a u v M h1 h2; omega
  | succ fu ih =>
    intro a u v M h1 h2 hu hv hc
    cases u with
    | zero => omega
    | succ u =>
      rw [zloop_s]
      have es : nmD T most (fu + 1) a v = if a < T.1 ∧ 48 ≤ T.2 a ∧ T.2 a ≤ 57 then (if most < 10 * v + T.2 a - 48 then ((false, a), 0) else nmD T most fu (a + 1) (10 * v + T.2 a - 48)) else ((true, a), v) := rfl
      have ih' := fun (v' : Int) (M' : zMem) => ih (a + 1) u v' M'
      revert ih'
      generalize zloop (FX5_takeNumber_L97 q (iI f) (if neg then 1 else 0) (iI most)) u = rec
      intro ih'
      have fin : ∃ M', (if (if neg then (1 : Int32) else 0) = 0 then zguard (zin (iI f) (zlenI q)) (some ((1 : Int32), zwr M q (zcl (iI f)) (iI v))) else zguard (zin (iI f) (zlenI q)) (some ((1 : Int32), zwr M q (zcl (iI f)) (-iI v)))) = some (bI true, M') ∧ cTa T a M' ∧ cFq q M M' ∧ (true = true → M'.1 q f = iI (if neg then -v else v)) ∧ ∀ j, j ≠ f → M'.1 q j = M.1 q j := by
        rw [hl, zgI (by omega) (by omega) (by omega), zgI (by omega) (by omega) (by omega), iC (by omega) (by omega), Int.toNat_natCast, iN]
        by_cases n : neg
        · rw [if_pos n, if_neg (show ¬ (1 : Int32) = 0 by decide), if_pos n]
          exact ⟨_, rfl, hc.wq hq, cFq.rf.wq hq.1, fun _ => zwr_eq, fun j hj => zwr_nj hj⟩
        · rw [if_neg n, if_pos rfl, if_neg n]
          exact ⟨_, rfl, hc.wq hq, cFq.rf.wq hq.1, fun _ => zwr_eq, fun j hj => zwr_nj hj⟩
      rw [es]
      unfold FX5_takeNumber_L97
      simp only [zj_e, zlet_e]
      rw [hc.1, hc.2.1]
      by_cases c1 : a < T.1
      · have hb := hT.2 a c1
        rw [if_pos ((iLt (by omega) (by omega)).mpr (by omega)), zgI (by omega) (by omega) (by omega), zrI _ _ (by omega) (by omega), Int.toNat_natCast, hc.2.2 a c1, within_eq, Option.bind_some, zb_if, show (48 : Int32).toInt = 48 from rfl, show (57 : Int32).toInt = 57 from rfl, iT (by omega) (by omega)]
        by_cases c2 : 48 ≤ T.2 a ∧ T.2 a ≤ 57
        · rw [if_pos c2, if_pos (show a < T.1 ∧ 48 ≤ T.2 a ∧ T.2 a ≤ 57 from ⟨c1, c2⟩), zgI (by omega) (by omega) (by omega), show (10 : Int32) = iI 10 from rfl, show (48 : Int32) = iI 48 from rfl, iM, iA, iS]
          by_cases c3 : most < 10 * v + T.2 a - 48
          · rw [if_pos ((iLt (by omega) (by omega)).mpr c3), if_pos c3]
            exact ⟨M, rfl, hc, cFq.rf, fun z => Bool.noConfusion (show false = true from z), fun _ _ => rfl⟩
          · rw [if_neg (fun z => c3 ((iLt (by omega) (by omega)).mp z)), if_neg c3, iA1]
            obtain ⟨M', k1, k2, k3, k4, k5⟩ := ih' (10 * v + T.2 a - 48) (zwr M 23 3 (iI ((a + 1 : Nat) : Int))) (by omega) (by omega) (by omega) (by omega) hc.mv
            exact ⟨M', k1, k2, (cFq.rf.at (q := q)).tr k3, k4, fun j hj => (k5 j hj).trans (zwr_nc hq.1)⟩
        · rw [if_neg c2, if_neg (show ¬ (a < T.1 ∧ 48 ≤ T.2 a ∧ T.2 a ≤ 57) from fun z => c2 z.2)]
          exact fin
      · rw [if_neg (fun z => c1 (by have := (iLt (by omega) (by omega)).mp z; omega)), if_neg (show ¬ (a < T.1 ∧ 48 ≤ T.2 a ∧ T.2 a ≤ 57) from fun z => c1 z.1)]
        exact fin
