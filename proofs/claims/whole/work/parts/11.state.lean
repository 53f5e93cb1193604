/-! ===== what a state is: lens, text, pairs and spots, brightness ===== -/
/-- lens: bodies, features, g, h; text: length, bytes; pairs, spots, tolerance; noise, told, trace -/
abbrev zL : Type := Nat × (Nat → Nat → Int) × Int × Int
abbrev zTx : Type := Nat × (Nat → Int)
abbrev zPr : Type := Nat × (Nat → Nat → Int) × Nat × (Nat → Int) × (Nat → Int) × Int
abbrev zBr : Type := Int × (Nat → Int) × Int64
def fLo (f : Nat) : Int := ([0, -40, -40, 0, 0, 0] : List Int).getD f 0
def fHi (f : Nat) : Int := ([2, 40, 40, 400, 900, 90] : List Int).getD f 0
def zRL (L : zL) : Prop := L.1 ≤ 8 ∧ (∀ b f, b < L.1 → f < 6 → fLo f ≤ L.2.1 b f ∧ L.2.1 b f ≤ fHi f) ∧ (-8 ≤ L.2.2.1 ∧ L.2.2.1 ≤ 8) ∧ (-8 ≤ L.2.2.2 ∧ L.2.2.2 ≤ 8)
def zRT (T : zTx) : Prop := T.1 ≤ 200 ∧ ∀ i, i < T.1 → 0 ≤ T.2 i ∧ T.2 i ≤ 255
def zRP (P : zPr) : Prop := P.1 ≤ 10 ∧ (∀ i j, i < P.1 → j < 4 → -30 ≤ P.2.1 i j ∧ P.2.1 i j ≤ 30) ∧ P.2.2.1 ≤ 8 ∧ (∀ i, i < P.2.2.1 → (-30 ≤ P.2.2.2.1 i ∧ P.2.2.2.1 i ≤ 30) ∧ (-30 ≤ P.2.2.2.2.1 i ∧ P.2.2.2.2.1 i ≤ 30)) ∧ 0 ≤ P.2.2.2.2.2 ∧ P.2.2.2.2.2 ≤ 64
def zRB (B : zBr) : Prop := (0 ≤ B.1 ∧ B.1 ≤ 99) ∧ ∀ i, i < 2401 → B.2.1 i = -9 ∨ (0 ≤ B.2.1 i ∧ B.2.1 i ≤ 99)
/-- the class's cells -/
def zlb (M : zMem) : Nat := zcl (M.1 1 0)
def zCL (L : zL) (M : zMem) : Prop := ((M.1 1 0 = 2 ∧ M.1 23 1 = 25) ∨ (M.1 1 0 = 25 ∧ M.1 23 1 = 2)) ∧ M.1 1 1 = iI L.1 ∧ M.1 1 2 = iI L.2.2.1 ∧ M.1 1 3 = iI L.2.2.2 ∧ ∀ b f, b < L.1 → f < 6 → M.1 (zlb M + 1 + b) f = iI (L.2.1 b f)
def zCT (T : zTx) (M : zMem) : Prop := M.1 23 2 = iI T.1 ∧ ∀ i, i < T.1 → M.1 24 i = iI (T.2 i)
def zCP (P : zPr) (M : zMem) : Prop := M.1 34 4 = iI P.1 ∧ (∀ i j, i < P.1 → j < 4 → M.1 (36 + i) j = iI (P.2.1 i j)) ∧ M.1 34 5 = iI P.2.2.1 ∧ (∀ i, i < P.2.2.1 → M.1 (47 + i) 0 = iI (P.2.2.2.1 i) ∧ M.1 (47 + i) 1 = iI (P.2.2.2.2.1 i)) ∧ M.1 34 6 = iI P.2.2.2.2.2
def zCB (B : zBr) (M : zMem) : Prop := M.1 96 5 = iI B.1 ∧ (∀ i, i < 2401 → M.1 97 i = iI (B.2.1 i)) ∧ M.2 0 = B.2.2
/-- the reference's cells -/
def zML (L : zL) (M : zMem) : Prop := M.1 100 1 = iI L.1 ∧ M.1 100 2 = iI L.2.2.1 ∧ M.1 100 3 = iI L.2.2.2 ∧ ∀ b f, b < L.1 → f < 6 → M.1 101 (6 * b + f) = iI (L.2.1 b f)
def zMT (T : zTx) (M : zMem) : Prop := M.1 100 5 = iI T.1 ∧ ∀ i, i < T.1 → M.1 102 i = (iI (T.2 i)).toInt8.toInt32
def zMP (P : zPr) (M : zMem) : Prop := M.1 100 6 = iI P.1 ∧ (∀ i j, i < P.1 → j < 4 → M.1 103 (4 * i + j) = iI (P.2.1 i j)) ∧ M.1 100 10 = iI P.2.2.1 ∧ (∀ i, i < P.2.2.1 → M.1 104 i = iI (P.2.2.2.1 i) ∧ M.1 105 i = iI (P.2.2.2.2.1 i)) ∧ M.1 100 8 = iI P.2.2.2.2.2
def zMB (B : zBr) (M : zMem) : Prop := M.1 100 9 = iI B.1 ∧ (∀ i, i < 2401 → M.1 106 i = iI (B.2.1 i)) ∧ M.2 100 = B.2.2
/-- agreement of memories on the class's cells, on the reference's -/
def zagC (M M' : zMem) : Prop := (∀ c, c < 100 → M'.1 c = M.1 c) ∧ M'.2 0 = M.2 0
def zagM (M M' : zMem) : Prop := (∀ c, 100 ≤ c → M'.1 c = M.1 c) ∧ M'.2 100 = M.2 100
theorem zagC.rf {M : zMem} : zagC M M := ⟨fun _ _ => rfl, rfl⟩
theorem zagM.rf {M : zMem} : zagM M M := ⟨fun _ _ => rfl, rfl⟩
theorem zagC.tr {M M1 M2 : zMem} (h1 : zagC M M1) (h2 : zagC M1 M2) : zagC M M2 := ⟨fun c h => (h2.1 c h).trans (h1.1 c h), h2.2.trans h1.2⟩
theorem zagM.tr {M M1 M2 : zMem} (h1 : zagM M M1) (h2 : zagM M1 M2) : zagM M M2 := ⟨fun c h => (h2.1 c h).trans (h1.1 c h), h2.2.trans h1.2⟩
theorem zagC.wr {M M1 : zMem} {q i : Nat} {v : Int32} (h : zagC M M1) (hq : 100 ≤ q) : zagC M (zwr M1 q i v) := ⟨fun c hc => (zwr_ne (by omega)).trans (h.1 c hc), h.2⟩
theorem zagM.wr {M M1 : zMem} {q i : Nat} {v : Int32} (h : zagM M M1) (hq : q < 100) : zagM M (zwr M1 q i v) := ⟨fun c hc => (zwr_ne (by omega)).trans (h.1 c hc), h.2⟩
theorem zwr_at {M : zMem} {q i c j : Nat} {v : Int32} : (zwr M q i v).1 c j = if c = q ∧ j = i then v else M.1 c j := rfl
theorem zwr_eq {M : zMem} {q i : Nat} {v : Int32} : (zwr M q i v).1 q i = v := by rw [zwr_at, if_pos ⟨rfl, rfl⟩]
theorem zwr_nj {M : zMem} {q i c j : Nat} {v : Int32} (h : j ≠ i) : (zwr M q i v).1 c j = M.1 c j := by rw [zwr_at, if_neg (fun e => h e.2)]
theorem zwr_nc {M : zMem} {q i c j : Nat} {v : Int32} (h : c ≠ q) : (zwr M q i v).1 c j = M.1 c j := by rw [zwr_at, if_neg (fun e => h e.1)]
/-- frames of the parts -/
theorem zlb_or {L : zL} {M : zMem} (h : zCL L M) : zlb M = 2 ∨ zlb M = 25 := by
  unfold zlb
  rcases h.1 with h | h
  · rw [h.1]; exact Or.inl rfl
  · rw [h.1]; exact Or.inr rfl
theorem zCL.fr {L : zL} {M M' : zMem} (h : zCL L M) (hb : L.1 ≤ 8) (e : ∀ c, c ≤ 10 ∨ (25 ≤ c ∧ c ≤ 33) → M'.1 c = M.1 c) (e2 : M'.1 23 1 = M.1 23 1) : zCL L M' := by
  have hlb := zlb_or h
  obtain ⟨h1, h2, h3, h4, h5⟩ := h
  have e1 : M'.1 1 = M.1 1 := e 1 (by omega)
  refine ⟨by rw [e1, e2]; exact h1, by rw [e1]; exact h2, by rw [e1]; exact h3, by rw [e1]; exact h4, fun b f hb2 hf => ?_⟩
  have hl : zlb M' = zlb M := by unfold zlb; rw [e1]
  rw [hl, e _ (by omega)]
  exact h5 b f hb2 hf
theorem zCT.fr {T : zTx} {M M' : zMem} (h : zCT T M) (e : M'.1 23 2 = M.1 23 2) (e2 : M'.1 24 = M.1 24) : zCT T M' := ⟨by rw [e]; exact h.1, fun i hi => by rw [e2]; exact h.2 i hi⟩
theorem zCP.fr {P : zPr} {M M' : zMem} (h : zCP P M) (hr : zRP P) (e : ∀ j, j = 4 ∨ j = 5 ∨ j = 6 → M'.1 34 j = M.1 34 j) (e2 : ∀ c, 36 ≤ c → c ≤ 54 → M'.1 c = M.1 c) : zCP P M' := by
  obtain ⟨h1, h2, h3, h4, h5⟩ := h
  have r1 := hr.1
  have r2 := hr.2.2.1
  refine ⟨by rw [e 4 (by omega)]; exact h1, fun i j hi hj => ?_, by rw [e 5 (by omega)]; exact h3, fun i hi => ?_, by rw [e 6 (by omega)]; exact h5⟩
  · rw [e2 _ (by omega) (by omega)]; exact h2 i j hi hj
  · rw [e2 _ (by omega) (by omega)]; exact h4 i hi
theorem zCB.fr {B : zBr} {M M' : zMem} (h : zCB B M) (e : M'.1 96 5 = M.1 96 5) (e2 : M'.1 97 = M.1 97) (e3 : M'.2 0 = M.2 0) : zCB B M' := ⟨by rw [e]; exact h.1, fun i hi => by rw [e2]; exact h.2.1 i hi, by rw [e3]; exact h.2.2⟩
theorem zML.ag {L : zL} {M M' : zMem} (h : zML L M) (a : zagM M M') : zML L M' := by
  obtain ⟨h1, h2, h3, h4⟩ := h
  rw [← a.1 100 (by omega)] at h1 h2 h3
  exact ⟨h1, h2, h3, fun b f hb hf => by rw [a.1 101 (by omega)]; exact h4 b f hb hf⟩
theorem zMT.ag {T : zTx} {M M' : zMem} (h : zMT T M) (a : zagM M M') : zMT T M' := ⟨by rw [a.1 100 (by omega)]; exact h.1, fun i hi => by rw [a.1 102 (by omega)]; exact h.2 i hi⟩
theorem zMP.ag {P : zPr} {M M' : zMem} (h : zMP P M) (a : zagM M M') : zMP P M' := by
  obtain ⟨h1, h2, h3, h4, h5⟩ := h
  rw [← a.1 100 (by omega)] at h1 h3 h5
  exact ⟨h1, fun i j hi hj => by rw [a.1 103 (by omega)]; exact h2 i j hi hj, h3, fun i hi => by rw [a.1 104 (by omega), a.1 105 (by omega)]; exact h4 i hi, h5⟩
theorem zMB.ag {B : zBr} {M M' : zMem} (h : zMB B M) (a : zagM M M') : zMB B M' := ⟨by rw [a.1 100 (by omega)]; exact h.1, fun i hi => by rw [a.1 106 (by omega)]; exact h.2.1 i hi, by rw [a.2]; exact h.2.2⟩
/-- the reference's frames among its own cells -/
theorem zML.fr {L : zL} {M M' : zMem} (h : zML L M) (e : ∀ j, j = 1 ∨ j = 2 ∨ j = 3 → M'.1 100 j = M.1 100 j) (e2 : M'.1 101 = M.1 101) : zML L M' := ⟨by rw [e 1 (by omega)]; exact h.1, by rw [e 2 (by omega)]; exact h.2.1, by rw [e 3 (by omega)]; exact h.2.2.1, fun b f hb hf => by rw [e2]; exact h.2.2.2 b f hb hf⟩
theorem zMT.fr {T : zTx} {M M' : zMem} (h : zMT T M) (e : M'.1 100 5 = M.1 100 5) (e2 : M'.1 102 = M.1 102) : zMT T M' := ⟨by rw [e]; exact h.1, fun i hi => by rw [e2]; exact h.2 i hi⟩
theorem zMP.fr {P : zPr} {M M' : zMem} (h : zMP P M) (e : ∀ j, j = 6 ∨ j = 10 ∨ j = 8 → M'.1 100 j = M.1 100 j) (e3 : M'.1 103 = M.1 103) (e4 : M'.1 104 = M.1 104) (e5 : M'.1 105 = M.1 105) : zMP P M' := ⟨by rw [e 6 (by omega)]; exact h.1, fun i j hi hj => by rw [e3]; exact h.2.1 i j hi hj, by rw [e 10 (by omega)]; exact h.2.2.1, fun i hi => by rw [e4, e5]; exact h.2.2.2.1 i hi, by rw [e 8 (by omega)]; exact h.2.2.2.2⟩
theorem zMB.fr {B : zBr} {M M' : zMem} (h : zMB B M) (e : M'.1 100 9 = M.1 100 9) (e2 : M'.1 106 = M.1 106) (e3 : M'.2 100 = M.2 100) : zMB B M' := ⟨by rw [e]; exact h.1, fun i hi => by rw [e2]; exact h.2.1 i hi, by rw [e3]; exact h.2.2⟩
/-- a condition as a boolean int -/
def zb (p : Prop) [Decidable p] : Int32 := if p then 1 else 0
theorem zb_if {ρ : Type} {p : Prop} [Decidable p] {A B : ρ} : (if zb p = 0 then A else B) = if p then B else A := by
  unfold zb
  by_cases h : p
  · rw [if_pos h, if_pos h]; rfl
  · rw [if_neg h, if_neg h]; rfl
theorem zb_is {p : Prop} [Decidable p] : zisb (zb p) = true := by
  unfold zb
  by_cases h : p
  · rw [if_pos h]; rfl
  · rw [if_neg h]; rfl
theorem zb_g {ρ : Type} {p : Prop} [Decidable p] {F : Option ρ} : zguard (zisb (zb p)) F = F := zgT zb_is
theorem zb_congr {p q : Prop} [Decidable p] [Decidable q] (h : p ↔ q) : zb p = zb q := by
  unfold zb
  by_cases hp : p
  · rw [if_pos hp, if_pos (h.mp hp)]
  · rw [if_neg hp, if_neg (fun x => hp (h.mpr x))]
theorem within_eq (x lo hi : Int32) : FX7_within x lo hi = some (zb (lo.toInt ≤ x.toInt ∧ x.toInt ≤ hi.toInt)) := by
  unfold FX7_within zb
  simp only [Int32.lt_iff_toInt_lt]
  by_cases h1 : x.toInt < lo.toInt
  · rw [if_pos h1, if_neg (by omega)]
  · rw [if_neg h1]
    by_cases h2 : hi.toInt < x.toInt
    · rw [if_pos h2, if_neg (by omega)]
    · rw [if_neg h2, if_pos (by omega)]
theorem in_eq (x lo hi : Int32) : FX8_in x lo hi = some (zb (lo.toInt ≤ x.toInt ∧ x.toInt ≤ hi.toInt)) := within_eq x lo hi
theorem isWithin_eq (x y r : Int32) : FX7_isWithin x y r = some (zb (((-r).toInt ≤ x.toInt ∧ x.toInt ≤ r.toInt) ∧ ((-r).toInt ≤ y.toInt ∧ y.toInt ≤ r.toInt))) := by
  unfold FX7_isWithin
  simp only [within_eq, Option.bind_some, zb_if]
  by_cases h1 : (-r).toInt ≤ x.toInt ∧ x.toInt ≤ r.toInt
  · by_cases h2 : (-r).toInt ≤ y.toInt ∧ y.toInt ≤ r.toInt
    · rw [if_pos h1, if_pos h2]; unfold zb; rw [if_pos ⟨h1, h2⟩]
    · rw [if_pos h1, if_neg h2]; unfold zb; rw [if_neg (fun h => h2 h.2)]
  · rw [if_neg h1]; unfold zb; rw [if_neg (fun h => h1 h.1)]
theorem isNear_eq (x y r : Int32) : FX8_isNear x y r = some (zb (((-r).toInt ≤ x.toInt ∧ x.toInt ≤ r.toInt) ∧ ((-r).toInt ≤ y.toInt ∧ y.toInt ≤ r.toInt))) := isWithin_eq x y r
/-- a place within a rim -/
abbrev pIn (r : Int) (x y : Int32) : Prop := (-r ≤ x.toInt ∧ x.toInt ≤ r) ∧ (-r ≤ y.toInt ∧ y.toInt ≤ r)
theorem isWithin_24 (x y : Int32) : FX7_isWithin x y 24 = some (zb (pIn 24 x y)) := isWithin_eq x y 24
theorem isWithin_30 (x y : Int32) : FX7_isWithin x y 30 = some (zb (pIn 30 x y)) := isWithin_eq x y 30
theorem isWithin_60 (x y : Int32) : FX7_isWithin x y 60 = some (zb (pIn 60 x y)) := isWithin_eq x y 60
theorem isWithin_99 (x y : Int32) : FX7_isWithin x y 99 = some (zb (pIn 99 x y)) := isWithin_eq x y 99
theorem isWithin_2000 (x y : Int32) : FX7_isWithin x y 2000 = some (zb (pIn 2000 x y)) := isWithin_eq x y 2000
theorem isNear_24 (x y : Int32) : FX8_isNear x y 24 = some (zb (pIn 24 x y)) := isNear_eq x y 24
theorem isNear_25 (x y : Int32) : FX8_isNear x y 25 = some (zb (pIn 25 x y)) := isNear_eq x y 25
theorem isNear_30 (x y : Int32) : FX8_isNear x y 30 = some (zb (pIn 30 x y)) := isNear_eq x y 30
theorem isNear_40 (x y : Int32) : FX8_isNear x y 40 = some (zb (pIn 40 x y)) := isNear_eq x y 40
theorem isNear_60 (x y : Int32) : FX8_isNear x y 60 = some (zb (pIn 60 x y)) := isNear_eq x y 60
theorem isNear_99 (x y : Int32) : FX8_isNear x y 99 = some (zb (pIn 99 x y)) := isNear_eq x y 99
theorem isNear_2000 (x y : Int32) : FX8_isNear x y 2000 = some (zb (pIn 2000 x y)) := isNear_eq x y 2000
theorem within_0_1 (x : Int32) : FX7_within x (0) (1) = some (zb (0 ≤ x.toInt ∧ x.toInt ≤ 1)) := within_eq x (0) (1)
theorem in_0_1 (x : Int32) : FX8_in x (0) (1) = some (zb (0 ≤ x.toInt ∧ x.toInt ≤ 1)) := within_eq x (0) (1)
theorem within_0_2 (x : Int32) : FX7_within x (0) (2) = some (zb (0 ≤ x.toInt ∧ x.toInt ≤ 2)) := within_eq x (0) (2)
theorem in_0_2 (x : Int32) : FX8_in x (0) (2) = some (zb (0 ≤ x.toInt ∧ x.toInt ≤ 2)) := within_eq x (0) (2)
theorem within_0_3 (x : Int32) : FX7_within x (0) (3) = some (zb (0 ≤ x.toInt ∧ x.toInt ≤ 3)) := within_eq x (0) (3)
theorem in_0_3 (x : Int32) : FX8_in x (0) (3) = some (zb (0 ≤ x.toInt ∧ x.toInt ≤ 3)) := within_eq x (0) (3)
theorem within_0_5 (x : Int32) : FX7_within x (0) (5) = some (zb (0 ≤ x.toInt ∧ x.toInt ≤ 5)) := within_eq x (0) (5)
theorem in_0_5 (x : Int32) : FX8_in x (0) (5) = some (zb (0 ≤ x.toInt ∧ x.toInt ≤ 5)) := within_eq x (0) (5)
theorem within_1_24 (x : Int32) : FX7_within x (1) (24) = some (zb (1 ≤ x.toInt ∧ x.toInt ≤ 24)) := within_eq x (1) (24)
theorem in_1_24 (x : Int32) : FX8_in x (1) (24) = some (zb (1 ≤ x.toInt ∧ x.toInt ≤ 24)) := within_eq x (1) (24)
theorem within_1_8 (x : Int32) : FX7_within x (1) (8) = some (zb (1 ≤ x.toInt ∧ x.toInt ≤ 8)) := within_eq x (1) (8)
theorem in_1_8 (x : Int32) : FX8_in x (1) (8) = some (zb (1 ≤ x.toInt ∧ x.toInt ≤ 8)) := within_eq x (1) (8)
theorem within_1_3 (x : Int32) : FX7_within x (1) (3) = some (zb (1 ≤ x.toInt ∧ x.toInt ≤ 3)) := within_eq x (1) (3)
theorem in_1_3 (x : Int32) : FX8_in x (1) (3) = some (zb (1 ≤ x.toInt ∧ x.toInt ≤ 3)) := within_eq x (1) (3)
theorem within_1_15 (x : Int32) : FX7_within x (1) (15) = some (zb (1 ≤ x.toInt ∧ x.toInt ≤ 15)) := within_eq x (1) (15)
theorem in_1_15 (x : Int32) : FX8_in x (1) (15) = some (zb (1 ≤ x.toInt ∧ x.toInt ≤ 15)) := within_eq x (1) (15)
theorem within_m8_8 (x : Int32) : FX7_within x (-8) (8) = some (zb (-8 ≤ x.toInt ∧ x.toInt ≤ 8)) := within_eq x (-8) (8)
theorem in_m8_8 (x : Int32) : FX8_in x (-8) (8) = some (zb (-8 ≤ x.toInt ∧ x.toInt ≤ 8)) := within_eq x (-8) (8)
theorem within_0_64 (x : Int32) : FX7_within x (0) (64) = some (zb (0 ≤ x.toInt ∧ x.toInt ≤ 64)) := within_eq x (0) (64)
theorem in_0_64 (x : Int32) : FX8_in x (0) (64) = some (zb (0 ≤ x.toInt ∧ x.toInt ≤ 64)) := within_eq x (0) (64)
theorem within_0_99 (x : Int32) : FX7_within x (0) (99) = some (zb (0 ≤ x.toInt ∧ x.toInt ≤ 99)) := within_eq x (0) (99)
theorem in_0_99 (x : Int32) : FX8_in x (0) (99) = some (zb (0 ≤ x.toInt ∧ x.toInt ≤ 99)) := within_eq x (0) (99)
theorem within_0_400 (x : Int32) : FX7_within x (0) (400) = some (zb (0 ≤ x.toInt ∧ x.toInt ≤ 400)) := within_eq x (0) (400)
theorem in_0_400 (x : Int32) : FX8_in x (0) (400) = some (zb (0 ≤ x.toInt ∧ x.toInt ≤ 400)) := within_eq x (0) (400)
theorem within_0_900 (x : Int32) : FX7_within x (0) (900) = some (zb (0 ≤ x.toInt ∧ x.toInt ≤ 900)) := within_eq x (0) (900)
theorem in_0_900 (x : Int32) : FX8_in x (0) (900) = some (zb (0 ≤ x.toInt ∧ x.toInt ≤ 900)) := within_eq x (0) (900)
theorem within_0_90 (x : Int32) : FX7_within x (0) (90) = some (zb (0 ≤ x.toInt ∧ x.toInt ≤ 90)) := within_eq x (0) (90)
theorem in_0_90 (x : Int32) : FX8_in x (0) (90) = some (zb (0 ≤ x.toInt ∧ x.toInt ≤ 90)) := within_eq x (0) (90)
theorem within_m40_40 (x : Int32) : FX7_within x (-40) (40) = some (zb (-40 ≤ x.toInt ∧ x.toInt ≤ 40)) := within_eq x (-40) (40)
theorem in_m40_40 (x : Int32) : FX8_in x (-40) (40) = some (zb (-40 ≤ x.toInt ∧ x.toInt ≤ 40)) := within_eq x (-40) (40)
theorem isPixel_eq (x y : Int32) : FX8_isPixel x y = some (zb (pIn 24 x y)) := by
  unfold FX8_isPixel
  simp only [isNear_24, Option.bind_some, zb_g]
theorem isAsked_eq (x y a : Int32) : FX7_isAsked x y a = some (zb (pIn 60 x y ∧ (0 ≤ a.toInt ∧ a.toInt ≤ 1))) := by
  unfold FX7_isAsked
  simp only [isWithin_60, within_0_1, Option.bind_some, zb_if]
  by_cases h1 : pIn 60 x y
  · by_cases h2 : 0 ≤ a.toInt ∧ a.toInt ≤ 1
    · rw [if_pos h1, if_pos h2]; unfold zb; rw [if_pos ⟨h1, h2⟩]
    · rw [if_pos h1, if_neg h2]; unfold zb; rw [if_neg (fun h => h2 h.2)]
  · rw [if_neg h1]; unfold zb; rw [if_neg (fun h => h1 h.1)]
theorem fLo_eq : ∀ f, f < 6 → (zLO f).toInt = fLo f := by decide
theorem fHi_eq : ∀ f, f < 6 → (zMO f).toInt = fHi f := by decide
theorem isFeature_eq {x : Int32} (v : Int32) (M : zMem) (h0 : 0 ≤ x.toInt) (h1 : x.toInt ≤ 5) : FX7_isFeature x v M = some (zb (fLo x.toInt.toNat ≤ v.toInt ∧ v.toInt ≤ fHi x.toInt.toNat)) := by
  obtain ⟨z, z1, z2, rfl⟩ := iOf x
  rw [iT z1 z2] at h0 h1 ⊢
  unfold FX7_isFeature
  rw [zgI h0 (by omega) z2, zgI h0 (by omega) z2, within_eq, Option.bind_some, zb_g, iC h0 z2, fLo_eq _ (by omega), fHi_eq _ (by omega)]
theorem isFeature_k (k : Nat) (v : Int32) (M : zMem) (h : k < 6) : FX7_isFeature (iI k) v M = some (zb (fLo k ≤ v.toInt ∧ v.toInt ≤ fHi k)) := by
  rw [isFeature_eq v M (by rw [iT (by omega) (by omega)]; omega) (by rw [iT (by omega) (by omega)]; omega), iT (by omega) (by omega)]
  rfl
theorem isBody_eq {L : zL} {M : zMem} (x : Int32) (h : zCL L M) (hb : L.1 ≤ 8) : FX7_isBody x M = some (zb (0 ≤ x.toInt ∧ x.toInt < L.1)) := by
  unfold FX7_isBody
  rw [h.2.1, show (1 : Int32) = iI 1 from rfl, iS, within_eq, Option.bind_some, zb_g, iT (by omega) (by omega)]
  exact congrArg some (zb_congr (by show (0 ≤ x.toInt ∧ _) ↔ _; omega))
theorem isBodyM_eq {L : zL} {M : zMem} (x : Int32) (h : zML L M) (hb : L.1 ≤ 8) : FX8_isBody x M = some (zb (0 ≤ x.toInt ∧ x.toInt < L.1)) := by
  unfold FX8_isBody
  rw [h.1, show (1 : Int32) = iI 1 from rfl, iS, in_eq, Option.bind_some, zb_g, iT (by omega) (by omega)]
  exact congrArg some (zb_congr (by show (0 ≤ x.toInt ∧ _) ↔ _; omega))
