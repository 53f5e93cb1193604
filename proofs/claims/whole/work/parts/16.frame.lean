/-! ===== frames by lists of cells; loops whose end is the same for every continuation ===== -/
def zfr (S : List Nat) (M M' : zMem) : Prop := (∀ c, c ∉ S → M'.1 c = M.1 c) ∧ M'.2 = M.2
theorem zfr.rf {S : List Nat} {M : zMem} : zfr S M M := ⟨fun _ _ => rfl, rfl⟩
theorem zfr.tr {S : List Nat} {M M1 M2 : zMem} (h1 : zfr S M M1) (h2 : zfr S M1 M2) : zfr S M M2 := ⟨fun c h => (h2.1 c h).trans (h1.1 c h), h2.2.trans h1.2⟩
theorem zfr.wr {S : List Nat} {M M1 : zMem} {q i : Nat} {v : Int32} (h : zfr S M M1) (hq : q ∈ S) : zfr S M (zwr M1 q i v) := ⟨fun c hc => (zwr_ne (c := c) (q := q) (fun e => hc (by rw [e]; exact hq))).trans (h.1 c hc), h.2⟩
theorem zfr.mono {S S' : List Nat} {M M' : zMem} (h : zfr S M M') (hs : ∀ c ∈ S, c ∈ S') : zfr S' M M' := ⟨fun c hc => h.1 c (fun z => hc (hs c z)), h.2⟩
theorem zCL.zf {S : List Nat} {L : zL} {M M' : zMem} (h : zCL L M) (hb : zRL L) (f : zfr S M M') (hS : ∀ c ∈ S, ¬ (c ≤ 10 ∨ c = 23 ∨ (25 ≤ c ∧ c ≤ 33))) : zCL L M' :=
  h.fr hb.1 (fun c hc => f.1 c (fun z => hS c z (by omega))) (by rw [f.1 23 (fun z => hS 23 z (by omega))])
theorem zCT.zf {S : List Nat} {T : zTx} {M M' : zMem} (h : zCT T M) (f : zfr S M M') (hS : 23 ∉ S ∧ 24 ∉ S) : zCT T M' := h.fr (by rw [f.1 23 hS.1]) (f.1 24 hS.2)
theorem zCP.zf {S : List Nat} {P : zPr} {M M' : zMem} (h : zCP P M) (hr : zRP P) (f : zfr S M M') (hS : ∀ c ∈ S, ¬ (34 ≤ c ∧ c ≤ 54)) : zCP P M' :=
  h.fr hr (fun j _ => by rw [f.1 34 (fun z => hS 34 z (by omega))]) (fun c h1 h2 => f.1 c (fun z => hS c z (by omega)))
theorem zCB.zf {S : List Nat} {B : zBr} {M M' : zMem} (h : zCB B M) (f : zfr S M M') (hS : 96 ∉ S ∧ 97 ∉ S) : zCB B M' := h.fr (by rw [f.1 96 hS.1]) (f.1 97 hS.2) (by rw [f.2])
theorem zML.zf {S : List Nat} {L : zL} {M M' : zMem} (h : zML L M) (f : zfr S M M') (hS : 100 ∉ S ∧ 101 ∉ S) : zML L M' := h.fr (fun j _ => by rw [f.1 100 hS.1]) (f.1 101 hS.2)
theorem zMT.zf {S : List Nat} {T : zTx} {M M' : zMem} (h : zMT T M) (f : zfr S M M') (hS : 100 ∉ S ∧ 102 ∉ S) : zMT T M' := h.fr (by rw [f.1 100 hS.1]) (f.1 102 hS.2)
theorem zMP.zf {S : List Nat} {P : zPr} {M M' : zMem} (h : zMP P M) (f : zfr S M M') (hS : 100 ∉ S ∧ 103 ∉ S ∧ 104 ∉ S ∧ 105 ∉ S) : zMP P M' := h.fr (fun j _ => by rw [f.1 100 hS.1]) (f.1 103 hS.2.1) (f.1 104 hS.2.2.1) (f.1 105 hS.2.2.2)
theorem zMB.zf {S : List Nat} {B : zBr} {M M' : zMem} (h : zMB B M) (f : zfr S M M') (hS : 100 ∉ S ∧ 106 ∉ S) : zMB B M' := h.fr (by rw [f.1 100 hS.1]) (f.1 106 hS.2) (by rw [f.2])
theorem zfr.agM {S : List Nat} {M M' : zMem} (f : zfr S M M') (hS : ∀ c ∈ S, c < 100) : zagM M M' := ⟨fun c hc => f.1 c (fun z => by have := hS c z; omega), by rw [f.2]⟩
theorem zfr.agC {S : List Nat} {M M' : zMem} (f : zfr S M M') (hS : ∀ c ∈ S, 100 ≤ c) : zagC M M' := ⟨fun c hc => f.1 c (fun z => by have := hS c z; omega), by rw [f.2]⟩
theorem zloop_invK {κ σ ρ : Type} {f : κ → (σ → Option ρ) → σ → Option ρ} (I : Nat → σ → Prop) (N : Nat) {r : κ → σ → Option ρ} (hs : ∀ i s, i < N → I i s → ∃ s', I (i + 1) s' ∧ ∀ q rec, f q rec s = rec s') (he : ∀ s, I N s → ∀ q rec, f q rec s = r q s) : ∀ (k i n : Nat) (s : σ), i + k = N → k < n → I i s → ∃ s', I N s' ∧ ∀ q, zloop (f q) n s = r q s' := by
  intro k
  induction k with
  | zero =>
    intro i n s hi hn h
    have : i = N := by omega
    subst this
    cases n with
    | zero => omega
    | succ n => exact ⟨s, h, fun q => he s h q _⟩
  | succ k ih =>
    intro i n s hi hn h
    cases n with
    | zero => omega
    | succ n =>
      obtain ⟨s', h', e⟩ := hs i s (by omega) h
      obtain ⟨s2, g1, g2⟩ := ih (i + 1) n s' (by omega) (by omega) h'
      exact ⟨s2, g1, fun q => (e q _).trans (g2 q)⟩
/-! ===== the plane ===== -/
def cel (L : zL) (x y ax : Int) : Int := cF (lI L x y ax)
def keyI (cx cy : Int) : Int := (cy + 4096) * 8192 + cx + 4096
def sgn (z : Int) : Int := if 0 < z then 1 else if z < 0 then -1 else 0
def dXx (L : zL) (x y ax : Int) : Int := lI L (x + 1) y ax - lI L (x - 1) y ax
def dYy (L : zL) (x y ax : Int) : Int := lI L x (y + 1) ax - lI L x (y - 1) ax
def pI (L : zL) (x y : Int) : Int := sgn (dXx L x y 0 * dYy L x y 1 - dXx L x y 1 * dYy L x y 0)
theorem keyOf_eq (cx cy : Int) : FX7_keyOf (iI cx) (iI cy) = some (iI (keyI cx cy)) := by
  unfold FX7_keyOf
  rw [show (4096 : Int32) = iI 4096 from rfl, show (8192 : Int32) = iI 8192 from rfl, iA, iM, iA, iA]
  rfl
theorem cel_le {L : zL} (h : zRL L) {x y : Int} (hx : -60 ≤ x ∧ x ≤ 60) (hy : -60 ≤ y ∧ y ≤ 60) (ax : Int) : -3400 ≤ cel L x y ax ∧ cel L x y ax ≤ 3400 := by
  have := lI_le h hx hy ax
  unfold cel cF
  omega
theorem keyI_inj {a b c d : Int} (ha : -4096 ≤ a ∧ a < 4096) (hc : -4096 ≤ c ∧ c < 4096) : keyI a b = keyI c d ↔ a = c ∧ b = d := by
  unfold keyI
  omega
/-- the light of the wide plane, at two cells -/
def zLt (c1 c2 : Nat) (L : zL) (M : zMem) (x y : Int) : Prop := M.1 c1 (plN x y) = iI (lI L x y 0) ∧ M.1 c2 (plN x y) = iI (lI L x y 1)
/-- the class's plane is as the lens says -/
def zPlC (L : zL) (M : zMem) : Prop := (∀ x y, (-25 ≤ x ∧ x ≤ 25) → (-25 ≤ y ∧ y ≤ 25) → zLt 16 17 L M x y) ∧ ∀ p, p < 2401 → M.1 18 p = iI (keyI (cel L (pX p) (pY p) 0) (cel L (pX p) (pY p) 1)) ∧ M.1 19 p = iI (pI L (pX p) (pY p))
theorem plN_inj {x y x' y' : Int} (hx : -25 ≤ x ∧ x ≤ 25) (hy : -25 ≤ y ∧ y ≤ 25) (hx' : -25 ≤ x' ∧ x' ≤ 25) (hy' : -25 ≤ y' ∧ y' ≤ 25) (h : plN x y = plN x' y') : x = x' ∧ y = y' := by
  unfold plN at h
  omega
theorem plN_lt {x y : Int} (hx : -25 ≤ x ∧ x ≤ 25) (hy : -25 ≤ y ∧ y ≤ 25) : plN x y < 2601 := by
  unfold plN
  omega
theorem plN_I {x y : Int} (hx : -25 ≤ x ∧ x ≤ 25) (hy : -25 ≤ y ∧ y ≤ 25) : iI ((y + 25) * 51 + x + 25) = iI (plN x y : Nat) := by
  unfold plN
  congr 1
  omega
/-- one place's light goes into the two cells -/
theorem zLt_wr {c1 c2 : Nat} {L : zL} {M : zMem} {x y x' y' : Int} (hc : c1 ≠ c2) (hx : -25 ≤ x ∧ x ≤ 25) (hy : -25 ≤ y ∧ y ≤ 25) (hx' : -25 ≤ x' ∧ x' ≤ 25) (hy' : -25 ≤ y' ∧ y' ≤ 25) (h : (x' = x ∧ y' = y) ∨ zLt c1 c2 L M x' y') : zLt c1 c2 L (zwr (zwr M c1 (plN x y) (iI (lI L x y 0))) c2 (plN x y) (iI (lI L x y 1))) x' y' := by
  unfold zLt
  by_cases e : plN x' y' = plN x y
  · obtain ⟨rfl, rfl⟩ := plN_inj hx' hy' hx hy e
    rw [zwr_nc hc, zwr_eq, zwr_eq]
    exact ⟨rfl, rfl⟩
  · rw [zwr_nj e, zwr_nj e, zwr_nj e, zwr_nj e]
    rcases h with ⟨rfl, rfl⟩ | h
    · exact absurd rfl e
    · exact h
