/-! ===== groups: the flood, as a picture: how many are queued, who waits, the queue ===== -/
/-- no rfl-lemma: the kernel must not run a loop to see it -/
theorem zlet_e {α ρ : Type} (e : α) (f : α → ρ) : zlet e f = f e := Eq.trans rfl rfl
theorem zloop_s {σ ρ : Type} {f : (σ → Option ρ) → σ → Option ρ} {n : Nat} {s : σ} : zloop f (n + 1) s = f (zloop f n) s := Eq.trans rfl rfl
def gU {α : Type} (f : Nat → α) (p : Nat) (v : α) : Nat → α := fun i => if i = p then v else f i
theorem gU_eq {α : Type} {f : Nat → α} {p : Nat} {v : α} : gU f p v p = v := if_pos rfl
theorem gU_ne {α : Type} {f : Nat → α} {p i : Nat} {v : α} (h : i ≠ p) : gU f p v i = f i := if_neg h
abbrev gSt : Type := Nat × (Nat → Bool) × (Nat → Nat)
def gVs (p : Nat) (s : gSt) : gSt := if s.2.1 p = true then (s.1 + 1, gU s.2.1 p false, gU s.2.2 s.1 p) else s
def gV (x y : Int) (s : gSt) : gSt := if (0 ≤ x ∧ x ≤ 48) ∧ (0 ≤ y ∧ y ≤ 48) then gVs (49 * y + x).toNat s else s
/-- the first places of a row from x on -/
def gFrom (y x : Int) : Nat → gSt → gSt
  | 0, s => s
  | i + 1, s => gV (x + i) y (gFrom y x i s)
/-- the first rows from y on, of three places each -/
def gRows (c y : Int) : Nat → gSt → gSt
  | 0, s => s
  | j + 1, s => gFrom (y + j) (c - 1) 3 (gRows c y j s)
/-- the places in the reference's order -/
def gK (c r : Int) : Nat → gSt → gSt
  | 0, s => s
  | k + 1, s => gV (c + (k % 3 : Nat) - 1) (r + (k / 3 : Nat) - 1) (gK c r k s)
def gNb (h : Nat) (s : gSt) : gSt := gK (h % 49 : Nat) (h / 49 : Nat) 9 s
theorem gNb_rows (h : Nat) (s : gSt) : gNb h s = gRows (h % 49 : Nat) ((h / 49 : Nat) - 1) 3 s := by
  unfold gNb
  generalize ((h % 49 : Nat) : Int) = c
  generalize ((h / 49 : Nat) : Int) = r
  show gV (c + 2 - 1) (r + 2 - 1) (gV (c + 1 - 1) (r + 2 - 1) (gV (c + 0 - 1) (r + 2 - 1) (gV (c + 2 - 1) (r + 1 - 1) (gV (c + 1 - 1) (r + 1 - 1) (gV (c + 0 - 1) (r + 1 - 1) (gV (c + 2 - 1) (r + 0 - 1) (gV (c + 1 - 1) (r + 0 - 1) (gV (c + 0 - 1) (r + 0 - 1) s)))))))) = gV (c - 1 + 2) (r - 1 + 2) (gV (c - 1 + 1) (r - 1 + 2) (gV (c - 1 + 0) (r - 1 + 2) (gV (c - 1 + 2) (r - 1 + 1) (gV (c - 1 + 1) (r - 1 + 1) (gV (c - 1 + 0) (r - 1 + 1) (gV (c - 1 + 2) (r - 1 + 0) (gV (c - 1 + 1) (r - 1 + 0) (gV (c - 1 + 0) (r - 1 + 0) s))))))))
  rw [show c + 2 - 1 = c - 1 + 2 by omega, show c + 1 - 1 = c - 1 + 1 by omega, show c + 0 - 1 = c - 1 + 0 by omega, show r + 2 - 1 = r - 1 + 2 by omega, show r + 1 - 1 = r - 1 + 1 by omega, show r + 0 - 1 = r - 1 + 0 by omega]
theorem gV_out {x y : Int} {s : gSt} (h : ¬ ((0 ≤ x ∧ x ≤ 48) ∧ (0 ≤ y ∧ y ≤ 48))) : gV x y s = s := if_neg h
/-- a row cut at the plane's border is the row -/
theorem gFrom_cut {y c : Int} {s : gSt} (hc : 0 ≤ c ∧ c ≤ 48) : gFrom y (if c - 1 < 0 then 0 else c - 1) ((if 48 < c + 1 then 48 else c + 1) - (if c - 1 < 0 then 0 else c - 1) + 1).toNat s = gFrom y (c - 1) 3 s := by
  by_cases h0 : c - 1 < 0
  · have hc0 : c = 0 := by omega
    subst hc0
    show gV _ y (gV _ y s) = gV _ y (gV _ y (gV _ y s))
    rw [gV_out (x := 0 - 1 + ((0 : Nat) : Int)) (by omega)]
    rfl
  · rw [if_neg h0]
    by_cases h1 : 48 < c + 1
    · have hc0 : c = 48 := by omega
      subst hc0
      show gV _ y (gV _ y s) = gV _ y (gV _ y (gV _ y s))
      exact (gV_out (x := 48 - 1 + 2) (by omega)).symm
    · rw [if_neg h1, show (c + 1 - (c - 1) + 1).toNat = 3 by omega]
theorem gFrom_out {y x : Int} (hy : ¬ (0 ≤ y ∧ y ≤ 48)) : ∀ (n : Nat) (s : gSt), gFrom y x n s = s := by
  intro n s
  induction n with
  | zero => rfl
  | succ n ih => exact (gV_out (fun z => hy z.2)).trans ih
theorem gRows_cut {c r : Int} {s : gSt} (hr : 0 ≤ r ∧ r ≤ 48) : gRows c (if r - 1 < 0 then 0 else r - 1) ((if 48 < r + 1 then 48 else r + 1) - (if r - 1 < 0 then 0 else r - 1) + 1).toNat s = gRows c (r - 1) 3 s := by
  by_cases h0 : r - 1 < 0
  · have hc0 : r = 0 := by omega
    subst hc0
    show gFrom _ _ 3 (gFrom _ _ 3 s) = gFrom _ _ 3 (gFrom _ _ 3 (gFrom _ _ 3 s))
    rw [gFrom_out (y := 0 - 1 + ((0 : Nat) : Int)) (by omega)]
    rfl
  · rw [if_neg h0]
    by_cases h1 : 48 < r + 1
    · have hc0 : r = 48 := by omega
      subst hc0
      show gFrom _ _ 3 (gFrom _ _ 3 s) = gFrom _ _ 3 (gFrom _ _ 3 (gFrom _ _ 3 s))
      exact (gFrom_out (y := 48 - 1 + 2) (by omega) 3 _).symm
    · rw [if_neg h1, show (r + 1 - (r - 1) + 1).toNat = 3 by omega]
/-- how many of the first n wait -/
def gCnt (W : Nat → Bool) : Nat → Nat
  | 0 => 0
  | n + 1 => gCnt W n + (if W n = true then 1 else 0)
theorem gCnt_le (W : Nat → Bool) : ∀ n, gCnt W n ≤ n := by
  intro n
  induction n with
  | zero => exact Nat.le_refl _
  | succ n ih =>
    show gCnt W n + (if W n = true then 1 else 0) ≤ n + 1
    by_cases h : W n = true
    · rw [if_pos h]; omega
    · rw [if_neg h]; omega
theorem gCnt_lo (W : Nat → Bool) (p : Nat) : ∀ n, n ≤ p → gCnt (gU W p false) n = gCnt W n := by
  intro n h
  induction n with
  | zero => rfl
  | succ n ih =>
    show gCnt (gU W p false) n + (if gU W p false n = true then 1 else 0) = gCnt W n + (if W n = true then 1 else 0)
    rw [ih (by omega), gU_ne (show n ≠ p by omega)]
theorem gCnt_upd {W : Nat → Bool} {p : Nat} (hw : W p = true) : ∀ n, p < n → gCnt (gU W p false) n + 1 = gCnt W n := by
  intro n h
  induction n with
  | zero => omega
  | succ n ih =>
    show gCnt (gU W p false) n + (if gU W p false n = true then 1 else 0) + 1 = gCnt W n + (if W n = true then 1 else 0)
    by_cases e : p = n
    · subst e
      rw [gCnt_lo W p p (Nat.le_refl _), gU_eq, if_neg (by decide), if_pos hw]
    · rw [gU_ne (show n ≠ p by omega)]
      have := ih (by omega)
      omega
def gIv (s : gSt) : Prop := gCnt s.2.1 2401 + s.1 ≤ 2401 ∧ ∀ i, i < s.1 → s.2.2 i < 2401
theorem gIv.lt {s : gSt} (h : gIv s) {p : Nat} (hp : p < 2401) (hw : s.2.1 p = true) : s.1 < 2401 := by
  have := gCnt_upd hw 2401 hp
  have := h.1
  omega
theorem gIv.vs {s : gSt} (h : gIv s) {p : Nat} (hp : p < 2401) : gIv (gVs p s) := by
  unfold gVs
  by_cases hw : s.2.1 p = true
  · rw [if_pos hw]
    have h1 := gCnt_upd hw 2401 hp
    have h2 := h.1
    refine ⟨show gCnt (gU s.2.1 p false) 2401 + (s.1 + 1) ≤ 2401 by omega, fun i hi => ?_⟩
    have hi : i < s.1 + 1 := hi
    show gU s.2.2 s.1 p i < 2401
    by_cases e : i = s.1
    · rw [e, gU_eq]; exact hp
    · rw [gU_ne e]; exact h.2 i (by omega)
  · rw [if_neg hw]; exact h
theorem gIv.v {s : gSt} (h : gIv s) (x y : Int) : gIv (gV x y s) := by
  unfold gV
  by_cases g : (0 ≤ x ∧ x ≤ 48) ∧ (0 ≤ y ∧ y ≤ 48)
  · rw [if_pos g]; exact h.vs (by omega)
  · rw [if_neg g]; exact h
theorem gVs_le (p : Nat) (s : gSt) : s.1 ≤ (gVs p s).1 := by
  unfold gVs
  by_cases hw : s.2.1 p = true
  · rw [if_pos hw]; show s.1 ≤ s.1 + 1; omega
  · rw [if_neg hw]; exact Nat.le_refl _
theorem gV_le (x y : Int) (s : gSt) : s.1 ≤ (gV x y s).1 := by
  unfold gV
  by_cases g : (0 ≤ x ∧ x ≤ 48) ∧ (0 ≤ y ∧ y ≤ 48)
  · rw [if_pos g]; exact gVs_le _ _
  · rw [if_neg g]; exact Nat.le_refl _
theorem gIv.k {s : gSt} (h : gIv s) (c r : Int) : ∀ n, gIv (gK c r n s) := by
  intro n
  induction n with
  | zero => exact h
  | succ n ih => exact ih.v _ _
theorem gK_le (c r : Int) (s : gSt) : ∀ n, s.1 ≤ (gK c r n s).1 := by
  intro n
  induction n with
  | zero => exact Nat.le_refl _
  | succ n ih => exact Nat.le_trans ih (gV_le _ _ _)
/-- the flood from head i on -/
def gCol : Nat → Nat → gSt → gSt
  | 0, _, s => s
  | f + 1, i, s => if i < s.1 then gCol f (i + 1) (gNb (s.2.2 i) s) else s
def gOne (W : Nat → Bool) (p : Nat) : gSt := (1, gU W p false, gU (fun _ => 0) 0 p)
theorem gIv.one {W : Nat → Bool} {p : Nat} (hp : p < 2401) (hw : W p = true) : gIv (gOne W p) := by
  have h1 := gCnt_upd hw 2401 hp
  have h2 := gCnt_le W 2401
  refine ⟨show gCnt (gU W p false) 2401 + 1 ≤ 2401 by omega, fun i hi => ?_⟩
  have hi : i < 1 := hi
  show gU (fun _ => 0) 0 p i < 2401
  rw [show i = 0 by omega, gU_eq]
  exact hp
/-- all groups of the first n pixels: who waits then, how many groups, their firsts and sizes -/
def gRun (W : Nat → Bool) : Nat → (Nat → Bool) × Nat × (Nat → Nat) × (Nat → Nat)
  | 0 => (W, 0, fun _ => 0, fun _ => 0)
  | p + 1 => if (gRun W p).1 p = true then ((gCol 2402 0 (gOne (gRun W p).1 p)).2.1, (gRun W p).2.1 + 1, gU (gRun W p).2.2.1 (gRun W p).2.1 p, gU (gRun W p).2.2.2 (gRun W p).2.1 (gCol 2402 0 (gOne (gRun W p).1 p)).1) else gRun W p
theorem gRun_p {W : Nat → Bool} {p : Nat} (h : (gRun W p).1 p = true) : gRun W (p + 1) = ((gCol 2402 0 (gOne (gRun W p).1 p)).2.1, (gRun W p).2.1 + 1, gU (gRun W p).2.2.1 (gRun W p).2.1 p, gU (gRun W p).2.2.2 (gRun W p).2.1 (gCol 2402 0 (gOne (gRun W p).1 p)).1) := if_pos h
theorem gRun_n {W : Nat → Bool} {p : Nat} (h : ¬ (gRun W p).1 p = true) : gRun W (p + 1) = gRun W p := if_neg h
theorem gRun_le (W : Nat → Bool) : ∀ p, (gRun W p).2.1 ≤ p := by
  intro p
  induction p with
  | zero => exact Nat.le_refl _
  | succ p ih =>
    by_cases h : (gRun W p).1 p = true
    · rw [gRun_p h]; show (gRun W p).2.1 + 1 ≤ p + 1; omega
    · rw [gRun_n h]; omega
theorem gRun_first (W : Nat → Bool) : ∀ p, p ≤ 2401 → ∀ i, i < (gRun W p).2.1 → (gRun W p).2.2.1 i < 2401 := by
  intro p
  induction p with
  | zero => intro _ i hi; exact absurd hi (Nat.not_lt_zero _)
  | succ p ih =>
    intro hp i hi
    by_cases h : (gRun W p).1 p = true
    · rw [gRun_p h] at hi ⊢
      have hi : i < (gRun W p).2.1 + 1 := hi
      show gU (gRun W p).2.2.1 (gRun W p).2.1 p i < 2401
      by_cases e : i = (gRun W p).2.1
      · rw [e, gU_eq]; omega
      · rw [gU_ne e]; exact ih (by omega) i (by omega)
    · rw [gRun_n h] at hi ⊢
      exact ih (by omega) i hi
