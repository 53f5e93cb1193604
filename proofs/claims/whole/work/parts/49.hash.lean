/-! ===== keys as they first come, and linear probing ===== -/
def hOc {α : Type} [DecidableEq α] (on : Nat → Bool) (κ : Nat → α) (k : α) : Nat → Bool
  | 0 => false
  | n + 1 => (on n && decide (κ n = k)) || hOc on κ k n
def hF {α : Type} [DecidableEq α] (on : Nat → Bool) (κ : Nat → α) (n : Nat) : Bool := on n && !(hOc on κ (κ n) n)
/-- how many keys there are among the first n -/
def hD {α : Type} [DecidableEq α] (on : Nat → Bool) (κ : Nat → α) : Nat → Nat
  | 0 => 0
  | n + 1 => hD on κ n + (if hF on κ n = true then 1 else 0)
/-- how often a key came among the first n -/
def hC {α : Type} [DecidableEq α] (on : Nat → Bool) (κ : Nat → α) (k : α) : Nat → Nat
  | 0 => 0
  | n + 1 => hC on κ k n + (if on n = true ∧ κ n = k then 1 else 0)
theorem hOc_iff {α : Type} [DecidableEq α] {on : Nat → Bool} {κ : Nat → α} {k : α} : ∀ n, hOc on κ k n = true ↔ ∃ i, i < n ∧ on i = true ∧ κ i = k := by
  intro n
  induction n with
  | zero => exact ⟨fun z => (show False from Bool.noConfusion (show false = true from z)).elim, fun ⟨i, h, _⟩ => absurd h (Nat.not_lt_zero _)⟩
  | succ n ih =>
    show ((on n && decide (κ n = k)) || hOc on κ k n) = true ↔ _
    rw [Bool.or_eq_true, Bool.and_eq_true, decide_eq_true_eq, ih]
    constructor
    · rintro (⟨h1, h2⟩ | ⟨i, h1, h2⟩)
      · exact ⟨n, by omega, h1, h2⟩
      · exact ⟨i, by omega, h2⟩
    · rintro ⟨i, h1, h2, h3⟩
      by_cases e : i = n
      · subst e; exact Or.inl ⟨h2, h3⟩
      · exact Or.inr ⟨i, by omega, h2, h3⟩
theorem hF_iff {α : Type} [DecidableEq α] {on : Nat → Bool} {κ : Nat → α} {n : Nat} : hF on κ n = true ↔ on n = true ∧ ∀ i, i < n → on i = true → κ i ≠ κ n := by
  unfold hF
  rw [Bool.and_eq_true, Bool.not_eq_true']
  constructor
  · rintro ⟨h1, h2⟩
    refine ⟨h1, fun i hi ho e => ?_⟩
    have := (hOc_iff (on := on) (κ := κ) (k := κ n) n).mpr ⟨i, hi, ho, e⟩
    rw [h2] at this
    exact absurd this (by decide)
  · rintro ⟨h1, h2⟩
    refine ⟨h1, ?_⟩
    cases e : hOc on κ (κ n) n with
    | false => rfl
    | true =>
      obtain ⟨i, a, b, c⟩ := (hOc_iff n).mp e
      exact absurd c (h2 i a b)
theorem hF_uniq {α : Type} [DecidableEq α] {on : Nat → Bool} {κ : Nat → α} {i j : Nat} (hi : hF on κ i = true) (hj : hF on κ j = true) (e : κ i = κ j) : i = j := by
  have h1 := hF_iff.mp hi
  have h2 := hF_iff.mp hj
  rcases Nat.lt_trichotomy i j with h | h | h
  · exact absurd e (h2.2 i h h1.1)
  · exact h
  · exact absurd e.symm (h1.2 j h h2.1)
theorem hFirst {α : Type} [DecidableEq α] {on : Nat → Bool} {κ : Nat → α} {k : α} : ∀ n, (∃ i, i < n ∧ on i = true ∧ κ i = k) → ∃ i, i < n ∧ hF on κ i = true ∧ κ i = k := by
  intro n
  induction n with
  | zero => rintro ⟨i, h, _⟩; exact absurd h (Nat.not_lt_zero _)
  | succ n ih =>
    rintro ⟨i, h1, h2, h3⟩
    by_cases e : ∃ i, i < n ∧ on i = true ∧ κ i = k
    · obtain ⟨j, a, b⟩ := ih e
      exact ⟨j, by omega, b⟩
    · have : i = n := by
        by_cases c : i = n
        · exact c
        · exact absurd ⟨i, by omega, h2, h3⟩ e
      subst this
      exact ⟨i, h1, hF_iff.mpr ⟨h2, fun j hj ho ej => e ⟨j, hj, ho, ej.trans h3⟩⟩, h3⟩
theorem hD_p {α : Type} [DecidableEq α] {on : Nat → Bool} {κ : Nat → α} {n : Nat} (h : hF on κ n = true) : hD on κ (n + 1) = hD on κ n + 1 := by
  show hD on κ n + (if hF on κ n = true then 1 else 0) = _
  rw [if_pos h]
theorem hD_n {α : Type} [DecidableEq α] {on : Nat → Bool} {κ : Nat → α} {n : Nat} (h : ¬ hF on κ n = true) : hD on κ (n + 1) = hD on κ n := by
  show hD on κ n + (if hF on κ n = true then 1 else 0) = _
  rw [if_neg h, Nat.add_zero]
theorem hD_s {α : Type} [DecidableEq α] (on : Nat → Bool) (κ : Nat → α) (n : Nat) : hD on κ n ≤ hD on κ (n + 1) ∧ hD on κ (n + 1) ≤ hD on κ n + 1 := by
  by_cases h : hF on κ n = true
  · rw [hD_p h]; omega
  · rw [hD_n h]; omega
theorem hD_le {α : Type} [DecidableEq α] (on : Nat → Bool) (κ : Nat → α) : ∀ n, hD on κ n ≤ n := by
  intro n
  induction n with
  | zero => exact Nat.le_refl _
  | succ n ih => have := hD_s on κ n; omega
theorem hD_mono {α : Type} [DecidableEq α] (on : Nat → Bool) (κ : Nat → α) (i : Nat) : ∀ j, i ≤ j → hD on κ i ≤ hD on κ j := by
  intro j
  induction j with
  | zero => intro h; rw [show i = 0 by omega]; exact Nat.le_refl _
  | succ j ih =>
    intro h
    by_cases e : i = j + 1
    · rw [e]; exact Nat.le_refl _
    · have := ih (by omega); have := hD_s on κ j; omega
theorem hD_lt {α : Type} [DecidableEq α] {on : Nat → Bool} {κ : Nat → α} {i j : Nat} (h : hF on κ i = true) (hij : i < j) : hD on κ i < hD on κ j := by
  have h1 := hD_p h
  have h2 := hD_mono on κ (i + 1) j (by omega)
  omega
theorem hD_inj {α : Type} [DecidableEq α] {on : Nat → Bool} {κ : Nat → α} {i j : Nat} (hi : hF on κ i = true) (hj : hF on κ j = true) (e : hD on κ i = hD on κ j) : i = j := by
  rcases Nat.lt_trichotomy i j with h | h | h
  · have := hD_lt hi h; omega
  · exact h
  · have := hD_lt hj h; omega
theorem hC_s {α : Type} [DecidableEq α] (on : Nat → Bool) (κ : Nat → α) (k : α) (n : Nat) : hC on κ k (n + 1) = hC on κ k n + (if on n = true ∧ κ n = k then 1 else 0) := rfl
theorem hC_le {α : Type} [DecidableEq α] (on : Nat → Bool) (κ : Nat → α) (k : α) : ∀ n, hC on κ k n ≤ n := by
  intro n
  induction n with
  | zero => exact Nat.le_refl _
  | succ n ih =>
    rw [hC_s]
    by_cases h : on n = true ∧ κ n = k
    · rw [if_pos h]; omega
    · rw [if_neg h]; omega
theorem hC_0 {α : Type} [DecidableEq α] {on : Nat → Bool} {κ : Nat → α} {k : α} : ∀ n, (∀ i, i < n → on i = true → κ i ≠ k) → hC on κ k n = 0 := by
  intro n
  induction n with
  | zero => intro _; rfl
  | succ n ih =>
    intro h
    rw [hC_s, ih (fun i hi => h i (by omega)), if_neg (fun z => h n (by omega) z.1 z.2)]
/-- the equal keys' pattern tells all -/
theorem hF_congr {α β : Type} [DecidableEq α] [DecidableEq β] {on : Nat → Bool} {κ : Nat → α} {κ' : Nat → β} {n : Nat} (h : ∀ i, i ≤ n → (κ i = κ n ↔ κ' i = κ' n)) : hF on κ n = true ↔ hF on κ' n = true := by
  rw [hF_iff, hF_iff]
  exact ⟨fun z => ⟨z.1, fun i hi ho e => z.2 i hi ho ((h i (by omega)).mpr e)⟩, fun z => ⟨z.1, fun i hi ho e => z.2 i hi ho ((h i (by omega)).mp e)⟩⟩
theorem hD_congr {α β : Type} [DecidableEq α] [DecidableEq β] {on : Nat → Bool} {κ : Nat → α} {κ' : Nat → β} : ∀ n, (∀ i j, i < n → j < n → (κ i = κ j ↔ κ' i = κ' j)) → hD on κ n = hD on κ' n := by
  intro n
  induction n with
  | zero => intro _; rfl
  | succ n ih =>
    intro h
    have e := ih (fun i j hi hj => h i j (by omega) (by omega))
    have f := hF_congr (on := on) (κ := κ) (κ' := κ') (n := n) (fun i hi => h i n (by omega) (by omega))
    by_cases c : hF on κ n = true
    · rw [hD_p c, hD_p (f.mp c), e]
    · rw [hD_n c, hD_n (fun z => c (f.mpr z)), e]
theorem hC_congr {α β : Type} [DecidableEq α] [DecidableEq β] {on : Nat → Bool} {κ : Nat → α} {κ' : Nat → β} {k : α} {k' : β} : ∀ n, (∀ i, i < n → (κ i = k ↔ κ' i = k')) → hC on κ k n = hC on κ' k' n := by
  intro n
  induction n with
  | zero => intro _; rfl
  | succ n ih =>
    intro h
    rw [hC_s, hC_s, ih (fun i hi => h i (by omega))]
    have e := h n (by omega)
    by_cases c : on n = true ∧ κ n = k
    · rw [if_pos c, if_pos ⟨c.1, e.mp c.2⟩]
    · rw [if_neg c, if_neg (fun z => c ⟨z.1, e.mpr z.2⟩)]
/-- the place of a probe -/
def hP (h t : Nat) : Nat := (h + t) % 8192
theorem hP_lt (h t : Nat) : hP h t < 8192 := Nat.mod_lt _ (by decide)
theorem hP_0 {h : Nat} (hh : h < 8192) : hP h 0 = h := Nat.mod_eq_of_lt hh
theorem hP_s (h t : Nat) : hP h (t + 1) = (hP h t + 1) % 8192 := by unfold hP; omega
def hT {α : Type} [DecidableEq α] (on : Nat → Bool) (κ : Nat → α) (home : α → Nat) (n : Nat) (T : Nat → Option Nat) : Prop :=
  (∀ s i, s < 8192 → T s = some i → (i < n ∧ hF on κ i = true) ∧ ∃ t, t < 8192 ∧ s = hP (home (κ i)) t ∧ ∀ t', t' < t → ∃ j, T (hP (home (κ i)) t') = some j ∧ κ j ≠ κ i) ∧ (∀ i, i < n → hF on κ i = true → ∃ s, s < 8192 ∧ T s = some i) ∧ gCnt (fun s => (T s).isSome) 8192 = hD on κ n
theorem gCnt_ff : ∀ n, gCnt (fun _ => false) n = 0 := by
  intro n
  induction n with
  | zero => rfl
  | succ n ih => show gCnt (fun _ => false) n + (if false = true then 1 else 0) = 0; rw [ih, if_neg (by decide)]
theorem hT_0 {α : Type} [DecidableEq α] (on : Nat → Bool) (κ : Nat → α) (home : α → Nat) : hT on κ home 0 (fun _ => none) := ⟨fun s i _ h => absurd h (fun z => nomatch z), fun i hi => absurd hi (Nat.not_lt_zero _), gCnt_ff 8192⟩
theorem gCnt_free {W : Nat → Bool} : ∀ n, gCnt W n < n → ∃ p, p < n ∧ ¬ W p = true := by
  intro n
  induction n with
  | zero => intro h; exact absurd h (Nat.not_lt_zero _)
  | succ n ih =>
    intro h
    have h : gCnt W n + (if W n = true then 1 else 0) < n + 1 := h
    by_cases e : W n = true
    · rw [if_pos e] at h
      obtain ⟨p, a, b⟩ := ih (by omega)
      exact ⟨p, by omega, b⟩
    · exact ⟨n, by omega, e⟩
theorem hLeast {P : Nat → Prop} : ∀ n, P n → ∃ m, m ≤ n ∧ P m ∧ ∀ i, i < m → ¬ P i := by
  intro n
  induction n using Nat.strongRecOn with
  | ind n ih =>
    intro h
    by_cases e : ∃ i, i < n ∧ P i
    · obtain ⟨i, hi, hp⟩ := e
      obtain ⟨m, a, b⟩ := ih i hi hp
      exact ⟨m, by omega, b⟩
    · exact ⟨n, Nat.le_refl _, h, fun i hi hp => e ⟨i, hi, hp⟩⟩
theorem hT_look {α : Type} [DecidableEq α] {on : Nat → Bool} {κ : Nat → α} {home : α → Nat} {n : Nat} {T : Nat → Option Nat} (h : hT on κ home n T) (hd : hD on κ n < 8192) (k : α) (hk : home k < 8192) : ∃ N, N < 8192 ∧ (∀ t, t < N → ∃ j, T (hP (home k) t) = some j ∧ κ j ≠ k) ∧ ((T (hP (home k) N) = none ∧ ∀ i, i < n → on i = true → κ i ≠ k) ∨ ∃ i, T (hP (home k) N) = some i ∧ κ i = k) := by
  obtain ⟨h1, h2, h3⟩ := h
  obtain ⟨s, hs, hf⟩ := gCnt_free (W := fun s => (T s).isSome) 8192 (by rw [h3]; exact hd)
  have hn : T s = none := by
    cases e : T s with
    | none => rfl
    | some i => exact absurd (show (T s).isSome = true by rw [e]; rfl) hf
  have ht : hP (home k) ((s + 8192 - home k) % 8192) = s := by unfold hP; omega
  obtain ⟨N, n1, n2, n3⟩ := hLeast (P := fun t => T (hP (home k) t) = none ∨ ∃ i, T (hP (home k) t) = some i ∧ κ i = k) ((s + 8192 - home k) % 8192) (Or.inl (by rw [ht]; exact hn))
  have hpath : ∀ t, t < N → ∃ j, T (hP (home k) t) = some j ∧ κ j ≠ k := by
    intro t htN
    have hnp := n3 t htN
    cases e : T (hP (home k) t) with
    | none => exact absurd (Or.inl e) hnp
    | some j => exact ⟨j, rfl, fun z => hnp (Or.inr ⟨j, e, z⟩)⟩
  refine ⟨N, by omega, hpath, ?_⟩
  rcases n2 with n2 | n2
  · refine Or.inl ⟨n2, fun i hi ho e => ?_⟩
    obtain ⟨i0, a1, a2, a3⟩ := hFirst n ⟨i, hi, ho, e⟩
    obtain ⟨s0, b1, b2⟩ := h2 i0 a1 a2
    obtain ⟨-, t, c1, c2, c3⟩ := h1 s0 i0 b1 b2
    rw [a3] at c2 c3
    rcases Nat.lt_trichotomy t N with d | d | d
    · obtain ⟨j, d1, d2⟩ := hpath t d
      rw [← c2, b2] at d1
      have : i0 = j := Option.some.inj d1
      subst this
      exact d2 a3
    · subst d
      rw [← c2, b2] at n2
      cases n2
    · obtain ⟨j, d1, -⟩ := c3 N d
      rw [n2] at d1
      cases d1
  · exact Or.inr n2
theorem hT_new {α : Type} [DecidableEq α] {on : Nat → Bool} {κ : Nat → α} {home : α → Nat} {n N : Nat} {T : Nat → Option Nat} (h : hT on κ home n T) (hN : N < 8192) (hf : hF on κ n = true) (hp : ∀ t, t < N → ∃ j, T (hP (home (κ n)) t) = some j ∧ κ j ≠ κ n) (hn : T (hP (home (κ n)) N) = none) : hT on κ home (n + 1) (gU T (hP (home (κ n)) N) (some n)) := by
  obtain ⟨h1, h2, h3⟩ := h
  have hlt := hP_lt (home (κ n)) N
  have old : ∀ s i, T s = some i → gU T (hP (home (κ n)) N) (some n) s = some i := by
    intro s i e
    rw [gU_ne (fun z => by rw [z, hn] at e; cases e)]
    exact e
  refine ⟨fun s i hs e => ?_, fun i hi hfi => ?_, ?_⟩
  · by_cases c : s = hP (home (κ n)) N
    · rw [c, gU_eq] at e
      have : n = i := Option.some.inj e
      subst this
      refine ⟨⟨by omega, hf⟩, N, hN, c, fun t ht => ?_⟩
      obtain ⟨j, a, b⟩ := hp t ht
      exact ⟨j, old _ _ a, b⟩
    · rw [gU_ne c] at e
      obtain ⟨⟨a1, a2⟩, t, a3, a4, a5⟩ := h1 s i hs e
      refine ⟨⟨by omega, a2⟩, t, a3, a4, fun t' ht' => ?_⟩
      obtain ⟨j, b1, b2⟩ := a5 t' ht'
      exact ⟨j, old _ _ b1, b2⟩
  · by_cases c : i = n
    · subst c
      exact ⟨_, hlt, gU_eq⟩
    · obtain ⟨s, a, b⟩ := h2 i (by omega) hfi
      exact ⟨s, a, old _ _ b⟩
  · have e : gU (fun s => (gU T (hP (home (κ n)) N) (some n) s).isSome) (hP (home (κ n)) N) false = fun s => (T s).isSome := by
      funext s
      by_cases c : s = hP (home (κ n)) N
      · rw [c, gU_eq, hn]; rfl
      · rw [gU_ne c, gU_ne c]
    have g := gCnt_upd (W := fun s => (gU T (hP (home (κ n)) N) (some n) s).isSome) (p := hP (home (κ n)) N) (by show (gU T _ (some n) _).isSome = true; rw [gU_eq]; rfl) 8192 hlt
    rw [e, h3] at g
    rw [hD_p hf]
    exact g.symm
theorem hT_old {α : Type} [DecidableEq α] {on : Nat → Bool} {κ : Nat → α} {home : α → Nat} {n : Nat} {T : Nat → Option Nat} (h : hT on κ home n T) (hf : ¬ hF on κ n = true) : hT on κ home (n + 1) T := by
  obtain ⟨h1, h2, h3⟩ := h
  refine ⟨fun s i hs e => ?_, fun i hi hfi => ?_, by rw [hD_n hf]; exact h3⟩
  · obtain ⟨⟨a1, a2⟩, a3⟩ := h1 s i hs e
    exact ⟨⟨by omega, a2⟩, a3⟩
  · by_cases c : i = n
    · subst c; exact absurd hfi hf
    · exact h2 i (by omega) hfi
/-- the number's first, by number -/
def hE {α : Type} [DecidableEq α] (on : Nat → Bool) (κ : Nat → α) : Nat → Nat → Nat
  | 0 => fun _ => 0
  | n + 1 => if hF on κ n = true then gU (hE on κ n) (hD on κ n) n else hE on κ n
theorem hE_p {α : Type} [DecidableEq α] {on : Nat → Bool} {κ : Nat → α} {n : Nat} (h : hF on κ n = true) : hE on κ (n + 1) = gU (hE on κ n) (hD on κ n) n := if_pos h
theorem hE_n {α : Type} [DecidableEq α] {on : Nat → Bool} {κ : Nat → α} {n : Nat} (h : ¬ hF on κ n = true) : hE on κ (n + 1) = hE on κ n := if_neg h
theorem hE_is {α : Type} [DecidableEq α] (on : Nat → Bool) (κ : Nat → α) : ∀ n j, j < hD on κ n → hE on κ n j < n ∧ hF on κ (hE on κ n j) = true ∧ hD on κ (hE on κ n j) = j := by
  intro n
  induction n with
  | zero => intro j h; exact absurd h (Nat.not_lt_zero _)
  | succ n ih =>
    intro j h
    by_cases c : hF on κ n = true
    · rw [hD_p c] at h
      rw [hE_p c]
      by_cases e : j = hD on κ n
      · rw [e, gU_eq]; exact ⟨by omega, c, rfl⟩
      · rw [gU_ne e]
        have := ih j (by omega)
        exact ⟨by omega, this.2⟩
    · rw [hD_n c] at h
      rw [hE_n c]
      have := ih j h
      exact ⟨by omega, this.2⟩
