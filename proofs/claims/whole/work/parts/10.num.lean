/-! ===== THE PURE PART: numbers ===== -/
def iI (z : Int) : Int32 := Int32.ofInt z
theorem iT {z : Int} (h1 : -2147483648 ≤ z) (h2 : z ≤ 2147483647) : (iI z).toInt = z := Int32.toInt_ofInt_of_le (by omega) (by omega)
theorem iT' (x : Int32) : iI x.toInt = x := Int32.ofInt_toInt x
theorem iOf (x : Int32) : ∃ z : Int, -2147483648 ≤ z ∧ z ≤ 2147483647 ∧ x = iI z := ⟨x.toInt, by have := Int32.le_toInt x; omega, by have := Int32.toInt_lt x; omega, (iT' x).symm⟩
theorem iA (a b : Int) : iI a + iI b = iI (a + b) := (Int32.ofInt_add a b).symm
theorem iS (a b : Int) : iI a - iI b = iI (a - b) := (Int32.ofInt_sub a b).symm
theorem iM (a b : Int) : iI a * iI b = iI (a * b) := (Int32.ofInt_mul a b).symm
theorem iN (a : Int) : -iI a = iI (-a) := (Int32.ofInt_neg a).symm
theorem iL (n : Nat) : (OfNat.ofNat n : Int32) = iI (n : Int) := by
  apply Int32.toInt_inj.mp
  show (Int32.ofNat n).toInt = (Int32.ofInt (n : Int)).toInt
  rw [Int32.ofInt_eq_ofNat]
theorem iLt {a b : Int} (ha : -2147483648 ≤ a ∧ a ≤ 2147483647) (hb : -2147483648 ≤ b ∧ b ≤ 2147483647) : iI a < iI b ↔ a < b := by
  rw [Int32.lt_iff_toInt_lt, iT ha.1 ha.2, iT hb.1 hb.2]
theorem iLe {a b : Int} (ha : -2147483648 ≤ a ∧ a ≤ 2147483647) (hb : -2147483648 ≤ b ∧ b ≤ 2147483647) : iI a ≤ iI b ↔ a ≤ b := by
  rw [Int32.le_iff_toInt_le, iT ha.1 ha.2, iT hb.1 hb.2]
theorem iEq {a b : Int} (ha : -2147483648 ≤ a ∧ a ≤ 2147483647) (hb : -2147483648 ≤ b ∧ b ≤ 2147483647) : iI a = iI b ↔ a = b := by
  rw [← Int32.toInt_inj, iT ha.1 ha.2, iT hb.1 hb.2]
theorem iD {a b : Int} (ha : -2147483648 ≤ a ∧ a ≤ 2147483647) (hb : -2147483648 ≤ b ∧ b ≤ 2147483647) : iI a / iI b = iI (a.tdiv b) := by
  unfold iI
  exact (Int32.ofInt_tdiv (by rw [show Int32.minValue.toInt = -2147483648 by decide]; exact ha.1) (by rw [show Int32.maxValue.toInt = 2147483647 by decide]; exact ha.2) (by rw [show Int32.minValue.toInt = -2147483648 by decide]; exact hb.1) (by rw [show Int32.maxValue.toInt = 2147483647 by decide]; exact hb.2)).symm
theorem iR {a b : Int} (ha : -2147483648 ≤ a ∧ a ≤ 2147483647) (hb : -2147483648 ≤ b ∧ b ≤ 2147483647) : zrem (iI a) (iI b) = iI (a.tmod b) := by
  unfold zrem
  rw [iD ha hb, iM, iS, Int.tmod_def, Int.mul_comm]
theorem iC {a : Int} (h0 : 0 ≤ a) (h1 : a ≤ 2147483647) : zcl (iI a) = a.toNat := by
  unfold zcl
  show (iI a).toInt.toNat = _
  rw [iT (by omega) h1]
theorem iIn {a : Int} {n : Nat} (h0 : 0 ≤ a) (h1 : a < n) (h2 : a ≤ 2147483647) : zin (iI a) n = true := by
  unfold zin
  have e : ¬ iI a < 0 := by rw [show (0 : Int32) = iI 0 from rfl, iLt ⟨by omega, h2⟩ ⟨by omega, by omega⟩]; omega
  have e2 : (iI a).toNatClampNeg < n := by have := iC h0 h2; unfold zcl at this; rw [this]; omega
  simp [e, e2]
theorem zgT {ρ : Type} {b : Bool} {F : Option ρ} (h : b = true) : zguard b F = F := by unfold zguard; rw [if_pos h]
theorem zgI {ρ : Type} {a : Int} {n : Nat} {F : Option ρ} (h0 : 0 ≤ a) (h1 : a < n) (h2 : a ≤ 2147483647) : zguard (zin (iI a) n) F = F := zgT (iIn h0 h1 h2)
theorem zrI (M : zMem) (q : Nat) {a : Int} (h0 : 0 ≤ a) (h2 : a ≤ 2147483647) : zrd M q (iI a) = M.1 q a.toNat := by unfold zrd; rw [iC h0 h2]
theorem nIi (n : Nat) : nI n = iI n := by
  unfold nI iI
  rw [Int32.ofInt_eq_ofNat]
/-- loops by a row of states -/
theorem zloop_seq {σ ρ : Type} {f : (σ → Option ρ) → σ → Option ρ} (S : Nat → σ) (N : Nat) (hs : ∀ i, i < N → ∀ rec, f rec (S i) = rec (S (i + 1))) : ∀ (i n : Nat), i ≤ N → N < n + i → zloop f n (S i) = f (zloop f (n - (N - i) - 1)) (S N) := by
  intro i n hi hn
  generalize hk : N - i = k
  induction k generalizing i n with
  | zero =>
    have : i = N := by omega
    subst this
    cases n with
    | zero => omega
    | succ n => show f (zloop f n) (S i) = _; simp
  | succ k ih =>
    cases n with
    | zero => omega
    | succ n =>
      show f (zloop f n) (S i) = _
      rw [hs i (by omega), ih (i + 1) n (by omega) (by omega) (by omega)]
      rw [show n + 1 - (k + 1) - 1 = n - k - 1 by omega]
theorem zloop_end {σ ρ : Type} {f : (σ → Option ρ) → σ → Option ρ} (S : Nat → σ) (N : Nat) {r : Option ρ} {s0 : σ} (h0 : s0 = S 0) (hs : ∀ i, i < N → ∀ rec, f rec (S i) = rec (S (i + 1))) (he : ∀ rec, f rec (S N) = r) (hN : N < zFuel) : zloop f zFuel s0 = r := by
  rw [h0, zloop_seq S N hs 0 zFuel (Nat.zero_le _) (by omega), he]
/-- loops by an invariant -/
theorem zloop_inv {σ ρ : Type} {f : (σ → Option ρ) → σ → Option ρ} (I : Nat → σ → Prop) (N : Nat) {r : σ → Option ρ} (hs : ∀ i s, i < N → I i s → ∃ s', I (i + 1) s' ∧ ∀ rec, f rec s = rec s') (he : ∀ s, I N s → ∀ rec, f rec s = r s) : ∀ (k i n : Nat) (s : σ), i + k = N → k < n → I i s → ∃ s', I N s' ∧ zloop f n s = r s' := by
  intro k
  induction k with
  | zero =>
    intro i n s hi hn h
    have : i = N := by omega
    subst this
    cases n with
    | zero => omega
    | succ n => exact ⟨s, h, he s h _⟩
  | succ k ih =>
    intro i n s hi hn h
    cases n with
    | zero => omega
    | succ n =>
      obtain ⟨s', h', e⟩ := hs i s (by omega) h
      obtain ⟨s2, g1, g2⟩ := ih (i + 1) n s' (by omega) (by omega) h'
      exact ⟨s2, g1, (e _).trans g2⟩
theorem zfu {n : Nat} (h : n < 1000000) : n < zFuel := h
