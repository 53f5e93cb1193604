/-! ===== the light of a place ===== -/
def lB (L : zL) (x y ax : Int) : Int := if ax = 0 then 16 * x - (L.2.2.1 * x + L.2.2.2 * y) else 16 * y - (L.2.2.2 * x - L.2.2.1 * y)
def pS (ft : Nat → Nat → Int) (x y ax : Int) : Nat → Int
  | 0 => 0
  | n + 1 => pS ft x y ax n + bV (ft n) (ft n 0) (ft n 3) x y ax
def lI (L : zL) (x y ax : Int) : Int := lB L x y ax - pS L.2.1 x y ax L.1
theorem zRL.row {L : zL} (h : zRL L) {b : Nat} (hb : b < L.1) : fIn (L.2.1 b) := fun f hf => h.2.1 b f hb hf
theorem pS_le {L : zL} (h : zRL L) (x y ax : Int) : ∀ n, n ≤ L.1 → -6400 * (n : Int) ≤ pS L.2.1 x y ax n ∧ pS L.2.1 x y ax n ≤ 6400 * (n : Int) := by
  intro n
  induction n with
  | zero => intro _; simp [pS]
  | succ n ih =>
    intro hn
    have i := ih (by omega)
    have r := h.row (b := n) (by omega)
    have v := bV_le r (kd := L.2.1 n 0) (w := L.2.1 n 3) (x := x) (y := y) r.all.2.2.2.1 ax
    show _ ≤ pS L.2.1 x y ax n + _ ∧ pS L.2.1 x y ax n + _ ≤ _
    omega
theorem mul_le8 {a b : Int} {k : Nat} (ha : -8 ≤ a ∧ a ≤ 8) (hb : b.natAbs ≤ k) : (a * b).natAbs ≤ 8 * k := by
  rw [Int.natAbs_mul]
  exact Nat.mul_le_mul (by omega) hb
theorem lB_le {L : zL} (h : zRL L) {x y : Int} (hx : -60 ≤ x ∧ x ≤ 60) (hy : -60 ≤ y ∧ y ≤ 60) (ax : Int) : -1920 ≤ lB L x y ax ∧ lB L x y ax ≤ 1920 := by
  have a1 := mul_le8 (b := x) (k := 60) h.2.2.1 (by omega)
  have a2 := mul_le8 (b := y) (k := 60) h.2.2.1 (by omega)
  have a3 := mul_le8 (b := x) (k := 60) h.2.2.2 (by omega)
  have a4 := mul_le8 (b := y) (k := 60) h.2.2.2 (by omega)
  unfold lB
  by_cases ha : ax = 0
  · rw [if_pos ha]; omega
  · rw [if_neg ha]; omega
theorem lI_le {L : zL} (h : zRL L) {x y : Int} (hx : -60 ≤ x ∧ x ≤ 60) (hy : -60 ≤ y ∧ y ≤ 60) (ax : Int) : -53120 ≤ lI L x y ax ∧ lI L x y ax ≤ 53120 := by
  have h1 := lB_le h hx hy ax
  have h2 := pS_le h x y ax L.1 (Nat.le_refl _)
  have h3 := h.1
  unfold lI
  omega
theorem len6 : ∀ q, q < 119 → ((3 ≤ q ∧ q ≤ 10) ∨ (26 ≤ q ∧ q ≤ 33)) → zlenI q = 6 := by decide +kernel
theorem len8 {L : zL} {M : zMem} (h : zCL L M) : zlenR (zlb M) = 8 := by
  rcases zlb_or h with e | e <;> rw [e] <;> decide +kernel
theorem zlb_def (M : zMem) : zcl (M.1 1 0) = zlb M := rfl
theorem zrow_I (q : Nat) (b : Nat) (hb : b < 1000) : zrow q (iI b) = q + 1 + b := by
  unfold zrow
  rw [iC (by omega) (by omega)]
  rfl
theorem crow {L : zL} {M : zMem} (h : zCL L M) (hr : zRL L) {b : Nat} (hb : b < L.1) : rowOK M (zlb M + 1 + b) (L.2.1 b) := by
  have h1 := hr.1
  refine ⟨len6 _ ?_ ?_, fun f hf => h.2.2.2.2 b f hb hf⟩
  · rcases zlb_or h with e | e <;> rw [e] <;> omega
  · rcases zlb_or h with e | e <;> rw [e] <;> omega
theorem mrowL {L : zL} {M : zMem} (h : zML L M) (hr : zRL L) {b : Nat} (hb : b < L.1) : mrow M b (L.2.1 b) := ⟨by have := hr.1; omega, fun f hf => h.2.2.2 b f hb hf⟩
theorem iA1 (n : Nat) : iI n + 1 = iI ((n + 1 : Nat) : Int) := by
  rw [show (1 : Int32) = iI 1 from rfl, iA]
  rfl
theorem lightPast_eq {L : zL} {M : zMem} (h : zCL L M) (hr : zRL L) {k : Nat} (hk : k ≤ L.1) {x y : Int} (hx : -60 ≤ x ∧ x ≤ 60) (hy : -60 ≤ y ∧ y ≤ 60) (ax : Int32) : FX2_lightPast (iI k) (iI x) (iI y) ax M = some (iI (lB L x y ax.toInt - (pS L.2.1 x y ax.toInt L.1 - pS L.2.1 x y ax.toInt k))) := by
  have h8 := hr.1
  unfold FX2_lightPast
  refine zj_p (r := some (iI (lB L x y ax.toInt - (pS L.2.1 x y ax.toInt L.1 - pS L.2.1 x y ax.toInt k)))) (fun x5 => x5 = iI (lB L x y ax.toInt)) (fun x5 hx5 => ?_) (fun K hK => ?_)
  · subst hx5
    refine zloop_end (fun j => (iI (lB L x y ax.toInt - (pS L.2.1 x y ax.toInt (k + j) - pS L.2.1 x y ax.toInt k)), iI ((k + j : Nat) : Int))) (L.1 - k) ?_ (fun j hj rec => ?_) (fun rec => ?_) (zfu (by omega))
    · simp
    · have hb : k + j < L.1 := by omega
      have r := hr.row hb
      obtain ⟨f0, -, -, f3, -⟩ := r.all
      unfold FX2_lightPast_L49
      show (if iI ((k + j : Nat) : Int) < M.1 1 1 then _ else _) = _
      rw [h.2.1, if_pos ((iLt (by omega) (by omega)).mpr (by omega)), zlb_def, len8 h, zgI (by omega) (by omega) (by omega), zrow_I _ _ (by omega), (crow h hr hb).1, zgT (by rfl), zgI (by omega) (by omega) (by omega), zgI (by omega) (by omega) (by omega), zgT (by rfl), show zrd M (zlb M + 1 + (k + j)) 0 = iI (L.2.1 (k + j) 0) from (crow h hr hb).2 0 (by decide), show zrd M (zlb M + 1 + (k + j)) 3 = iI (L.2.1 (k + j) 3) from (crow h hr hb).2 3 (by decide), bendBy_eq (crow h hr hb) r f0 f3 hx hy, Option.bind_some]
      simp only [zlet]
      rw [iS, iA1]
      refine congrArg rec (Prod.ext (congrArg iI ?_) rfl)
      have e : pS L.2.1 x y ax.toInt (k + j + 1) = pS L.2.1 x y ax.toInt (k + j) + bV (L.2.1 (k + j)) (L.2.1 (k + j) 0) (L.2.1 (k + j) 3) x y ax.toInt := rfl
      show _ = lB L x y ax.toInt - (pS L.2.1 x y ax.toInt (k + j + 1) - pS L.2.1 x y ax.toInt k)
      omega
    · unfold FX2_lightPast_L49
      show (if iI ((k + (L.1 - k) : Nat) : Int) < M.1 1 1 then _ else some (iI (lB L x y ax.toInt - (pS L.2.1 x y ax.toInt (k + (L.1 - k)) - pS L.2.1 x y ax.toInt k)))) = _
      rw [h.2.1, if_neg (fun z => by have := (iLt (by omega) (by omega)).mp z; omega), show k + (L.1 - k) = L.1 by omega]
  · rw [h.2.2.1, h.2.2.2.1, show (16 : Int32) = iI 16 from rfl, iM, iM, iM, iM, iM, iM, iA, iS, iS, iS]
    by_cases ha : ax = 0
    · have ha' := (x0 ax).mp ha
      rw [if_pos ha]
      exact hK _ (by unfold lB; rw [if_pos ha'])
    · have ha' : ¬ ax.toInt = 0 := fun z => ha ((x0 ax).mpr z)
      rw [if_neg ha]
      exact hK _ (by unfold lB; rw [if_neg ha'])
theorem lightAt_eq {L : zL} {M : zMem} (h : zCL L M) (hr : zRL L) {x y : Int} (hx : -60 ≤ x ∧ x ≤ 60) (hy : -60 ≤ y ∧ y ≤ 60) (ax : Int32) : FX2_lightAt (iI x) (iI y) ax M = some (iI (lI L x y ax.toInt)) := by
  unfold FX2_lightAt
  rw [show (0 : Int32) = iI (0 : Nat) from rfl, lightPast_eq h hr (Nat.zero_le _) hx hy ax, Option.bind_some]
  refine congrArg some (congrArg iI ?_)
  show _ - (_ - 0) = lB L x y ax.toInt - _
  omega
theorem fromOf_eq {L : zL} {M : zMem} (h : zML L M) (hr : zRL L) {x y : Int} (hx : -60 ≤ x ∧ x ≤ 60) (hy : -60 ≤ y ∧ y ≤ 60) (ax : Int32) : FX8_fromOf (iI x) (iI y) ax M = some (iI (lI L x y ax.toInt)) := by
  have h8 := hr.1
  unfold FX8_fromOf
  refine zj_p (r := some (iI (lI L x y ax.toInt))) (fun x5 => x5 = iI (lB L x y ax.toInt)) (fun x5 hx5 => ?_) (fun K hK => ?_)
  · subst hx5
    refine zloop_end (fun j => (iI (lB L x y ax.toInt - pS L.2.1 x y ax.toInt j), iI (j : Int))) L.1 ?_ (fun j hj rec => ?_) (fun rec => ?_) (zfu (by omega))
    · simp [pS]; rfl
    · have r := hr.row hj
      obtain ⟨f0, -, -, f3, -⟩ := r.all
      unfold FX8_fromOf_L48
      show (if iI (j : Int) < M.1 100 1 then _ else _) = _
      have h9 := mrow_rd (mrowL h hr hj) 0 (by decide)
      have h10 := mrow_in (mrowL h hr hj).1 0 (by decide)
      rw [show iI ((0 : Nat) : Int) = iI 0 from rfl, iM, iA, show 6 * (j : Int) + 0 = 6 * (j : Int) by omega] at h9 h10
      rw [h.1, if_pos ((iLt (by omega) (by omega)).mpr (by omega)), show (6 : Int32) = iI 6 from rfl, iM, zgT h10, h9, bendOf_eq (mrowL h hr hj) r f0 hx hy, Option.bind_some]
      simp only [zlet]
      rw [iS, iA1]
      refine congrArg rec (Prod.ext (congrArg iI ?_) rfl)
      show _ = lB L x y ax.toInt - (pS L.2.1 x y ax.toInt j + _)
      omega
    · unfold FX8_fromOf_L48
      show (if iI (L.1 : Int) < M.1 100 1 then _ else some (iI (lB L x y ax.toInt - pS L.2.1 x y ax.toInt L.1))) = _
      rw [h.1, if_neg (fun z => by have := (iLt (by omega) (by omega)).mp z; omega)]
      rfl
  · rw [h.2.1, h.2.2.1, show (16 : Int32) = iI 16 from rfl, iM, iM, iM, iM, iM, iM, iS, iS, iS, iA]
    by_cases ha : ax = 0
    · have ha' := (x0 ax).mp ha
      rw [if_pos ha]
      exact hK _ (congrArg iI (by unfold lB; rw [if_pos ha']; omega))
    · have ha' : ¬ ax.toInt = 0 := fun z => ha ((x0 ax).mpr z)
      rw [if_neg ha]
      exact hK _ (congrArg iI (by unfold lB; rw [if_neg ha']; omega))
