/-! ===== delay ===== -/
theorem signum_n : ∀ n : Nat, n < 97 → FJ6_signum_0f7a4 (iI ((n : Int) - 48)) = some (iI (sgn ((n : Int) - 48))) := by decide +kernel
theorem signum_eq {d : Int} (h : -48 ≤ d ∧ d ≤ 48) : FJ6_signum_0f7a4 (iI d) = some (iI (sgn d)) := by
  have := signum_n (d + 48).toNat (by omega)
  rw [show (((d + 48).toNat : Nat) : Int) - 48 = d by omega] at this
  exact this
theorem abs_I {d : Int} (h : -100000000 ≤ d ∧ d ≤ 100000000) : FJ9_abs_0f7a4 (iI d) = some (iI (d.natAbs : Nat)) := by
  unfold FJ9_abs_0f7a4
  by_cases e : d < 0
  · rw [if_pos (show iI d < (0 : Int32) from (iLt (b := 0) (by omega) (by omega)).mpr e), iN, show -d = (d.natAbs : Int) by omega]
  · rw [if_neg (show ¬ iI d < (0 : Int32) from fun z => e ((iLt (b := 0) (by omega) (by omega)).mp z)), show (d.natAbs : Int) = d by omega]
/-- the sum along a way: V the light at each step, s the side, c the asked light -/
def dS (V : Nat → Int) (s c : Int) : Nat → Int
  | 0 => 0
  | n + 1 => dS V s c n + s * (V n + V (n + 1) - 2 * c)
theorem dS_s (V : Nat → Int) (s c : Int) (n : Nat) : dS V s c (n + 1) = dS V s c n + s * (V n + V (n + 1) - 2 * c) := rfl
theorem along_eq {M : zMem} {q : Nat} {p d st c : Int} {V : Nat → Int} (hl : zlenI q = 2601) (hd : -48 ≤ d ∧ d ≤ 48) (hc : -2000 ≤ c ∧ c ≤ 2000) (hV : ∀ i : Nat, i ≤ d.natAbs → (0 ≤ p + (i : Int) * sgn d * st ∧ p + (i : Int) * sgn d * st < 2601) ∧ M.1 q (p + (i : Int) * sgn d * st).toNat = iI (V i) ∧ -53120 ≤ V i ∧ V i ≤ 53120) : FX3_delayAlong q (iI p) (iI d) (iI st) (iI c) M = some (iJ (dS V (sgn d) c d.natAbs)) := by
  have hs := sgn_r d
  unfold FX3_delayAlong
  simp only [zlet]
  rw [signum_eq hd, Option.bind_some]
  refine zloop_end (f := FX3_delayAlong_L12 M (iI (sgn d)) q (iI p) (iI d) (iI st) (iI c)) (fun i => (iJ (dS V (sgn d) c i), iI (i : Int))) d.natAbs rfl (fun i hi rec => ?_) (fun rec => ?_) (zfu (by omega))
  · obtain ⟨a1, a2, a3⟩ := hV i (by omega)
    obtain ⟨b1, b2, b3⟩ := hV (i + 1) (by omega)
    have e : p + ((i + 1 : Nat) : Int) * sgn d * st = p + (i : Int) * sgn d * st + sgn d * st := by
      rw [show ((i + 1 : Nat) : Int) = (i : Int) + 1 from rfl, Int.add_mul, Int.add_mul, Int.one_mul, Int.add_assoc]
    rw [e] at b1 b2
    unfold FX3_delayAlong_L12
    simp only [zlet]
    rw [abs_I (by omega), Option.bind_some, if_pos ((iLt (by omega) (by omega)).mpr (by omega)), iM, iM, iA, iM, iA, hl, zgI (by omega) (by omega) (by omega), zgI (by omega) (by omega) (by omega), zrI _ _ (by omega) (by omega), zrI _ _ (by omega) (by omega), a2, b2, show (2 : Int32) = iI 2 from rfl, iM, iA, iS, jI (by omega) (by omega), jI (by omega) (by omega), jM, jA, iA1, dS_s]
  · unfold FX3_delayAlong_L12
    rw [abs_I (by omega), Option.bind_some, if_neg (fun z => by have := (iLt (by omega) (by omega)).mp z; omega)]
theorem way_x {M : zMem} {L : zL} (h : zML L M) (hr : zRL L) {x y x2 y2 c c2 s : Int} (hx : -24 ≤ x ∧ x ≤ 24) (hx2 : -24 ≤ x2 ∧ x2 ≤ 24) (hy : -24 ≤ y ∧ y ≤ 24) (hc : -2000 ≤ c ∧ c ≤ 2000) (hs : s = 1 ∨ s = -1) (hd : x2 = x + ((x2 - x).natAbs : Int) * s) : zloop (FX8_delay_L52 M (iI y) (iI x2) (iI y2) (iI c) (iI c2) (iI s)) zFuel (iJ 0, iI x) = zj (fun (x17 : Int32) => zloop (FX8_delay_L123 M (iI x2) (iI y2) (iI c2) x17) zFuel (iJ (dS (fun i => lI L (x + (i : Int) * s) y 0) s c (x2 - x).natAbs), iI y)) fun k18 => if iI y < iI y2 then (k18 (1 : Int32)) else (k18 (-1 : Int32)) := by
  refine zloop_end (f := FX8_delay_L52 M (iI y) (iI x2) (iI y2) (iI c) (iI c2) (iI s)) (fun i => (iJ (dS (fun i => lI L (x + (i : Int) * s) y 0) s c i), iI (x + (i : Int) * s))) (x2 - x).natAbs ?_ (fun i hi rec => ?_) (fun rec => ?_) (zfu (by omega))
  · show (iJ 0, iI x) = (iJ 0, iI (x + ((0 : Nat) : Int) * s))
    rw [show x + ((0 : Nat) : Int) * s = x by omega]
  · have hb : (-24 ≤ x + (i : Int) * s ∧ x + (i : Int) * s ≤ 24) ∧ (-24 ≤ x + (i : Int) * s + s ∧ x + (i : Int) * s + s ≤ 24) ∧ x + (i : Int) * s ≠ x2 ∧ x + ((i + 1 : Nat) : Int) * s = x + (i : Int) * s + s := by
      rcases hs with rfl | rfl <;> omega
    have l1 := lI_le hr (x := x + (i : Int) * s) (y := y) (by omega) (by omega) 0
    have l2 := lI_le hr (x := x + (i : Int) * s + s) (y := y) (by omega) (by omega) 0
    unfold FX8_delay_L52
    simp only [zlet]
    rw [if_neg (show ¬ iI (x + (i : Int) * s) = iI x2 from fun z => hb.2.2.1 ((iEq (by omega) (by omega)).mp z)), iA, fromOf_eq h hr (by omega) (by omega), Option.bind_some, fromOf_eq h hr (by omega) (by omega), Option.bind_some]
    rw [show (0 : Int32).toInt = 0 from rfl, show (2 : Int64) = iJ 2 from rfl, jI (by omega) (by omega), jI (by omega) (by omega), jI (by omega) (by omega), jI (by omega) (by omega), jA, jM, jS, jM, jA, dS_s, hb.2.2.2]
  · unfold FX8_delay_L52
    rw [if_pos (show iI (x + ((x2 - x).natAbs : Int) * s) = iI x2 by rw [← hd])]
theorem way_y {M : zMem} {L : zL} (h : zML L M) (hr : zRL L) {x y y2 c a s : Int} (hx : -24 ≤ x ∧ x ≤ 24) (hy : -24 ≤ y ∧ y ≤ 24) (hy2 : -24 ≤ y2 ∧ y2 ≤ 24) (hc : -2000 ≤ c ∧ c ≤ 2000) (hs : s = 1 ∨ s = -1) (hd : y2 = y + ((y2 - y).natAbs : Int) * s) : zloop (FX8_delay_L123 M (iI x) (iI y2) (iI c) (iI s)) zFuel (iJ a, iI y) = some (iJ (a + dS (fun i => lI L x (y + (i : Int) * s) 1) s c (y2 - y).natAbs)) := by
  refine zloop_end (f := FX8_delay_L123 M (iI x) (iI y2) (iI c) (iI s)) (fun i => (iJ (a + dS (fun i => lI L x (y + (i : Int) * s) 1) s c i), iI (y + (i : Int) * s))) (y2 - y).natAbs ?_ (fun i hi rec => ?_) (fun rec => ?_) (zfu (by omega))
  · show (iJ a, iI y) = (iJ (a + 0), iI (y + ((0 : Nat) : Int) * s))
    rw [show y + ((0 : Nat) : Int) * s = y by omega, Int.add_zero]
  · have hb : (-24 ≤ y + (i : Int) * s ∧ y + (i : Int) * s ≤ 24) ∧ (-24 ≤ y + (i : Int) * s + s ∧ y + (i : Int) * s + s ≤ 24) ∧ y + (i : Int) * s ≠ y2 ∧ y + ((i + 1 : Nat) : Int) * s = y + (i : Int) * s + s := by
      rcases hs with rfl | rfl <;> omega
    have l1 := lI_le hr (x := x) (y := y + (i : Int) * s) (by omega) (by omega) 1
    have l2 := lI_le hr (x := x) (y := y + (i : Int) * s + s) (by omega) (by omega) 1
    unfold FX8_delay_L123
    simp only [zlet]
    rw [if_neg (show ¬ iI (y + (i : Int) * s) = iI y2 from fun z => hb.2.2.1 ((iEq (by omega) (by omega)).mp z)), iA, fromOf_eq h hr (by omega) (by omega), Option.bind_some, fromOf_eq h hr (by omega) (by omega), Option.bind_some]
    rw [show (1 : Int32).toInt = 1 from rfl, show (2 : Int64) = iJ 2 from rfl, jI (by omega) (by omega), jI (by omega) (by omega), jI (by omega) (by omega), jI (by omega) (by omega), jA, jM, jS, jM, jA, dS_s, hb.2.2.2, Int.add_assoc]
  · unfold FX8_delay_L123
    rw [if_pos (show iI (y + ((y2 - y).natAbs : Int) * s) = iI y2 by rw [← hd])]
