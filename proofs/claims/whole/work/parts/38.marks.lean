/-! ===== pictures: the marks of both ===== -/
abbrev pkP (L : zL) (kx ky : Int) (p : Nat) : Prop := cel L (pX p) (pY p) 0 = kx ∧ cel L (pX p) (pY p) 1 = ky
/-- how many of the first n hold -/
def nOf (g : Nat → Int32) : Nat → Int
  | 0 => 0
  | n + 1 => nOf g n + (if g n = 0 then 0 else 1)
theorem nOf_s (g : Nat → Int32) (n : Nat) : nOf g (n + 1) = nOf g n + (if g n = 0 then 0 else 1) := rfl
theorem zb_and1 {p : Prop} [Decidable p] : zb p &&& 1 = zb p := by
  unfold zb
  by_cases h : p
  · rw [if_pos h]; decide
  · rw [if_neg h]; decide
theorem nOf_zb {p : Prop} [Decidable p] (a : Int) : iI a + (if zb p = 0 then (0 : Int32) else 1) = iI (a + (if zb p = 0 then 0 else 1)) := by
  by_cases h : zb p = 0
  · rw [if_pos h, if_pos h, show (0 : Int32) = iI 0 from rfl, iA]
  · rw [if_neg h, if_neg h, show (1 : Int32) = iI 1 from rfl, iA]
theorem marksC_eq {L : zL} {M : zMem} (hr : zRL L) (hk : zPlC L M) {kx ky : Int} (hkx : -3400 ≤ kx ∧ kx ≤ 3400) (hky : -3400 ≤ ky ∧ ky ≤ 3400) : ∃ M', zloop (FX7_markPictures_L19 (iI (keyI kx ky))) zFuel ((0 : Int32), (0 : Int32), M) = some (iI (nOf (fun p => zb (pkP L kx ky p)) 2401), M') ∧ zfr [21] M M' ∧ ∀ p, p < 2401 → M'.1 21 p = zb (pkP L kx ky p) := by
  have key := zloop_inv (f := FX7_markPictures_L19 (iI (keyI kx ky))) (r := fun s => some (s.1, s.2.2)) (fun i s => s.1 = iI (nOf (fun p => zb (pkP L kx ky p)) i) ∧ s.2.1 = iI (i : Int) ∧ zfr [21] M s.2.2 ∧ ∀ p, p < i → s.2.2.1 21 p = zb (pkP L kx ky p)) 2401 ?_ ?_ 2401 0 zFuel ((0 : Int32), (0 : Int32), M) rfl (zfu (by omega)) ⟨rfl, rfl, zfr.rf, fun p hp => by omega⟩
  · obtain ⟨s', ⟨g0, -, g1, g2⟩, g4⟩ := key
    exact ⟨s'.2.2, by rw [g4, g0], g1, g2⟩
  · intro i s hi hI
    obtain ⟨s1, s2, sm⟩ := s
    obtain ⟨e1, e2, e3, e4⟩ := hI
    have e1 : s1 = _ := e1
    have e2 : s2 = _ := e2
    subst e1 e2
    have hp := pXY hi
    have cl := cel_le hr (x := pX i) (y := pY i) (by omega) (by omega)
    have cl0 := cl 0
    have cl1 := cl 1
    have hq : sm.1 18 i = _ := (congrFun (e3.1 18 (by decide)) i).trans (hk.2 i hi).1
    have ke : iI (keyI (cel L (pX i) (pY i) 0) (cel L (pX i) (pY i) 1)) = iI (keyI kx ky) ↔ pkP L kx ky i := by
      rw [iEq (by unfold keyI; omega) (by unfold keyI; omega)]
      exact keyI_inj (by omega) (by omega)
    refine ⟨(iI (nOf (fun p => zb (pkP L kx ky p)) (i + 1)), iI ((i + 1 : Nat) : Int), zwr sm 21 i (zb (pkP L kx ky i))), ⟨rfl, rfl, e3.wr (by decide), fun p hp => ?_⟩, fun rec => ?_⟩
    · by_cases e : p = i
      · subst e; exact zwr_eq
      · exact (zwr_nj e).trans (e4 p (by omega))
    · unfold FX7_markPictures_L19
      show (if iI (i : Int) < (2401 : Int32) then _ else _) = _
      rw [show (2401 : Int32) = iI 2401 from rfl, if_pos ((iLt (by omega) (by omega)).mpr (by omega))]
      refine (zgI (by omega) (by omega) (by omega)).trans ?_
      refine zj_p (fun t => t = zb (pkP L kx ky i)) (r := rec (iI (nOf (fun p => zb (pkP L kx ky p)) (i + 1)), iI ((i + 1 : Nat) : Int), zwr sm 21 i (zb (pkP L kx ky i)))) (fun t ht => ?_) (fun k hkk => ?_)
      · subst ht
        refine (zgI (by omega) (by omega) (by omega)).trans ?_
        simp only [zlet, zj]
        rw [zb_and1, iC (by omega) (by omega), Int.toNat_natCast, iA1, nOf_s, ← nOf_zb]
        by_cases h : zb (pkP L kx ky i) = 0
        · rw [if_pos h, if_pos h]
        · rw [if_neg h, if_neg h]
      · show (if zrd sm 18 (iI (i : Int)) = _ then _ else _) = _
        rw [zrI _ _ (by omega) (by omega), Int.toNat_natCast, hq]
        by_cases h : pkP L kx ky i
        · rw [if_pos (ke.mpr h)]
          exact hkk _ (by unfold zb; rw [if_pos h])
        · rw [if_neg (fun z => h (ke.mp z))]
          exact hkk _ (by unfold zb; rw [if_neg h])
  · intro s hI rec
    obtain ⟨s1, s2, sm⟩ := s
    obtain ⟨-, e2, -⟩ := hI
    have e2 : s2 = iI ((2401 : Nat) : Int) := e2
    subst e2
    unfold FX7_markPictures_L19
    show (if iI ((2401 : Nat) : Int) < (2401 : Int32) then _ else _) = _
    rw [if_neg (by decide)]
