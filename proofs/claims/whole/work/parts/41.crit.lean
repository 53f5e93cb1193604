/-! ===== rings: the class's marks of the criticals ===== -/
abbrev crN (L : zL) (p : Nat) : Prop := crP L (pX p) (pY p)
theorem critC_eq {L : zL} {M : zMem} (hk : zPlC L M) : ∃ M', FX7_markCriticals M = some (iI (nOf (fun p => zb (crN L p)) 2401), M') ∧ zfr [21] M M' ∧ ∀ p, p < 2401 → M'.1 21 p = zb (crN L p) := by
  have key := zloop_inv (f := FX7_markCriticals_L4) (r := fun s => some (s.1, s.2.2)) (fun i s => s.1 = iI (nOf (fun p => zb (crN L p)) i) ∧ s.2.1 = iI (i : Int) ∧ zfr [21] M s.2.2 ∧ ∀ p, p < i → s.2.2.1 21 p = zb (crN L p)) 2401 ?_ ?_ 2401 0 zFuel ((0 : Int32), (0 : Int32), M) rfl (zfu (by omega)) ⟨rfl, rfl, zfr.rf, fun p hp => by omega⟩
  · obtain ⟨s', ⟨g0, -, g1, g2⟩, g4⟩ := key
    exact ⟨s'.2.2, by unfold FX7_markCriticals; rw [g4, g0], g1, g2⟩
  · intro i s hi hI
    obtain ⟨s1, s2, sm⟩ := s
    obtain ⟨e1, e2, e3, e4⟩ := hI
    have e1 : s1 = _ := e1
    have e2 : s2 = _ := e2
    subst e1 e2
    have hp := pXY hi
    have hk' : zPlC L sm := hk.fr (fun c h1 h2 => e3.1 c (by simp only [List.mem_cons, List.not_mem_nil, or_false]; omega))
    refine ⟨(iI (nOf (fun p => zb (crN L p)) (i + 1)), iI ((i + 1 : Nat) : Int), zwr sm 21 i (zb (crN L i))), ⟨rfl, rfl, e3.wr (by decide), fun p hp => ?_⟩, fun rec => ?_⟩
    · by_cases e : p = i
      · subst e; exact zwr_eq
      · exact (zwr_nj e).trans (e4 p (by omega))
    · unfold FX7_markCriticals_L4
      show (if iI (i : Int) < (2401 : Int32) then _ else _) = _
      rw [show (2401 : Int32) = iI 2401 from rfl, if_pos ((iLt (by omega) (by omega)).mpr (by omega))]
      show (FX7_xOf (iI (i : Int))).bind _ = _
      rw [xOf_eq hi, Option.bind_some, yOf_eq hi, Option.bind_some, isCritical_eq hk' hp.1 hp.2.1, Option.bind_some]
      refine (zgI (by omega) (by omega) (by omega)).trans ?_
      simp only [zlet, zj]
      rw [zb_and1, iC (by omega) (by omega), Int.toNat_natCast, iA1, nOf_s, ← nOf_zb]
      by_cases h : zb (crN L i) = 0
      · rw [if_pos h, if_pos h]
      · rw [if_neg h, if_neg h]
  · intro s hI rec
    obtain ⟨s1, s2, sm⟩ := s
    obtain ⟨-, e2, -⟩ := hI
    have e2 : s2 = iI ((2401 : Nat) : Int) := e2
    subst e2
    unfold FX7_markCriticals_L4
    show (if iI ((2401 : Nat) : Int) < (2401 : Int32) then _ else _) = _
    rw [if_neg (by decide)]
