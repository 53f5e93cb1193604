/-! ===== brightest: the reference ===== -/
def rB (L : zL) (N : Nat) : Nat → Nat × Nat
  | 0 => (0, 0)
  | i + 1 => if hF onA (kP L) i = true ∧ (rB L N i).2 < hC onA (kP L) (kP L i) N then (i, hC onA (kP L) (kP L i) N) else rB L N i
theorem rB_le (L : zL) (N : Nat) : ∀ i, (rB L N i).1 ≤ i ∧ (rB L N i).2 ≤ N := by
  intro i
  induction i with
  | zero => exact ⟨Nat.le_refl _, Nat.zero_le _⟩
  | succ i ih =>
    show ((if hF onA (kP L) i = true ∧ (rB L N i).2 < hC onA (kP L) (kP L i) N then (i, hC onA (kP L) (kP L i) N) else rB L N i : Nat × Nat)).1 ≤ i + 1 ∧ ((if hF onA (kP L) i = true ∧ (rB L N i).2 < hC onA (kP L) (kP L i) N then (i, hC onA (kP L) (kP L i) N) else rB L N i : Nat × Nat)).2 ≤ N
    by_cases h : hF onA (kP L) i = true ∧ (rB L N i).2 < hC onA (kP L) (kP L i) N
    · rw [if_pos h]; exact ⟨by show i ≤ i + 1; omega, hC_le _ _ _ _⟩
    · rw [if_neg h]; exact ⟨by omega, ih.2⟩
theorem hC_pos {on : Nat → Bool} {κ : Nat → Int} {i : Nat} (ho : on i = true) : ∀ n, i < n → 0 < hC on κ (κ i) n := by
  intro n
  induction n with
  | zero => intro h; omega
  | succ n ih =>
    intro h
    rw [hC_s]
    by_cases e : i = n
    · subst e; rw [if_pos ⟨ho, rfl⟩]; omega
    · have := ih (by omega); omega
theorem hE_D {on : Nat → Bool} {κ : Nat → Int} {n i : Nat} (hi : i < n) (h : hF on κ i = true) : hE on κ n (hD on κ i) = i := by
  obtain ⟨-, a2, a3⟩ := hE_is on κ n (hD on κ i) (hD_lt h hi)
  exact hD_inj a2 h a3
theorem rB_eq (L : zL) (N : Nat) : ∀ i, i ≤ N → (hD onA (kP L) i = 0 → rB L N i = (0, 0)) ∧ (0 < hD onA (kP L) i → rB L N i = (hE onA (kP L) N (bB (cE onA (kP L) N) (hD onA (kP L) i)), cE onA (kP L) N (bB (cE onA (kP L) N) (hD onA (kP L) i)))) := by
  intro i
  induction i with
  | zero => intro _; exact ⟨fun _ => rfl, fun h => absurd h (Nat.lt_irrefl _)⟩
  | succ i ih =>
    intro hi
    have ih := ih (by omega)
    have es : rB L N (i + 1) = if hF onA (kP L) i = true ∧ (rB L N i).2 < hC onA (kP L) (kP L i) N then (i, hC onA (kP L) (kP L i) N) else rB L N i := rfl
    by_cases c : hF onA (kP L) i = true
    · have hEi := hE_D (n := N) (show i < N by omega) c
      have hcE : cE onA (kP L) N (hD onA (kP L) i) = hC onA (kP L) (kP L i) N := by show hC onA (kP L) (kP L (hE onA (kP L) N (hD onA (kP L) i))) N = _; rw [hEi]
      rw [hD_p c]
      refine ⟨fun z => absurd z (Nat.succ_ne_zero _), fun _ => ?_⟩
      have eb : bB (cE onA (kP L) N) (hD onA (kP L) i + 1) = if cE onA (kP L) N (bB (cE onA (kP L) N) (hD onA (kP L) i)) < cE onA (kP L) N (hD onA (kP L) i) then hD onA (kP L) i else bB (cE onA (kP L) N) (hD onA (kP L) i) := rfl
      rw [eb, es]
      by_cases h0 : hD onA (kP L) i = 0
      · have hp := hC_pos (κ := kP L) (on := onA) (i := i) rfl N (by omega)
        rw [ih.1 h0, if_pos ⟨c, hp⟩]
        have hb0 : (if cE onA (kP L) N (bB (cE onA (kP L) N) (hD onA (kP L) i)) < cE onA (kP L) N (hD onA (kP L) i) then hD onA (kP L) i else bB (cE onA (kP L) N) (hD onA (kP L) i)) = hD onA (kP L) i := by
          by_cases d : cE onA (kP L) N (bB (cE onA (kP L) N) (hD onA (kP L) i)) < cE onA (kP L) N (hD onA (kP L) i)
          · rw [if_pos d]
          · rw [if_neg d, h0]; rfl
        rw [hb0, hEi, hcE]
      · rw [ih.2 (by omega), hcE]
        by_cases d : cE onA (kP L) N (bB (cE onA (kP L) N) (hD onA (kP L) i)) < hC onA (kP L) (kP L i) N
        · rw [if_pos d, if_pos ⟨c, d⟩, hEi, hcE]
        · rw [if_neg d, if_neg (fun z => d z.2)]
    · rw [hD_n c, es, if_neg (fun z => c z.1)]
      exact ih
theorem wipe110 (x0 : Int32) (M : zMem) : ∃ M', (zfr [110] M M' ∧ ∀ p, p < 2401 → M'.1 110 p = -9) ∧ zloop (FX8_brightest_L18 x0) zFuel ((0 : Int32), M) = zloop (FX8_brightest_L46 x0) zFuel ((0 : Int32), (0 : Int32), (0 : Int32), M') := by
  have key := zloop_inv (f := FX8_brightest_L18 x0) (r := fun s => zloop (FX8_brightest_L46 x0) zFuel ((0 : Int32), (0 : Int32), (0 : Int32), s.2)) (fun i s => s.1 = iI (i : Int) ∧ zfr [110] M s.2 ∧ ∀ p, p < i → s.2.1 110 p = -9) 2401 ?_ ?_ 2401 0 zFuel ((0 : Int32), M) rfl (zfu (by omega)) ⟨rfl, zfr.rf, fun p hp => by omega⟩
  · obtain ⟨s', ⟨-, g1, g2⟩, g3⟩ := key
    exact ⟨s'.2, ⟨g1, g2⟩, g3⟩
  · intro i s hi hI
    obtain ⟨s1, sm⟩ := s
    obtain ⟨e1, e2, e3⟩ := hI
    have e1 : s1 = _ := e1
    subst e1
    refine ⟨(iI ((i + 1 : Nat) : Int), zwr sm 110 i (-9)), ⟨rfl, e2.wr (by decide), fun p hp => ?_⟩, fun rec => ?_⟩
    · by_cases e : p = i
      · subst e; exact zwr_eq
      · exact (zwr_nj e).trans (e3 p (by omega))
    · unfold FX8_brightest_L18
      rw [if_pos (show iI (i : Int) < (2401 : Int32) from (iLt (b := 2401) (by omega) (by omega)).mpr (by omega))]
      refine (zgI (by omega) (by omega) (by omega)).trans ?_
      simp only [zlet_e]
      rw [iC (by omega) (by omega), Int.toNat_natCast, iA1]
  · intro s hI rec
    obtain ⟨s1, sm⟩ := s
    obtain ⟨e1, -⟩ := hI
    have e1 : s1 = iI ((2401 : Nat) : Int) := e1
    subst e1
    unfold FX8_brightest_L18
    rw [if_neg (show ¬ iI ((2401 : Nat) : Int) < (2401 : Int32) by decide)]
theorem zPlM.zf {L : zL} {S : List Nat} {M M' : zMem} (h : zPlM L M) (f : zfr S M M') (hS : 107 ∉ S ∧ 108 ∉ S) : zPlM L M' := fun x y hx hy => by
  have := h x y hx hy
  unfold zLt at this ⊢
  rw [f.1 107 hS.1, f.1 108 hS.2]
  exact this
/-- the marks behind the first i pixels -/
def gB (L : zL) (i : Nat) (M : zMem) : Prop := ∀ q, q < 2401 → (M.1 110 q = -9 ↔ ∀ i', i' < i → kP L i' ≠ kP L q)
theorem in73 {L : zL} {M : zMem} (hr : zRL L) (hk : zPlM L M) {i b m : Nat} (hi : i < 2401) (hf : hF onA (kP L) i = true) (hg : gB L i M) (hb : b ≤ 2401) (hm : m ≤ 2401) (s7 : Int32 × Int32 × Int32 × zMem) (h7 : s7.1 = iI b ∧ s7.2.1 = iI m ∧ s7.2.2.1 = iI i) : ∃ M', (gB L (i + 1) M' ∧ zfr [110] M M') ∧ ∀ (r6 : (Int32 × Int32 × Int32 × zMem) → Option (Int32 × zMem)), zloop (FX8_brightest_L73 r6 s7) zFuel ((0 : Int32), iI i, M) = r6 (iI (if m < hC onA (kP L) (kP L i) 2401 then i else b : Nat), iI (if m < hC onA (kP L) (kP L i) 2401 then hC onA (kP L) (kP L i) 2401 else m : Nat), iI ((i + 1 : Nat) : Int), M') := by
  obtain ⟨h71, h72, h73⟩ := h7
  have hfi := (hF_iff.mp hf).2
  have hip := pXY hi
  have hcl := hC_le onA (kP L) (kP L i) 2401
  have key := zloop_invK (κ := (Int32 × Int32 × Int32 × zMem) → Option (Int32 × zMem)) (f := fun r6 => FX8_brightest_L73 r6 s7) (r := fun r6 st => r6 (iI (if m < hC onA (kP L) (kP L i) 2401 then i else b : Nat), iI (if m < hC onA (kP L) (kP L i) 2401 then hC onA (kP L) (kP L i) 2401 else m : Nat), iI ((i + 1 : Nat) : Int), st.2.2)) (fun t st => st.1 = iI (hC onA (kP L) (kP L i) (i + t) : Nat) ∧ st.2.1 = iI ((i + t : Nat) : Int) ∧ zfr [110] M st.2.2 ∧ ∀ q, q < 2401 → (st.2.2.1 110 q = -9 ↔ (M.1 110 q = -9 ∧ ¬ (i ≤ q ∧ q < i + t ∧ kP L q = kP L i)))) (2401 - i) ?_ ?_ (2401 - i) 0 zFuel ((0 : Int32), iI i, M) (Nat.zero_add _) (zfu (by omega)) ⟨?_, rfl, zfr.rf, fun q hq => ⟨fun z => ⟨z, fun w => by omega⟩, fun z => z.1⟩⟩
  · obtain ⟨⟨t1, t2, t3⟩, ⟨-, -, g2, g3⟩, g4⟩ := key
    refine ⟨t3, ⟨fun q hq => ?_, g2⟩, g4⟩
    have g3 : t3.1 110 q = -9 ↔ _ := g3 q hq
    rw [g3, hg q hq]
    constructor
    · rintro ⟨z1, z2⟩ i' hi'
      by_cases e : i' = i
      · subst e
        intro w
        by_cases c : i' ≤ q
        · exact z2 ⟨c, by omega, w.symm⟩
        · exact hfi q (by omega) rfl w.symm
      · exact z1 i' (by omega)
    · intro z
      exact ⟨fun i' hi' => z i' (by omega), fun w => z i (by omega) w.2.2.symm⟩
  · intro t st ht hI
    obtain ⟨t1, t2, t3⟩ := st
    obtain ⟨e1, e2, e3, e4⟩ := hI
    have e1 : t1 = _ := e1
    have e2 : t2 = _ := e2
    have e4 : ∀ q, q < 2401 → (t3.1 110 q = -9 ↔ _) := e4
    subst e1 e2
    have hj : i + t < 2401 := by omega
    have hjp := pXY hj
    have k3 : zPlM L t3 := hk.zf e3 (by decide)
    have zj1 := k3 (pX (i + t)) (pY (i + t)) (by omega) (by omega)
    have zi := k3 (pX i) (pY i) (by omega) (by omega)
    have c0 := cel_le hr (x := pX (i + t)) (y := pY (i + t)) (by omega) (by omega)
    have c1 := cel_le hr (x := pX i) (y := pY i) (by omega) (by omega)
    have c00 := c0 0
    have c01 := c0 1
    have c10 := c1 0
    have c11 := c1 1
    have ke := kP_eq hr hj hi
    have kx : iI (cel L (pX (i + t)) (pY (i + t)) 0) = iI (cel L (pX i) (pY i) 0) ↔ _ := iEq (by omega) (by omega)
    have ky : iI (cel L (pX (i + t)) (pY (i + t)) 1) = iI (cel L (pX i) (pY i) 1) ↔ _ := iEq (by omega) (by omega)
    refine ⟨(iI (hC onA (kP L) (kP L i) (i + t + 1) : Nat), iI ((i + t + 1 : Nat) : Int), zwr t3 110 (i + t) (if kP L (i + t) = kP L i then iI i else t3.1 110 (i + t))), ⟨rfl, rfl, e3.wr (by decide), fun q hq => ?_⟩, fun r6 rec => ?_⟩
    · show (zwr t3 110 (i + t) _).1 110 q = -9 ↔ _
      by_cases c : q = i + t
      · rw [c, zwr_eq]
        by_cases d : kP L (i + t) = kP L i
        · rw [if_pos d]
          exact ⟨fun z => absurd z (g_m9 (by omega)), fun z => absurd ⟨by omega, by omega, d⟩ z.2⟩
        · rw [if_neg d, e4 _ hj]
          exact ⟨fun z => ⟨z.1, fun w => d w.2.2⟩, fun z => ⟨z.1, fun w => d w.2.2⟩⟩
      · rw [zwr_nj c, e4 q hq]
        exact ⟨fun z => ⟨z.1, fun w => z.2 ⟨w.1, by omega, w.2.2⟩⟩, fun z => ⟨z.1, fun w => z.2 ⟨w.1, by omega, w.2.2⟩⟩⟩
    · show FX8_brightest_L73 r6 s7 rec _ = _
      unfold FX8_brightest_L73
      rw [if_pos (show iI ((i + t : Nat) : Int) < (2401 : Int32) from (iLt (b := 2401) (by omega) (by omega)).mpr (by omega)), h73]
      dsimp only
      rw [xOfM hj, yOfM hj, xOfM hi, yOfM hi, cellX_eq hr (by omega) (by omega) zj1, Option.bind_some, cellX_eq hr (by omega) (by omega) zi, Option.bind_some]
      refine zj_p (fun v => v = zb (kP L (i + t) = kP L i)) (r := rec (iI (hC onA (kP L) (kP L i) (i + t + 1) : Nat), iI ((i + t + 1 : Nat) : Int), zwr t3 110 (i + t) (if kP L (i + t) = kP L i then iI i else t3.1 110 (i + t)))) (fun v hv => ?_) (fun k hkk => ?_)
      · subst hv
        refine zj_p (fun v => v = if kP L (i + t) = kP L i then iI i else t3.1 110 (i + t)) (r := rec (iI (hC onA (kP L) (kP L i) (i + t + 1) : Nat), iI ((i + t + 1 : Nat) : Int), zwr t3 110 (i + t) (if kP L (i + t) = kP L i then iI i else t3.1 110 (i + t)))) (fun v hv => ?_) (fun k hkk => ?_)
        · subst hv
          rw [zgI (by omega) (by omega) (by omega)]
          simp only [zlet_e, zj]
          rw [iC (by omega) (by omega), Int.toNat_natCast, iA1, hC_s, zb_if]
          by_cases d : kP L (i + t) = kP L i
          · rw [if_pos d, if_pos d, if_pos ⟨rfl, d⟩, iA1]
          · rw [if_neg d, if_neg d, if_neg (fun z => d z.2), show iI (hC onA (kP L) (kP L i) (i + t) : Nat) + 0 = iI (hC onA (kP L) (kP L i) (i + t) : Nat) from by rw [show (0 : Int32) = iI 0 from rfl, iA, Int.add_zero]]
            rfl
        · rw [zb_if]
          by_cases d : kP L (i + t) = kP L i
          · rw [if_pos d]
            exact hkk _ (if_pos d).symm
          · rw [if_neg d, zgI (by omega) (by omega) (by omega), zrI _ _ (by omega) (by omega), Int.toNat_natCast]
            exact hkk _ (if_neg d).symm
      · refine zj_c (V := fun _ => k 0) (fun _ => rfl) ?_
        by_cases h1 : cel L (pX (i + t)) (pY (i + t)) 0 = cel L (pX i) (pY i) 0
        · rw [if_pos (kx.mpr h1), cellY_eq hr (by omega) (by omega) zj1, Option.bind_some, cellY_eq hr (by omega) (by omega) zi, Option.bind_some]
          by_cases h2 : cel L (pX (i + t)) (pY (i + t)) 1 = cel L (pX i) (pY i) 1
          · rw [if_pos (ky.mpr h2)]
            exact hkk _ (by unfold zb; rw [if_pos (ke.mpr ⟨h1, h2⟩)])
          · rw [if_neg (fun z => h2 (ky.mp z))]
            exact hkk _ (by unfold zb; rw [if_neg (fun z => h2 (ke.mp z).2)])
        · rw [if_neg (fun z => h1 (kx.mp z))]
          exact hkk _ (by unfold zb; rw [if_neg (fun z => h1 (ke.mp z).1)])
  · intro st hI r6 rec
    obtain ⟨t1, t2, t3⟩ := st
    obtain ⟨e1, e2, -⟩ := hI
    have e1 : t1 = _ := e1
    have e2 : t2 = _ := e2
    subst e1 e2
    have en : i + (2401 - i) = 2401 := by omega
    rw [en]
    show FX8_brightest_L73 r6 s7 rec _ = _
    unfold FX8_brightest_L73
    rw [if_neg (show ¬ iI ((2401 : Nat) : Int) < (2401 : Int32) by decide), h71, h72, h73]
    simp only [zlet_e, zj]
    rw [iA1]
    by_cases d : m < hC onA (kP L) (kP L i) 2401
    · rw [if_pos d, if_pos d, if_pos ((iLt (by omega) (by omega)).mpr (by omega)), if_pos ((iLt (by omega) (by omega)).mpr (by omega))]
    · rw [if_neg d, if_neg d, if_neg (fun z => d (by have := (iLt (by omega) (by omega)).mp z; omega)), if_neg (fun z => d (by have := (iLt (by omega) (by omega)).mp z; omega))]
  · show (0 : Int32) = iI (hC onA (kP L) (kP L i) i : Nat)
    rw [hC_0 i (fun j hj ho => hfi j hj ho)]
    rfl
theorem brightM_loop {L : zL} {M : zMem} (hr : zRL L) (hk : zPlM L M) (hg : gB L 0 M) (x0 : Int32) : ∃ M', zfr [110] M M' ∧ zloop (FX8_brightest_L46 x0) zFuel ((0 : Int32), (0 : Int32), (0 : Int32), M) = some (brR L x0 (rB L 2401 2401).1 (rB L 2401 2401).2, M') := by
  have key := zloop_inv (f := FX8_brightest_L46 x0) (r := fun s => (if x0 = 0 then (some (s.2.1, s.2.2.2)) else (if x0 = (1 : Int32) then ((FX8_cellX ((zrem s.1 (49 : Int32)) - (24 : Int32)) ((s.1 / (49 : Int32)) - (24 : Int32)) s.2.2.2).bind fun b9 => some (b9, s.2.2.2)) else ((FX8_cellY ((zrem s.1 (49 : Int32)) - (24 : Int32)) ((s.1 / (49 : Int32)) - (24 : Int32)) s.2.2.2).bind fun b8 => some (b8, s.2.2.2))))) (fun i st => st.1 = iI ((rB L 2401 i).1 : Nat) ∧ st.2.1 = iI ((rB L 2401 i).2 : Nat) ∧ st.2.2.1 = iI (i : Int) ∧ zfr [110] M st.2.2.2 ∧ gB L i st.2.2.2 ∧ (rB L 2401 i).1 < 2401) 2401 ?_ ?_ 2401 0 zFuel ((0 : Int32), (0 : Int32), (0 : Int32), M) rfl (zfu (by omega)) ⟨rfl, rfl, rfl, zfr.rf, hg, by show 0 < 2401; omega⟩
  · obtain ⟨⟨t1, t2, t3, t4⟩, ⟨e1, e2, -, e3, -, e5⟩, g4⟩ := key
    have e1 : t1 = _ := e1
    have e2 : t2 = _ := e2
    subst e1 e2
    refine ⟨t4, e3, g4.trans ?_⟩
    have k3 : zPlM L t4 := hk.zf e3 (by decide)
    unfold brR
    revert e5
    generalize (rB L 2401 2401).1 = b
    generalize (rB L 2401 2401).2 = m
    intro e5
    have hp := pXY e5
    by_cases h0 : x0 = 0
    · rw [if_pos h0, if_pos h0]
    · rw [if_neg h0, if_neg h0]
      have zi := k3 (pX b) (pY b) (by omega) (by omega)
      by_cases h1 : x0 = 1
      · rw [if_pos h1, if_pos h1, xOfM e5, yOfM e5, cellX_eq hr (by omega) (by omega) zi]
        rfl
      · rw [if_neg h1, if_neg h1, xOfM e5, yOfM e5, cellY_eq hr (by omega) (by omega) zi]
        rfl
  · intro i st hi hI
    obtain ⟨t1, t2, t3, t4⟩ := st
    obtain ⟨e1, e2, e3, e4, e5, e6⟩ := hI
    have e1 : t1 = _ := e1
    have e2 : t2 = _ := e2
    have e3 : t3 = _ := e3
    have e4 : zfr [110] M t4 := e4
    have e5 : gB L i t4 := e5
    subst e1 e2 e3
    have hle := rB_le L 2401 i
    have es : rB L 2401 (i + 1) = if hF onA (kP L) i = true ∧ (rB L 2401 i).2 < hC onA (kP L) (kP L i) 2401 then (i, hC onA (kP L) (kP L i) 2401) else rB L 2401 i := rfl
    have hfg : hF onA (kP L) i = true ↔ t4.1 110 i = -9 := by
      rw [hF_iff, e5 i hi]
      exact ⟨fun z i' hi' => z.2 i' hi' rfl, fun z => ⟨rfl, fun i' hi' _ => z i' hi'⟩⟩
    by_cases c : hF onA (kP L) i = true
    · obtain ⟨M', ⟨a1, a2⟩, a3⟩ := in73 hr (hk.zf e4 (by decide)) hi c e5 (show (rB L 2401 i).1 ≤ 2401 by omega) hle.2 (iI ((rB L 2401 i).1 : Nat), iI ((rB L 2401 i).2 : Nat), iI (i : Int), t4) ⟨rfl, rfl, rfl⟩
      refine ⟨(iI ((rB L 2401 (i + 1)).1 : Nat), iI ((rB L 2401 (i + 1)).2 : Nat), iI ((i + 1 : Nat) : Int), M'), ⟨rfl, rfl, rfl, e4.tr a2, a1, ?_⟩, fun rec => ?_⟩
      · rw [es]
        by_cases d : hF onA (kP L) i = true ∧ (rB L 2401 i).2 < hC onA (kP L) (kP L i) 2401
        · rw [if_pos d]; exact hi
        · rw [if_neg d]; exact e6
      · unfold FX8_brightest_L46
        rw [if_pos (show iI (i : Int) < (2401 : Int32) from (iLt (b := 2401) (by omega) (by omega)).mpr (by omega))]
        refine (zgI (by omega) (by omega) (by omega)).trans ?_
        rw [if_pos (show zrd t4 110 (iI (i : Int)) = -9 by rw [zrI _ _ (by omega) (by omega), Int.toNat_natCast]; exact hfg.mp c)]
        refine (a3 rec).trans ?_
        rw [es]
        by_cases d : (rB L 2401 i).2 < hC onA (kP L) (kP L i) 2401
        · rw [if_pos d, if_pos d, if_pos ⟨c, d⟩]
        · rw [if_neg d, if_neg d, if_neg (fun z => d z.2)]
    · refine ⟨(iI ((rB L 2401 (i + 1)).1 : Nat), iI ((rB L 2401 (i + 1)).2 : Nat), iI ((i + 1 : Nat) : Int), t4), ⟨rfl, rfl, rfl, e4, fun q hq => ?_, ?_⟩, fun rec => ?_⟩
      · rw [e5 q hq]
        constructor
        · intro z i' hi'
          by_cases e : i' = i
          · subst e
            intro w
            refine c (hF_iff.mpr ⟨rfl, fun i2 hi2 _ w2 => z i2 hi2 (w2.trans w)⟩)
          · exact z i' (by omega)
        · intro z i' hi'
          exact z i' (by omega)
      · rw [es, if_neg (fun z => c z.1)]; exact e6
      · unfold FX8_brightest_L46
        rw [if_pos (show iI (i : Int) < (2401 : Int32) from (iLt (b := 2401) (by omega) (by omega)).mpr (by omega))]
        refine (zgI (by omega) (by omega) (by omega)).trans ?_
        rw [if_neg (show ¬ zrd t4 110 (iI (i : Int)) = -9 by rw [zrI _ _ (by omega) (by omega), Int.toNat_natCast]; exact fun z => c (hfg.mpr z))]
        simp only [zlet_e]
        rw [iA1, es, if_neg (fun z => c z.1)]
  · intro st hI rec
    obtain ⟨t1, t2, t3, t4⟩ := st
    obtain ⟨-, -, e3, -⟩ := hI
    have e3 : t3 = iI ((2401 : Nat) : Int) := e3
    subst e3
    unfold FX8_brightest_L46
    rw [if_neg (show ¬ iI ((2401 : Nat) : Int) < (2401 : Int32) by decide)]
theorem brightest_case (x0 : Int32) : zCase (FX7_brightest x0) (FX8_brightest x0) := by
  refine zCase.of (fun S hR => ?_)
  by_cases h : 0 ≤ x0.toInt ∧ x0.toInt ≤ 2
  · refine ⟨brR S.1 x0 (rB S.1 2401 2401).1 (rB S.1 2401 2401).2, S, hR, fun M hC => ?_, fun M hM => ?_⟩
    · have hb := fun N (hN : N = 2401) => (rB_eq S.1 N N (Nat.le_refl _)).2 (hD_pos (kP S.1) (by omega))
      obtain ⟨M', a1, a2, a3⟩ := brightC hC hR x0 rfl h
      refine ⟨M', ?_, a2, a3⟩
      rw [a1, hb 2401 rfl]
    · obtain ⟨M1, a1, a2, a3⟩ := findPlane_eq hM.1 hR.1
      obtain ⟨M2, ⟨b1, b2⟩, b3⟩ := wipe110 x0 M1
      obtain ⟨M3, c1, c2⟩ := brightM_loop hR.1 (a2.zf b1 (by decide)) (fun q hq => ⟨fun _ i' hi' => absurd hi' (Nat.not_lt_zero _), fun _ => b2 q hq⟩) x0
      refine ⟨M3, ?_, ((hM.qf (by decide) a3).qf (by decide) b1).qf (by decide) c1, ((a3.agC (by decide)).tr (b1.agC (by decide))).tr (c1.agC (by decide))⟩
      unfold FX8_brightest
      rw [in_0_2, Option.bind_some, zb_if, if_pos h, a1, Option.bind_some, b3, c2]
  · refine ⟨-1000000000, S, hR, fun M hC => ⟨M, ?_, hC, zagM.rf⟩, fun M hM => ⟨M, ?_, hM, zagC.rf⟩⟩
    · unfold FX7_brightest
      rw [within_0_2, Option.bind_some, zb_if, if_neg h]
    · unfold FX8_brightest
      rw [in_0_2, Option.bind_some, zb_if, if_neg h]
