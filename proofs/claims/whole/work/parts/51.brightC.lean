/-! ===== brightest: the class ===== -/
abbrev kP (L : zL) (p : Nat) : Int := keyI (cel L (pX p) (pY p) 0) (cel L (pX p) (pY p) 1)
abbrev onA : Nat → Bool := fun _ => true
theorem kP_r {L : zL} (hr : zRL L) {p : Nat} (h : p < 2401) : 0 ≤ kP L p ∧ kP L p ≤ 67108863 := by
  have hp := pXY h
  have c0 := cel_le hr (x := pX p) (y := pY p) (by omega) (by omega) 0
  have c1 := cel_le hr (x := pX p) (y := pY p) (by omega) (by omega) 1
  show 0 ≤ (cel L (pX p) (pY p) 1 + 4096) * 8192 + cel L (pX p) (pY p) 0 + 4096 ∧ (cel L (pX p) (pY p) 1 + 4096) * 8192 + cel L (pX p) (pY p) 0 + 4096 ≤ _
  omega
theorem kP_eq {L : zL} (hr : zRL L) {p q : Nat} (h : p < 2401) (h2 : q < 2401) : kP L p = kP L q ↔ cel L (pX p) (pY p) 0 = cel L (pX q) (pY q) 0 ∧ cel L (pX p) (pY p) 1 = cel L (pX q) (pY q) 1 := by
  have hp := pXY h
  have hq := pXY h2
  have c0 := cel_le hr (x := pX p) (y := pY p) (by omega) (by omega) 0
  have d0 := cel_le hr (x := pX q) (y := pY q) (by omega) (by omega) 0
  exact keyI_inj (by omega) (by omega)
/-- the best of the first numbers -/
def bB (c : Nat → Nat) : Nat → Nat
  | 0 => 0
  | j + 1 => if c (bB c j) < c j then j else bB c j
theorem bB_lt (c : Nat → Nat) : ∀ j, 0 < j → bB c j < j := by
  intro j
  induction j with
  | zero => intro h; omega
  | succ j ih =>
    intro _
    show (if c (bB c j) < c j then j else bB c j) < j + 1
    by_cases h : c (bB c j) < c j
    · rw [if_pos h]; omega
    · rw [if_neg h]
      by_cases h2 : 0 < j
      · have := ih h2; omega
      · have h3 : j = 0 := by omega
        subst h3
        show 0 < 1
        omega
/-- a number's count -/
abbrev cE (on : Nat → Bool) (κ : Nat → Int) (n j : Nat) : Nat := hC on κ (κ (hE on κ n j)) n
theorem ty_num {on : Nat → Bool} {κ : Nat → Int} {n : Nat} {M : zMem} (h : tyA on κ n M) {j : Nat} (hj : j < hD on κ n) : M.1 13 j = iI (κ (hE on κ n j)) ∧ M.1 14 j = iI (cE on κ n j : Nat) := by
  obtain ⟨a1, a2, a3⟩ := hE_is on κ n j hj
  have := h.2.1 _ a1 a2
  rw [a3] at this
  exact this
theorem greatest_eq {on : Nat → Bool} {κ : Nat → Int} {n : Nat} {M : zMem} (h : tyA on κ n M) (h0 : 0 < hD on κ n) (hn : n ≤ 4096) : FX4_greatest M = some (iI (bB (cE on κ n) (hD on κ n) : Nat)) := by
  have hd := hD_le on κ n
  have h1 := h.1
  have hnum : ∀ j, j < hD on κ n → M.1 14 j = iI (cE on κ n j : Nat) ∧ cE on κ n j ≤ 4096 := fun j hj => ⟨(ty_num h hj).2, Nat.le_trans (hC_le _ _ _ _) hn⟩
  revert hnum h0 h1 hd
  generalize hD on κ n = d
  generalize cE on κ n = c
  intro h0 hd h1 hnum
  unfold FX4_greatest
  refine zloop_end (f := FX4_greatest_L4 M) (fun i => (iI (bB c (i + 1) : Nat), iI ((i + 1 : Nat) : Int))) (d - 1) ?_ (fun i hi rec => ?_) (fun rec => ?_) (zfu (by omega))
  · show _ = (iI ((if c (bB c 0) < c 0 then 0 else bB c 0 : Nat) : Int), iI ((0 + 1 : Nat) : Int))
    rw [if_neg (show ¬ c (bB c 0) < c 0 from Nat.lt_irrefl _)]
    rfl
  · have hb := bB_lt c (i + 1) (by omega)
    obtain ⟨a1, a2⟩ := hnum (i + 1) (by omega)
    obtain ⟨b1, b2⟩ := hnum (bB c (i + 1)) (by omega)
    unfold FX4_greatest_L4
    rw [h1, if_pos (show iI ((i + 1 : Nat) : Int) < iI d from (iLt (by omega) (by omega)).mpr (by omega))]
    refine (zgI (by omega) (by omega) (by omega)).trans ?_
    refine (zgI (by omega) (by omega) (by omega)).trans ?_
    simp only [zlet_e]
    rw [zrI _ _ (by omega) (by omega), zrI _ _ (by omega) (by omega), Int.toNat_natCast, Int.toNat_natCast, a1, b1, iA1]
    show _ = rec (iI ((if c (bB c (i + 1)) < c (i + 1) then i + 1 else bB c (i + 1) : Nat) : Int), _)
    by_cases e : c (bB c (i + 1)) < c (i + 1)
    · rw [if_pos e, if_pos ((iLt (by omega) (by omega)).mpr (by omega))]
    · rw [if_neg e, if_neg (fun z => e (by have := (iLt (by omega) (by omega)).mp z; omega))]
  · unfold FX4_greatest_L4
    rw [h1, if_neg (show ¬ iI ((d - 1 + 1 : Nat) : Int) < iI d from fun z => by have := (iLt (by omega) (by omega)).mp z; omega)]
    show some (iI (bB c (d - 1 + 1) : Nat)) = _
    rw [show d - 1 + 1 = d by omega]
theorem hD_pos (κ : Nat → Int) {n : Nat} (h : 0 < n) : 0 < hD onA κ n := by
  have h0 : hF onA κ 0 = true := hF_iff.mpr ⟨rfl, fun i hi => absurd hi (Nat.not_lt_zero _)⟩
  exact Nat.lt_of_le_of_lt (Nat.zero_le _) (hD_lt h0 h)
theorem brightC_loop {L : zL} {M : zMem} (hr : zRL L) (hk : zPlC L M) (x0 : Int32) (ht : tyA onA (kP L) 0 M) : ∃ M', tyA onA (kP L) 2401 M' ∧ zfr [11, 12, 13, 14] M M' ∧ zloop (FX7_brightest_L28 x0) zFuel ((0 : Int32), M) = ((FX4_greatest M').bind fun b7 => if x0 = 0 then (zguard (zin b7 4096) (some ((zrd M' 14 b7), M'))) else (if x0 = (1 : Int32) then (zguard (zin b7 4096) (some (((zrem (zrd M' 13 b7) (8192 : Int32)) - (4096 : Int32)), M'))) else (zguard (zin b7 4096) (some ((((zrd M' 13 b7) / (8192 : Int32)) - (4096 : Int32)), M'))))) := by
  have key := zloop_inv (f := FX7_brightest_L28 x0) (r := fun s => ((FX4_greatest s.2).bind fun b7 => if x0 = 0 then (zguard (zin b7 4096) (some ((zrd s.2 14 b7), s.2))) else (if x0 = (1 : Int32) then (zguard (zin b7 4096) (some (((zrem (zrd s.2 13 b7) (8192 : Int32)) - (4096 : Int32)), s.2))) else (zguard (zin b7 4096) (some ((((zrd s.2 13 b7) / (8192 : Int32)) - (4096 : Int32)), s.2)))))) (fun i s => s.1 = iI (i : Int) ∧ zfr [11, 12, 13, 14] M s.2 ∧ tyA onA (kP L) i s.2) 2401 ?_ ?_ 2401 0 zFuel ((0 : Int32), M) rfl (zfu (by omega)) ⟨rfl, zfr.rf, ht⟩
  · obtain ⟨⟨s1, s2⟩, ⟨-, g1, g2⟩, g3⟩ := key
    exact ⟨s2, g2, g1, g3⟩
  · intro i s hi hI
    obtain ⟨s1, sm⟩ := s
    obtain ⟨e1, e2, e3⟩ := hI
    have e1 : s1 = _ := e1
    subst e1
    have e18 : sm.1 18 i = iI (kP L i) := (congrFun (e2.1 18 (by decide)) i).trans (hk.2 i hi).1
    have hd := hD_le onA (kP L) i
    obtain ⟨i0, M', -, -, -, k1, k2, k3⟩ := ty_step e3 rfl (by omega) (fun j hj => by have := kP_r hr (p := j) (by omega); omega)
    refine ⟨(iI ((i + 1 : Nat) : Int), M'), ⟨rfl, e2.tr k2, k3⟩, fun rec => ?_⟩
    unfold FX7_brightest_L28
    rw [if_pos (show iI (i : Int) < (2401 : Int32) from (iLt (b := 2401) (by omega) (by omega)).mpr (by omega))]
    refine (zgI (by omega) (by omega) (by omega)).trans ?_
    show (FX4_numberOf (zrd sm 18 (iI (i : Int))) sm).bind _ = _
    rw [zrI _ _ (by omega) (by omega), Int.toNat_natCast, e18, k1, Option.bind_some]
    simp only [zlet_e]
    rw [iA1]
  · intro s hI rec
    obtain ⟨s1, sm⟩ := s
    obtain ⟨e1, -⟩ := hI
    have e1 : s1 = iI ((2401 : Nat) : Int) := e1
    subst e1
    unfold FX7_brightest_L28
    rw [if_neg (show ¬ iI ((2401 : Nat) : Int) < (2401 : Int32) by decide)]
theorem key_parts {a b : Int} (ha : -3400 ≤ a ∧ a ≤ 3400) (hb : -3400 ≤ b ∧ b ≤ 3400) : zrem (iI (keyI a b)) 8192 - 4096 = iI a ∧ iI (keyI a b) / 8192 - 4096 = iI b := by
  have h0 : 0 ≤ keyI a b ∧ keyI a b ≤ 67108863 := by unfold keyI; omega
  rw [show (8192 : Int32) = iI 8192 from rfl, show (4096 : Int32) = iI 4096 from rfl, iR (by omega) (by omega), iD (by omega) (by omega), iS, iS]
  rw [Int.tmod_eq_emod_of_nonneg h0.1, Int.tdiv_eq_ediv_of_nonneg h0.1]
  unfold keyI
  constructor
  · congr 1; omega
  · congr 1; omega
/-- the answers of brightest, by the first pixel of the best cell and its count -/
abbrev brR (L : zL) (x0 : Int32) (b m : Nat) : Int32 := if x0 = 0 then iI m else if x0 = 1 then iI (cel L (pX b) (pY b) 0) else iI (cel L (pX b) (pY b) 1)
theorem brightC {S : zSt} {M : zMem} (hC : zIC S M) (hR : zRS S) (x0 : Int32) {N : Nat} (hN : N = 2401) (h : 0 ≤ x0.toInt ∧ x0.toInt ≤ 2) : ∃ M', FX7_brightest x0 M = some (brR S.1 x0 (hE onA (kP S.1) N (bB (cE onA (kP S.1) N) (hD onA (kP S.1) N))) (cE onA (kP S.1) N (bB (cE onA (kP S.1) N) (hD onA (kP S.1) N))), M') ∧ zIC S M' ∧ zagM M M' := by
  obtain ⟨M1, a1, a2, a3, a4, a5⟩ := hC.look hR
  obtain ⟨M2, b1, b2, b3⟩ := ty_start M1 onA (kP S.1)
  have k4 : zPlC S.1 M2 := a4.fr (fun c h1 h2 => b2.1 c (by simp only [List.mem_cons, List.not_mem_nil, or_false]; omega))
  obtain ⟨M3, c1, c2, c3⟩ := brightC_loop hR.1 k4 x0 b3
  rw [← hN] at c1
  have hpos := hD_pos (kP S.1) (n := N) (by omega)
  have hg := greatest_eq c1 hpos (by omega)
  have hlt := bB_lt (cE onA (kP S.1) N) _ hpos
  have hle := hD_le onA (kP S.1) N
  obtain ⟨d1, d2⟩ := ty_num c1 hlt
  obtain ⟨e1, -, -⟩ := hE_is onA (kP S.1) N _ hlt
  refine ⟨M3, ?_, (a2.qf hR (by unfold zsc; decide) b2).qf hR (by unfold zsc; decide) c2, ((a5.agM (by decide)).tr (b2.agM (by decide))).tr (c2.agM (by decide))⟩
  unfold FX7_brightest
  rw [within_0_2, Option.bind_some, zb_if, if_pos h, a1, Option.bind_some, b1, Option.bind_some, c3, hg, Option.bind_some]
  revert d1 d2 e1 hlt hle
  generalize bB (cE onA (kP S.1) N) (hD onA (kP S.1) N) = b
  generalize hD onA (kP S.1) N = d
  intro hlt hle d1 d2 e1
  rw [zgI (by omega) (by omega) (by omega), zgI (by omega) (by omega) (by omega), zgI (by omega) (by omega) (by omega), zrI _ _ (by omega) (by omega), zrI _ _ (by omega) (by omega), Int.toNat_natCast, d1, d2]
  revert e1
  generalize hE onA (kP S.1) N b = p
  intro e1
  have hp := pXY (show p < 2401 by omega)
  have q0 := cel_le hR.1 (x := pX p) (y := pY p) (by omega) (by omega) 0
  have q1 := cel_le hR.1 (x := pX p) (y := pY p) (by omega) (by omega) 1
  have kp := key_parts q0 q1
  rw [kp.1, kp.2]
  unfold brR
  by_cases h0 : x0 = 0
  · rw [if_pos h0, if_pos h0]
  · rw [if_neg h0, if_neg h0]
    by_cases h1 : x0 = 1
    · rw [if_pos h1, if_pos h1]
    · rw [if_neg h1, if_neg h1]
