/-! ===== read ===== -/
def rFr (M M' : zMem) : Prop := (∀ c, c ≠ 100 → c ≠ 101 → M'.1 c = M.1 c) ∧ (∀ j, j ≠ 23 → j ≠ 24 → M'.1 100 j = M.1 100 j) ∧ (∀ i, i < 48 → M'.1 101 i = M.1 101 i) ∧ M'.2 = M.2
theorem rFr.rf {M : zMem} : rFr M M := ⟨fun _ _ _ => rfl, fun _ _ _ => rfl, fun _ _ => rfl, rfl⟩
theorem rFr.tr {M M1 M2 : zMem} (h1 : rFr M M1) (h2 : rFr M1 M2) : rFr M M2 := ⟨fun c a b => (h2.1 c a b).trans (h1.1 c a b), fun j a b => (h2.2.1 j a b).trans (h1.2.1 j a b), fun i hi => (h2.2.2.1 i hi).trans (h1.2.2.1 i hi), h2.2.2.2.trans h1.2.2.2⟩
theorem rFi.r {lo : Nat} {M M' : zMem} (h : rFi lo M M') (hlo : 48 ≤ lo) : rFr M M' := ⟨h.1, h.2.1, fun i hi => h.2.2.1 i (by omega), h.2.2.2⟩
theorem rF0.r {M M' : zMem} (h : rF0 M M') : rFr M M' := ⟨fun c a _ => h.1 c a, h.2.1, fun i _ => by rw [h.1 101 (by decide)], h.2.2⟩
theorem faultM {T : zTx} (hT : zRT T) {j p u : Nat} {M : zMem} (h : rSt T (false, p) M) (hp : p ≤ 200) (hu : 0 < u) : zloop FX8_read_L13 u (iI j, M) = some (iI (-10 - (p : Int)), M) := by
  have hf : M.1 100 24 = iI p := h.2.2 rfl
  cases u with
  | zero => omega
  | succ u =>
    rw [zloop_s]
    unfold FX8_read_L13
    rw [zj_e]
    dsimp only
    rw [hf, if_neg (flt_ne (by omega)), if_neg (flt_ne (by omega)), show (-10 : Int32) = iI (-10) from rfl, iS]
theorem tellM {T : zTx} (hT : zRT T) : ∀ (fu j u : Nat) (M : zMem), fu + j = 8 → fu + 1 < u → (rdS T j).1 = true → (rdS T j).2 ≤ T.1 → rSt T (rdS T j) M → (∀ b f, b < j → f < 6 → M.1 101 (48 + 6 * b + f) = iI (itF T (rdS T b).2 f)) → ∃ M', (rSt T (rdO T fu j).1 M' ∧ rFr M M' ∧ ((rdO T fu j).1.1 = true → ∀ b f, b < (rdO T fu j).2 → f < 6 → M'.1 101 (48 + 6 * b + f) = iI (itF T (rdS T b).2 f))) ∧ zloop FX8_read_L13 u (iI j, M) = (if (rdO T fu j).1.1 = true then zloop (FX8_read_L63 (iI (rdO T fu j).2, M')) zFuel ((0 : Int32), M') else some (iI (-10 - ((rdO T fu j).1.2 : Int)), M')) := by
  have h200 := hT.1
  intro fu
  induction fu with
  | zero =>
    intro j u M h1 hu h2 h3 h4 h6
    have hj : j = 8 := by omega
    subst hj
    cases u with
    | zero => omega
    | succ u =>
      have e : rdO T 0 8 = (if (rdS T 8).2 < T.1 then (false, (rdS T 8).2) else (true, (rdS T 8).2), 8) := rfl
      have h4' : rSt T (true, (rdS T 8).2) M := by rw [rP_eta h2]; exact h4
      obtain ⟨p1, p2⟩ := h4.2.1 h2
      rw [zloop_s, e]
      by_cases c : (rdS T 8).2 < T.1
      · obtain ⟨M1, a1, a2, a3⟩ := itemM8 hT c h4'
        rw [if_pos c]
        refine ⟨M1, ⟨a2, a3.r, fun z => Bool.noConfusion z⟩, ?_⟩
        rw [if_neg (show ¬ (false = true) from Bool.noConfusion)]
        have hfl := faultM hT (j := 9) a2 (by omega) (show 0 < u by omega)
        revert hfl
        generalize zloop FX8_read_L13 u = rec
        intro hfl
        unfold FX8_read_L13
        rw [zj_e]
        dsimp only
        rw [p2, if_pos rfl, p1, h4.1.1, if_pos ((iLt (by omega) (by omega)).mpr (by omega)), a1, Option.bind_some, zlet_e, iA1]
        exact hfl
      · rw [if_neg c]
        refine ⟨M, ⟨h4', rFr.rf, fun _ => h6⟩, ?_⟩
        rw [if_pos (show true = true from rfl)]
        generalize zloop FX8_read_L13 u = rec
        unfold FX8_read_L13
        rw [zj_e]
        dsimp only
        rw [p2, if_pos rfl, p1, h4.1.1, if_neg (show ¬ iI ((rdS T 8).2 : Int) < iI T.1 from fun z => c (by have := (iLt (by omega) (by omega)).mp z; omega)), if_pos rfl]
  | succ fu ih =>
    intro j u M h1 hu h2 h3 h4 h6
    cases u with
    | zero => omega
    | succ u =>
      have h4' : rSt T (true, (rdS T j).2) M := by rw [rP_eta h2]; exact h4
      obtain ⟨p1, p2⟩ := h4.2.1 h2
      rw [zloop_s, rdO_s]
      by_cases c : (rdS T j).2 < T.1
      · obtain ⟨M1, a1, a2, a3, a4⟩ := itemM hT c (show j < 8 by omega) h4'
        have a2 : rSt T (rdS T (j + 1)) M1 := a2
        have a4 : (rdS T (j + 1)).1 = true → ∀ f, f < 6 → M1.1 101 (48 + 6 * j + f) = iI (itF T (rdS T j).2 f) := a4
        have hr : (rdS T (j + 1)).2 ≤ T.1 := itS_le c
        have fr := a3.r (show 48 ≤ 48 + 6 * j by omega)
        rw [if_pos c]
        cases hb : (rdS T (j + 1)).1 with
        | false =>
          rw [if_neg (show ¬ (false = true) from Bool.noConfusion)]
          dsimp only
          rw [hb]
          refine ⟨M1, ⟨a2, fr, fun z => Bool.noConfusion z⟩, ?_⟩
          rw [if_neg (show ¬ (false = true) from Bool.noConfusion)]
          have a2' : rSt T (false, (rdS T (j + 1)).2) M1 := by
            have : (false, (rdS T (j + 1)).2) = rdS T (j + 1) := by rw [← hb]
            rw [this]; exact a2
          have hfl := faultM hT (j := j + 1) a2' (by omega) (show 0 < u by omega)
          revert hfl
          generalize zloop FX8_read_L13 u = rec
          intro hfl
          unfold FX8_read_L13
          rw [zj_e]
          dsimp only
          rw [p2, if_pos rfl, p1, h4.1.1, if_pos ((iLt (by omega) (by omega)).mpr (by omega)), a1, Option.bind_some, zlet_e, iA1]
          exact hfl
        | true =>
          rw [if_pos rfl]
          obtain ⟨M2, ⟨b1, b2, b3⟩, b4⟩ := ih (j + 1) u M1 (by omega) (by omega) hb hr a2 (fun b f hb2 hf => by
            by_cases e : b = j
            · rw [e]; exact a4 hb f hf
            · rw [a3.2.2.1 (48 + 6 * b + f) (by omega)]
              exact h6 b f (by omega) hf)
          refine ⟨M2, ⟨b1, fr.tr b2, b3⟩, ?_⟩
          rw [← b4]
          generalize zloop FX8_read_L13 u = rec
          unfold FX8_read_L13
          rw [zj_e]
          dsimp only
          rw [p2, if_pos rfl, p1, h4.1.1, if_pos ((iLt (by omega) (by omega)).mpr (by omega)), a1, Option.bind_some, zlet_e, iA1]
      · rw [if_neg c]
        dsimp only
        refine ⟨M, ⟨h4', rFr.rf, fun _ => h6⟩, ?_⟩
        rw [if_pos (show true = true from rfl)]
        generalize zloop FX8_read_L13 u = rec
        unfold FX8_read_L13
        rw [zj_e]
        dsimp only
        rw [p2, if_pos rfl, p1, h4.1.1, if_neg (show ¬ iI ((rdS T j).2 : Int) < iI T.1 from fun z => c (by have := (iLt (by omega) (by omega)).mp z; omega)), if_pos rfl]
theorem copyM (v : Int32) (M : zMem) : ∃ M', (zfr [101] M M' ∧ ∀ q, q < 48 → M'.1 101 q = M.1 101 (48 + q)) ∧ zloop (FX8_read_L63 (v, M)) zFuel ((0 : Int32), M) = some (v, zwr (zwr M' 100 1 v) 100 5 0) := by
  have key := zloop_inv (f := FX8_read_L63 (v, M)) (r := fun st => some (v, zwr (zwr st.2 100 1 v) 100 5 0)) (fun i st => st.1 = iI (i : Int) ∧ zfr [101] M st.2 ∧ (∀ q, q < i → st.2.1 101 q = M.1 101 (48 + q)) ∧ ∀ q, 48 ≤ q → st.2.1 101 q = M.1 101 q) 48 ?_ ?_ 48 0 zFuel ((0 : Int32), M) rfl (zfu (by omega)) ⟨rfl, zfr.rf, fun q hq => absurd hq (Nat.not_lt_zero _), fun _ _ => rfl⟩
  · obtain ⟨⟨t1, t2⟩, ⟨-, g1, g2, -⟩, g3⟩ := key
    exact ⟨t2, ⟨g1, g2⟩, g3⟩
  · intro i st hi hI
    obtain ⟨t1, t2⟩ := st
    obtain ⟨f1, f2, f3, f4⟩ := hI
    have f1 : t1 = _ := f1
    have f2 : zfr [101] M t2 := f2
    have f4 : ∀ q, 48 ≤ q → t2.1 101 q = M.1 101 q := f4
    subst f1
    have e : (48 : Int32) + iI (i : Int) = iI ((48 + i : Nat) : Int) := by
      rw [show (48 : Int32) = iI 48 from rfl, iA]
      rfl
    refine ⟨(iI ((i + 1 : Nat) : Int), zwr t2 101 i (M.1 101 (48 + i))), ⟨rfl, f2.wr (by decide), fun q hq => ?_, fun q hq => (zwr_nj (by omega)).trans (f4 q hq)⟩, fun rec => ?_⟩
    · by_cases c : q = i
      · subst c; exact zwr_eq
      · exact (zwr_nj c).trans (f3 q (by omega))
    · unfold FX8_read_L63
      rw [if_pos (show iI (i : Int) < (48 : Int32) from (iLt (b := 48) (by omega) (by omega)).mpr (by omega))]
      dsimp only
      rw [e, zgI (by omega) (by omega) (by omega), zgI (by omega) (by omega) (by omega)]
      simp only [zlet_e]
      rw [zrI _ _ (by omega) (by omega), iC (by omega) (by omega), Int.toNat_natCast, Int.toNat_natCast, f4 (48 + i) (by omega), iA1]
  · intro st hI rec
    obtain ⟨t1, t2⟩ := st
    obtain ⟨f1, -⟩ := hI
    have f1 : t1 = iI ((48 : Nat) : Int) := f1
    subst f1
    unfold FX8_read_L63
    rw [if_neg (show ¬ iI ((48 : Nat) : Int) < (48 : Int32) by decide)]
    simp only [zlet_e]
theorem readM {S : zSt} {M : zMem} (hM : zIM S M) (hR : zRS S) : ∃ M', FX8_read M = some (if (rdO S.2.1 8 0).1.1 = true then iI (rdO S.2.1 8 0).2 else iI (-10 - ((rdO S.2.1 8 0).1.2 : Int)), M') ∧ zIM (if (rdO S.2.1 8 0).1.1 = true then (rdL S.1 S.2.1, (0, S.2.1.2), S.2.2) else S) M' ∧ zagC M M' := by
  obtain ⟨h1, h2, h3, h4⟩ := hM
  have h8 := hR.1.1
  have h200 := hR.2.1.1
  have hois := rdO_is S.2.1 8 0 (fun b hb => absurd hb (Nat.not_lt_zero _)) (Nat.zero_le _)
  have f0 : rF0 M (zwr (zwr M 100 23 0) 100 24 (-9)) := (rF0.rf.w (Or.inl rfl)).w (Or.inr rfl)
  have hs0 : rSt S.2.1 (rdS S.2.1 0) (zwr (zwr M 100 23 0) 100 24 (-9)) := ⟨h2.f0 f0, fun _ => ⟨(zwr_nj (by decide)).trans zwr_eq, zwr_eq⟩, fun z => Bool.noConfusion z⟩
  obtain ⟨M1, ⟨a1, a2, a3⟩, a4⟩ := tellM hR.2.1 8 0 zFuel _ rfl (zfu (by omega)) rfl (Nat.zero_le _) hs0 (fun b f hb => absurd hb (Nat.not_lt_zero _))
  have fr : rFr M M1 := f0.r.tr a2
  have hread : FX8_read M = zloop FX8_read_L13 zFuel ((0 : Int32), zwr (zwr M 100 23 0) 100 24 (-9)) := by
    unfold FX8_read
    simp only [zlet_e]
  have hread2 := hread.trans a4
  have hLo : (rdL S.1 S.2.1).1 = (rdO S.2.1 8 0).2 := rfl
  have hLf : (rdL S.1 S.2.1).2.1 = fun b f => itF S.2.1 (rdS S.2.1 b).2 f := rfl
  generalize rdO S.2.1 8 0 = o at *
  cases hb : o.1.1 with
  | false =>
    rw [hb, if_neg (show ¬ (false = true) from Bool.noConfusion)] at hread2
    rw [if_neg (show ¬ (false = true) from Bool.noConfusion), if_neg (show ¬ (false = true) from Bool.noConfusion)]
    refine ⟨M1, hread2, ⟨⟨(fr.2.1 1 (by decide) (by decide)).trans h1.1, (fr.2.1 2 (by decide) (by decide)).trans h1.2.1, (fr.2.1 3 (by decide) (by decide)).trans h1.2.2.1, fun b f hb2 hf => (fr.2.2.1 _ (by omega)).trans (h1.2.2.2 b f hb2 hf)⟩, h2.fr (fr.2.1 5 (by decide) (by decide)) (fr.1 102 (by decide) (by decide)), h3.fr (fun j hj => fr.2.1 j (by omega) (by omega)) (fr.1 103 (by decide) (by decide)) (fr.1 104 (by decide) (by decide)) (fr.1 105 (by decide) (by decide)), h4.fr (fr.2.1 9 (by decide) (by decide)) (fr.1 106 (by decide) (by decide)) (by rw [fr.2.2.2])⟩, ⟨fun c hc => fr.1 c (by omega) (by omega), by rw [fr.2.2.2]⟩⟩
  | true =>
    rw [hb, if_pos rfl] at hread2
    rw [if_pos rfl, if_pos rfl]
    obtain ⟨M2, ⟨b1, b2⟩, b3⟩ := copyM (iI o.2) M1
    have g : ∀ c, c ≠ 100 → c ≠ 101 → (zwr (zwr M2 100 1 (iI o.2)) 100 5 0).1 c = M.1 c := fun c c1 c2 => (zwr_ne c1).trans ((zwr_ne c1).trans ((b1.1 c (by simp only [List.mem_cons, List.not_mem_nil, or_false]; exact c2)).trans (fr.1 c c1 c2)))
    have g100 : ∀ j, j ≠ 1 → j ≠ 5 → j ≠ 23 → j ≠ 24 → (zwr (zwr M2 100 1 (iI o.2)) 100 5 0).1 100 j = M.1 100 j := fun j j1 j2 j3 j4 => (zwr_nj j2).trans ((zwr_nj j1).trans ((congrFun (b1.1 100 (by decide)) j).trans (fr.2.1 j j3 j4)))
    have e2 : (zwr (zwr M2 100 1 (iI o.2)) 100 5 0).2 = M.2 := b1.2.trans fr.2.2.2
    refine ⟨_, hread2.trans b3, ⟨⟨?_, (g100 2 (by decide) (by decide) (by decide) (by decide)).trans h1.2.1, (g100 3 (by decide) (by decide) (by decide) (by decide)).trans h1.2.2.1, fun b f hb2 hf => ?_⟩, ⟨zwr_eq, fun i hi => absurd hi (Nat.not_lt_zero _)⟩, h3.fr (fun j hj => g100 j (by omega) (by omega) (by omega) (by omega)) (g 103 (by decide) (by decide)) (g 104 (by decide) (by decide)) (g 105 (by decide) (by decide)), h4.fr (g100 9 (by decide) (by decide) (by decide) (by decide)) (g 106 (by decide) (by decide)) (by rw [e2])⟩, ⟨fun c hc => g c (by omega) (by omega), by rw [e2]⟩⟩
    · show (zwr (zwr M2 100 1 (iI o.2)) 100 5 0).1 100 1 = iI (rdL S.1 S.2.1).1
      rw [hLo]
      exact (zwr_nj (by decide)).trans zwr_eq
    · have hb2 : b < (rdL S.1 S.2.1).1 := hb2
      rw [hLo] at hb2
      have ho := hois.1.1
      show (zwr (zwr M2 100 1 (iI o.2)) 100 5 0).1 101 (6 * b + f) = iI ((rdL S.1 S.2.1).2.1 b f)
      rw [hLf, zwr_nc (by decide), zwr_nc (by decide), b2 (6 * b + f) (by omega), show 48 + (6 * b + f) = 48 + 6 * b + f by omega]
      exact a3 hb b f hb2 hf
theorem read_case : zCase FX7_read FX8_read := by
  refine zCase.of (fun S hR => ⟨_, _, ?_, fun M hC => readC hC hR, fun M hM => readM hM hR⟩)
  by_cases c : (rdO S.2.1 8 0).1.1 = true
  · rw [if_pos c]
    exact ⟨rdL_R hR.1 _, ⟨Nat.zero_le _, fun i hi => absurd hi (Nat.not_lt_zero _)⟩, hR.2.2⟩
  · rw [if_neg c]
    exact hR
