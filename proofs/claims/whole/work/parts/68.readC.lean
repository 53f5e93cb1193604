/-! ===== read: the class ===== -/
theorem rdO_s (T : zTx) (f j : Nat) : rdO T (f + 1) j = if (rdS T j).2 < T.1 then (if (rdS T (j + 1)).1 = true then rdO T f (j + 1) else (rdS T (j + 1), j)) else ((true, (rdS T j).2), j) := rfl
theorem rdO_is (T : zTx) : ∀ f j, (∀ b, b < j → (rdS T b).2 < T.1) → (rdS T j).2 ≤ T.1 → ((rdO T f j).2 ≤ f + j ∧ (rdO T f j).1.2 ≤ T.1) ∧ ∀ b, b < (rdO T f j).2 → (rdS T b).2 < T.1 := by
  intro f
  induction f with
  | zero =>
    intro j h hj
    refine ⟨⟨by show j ≤ 0 + j; omega, ?_⟩, h⟩
    show (if (rdS T j).2 < T.1 then (false, (rdS T j).2) else (true, (rdS T j).2) : rP).2 ≤ T.1
    by_cases c : (rdS T j).2 < T.1
    · rw [if_pos c]; exact hj
    · rw [if_neg c]; exact hj
  | succ f ih =>
    intro j h hj
    rw [rdO_s]
    by_cases c : (rdS T j).2 < T.1
    · have hj1 : (rdS T (j + 1)).2 ≤ T.1 := itS_le c
      rw [if_pos c]
      by_cases c2 : (rdS T (j + 1)).1 = true
      · rw [if_pos c2]
        have := ih (j + 1) (fun b hb => by
          by_cases e : b = j
          · rw [e]; exact c
          · exact h b (by omega)) hj1
        exact ⟨⟨by omega, this.1.2⟩, this.2⟩
      · rw [if_neg c2]
        exact ⟨⟨by show j ≤ f + 1 + j; omega, hj1⟩, h⟩
    · rw [if_neg c]
      exact ⟨⟨by show j ≤ f + 1 + j; omega, hj⟩, h⟩
def cFr (sb : Nat) (M M' : zMem) : Prop := (∀ c, c ≠ 23 → ¬ (sb + 1 ≤ c ∧ c ≤ sb + 8) → M'.1 c = M.1 c) ∧ (∀ j, j ≠ 3 → M'.1 23 j = M.1 23 j) ∧ M'.2 = M.2
theorem cFr.tr {sb : Nat} {M M1 M2 : zMem} (h1 : cFr sb M M1) (h2 : cFr sb M1 M2) : cFr sb M M2 := ⟨fun c a b => (h2.1 c a b).trans (h1.1 c a b), fun j hj => (h2.2.1 j hj).trans (h1.2.1 j hj), h2.2.2.trans h1.2.2⟩
theorem cFq.r {sb j : Nat} {M M' : zMem} (h : cFq (sb + 1 + j) M M') (hj : j < 8) : cFr sb M M' := ⟨fun c a b => h.1 c a (by omega), h.2.1, h.2.2⟩
theorem lenS {sb : Nat} (h : sb = 2 ∨ sb = 25) : zlenR sb = 8 ∧ ∀ j, j < 8 → zlenI (sb + 1 + j) = 6 ∧ sb + 1 + j ≠ 23 ∧ sb + 1 + j ≠ 24 := by
  refine ⟨by rcases h with e | e <;> rw [e] <;> decide +kernel, fun j hj => ⟨len6 _ (by rcases h with e | e <;> rw [e] <;> omega) (by rcases h with e | e <;> rw [e] <;> omega), by omega, by omega⟩⟩
theorem tellC {T : zTx} (hT : zRT T) {sb : Nat} (hsb : sb = 2 ∨ sb = 25) : ∀ (fu j u : Nat) (M : zMem), fu + j = 8 → fu < u → (rdS T j).1 = true → (rdS T j).2 ≤ T.1 → zcl (M.1 23 1) = sb → cTa T (rdS T j).2 M → (∀ b f, b < j → f < 6 → M.1 (sb + 1 + b) f = iI (itF T (rdS T b).2 f)) → ∃ M', zloop FX5_tellBodies_L7 u (iI j, M) = some (if (rdO T fu j).1.1 = true then iI (rdO T fu j).2 else -1, M') ∧ cTa T (rdO T fu j).1.2 M' ∧ cFr sb M M' ∧ ((rdO T fu j).1.1 = true → ∀ b f, b < (rdO T fu j).2 → f < 6 → M'.1 (sb + 1 + b) f = iI (itF T (rdS T b).2 f)) := by
  have h200 := hT.1
  obtain ⟨hl8, hl6⟩ := lenS hsb
  intro fu
  induction fu with
  | zero =>
    intro j u M h1 hu h2 h3 h4 h5 h6
    cases u with
    | zero => omega
    | succ u =>
      have hj : j = 8 := by omega
      rw [zloop_s]
      unfold FX5_tellBodies_L7
      rw [zj_e]
      dsimp only
      rw [if_neg (show ¬ iI (j : Int) < (8 : Int32) from fun z => by have := (iLt (b := 8) (by omega) (by omega)).mp z; omega), h5.1, h5.2.1]
      have e : rdO T 0 j = (if (rdS T j).2 < T.1 then (false, (rdS T j).2) else (true, (rdS T j).2), j) := rfl
      rw [e]
      by_cases c : (rdS T j).2 < T.1
      · rw [if_pos c, if_pos ((iLt (by omega) (by omega)).mpr (by omega)), if_neg (show ¬ (false = true) from Bool.noConfusion)]
        exact ⟨M, rfl, h5, ⟨fun _ _ _ => rfl, fun _ _ => rfl, rfl⟩, fun z => Bool.noConfusion z⟩
      · rw [if_neg c, if_neg (fun z => c (by have := (iLt (by omega) (by omega)).mp z; omega)), if_pos rfl]
        exact ⟨M, rfl, h5, ⟨fun _ _ _ => rfl, fun _ _ => rfl, rfl⟩, fun _ => h6⟩
  | succ fu ih =>
    intro j u M h1 hu h2 h3 h4 h5 h6
    cases u with
    | zero => omega
    | succ u =>
      rw [zloop_s, rdO_s]
      have ih' := fun M' => ih (j + 1) u M' (by omega) (by omega)
      revert ih'
      generalize zloop FX5_tellBodies_L7 u = rec
      intro ih'
      unfold FX5_tellBodies_L7
      rw [zj_e]
      dsimp only
      rw [if_pos (show iI (j : Int) < (8 : Int32) from (iLt (b := 8) (by omega) (by omega)).mpr (by omega)), h4, hl8, zrow_I sb j (by omega), h5.1, h5.2.1]
      by_cases c : (rdS T j).2 < T.1
      · rw [if_pos ((iLt (by omega) (by omega)).mpr (by omega)), if_pos c, zgI (by omega) (by omega) (by omega)]
        obtain ⟨l1, l2, l3⟩ := hl6 j (by omega)
        obtain ⟨M1, a1, a2, a3, a4⟩ := itemC hT (q := sb + 1 + j) ⟨l2, l3⟩ l1 c h5
        have a1 : FX5_takeItem (sb + 1 + j) M = some (bI (rdS T (j + 1)).1, M1) := a1
        have a2 : cTa T (rdS T (j + 1)).2 M1 := a2
        have a4 : (rdS T (j + 1)).1 = true → ∀ f, f < 6 → M1.1 (sb + 1 + j) f = iI (itF T (rdS T j).2 f) := a4
        have hr : (rdS T (j + 1)).2 ≤ T.1 := itS_le c
        have fr := a3.r (show j < 8 by omega)
        rw [a1, Option.bind_some]
        dsimp only
        cases hb : (rdS T (j + 1)).1 with
        | false =>
          rw [if_pos bI_f, if_neg (show ¬ (false = true) from Bool.noConfusion)]
          dsimp only
          rw [hb]
          exact ⟨M1, rfl, a2, fr, fun z => Bool.noConfusion z⟩
        | true =>
          rw [if_neg bI_t, if_pos rfl, zlet_e, iA1]
          obtain ⟨M2, b1, b2, b3, b4⟩ := ih' M1 hb hr (by rw [a3.2.1 1 (by decide)]; exact h4) a2 (fun b f hb2 hf => by
            by_cases e : b = j
            · rw [e]; exact a4 hb f hf
            · rw [a3.1 (sb + 1 + b) (by have := (hl6 b (by omega)).2.1; exact this) (by omega)]
              exact h6 b f (by omega) hf)
          exact ⟨M2, b1, b2, fr.tr b3, b4⟩
      · rw [if_neg (fun z => c (by have := (iLt (by omega) (by omega)).mp z; omega)), if_neg c, if_neg (fun z => c (by have := (iLt (by omega) (by omega)).mp z; omega))]
        dsimp only
        rw [if_pos rfl]
        exact ⟨M, rfl, h5, ⟨fun _ _ _ => rfl, fun _ _ => rfl, rfl⟩, fun _ => h6⟩
theorem sb_of {L : zL} {M : zMem} (h : zCL L M) : (zcl (M.1 23 1) = 2 ∧ zlb M = 25) ∨ (zcl (M.1 23 1) = 25 ∧ zlb M = 2) := by
  unfold zlb
  rcases h.1 with ⟨a, b⟩ | ⟨a, b⟩
  · rw [a, b]; exact Or.inr ⟨rfl, rfl⟩
  · rw [a, b]; exact Or.inl ⟨rfl, rfl⟩
/-- the lens that a text tells -/
def rdL (L : zL) (T : zTx) : zL := ((rdO T 8 0).2, fun b f => itF T (rdS T b).2 f, L.2.2)
theorem rdL_R {L : zL} (hr : zRL L) (T : zTx) : zRL (rdL L T) := by
  have h := rdO_is T 8 0 (fun b hb => absurd hb (Nat.not_lt_zero _)) (Nat.zero_le _)
  exact ⟨h.1.1, fun b f hb hf => itF_r (h.2 b hb) f hf, hr.2.2⟩
theorem readC {S : zSt} {M : zMem} (hC : zIC S M) (hR : zRS S) : ∃ M', FX7_read M = some (if (rdO S.2.1 8 0).1.1 = true then iI (rdO S.2.1 8 0).2 else iI (-10 - ((rdO S.2.1 8 0).1.2 : Int)), M') ∧ zIC (if (rdO S.2.1 8 0).1.1 = true then (rdL S.1 S.2.1, (0, S.2.1.2), S.2.2) else S) M' ∧ zagM M M' := by
  obtain ⟨h1, h2, h3, h4, h5, h6⟩ := hC
  have h8 := hR.1.1
  have h200 := hR.2.1.1
  have hois := rdO_is S.2.1 8 0 (fun b hb => absurd hb (Nat.not_lt_zero _)) (Nat.zero_le _)
  have hsb := sb_of h1
  have hc0 : cTa S.2.1 0 (zwr M 23 3 0) := ⟨zwr_eq, (zwr_nj (by decide)).trans h2.1, fun i hi => (zwr_nc (by decide)).trans (h2.2 i hi)⟩
  have hz : zcl ((zwr M 23 3 0).1 23 1) = zcl (M.1 23 1) := by rw [zwr_nj (by decide)]
  obtain ⟨M1, a1, a2, a3, a4⟩ := tellC hR.2.1 (sb := zcl (M.1 23 1)) (by omega) 8 0 zFuel (zwr M 23 3 0) rfl (zfu (by omega)) rfl (Nat.zero_le _) hz hc0 (fun b f hb => absurd hb (Nat.not_lt_zero _))
  have fr0 : cFr (zcl (M.1 23 1)) M (zwr M 23 3 0) := ⟨fun c c1 _ => zwr_ne c1, fun j hj => zwr_nj hj, rfl⟩
  have fr := fr0.tr a3
  generalize hsbe : zcl (M.1 23 1) = sb at *
  have htell : FX5_tellBodies M = some (if (rdO S.2.1 8 0).1.1 = true then iI (rdO S.2.1 8 0).2 else -1, M1) := by
    unfold FX5_tellBodies
    rw [zlet_e]
    exact a1
  have hsb2 : sb = 2 ∨ sb = 25 := by omega
  have n1 : ∀ c, c ≠ 23 → ¬ (3 ≤ c ∧ c ≤ 10) → ¬ (26 ≤ c ∧ c ≤ 33) → M1.1 c = M.1 c := fun c b1 b2 b3 => fr.1 c b1 (by omega)
  unfold FX7_read
  rw [htell, Option.bind_some]
  have hLo : (rdL S.1 S.2.1).1 = (rdO S.2.1 8 0).2 := rfl
  generalize rdO S.2.1 8 0 = o at *
  dsimp only
  cases hb : o.1.1 with
  | false =>
    rw [if_neg (show ¬ (false = true) from Bool.noConfusion), if_neg (show ¬ (false = true) from Bool.noConfusion), if_neg (show ¬ (false = true) from Bool.noConfusion), if_pos (show (-1 : Int32) < 0 by decide), a2.1, show (-10 : Int32) = iI (-10) from rfl, iS]
    refine ⟨M1, rfl, ⟨⟨?_, by rw [n1 1 (by decide) (by omega) (by omega)]; exact h1.2.1, by rw [n1 1 (by decide) (by omega) (by omega)]; exact h1.2.2.1, by rw [n1 1 (by decide) (by omega) (by omega)]; exact h1.2.2.2.1, fun b f hb2 hf => ?_⟩, h2.fr (fr.2.1 2 (by decide)) (n1 24 (by decide) (by omega) (by omega)), h3.fr hR.2.2.1 (fun j _ => by rw [n1 34 (by decide) (by omega) (by omega)]) (fun c c1 c2 => n1 c (by omega) (by omega) (by omega)), h4.fr (by rw [n1 96 (by decide) (by omega) (by omega)]) (n1 97 (by decide) (by omega) (by omega)) (by rw [fr.2.2]), h5.fr (by rw [n1 15 (by decide) (by omega) (by omega)]) (fun c c1 c2 => n1 c (by omega) (by omega) (by omega)), h6.fr hR.2.2.1 (fun j _ _ => by rw [n1 34 (by decide) (by omega) (by omega)]) (fun c hc => n1 c (by omega) (by omega) (by omega))⟩, ⟨fun c hc => n1 c (by omega) (by omega) (by omega), by rw [fr.2.2]⟩⟩
    · rw [n1 1 (by decide) (by omega) (by omega), fr.2.1 1 (by decide)]
      exact h1.1
    · have hz2 : zlb M1 = zlb M := by unfold zlb; rw [n1 1 (by decide) (by omega) (by omega)]
      rw [hz2, fr.1 (zlb M + 1 + b) (by omega) (by omega)]
      exact h1.2.2.2.2 b f hb2 hf
  | true =>
    have ho2 := hois.1.1
    rw [if_pos rfl, if_pos rfl, if_pos rfl, if_neg (show ¬ iI (o.2 : Int) < 0 from fun z => by have := (iLt (b := 0) (by omega) (by omega)).mp z; omega)]
    unfold FX7_lensChanges
    rw [zlet_e, zlet_e, Option.bind_some]
    simp only [zlet_e]
    have e23 : (zwr (zwr M1 15 5 1) 34 16 1).1 23 1 = M.1 23 1 := (zwr_nc (by decide)).trans ((zwr_nc (by decide)).trans (fr.2.1 1 (by decide)))
    have e10 : (zwr (zwr M1 15 5 1) 34 16 1).1 1 0 = M.1 1 0 := (zwr_nc (by decide)).trans ((zwr_nc (by decide)).trans (congrFun (n1 1 (by decide) (by omega) (by omega)) 0))
    rw [e23, e10, hsbe, zlb_def, zgT (decide_eq_true (show sb < 119 by omega)), zgT (decide_eq_true (show zlb M < 119 by omega)), nIi, nIi]
    have m15 : ∀ c j, c ≠ 15 → c ≠ 34 → (zwr (zwr M1 15 5 1) 34 16 1).1 c j = M1.1 c j := fun c j c1 c2 => (zwr_nc c2).trans (zwr_nc c1)
    have f34 : ∀ j, j ≠ 16 → (zwr (zwr M1 15 5 1) 34 16 1).1 34 j = M.1 34 j := fun j hj => (zwr_nj hj).trans ((zwr_nc (by decide)).trans (congrFun (n1 34 (by decide) (by omega) (by omega)) j))
    have e16 : (zwr (zwr M1 15 5 1) 34 16 1).1 34 16 = 1 := zwr_eq
    have e155 : (zwr (zwr M1 15 5 1) 34 16 1).1 15 5 = 1 := (zwr_nc (by decide)).trans zwr_eq
    have e2m : (zwr (zwr M1 15 5 1) 34 16 1).2 = M.2 := fr.2.2
    revert m15 f34 e16 e155 e2m
    generalize zwr (zwr M1 15 5 1) 34 16 1 = M2
    intro m15 f34 e16 e155 e2m
    have nf : ∀ c j, c ≠ 1 → c ≠ 23 → (zwr (zwr (zwr (zwr M2 1 0 (iI sb)) 1 1 (iI o.2)) 23 1 (iI (zlb M : Nat))) 23 2 0).1 c j = M2.1 c j := fun c j c1 c2 => (zwr_nc c2).trans ((zwr_nc c2).trans ((zwr_nc c1).trans (zwr_nc c1)))
    have nf1 : ∀ j, j ≠ 0 → j ≠ 1 → (zwr (zwr (zwr (zwr M2 1 0 (iI sb)) 1 1 (iI o.2)) 23 1 (iI (zlb M : Nat))) 23 2 0).1 1 j = M2.1 1 j := fun j c1 c2 => (zwr_nc (by decide)).trans ((zwr_nc (by decide)).trans ((zwr_nj c2).trans (zwr_nj c1)))
    have v10 : (zwr (zwr (zwr (zwr M2 1 0 (iI sb)) 1 1 (iI o.2)) 23 1 (iI (zlb M : Nat))) 23 2 0).1 1 0 = iI sb := (zwr_nc (by decide)).trans ((zwr_nc (by decide)).trans ((zwr_nj (by decide)).trans zwr_eq))
    have v11 : (zwr (zwr (zwr (zwr M2 1 0 (iI sb)) 1 1 (iI o.2)) 23 1 (iI (zlb M : Nat))) 23 2 0).1 1 1 = iI o.2 := (zwr_nc (by decide)).trans ((zwr_nc (by decide)).trans zwr_eq)
    have v231 : (zwr (zwr (zwr (zwr M2 1 0 (iI sb)) 1 1 (iI o.2)) 23 1 (iI (zlb M : Nat))) 23 2 0).1 23 1 = iI (zlb M : Nat) := (zwr_nj (by decide)).trans zwr_eq
    have v232 : (zwr (zwr (zwr (zwr M2 1 0 (iI sb)) 1 1 (iI o.2)) 23 1 (iI (zlb M : Nat))) 23 2 0).1 23 2 = 0 := zwr_eq
    have v2 : (zwr (zwr (zwr (zwr M2 1 0 (iI sb)) 1 1 (iI o.2)) 23 1 (iI (zlb M : Nat))) 23 2 0).2 = M2.2 := rfl
    refine ⟨_, rfl, ?_, ?_⟩
    · revert nf nf1 v10 v11 v231 v232 v2
      generalize zwr (zwr (zwr (zwr M2 1 0 (iI sb)) 1 1 (iI o.2)) 23 1 (iI (zlb M : Nat))) 23 2 0 = MF
      intro nf nf1 v10 v11 v231 v232 v2
      have g : ∀ c, c ≠ 1 → c ≠ 15 → c ≠ 23 → c ≠ 34 → ¬ (3 ≤ c ∧ c ≤ 10) → ¬ (26 ≤ c ∧ c ≤ 33) → MF.1 c = M.1 c := fun c b1 b2 b3 b4 b5 b6 => funext fun j => (nf c j b1 b3).trans ((m15 c j b2 b4).trans (congrFun (n1 c b3 b5 b6) j))
      have hzl : zlb MF = sb := by
        unfold zlb
        rw [v10, iC (by omega) (by omega), Int.toNat_natCast]
      refine ⟨⟨?_, by show MF.1 1 1 = iI (rdL S.1 S.2.1).1; rw [hLo]; exact v11, ?_, ?_, fun b f hb2 hf => ?_⟩, ⟨v232, fun i hi => absurd hi (Nat.not_lt_zero _)⟩, h3.fr hR.2.2.1 (fun j hj => (nf 34 j (by decide) (by decide)).trans (f34 j (by omega))) (fun c c1 c2 => g c (by omega) (by omega) (by omega) (by omega) (by omega) (by omega)), h4.fr (by rw [g 96 (by omega) (by omega) (by omega) (by omega) (by omega) (by omega)]) (g 97 (by omega) (by omega) (by omega) (by omega) (by omega) (by omega)) (by rw [v2, e2m]), Or.inl ((nf 15 5 (by decide) (by decide)).trans e155), Or.inl ((nf 34 16 (by decide) (by decide)).trans e16)⟩
      · rw [v10, v231]
        rcases hsb with ⟨s1, s2⟩ | ⟨s1, s2⟩
        · rw [s1, s2]; exact Or.inl ⟨rfl, rfl⟩
        · rw [s1, s2]; exact Or.inr ⟨rfl, rfl⟩
      · exact (nf1 2 (by decide) (by decide)).trans ((m15 1 2 (by decide) (by decide)).trans ((congrFun (n1 1 (by decide) (by omega) (by omega)) 2).trans h1.2.2.1))
      · exact (nf1 3 (by decide) (by decide)).trans ((m15 1 3 (by decide) (by decide)).trans ((congrFun (n1 1 (by decide) (by omega) (by omega)) 3).trans h1.2.2.2.1))
      · have hb2 : b < (rdL S.1 S.2.1).1 := hb2
        rw [hLo] at hb2
        rw [hzl]
        refine (nf _ f (by omega) (by omega)).trans ((m15 _ f (by omega) (by omega)).trans ?_)
        exact a4 hb b f hb2 hf
    · exact ⟨fun c hc => funext fun j => (nf c j (by omega) (by omega)).trans ((m15 c j (by omega) (by omega)).trans (congrFun (n1 c (by omega) (by omega) (by omega)) j)), by rw [v2, e2m]⟩
