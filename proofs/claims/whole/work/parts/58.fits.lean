/-! ===== trials: the reference weighs; fits ===== -/
def zMk (L : zL) (k : Nat) (M : zMem) : Prop := M.1 100 1 = iI L.1 ∧ M.1 100 2 = iI L.2.2.1 ∧ M.1 100 3 = iI L.2.2.2 ∧ ∀ b f, b < L.1 → f < 6 → ¬ (b < k ∧ f = 3) → M.1 101 (6 * b + f) = iI (L.2.1 b f)
theorem zML.k {L : zL} {M : zMem} (h : zML L M) (k : Nat) : zMk L k M := ⟨h.1, h.2.1, h.2.2.1, fun b f hb hf _ => h.2.2.2 b f hb hf⟩
theorem wL_k {L : zL} {M : zMem} {k d n : Nat} (h : zML (wL L k d n) M) : zMk L k M := ⟨h.1, h.2.1, h.2.2.1, fun b f hb hf hn => by
  have := h.2.2.2 b f hb hf
  rw [this]
  exact congrArg iI (if_neg hn)⟩
theorem digit_eq {m n b : Nat} (hm : m ≤ 15) (hn : n ≤ 2147483647) (hb : b ≤ 1000) : FX8_digit (iI m) (iI n) (iI b) = some (iI (n / (m + 1) ^ b % (m + 1) : Nat)) := by
  have hd0 : ¬ iI ((m + 1 : Nat) : Int) = 0 := fun z => by have := (i0 (by omega) (by omega)).mp z; omega
  unfold FX8_digit
  refine zloop_end (f := FX8_digit_L5 (iI m) (iI b)) (fun i => (iI (n / (m + 1) ^ i : Nat), iI (i : Int))) b ?_ (fun i hi rec => ?_) (fun rec => ?_) (zfu (by omega))
  · show _ = (iI ((n / 1 : Nat) : Int), _)
    rw [Nat.div_one]
    rfl
  · have hq : n / (m + 1) ^ i ≤ 2147483647 := Nat.le_trans (Nat.div_le_self _ _) hn
    unfold FX8_digit_L5
    dsimp only
    rw [if_pos ((iLt (by omega) (by omega)).mpr (by omega)), iA1 m, if_neg hd0]
    simp only [zlet_e]
    rw [ndiv hq (by omega), dpow, iA1]
  · have hq : n / (m + 1) ^ b ≤ 2147483647 := Nat.le_trans (Nat.div_le_self _ _) hn
    unfold FX8_digit_L5
    dsimp only
    rw [if_neg (fun z => by have := (iLt (a := b) (b := b) (by omega) (by omega)).mp z; omega), iA1 m, if_neg hd0, nrem hq (by omega)]
theorem weigh_eq {L : zL} {M : zMem} {k m n : Nat} (hk : k ≤ 3) (hkL : k ≤ L.1) (hL8 : L.1 ≤ 8) (hm : m ≤ 15) (hn : n ≤ 2147483647) (h : zMk L k M) : ∃ M', FX8_weigh (iI k) (iI m) (iI n) M = some M' ∧ zML (wL L k (m + 1) n) M' ∧ zfr [101] M M' ∧ ∀ j, j ≠ 3 → j ≠ 9 → j ≠ 15 → M'.1 101 j = M.1 101 j := by
  have key := zloop_inv (f := FX8_weigh_L3 (iI k) (iI m) (iI n)) (r := fun st => some st.2) (fun i st => st.1 = iI (i : Int) ∧ zfr [101] M st.2 ∧ (∀ j, j ≠ 3 → j ≠ 9 → j ≠ 15 → st.2.1 101 j = M.1 101 j) ∧ ∀ b f, b < L.1 → f < 6 → ((b < i ∧ f = 3) ∨ ¬ (b < k ∧ f = 3)) → st.2.1 101 (6 * b + f) = iI ((wL L k (m + 1) n).2.1 b f)) k ?_ ?_ k 0 zFuel ((0 : Int32), M) (Nat.zero_add _) (zfu (by omega)) ⟨rfl, zfr.rf, fun _ _ _ _ => rfl, fun b f hb hf hc => ?_⟩
  · obtain ⟨⟨t1, t2⟩, ⟨-, g1, g2, g3⟩, g4⟩ := key
    have g1 : zfr [101] M t2 := g1
    have e100 : t2.1 100 = M.1 100 := g1.1 100 (by decide)
    refine ⟨t2, g4, ⟨by rw [e100]; exact h.1, by rw [e100]; exact h.2.1, by rw [e100]; exact h.2.2.1, fun b f hb hf => g3 b f hb hf ?_⟩, g1, g2⟩
    by_cases c : b < k ∧ f = 3
    · exact Or.inl c
    · exact Or.inr c
  · intro i st hi hI
    obtain ⟨t1, t2⟩ := st
    obtain ⟨f1, f2, f3, f4⟩ := hI
    have f1 : t1 = _ := f1
    have f2 : zfr [101] M t2 := f2
    have f3 : ∀ j, j ≠ 3 → j ≠ 9 → j ≠ 15 → t2.1 101 j = M.1 101 j := f3
    have f4 : ∀ b f, b < L.1 → f < 6 → _ → t2.1 101 (6 * b + f) = _ := f4
    subst f1
    have e : (6 : Int32) * iI i + 3 = iI ((6 * i + 3 : Nat) : Int) := by
      rw [show (6 : Int32) = iI 6 from rfl, show (3 : Int32) = iI 3 from rfl, iM, iA]
      rfl
    refine ⟨(iI ((i + 1 : Nat) : Int), zwr t2 101 (6 * i + 3) (iI (n / (m + 1) ^ i % (m + 1) : Nat))), ⟨rfl, f2.wr (by decide), fun j j1 j2 j3 => (zwr_nj (by omega)).trans (f3 j j1 j2 j3), fun b f hb hf hc => ?_⟩, fun rec => ?_⟩
    · by_cases c : b = i ∧ f = 3
      · obtain ⟨c1, c2⟩ := c
        subst c1 c2
        refine zwr_eq.trans (congrArg iI ?_)
        show _ = if b < k ∧ 3 = 3 then ((n / (m + 1) ^ b % (m + 1) : Nat) : Int) else _
        rw [if_pos ⟨hi, rfl⟩]
      · refine (zwr_nj (by omega)).trans (f4 b f hb hf ?_)
        rcases hc with hc | hc
        · exact Or.inl ⟨by omega, hc.2⟩
        · exact Or.inr hc
    · unfold FX8_weigh_L3
      rw [if_pos (show iI (i : Int) < iI k from (iLt (by omega) (by omega)).mpr (by omega))]
      show (FX8_digit (iI m) (iI n) (iI (i : Int))).bind _ = _
      rw [digit_eq hm hn (by omega), Option.bind_some]
      dsimp only
      rw [e, zgI (by omega) (by omega) (by omega), iC (by omega) (by omega), Int.toNat_natCast]
      simp only [zlet_e]
      rw [iA1]
  · intro st hI rec
    obtain ⟨t1, t2⟩ := st
    obtain ⟨f1, -⟩ := hI
    have f1 : t1 = _ := f1
    subst f1
    unfold FX8_weigh_L3
    rw [if_neg (show ¬ iI (k : Int) < iI k from fun z => by have := (iLt (by omega) (by omega)).mp z; omega)]
  · have hc : ¬ (b < k ∧ f = 3) := by
      rcases hc with hc | hc
      · omega
      · exact hc
    refine (h.2.2.2 b f hb hf hc).trans (congrArg iI ?_)
    exact (if_neg hc).symm
theorem inPair_eq {L : zL} {P : zPr} {M : zMem} (hL : zML L M) (hr : zRL L) (hP : zMP P M) (hp : zRP P) {i a : Nat} (hi : i < P.1) (ha : a ≤ 1) : FX8_isWithin (iI i) (iI a) M = some (zb (-P.2.2.2.2.2 ≤ rwP P (lI L) (2 * i + a) ∧ rwP P (lI L) (2 * i + a) ≤ P.2.2.2.2.2)) := by
  have hp1 := hp.1
  have ht := hp.2.2.2.2
  have hx := fun j (hj : j < 4) => hp.2.1 i j hi hj
  have x0 := hx 0 (by omega)
  have x1 := hx 1 (by omega)
  have x2 := hx 2 (by omega)
  have x3 := hx 3 (by omega)
  have hv := hP.2.1 i
  have e : ∀ j : Nat, (4 : Int32) * iI i + iI j = iI ((4 * i + j : Nat) : Int) := fun j => by
    rw [show (4 : Int32) = iI 4 from rfl, iM, iA]
    rfl
  have e0 : (4 : Int32) * iI i = iI ((4 * i + 0 : Nat) : Int) := by
    rw [show (4 : Int32) = iI 4 from rfl, iM]
    rfl
  have e1 : (4 : Int32) * iI i + 1 = iI ((4 * i + 1 : Nat) : Int) := e 1
  have e2 : (4 : Int32) * iI i + 2 = iI ((4 * i + 2 : Nat) : Int) := e 2
  have e3 : (4 : Int32) * iI i + 3 = iI ((4 * i + 3 : Nat) : Int) := e 3
  have erw : rwP P (lI L) (2 * i + a) = lI L (P.2.1 i 0) (P.2.1 i 1) a - lI L (P.2.1 i 2) (P.2.1 i 3) a := by
    unfold rwP
    rw [if_pos (show 2 * i + a < 20 by omega), show (2 * i + a) / 2 = i by omega, show (2 * i + a) % 2 = a by omega]
  have l1 := lI_le hr (x := P.2.1 i 0) (y := P.2.1 i 1) (by omega) (by omega) a
  have l2 := lI_le hr (x := P.2.1 i 2) (y := P.2.1 i 3) (by omega) (by omega) a
  have f1 := fromOf_eq hL hr (x := P.2.1 i 0) (y := P.2.1 i 1) (by omega) (by omega) (iI a)
  have f2 := fromOf_eq hL hr (x := P.2.1 i 2) (y := P.2.1 i 3) (by omega) (by omega) (iI a)
  rw [iT (by omega) (by omega)] at f1 f2
  unfold FX8_isWithin
  rw [e1, e2, e3, e0, zgI (by omega) (by omega) (by omega), zgI (by omega) (by omega) (by omega), zrI _ _ (by omega) (by omega), zrI _ _ (by omega) (by omega), zrI _ _ (by omega) (by omega), zrI _ _ (by omega) (by omega), Int.toNat_natCast, Int.toNat_natCast, Int.toNat_natCast, Int.toNat_natCast, hv 0 hi (by omega), hv 1 hi (by omega), hv 2 hi (by omega), hv 3 hi (by omega), f1, Option.bind_some, zgI (by omega) (by omega) (by omega), zgI (by omega) (by omega) (by omega), f2, Option.bind_some, zlet_e, iS, iN, hP.2.2.2.2, ← erw]
  have hle : -106240 ≤ rwP P (lI L) (2 * i + a) ∧ rwP P (lI L) (2 * i + a) ≤ 106240 := by rw [erw]; omega
  by_cases c : rwP P (lI L) (2 * i + a) ≤ P.2.2.2.2.2
  · rw [if_neg (fun z => by have := (iLt (by omega) (by omega)).mp z; omega)]
    by_cases c2 : -P.2.2.2.2.2 ≤ rwP P (lI L) (2 * i + a)
    · rw [if_neg (fun z => by have := (iLt (by omega) (by omega)).mp z; omega)]
      unfold zb
      rw [if_pos ⟨c2, c⟩]
    · rw [if_pos ((iLt (by omega) (by omega)).mpr (by omega))]
      unfold zb
      rw [if_neg (fun z => c2 z.1)]
  · rw [if_pos ((iLt (by omega) (by omega)).mpr (by omega))]
    unfold zb
    rw [if_neg (fun z => c z.2)]
theorem doesFit_eq {L : zL} {P : zPr} {M : zMem} {k m n : Nat} (hr : zRL L) (hk : k ≤ L.1) (hm : 1 ≤ m ∧ m ≤ 15) (hL : zML (wL L k (m + 1) n) M) (hP : zMP P M) (hp : zRP P) : FX8_doesFit M = some (zb (fitP L P k (m + 1) n)) := by
  have hp1 := hp.1
  have hr' := wL_R hr (k := k) (d := m + 1) (n := n) (by omega)
  have h6 := hP.1
  have hin : ∀ i a : Nat, i < P.1 → a ≤ 1 → FX8_isWithin (iI i) (iI a) M = some (zb (-P.2.2.2.2.2 ≤ shI L P k (m + 1) n (2 * i + a) ∧ shI L P k (m + 1) n (2 * i + a) ≤ P.2.2.2.2.2)) := fun i a hi ha => by
    rw [shI_eq P hk]
    exact inPair_eq hL hr' hP hp hi ha
  have out : ∀ (j i u : Nat), i + j = P.1 → j < u → ¬ fitP L P k (m + 1) n → zloop (FX8_doesFit_L4 M) u ((0 : Int32), iI i) = some (zb (fitP L P k (m + 1) n)) := by
    intro j i u hi hu hnf
    cases u with
    | zero => omega
    | succ u =>
      rw [zloop_s]
      unfold FX8_doesFit_L4
      unfold zb
      rw [if_neg hnf]
      dsimp only
      rw [if_pos rfl, zgT (show zisb (0 : Int32) = true from rfl)]
      by_cases c : iI (i : Int) < M.1 100 6
      · rw [if_pos c]
      · rw [if_neg c]
  have loop : ∀ (j i u : Nat), i + j = P.1 → j < u → (∀ r, r < 2 * i → -P.2.2.2.2.2 ≤ shI L P k (m + 1) n r ∧ shI L P k (m + 1) n r ≤ P.2.2.2.2.2) → zloop (FX8_doesFit_L4 M) u ((1 : Int32), iI i) = some (zb (fitP L P k (m + 1) n)) := by
    intro j
    induction j with
    | zero =>
      intro i u hi hu h
      cases u with
      | zero => omega
      | succ u =>
        rw [zloop_s]
        unfold FX8_doesFit_L4
        dsimp only
        rw [h6, if_neg (fun z => by have := (iLt (by omega) (by omega)).mp z; omega), zgT (show zisb (1 : Int32) = true from rfl)]
        unfold zb
        rw [if_pos (show fitP L P k (m + 1) n from fun r hr => h r (by omega))]
    | succ j ih =>
      intro i u hi hu h
      cases u with
      | zero => omega
      | succ u =>
        rw [zloop_s]
        have hi1 := hin i 0 (by omega) (by omega)
        have hi2 := hin i 1 (by omega) (by omega)
        have o1 := out j (i + 1) u (by omega) (by omega)
        have o2 := ih (i + 1) u (by omega) (by omega)
        revert o1 o2
        generalize zloop (FX8_doesFit_L4 M) u = rec
        intro o1 o2
        unfold FX8_doesFit_L4
        dsimp only
        rw [h6, if_pos ((iLt (by omega) (by omega)).mpr (by omega)), if_neg (show ¬ (1 : Int32) = 0 by decide), show (0 : Int32) = iI ((0 : Nat) : Int) from rfl, show (1 : Int32) = iI ((1 : Nat) : Int) from rfl, hi1, Option.bind_some]
        simp only [zj_e, zlet_e]
        rw [hi2, Option.bind_some, show iI ((0 : Nat) : Int) = (0 : Int32) from rfl, show iI ((1 : Nat) : Int) = (1 : Int32) from rfl, iA1, zb_if, zb_if]
        by_cases c1 : -P.2.2.2.2.2 ≤ shI L P k (m + 1) n (2 * i + 0) ∧ shI L P k (m + 1) n (2 * i + 0) ≤ P.2.2.2.2.2
        · rw [if_pos c1]
          by_cases c2 : -P.2.2.2.2.2 ≤ shI L P k (m + 1) n (2 * i + 1) ∧ shI L P k (m + 1) n (2 * i + 1) ≤ P.2.2.2.2.2
          · rw [if_pos c2]
            refine o2 (fun r hr => ?_)
            by_cases e0 : r = 2 * i + 0
            · rw [e0]; exact c1
            · by_cases e1 : r = 2 * i + 1
              · rw [e1]; exact c2
              · exact h r (by omega)
          · rw [if_neg c2]
            exact o1 (fun z => c2 (z _ (by omega)))
        · rw [if_neg c1]
          exact o1 (fun z => c1 (z _ (by omega)))
  exact loop P.1 0 zFuel (by omega) (zfu (by omega)) (fun r hr => absurd hr (Nat.not_lt_zero _))
/-- the first weights are kept -/
def kW (M0 M : zMem) : Prop := M.1 100 25 = M0.1 101 3 ∧ M.1 100 26 = M0.1 101 9 ∧ M.1 100 27 = M0.1 101 15 ∧ ∀ j, j ≠ 3 → j ≠ 9 → j ≠ 15 → M.1 101 j = M0.1 101 j
theorem keep_eq (M : zMem) : ∃ M', FX8_keepWeights M = some M' ∧ kW M M' ∧ zfq [] M M' ∧ M'.1 101 = M.1 101 := by
  refine ⟨zwr (zwr (zwr M 100 25 (M.1 101 3)) 100 26 (M.1 101 9)) 100 27 (M.1 101 15), ?_, ⟨?_, ?_, ?_, fun j _ _ _ => ?_⟩, ((zfq.rf.ws (by omega)).ws (by omega)).ws (by omega), ?_⟩
  · unfold FX8_keepWeights
    simp only [zlet_e]
    rw [zgT (show zin (3 : Int32) 96 = true from rfl), zgT (show zin (9 : Int32) 96 = true from rfl), zgT (show zin (15 : Int32) 96 = true from rfl)]
    rfl
  · rw [zwr_nj (by decide), zwr_nj (by decide), zwr_eq]
  · rw [zwr_nj (by decide), zwr_eq]
  · exact zwr_eq
  · rw [zwr_nc (by decide), zwr_nc (by decide), zwr_nc (by decide)]
  · exact (zwr_ne (by decide)).trans ((zwr_ne (by decide)).trans (zwr_ne (by decide)))
theorem back_eq {M0 M : zMem} (h : kW M0 M) : ∃ M', FX8_giveBack M = some M' ∧ zfr [101] M M' ∧ M'.1 101 = M0.1 101 := by
  refine ⟨zwr (zwr (zwr M 101 3 (M.1 100 25)) 101 9 (M.1 100 26)) 101 15 (M.1 100 27), ?_, ((zfr.rf.wr (by decide)).wr (by decide)).wr (by decide), ?_⟩
  · unfold FX8_giveBack
    simp only [zlet_e]
    rw [zgT (show zin (3 : Int32) 96 = true from rfl), zgT (show zin (9 : Int32) 96 = true from rfl), zgT (show zin (15 : Int32) 96 = true from rfl)]
    rfl
  · funext j
    rw [zwr_at, zwr_at, zwr_at]
    by_cases e1 : j = 15
    · rw [if_pos ⟨rfl, e1⟩, e1]; exact h.2.2.1
    · rw [if_neg (fun z => e1 z.2)]
      by_cases e2 : j = 9
      · rw [if_pos ⟨rfl, e2⟩, e2]; exact h.2.1
      · rw [if_neg (fun z => e2 z.2)]
        by_cases e3 : j = 3
        · rw [if_pos ⟨rfl, e3⟩, e3]; exact h.1
        · rw [if_neg (fun z => e3 z.2)]; exact h.2.2.2 j e3 e2 e1
theorem kW.w {M0 M M' : zMem} (h : kW M0 M) (e : M'.1 100 = M.1 100) (f : ∀ j, j ≠ 3 → j ≠ 9 → j ≠ 15 → M'.1 101 j = M.1 101 j) : kW M0 M' := ⟨by rw [e]; exact h.1, by rw [e]; exact h.2.1, by rw [e]; exact h.2.2.1, fun j a b c => (f j a b c).trans (h.2.2.2 j a b c)⟩
theorem pow_r {d k : Nat} (hd : 2 ≤ d ∧ d ≤ 16) (hk : k ≤ 3) : 0 < d ^ k ∧ d ^ k ≤ 4096 := by
  refine ⟨Nat.pow_pos (by omega), ?_⟩
  have h1 := Nat.pow_le_pow_left hd.2 k
  have h2 := Nat.pow_le_pow_right (show 0 < 16 by decide) hk
  exact Nat.le_trans h1 (Nat.le_trans h2 (by decide))
theorem modelsOf_eq {k m : Nat} (hk : k ≤ 3) : FX8_modelsOf (iI k) (iI m) = some (iI ((m + 1) ^ k : Nat)) := by
  unfold FX8_modelsOf
  refine zloop_end (f := FX8_modelsOf_L4 (iI k) (iI m)) (fun i => (iI ((m + 1) ^ i : Nat), iI (i : Int))) k rfl (fun i hi rec => ?_) (fun rec => ?_) (zfu (by omega))
  · unfold FX8_modelsOf_L4
    dsimp only
    rw [if_pos ((iLt (by omega) (by omega)).mpr (by omega)), iA1 m]
    simp only [zlet_e]
    rw [iM, iA1, Nat.pow_succ, Int.natCast_mul]
  · unfold FX8_modelsOf_L4
    dsimp only
    rw [if_neg (fun z => by have := (iLt (a := k) (b := k) (by omega) (by omega)).mp z; omega)]
abbrev tryP (L : zL) (n m : Int) : Prop := (1 ≤ n ∧ n ≤ 3) ∧ n ≤ L.1 ∧ (1 ≤ m ∧ m ≤ 15)
theorem isTrial_eq {L : zL} {M : zMem} (h : zCL L M) (h8 : L.1 ≤ 8) {n m : Int} (hn : -2147483648 ≤ n ∧ n ≤ 2147483647) (hm : -2147483648 ≤ m ∧ m ≤ 2147483647) : FX7_isTrial (iI n) (iI m) M = some (zb (tryP L n m)) := by
  unfold FX7_isTrial
  rw [within_1_3, Option.bind_some, zb_if, within_1_15, Option.bind_some, zb_if, iT hn.1 hn.2, iT hm.1 hm.2, h.2.1]
  unfold zb
  by_cases c1 : 1 ≤ n ∧ n ≤ 3
  · rw [if_pos c1]
    by_cases c2 : n ≤ L.1
    · rw [if_neg (fun z => by have := (iLt (by omega) (by omega)).mp z; omega)]
      by_cases c3 : 1 ≤ m ∧ m ≤ 15
      · rw [if_pos c3, if_pos ⟨c1, c2, c3⟩]
      · rw [if_neg c3, if_neg (fun z => c3 z.2.2)]
    · rw [if_pos ((iLt (by omega) (by omega)).mpr (by omega)), if_neg (fun z => c2 z.2.1)]
  · rw [if_neg c1, if_neg (fun z => c1 z.1)]
theorem isTry_eq {L : zL} {M : zMem} (h : zML L M) (h8 : L.1 ≤ 8) {n m : Int} (hn : -2147483648 ≤ n ∧ n ≤ 2147483647) (hm : -2147483648 ≤ m ∧ m ≤ 2147483647) : FX8_isTry (iI n) (iI m) M = some (zb (tryP L n m)) := by
  unfold FX8_isTry
  rw [in_1_3, Option.bind_some, zb_if, in_1_15, Option.bind_some, zb_if, iT hn.1 hn.2, iT hm.1 hm.2, h.1]
  unfold zb
  by_cases c1 : 1 ≤ n ∧ n ≤ 3
  · rw [if_pos c1]
    by_cases c2 : n ≤ L.1
    · rw [if_neg (fun z => by have := (iLt (by omega) (by omega)).mp z; omega)]
      by_cases c3 : 1 ≤ m ∧ m ≤ 15
      · rw [if_pos c3, if_pos ⟨c1, c2, c3⟩]
      · rw [if_neg c3, if_neg (fun z => c3 z.2.2)]
    · rw [if_pos ((iLt (by omega) (by omega)).mpr (by omega)), if_neg (fun z => c2 z.2.1)]
  · rw [if_neg c1, if_neg (fun z => c1 z.1)]
theorem zb_s {ρ : Type} {p : Prop} [Decidable p] (M : ρ) : (if zb p = 0 then some ((0 : Int32), M) else some ((1 : Int32), M)) = some (zb p, M) := by
  unfold zb
  by_cases h : p
  · rw [if_pos h]; rfl
  · rw [if_neg h]; rfl
theorem zfq.z {S : List Nat} {M M1 M' : zMem} (h1 : zfq S M M1) (h2 : zfr [101] M1 M') (e : M'.1 101 = M.1 101) : zfq S M M' := ⟨fun c a b => by
  by_cases c1 : c = 101
  · rw [c1]; exact e
  · exact (h2.1 c (by simp only [List.mem_cons, List.not_mem_nil, or_false]; exact c1)).trans (h1.1 c a b), fun j hj => (congrFun (h2.1 100 (by decide)) j).trans (h1.2.1 j hj), h2.2.trans h1.2.2⟩
theorem fits_case (x0 x1 x2 : Int32) : zCase (FX7_fits x0 x1 x2) (FX8_fits x0 x1 x2) := by
  refine zCase.of (fun S hR => ?_)
  obtain ⟨n, hn1, hn2, rfl⟩ := iOf x0
  obtain ⟨m, hm1, hm2, rfl⟩ := iOf x1
  obtain ⟨i, hi1, hi2, rfl⟩ := iOf x2
  have h8 := hR.1.1
  by_cases h : tryP S.1 n m
  · have en : iI n = iI (n.toNat : Nat) := congrArg iI (Int.toNat_of_nonneg (by omega)).symm
    have em : iI m = iI (m.toNat : Nat) := congrArg iI (Int.toNat_of_nonneg (by omega)).symm
    have hpw := pow_r (d := m.toNat + 1) (k := n.toNat) (by omega) (by omega)
    have hw : ∀ p : Nat, 0 < p ∧ p ≤ 4096 → (iI (p : Int) - 1).toInt = p - 1 := fun p hp => by
      rw [show (1 : Int32) = iI 1 from rfl, iS, iT (by omega) (by omega)]
    by_cases c : 0 ≤ i ∧ i ≤ ((m.toNat + 1) ^ n.toNat : Nat) - 1
    · have ei : iI i = iI (i.toNat : Nat) := congrArg iI (Int.toNat_of_nonneg c.1).symm
      refine ⟨zb (fitP S.1 S.2.2.1 n.toNat (m.toNat + 1) i.toNat), S, hR, fun M hC => ?_, fun M hM => ?_⟩
      · obtain ⟨M1, a1, a2, a3, a4, a5, a6⟩ := load_eq hC hR (n := n.toNat) (m := m.toNat) (by omega) (by omega) (by omega)
        obtain ⟨M2, b1, b2⟩ := holds_eq hR.1 a2.2.2.1 hR.2.2.1 (n := i.toNat) (by omega) a5
        refine ⟨M2, ?_, a2.qf hR (by unfold zsc; decide) b2, a3.tr (b2.agM (by decide))⟩
        unfold FX7_fits
        rw [isTrial_eq hC.1 h8 ⟨hn1, hn2⟩ ⟨hm1, hm2⟩, Option.bind_some, zb_if, if_pos h, en, em, a1, Option.bind_some, within_eq, Option.bind_some, zb_if, a5.2.2.2.2.1, hw _ hpw, iT hi1 hi2, show (0 : Int32).toInt = 0 from rfl, if_pos c, ei, b1, Option.bind_some]
        exact zb_s M2
      · obtain ⟨M1, a1, a2, a3, a4⟩ := keep_eq M
        have hM1 : zIM S M1 := hM.qq (by decide) a3
        obtain ⟨M2, b1, b2, b3, b4⟩ := weigh_eq (k := n.toNat) (m := m.toNat) (n := i.toNat) (by omega) (by omega) h8 (by omega) (by omega) ((hM1.1).k _)
        have hP2 : zMP S.2.2.1 M2 := hM1.2.2.1.zf b3 (by decide)
        have hf := doesFit_eq hR.1 (by omega) (by omega) b2 hP2 hR.2.2.1
        obtain ⟨M3, c1, c2, c3⟩ := back_eq (a2.w (b3.1 100 (by decide)) b4)
        have hq : zfq [] M M3 := a3.z (b3.tr c2) c3
        refine ⟨M3, ?_, hM.qq (by decide) hq, hq.agC (by decide)⟩
        unfold FX8_fits
        rw [isTry_eq hM.1 h8 ⟨hn1, hn2⟩ ⟨hm1, hm2⟩, Option.bind_some, zb_if, if_pos h, en, em, modelsOf_eq (by omega), Option.bind_some, in_eq, Option.bind_some, zb_if, hw _ hpw, iT hi1 hi2, show (0 : Int32).toInt = 0 from rfl, if_pos c, ei, a1, Option.bind_some, b1, Option.bind_some, hf, Option.bind_some, c1, Option.bind_some]
        exact zb_s M3
    · refine ⟨-1, S, hR, fun M hC => ?_, fun M hM => ⟨M, ?_, hM, zagC.rf⟩⟩
      · obtain ⟨M1, a1, a2, a3, a4, a5, a6⟩ := load_eq hC hR (n := n.toNat) (m := m.toNat) (by omega) (by omega) (by omega)
        refine ⟨M1, ?_, a2, a3⟩
        unfold FX7_fits
        rw [isTrial_eq hC.1 h8 ⟨hn1, hn2⟩ ⟨hm1, hm2⟩, Option.bind_some, zb_if, if_pos h, en, em, a1, Option.bind_some, within_eq, Option.bind_some, zb_if, a5.2.2.2.2.1, hw _ hpw, iT hi1 hi2, show (0 : Int32).toInt = 0 from rfl, if_neg c]
      · unfold FX8_fits
        rw [isTry_eq hM.1 h8 ⟨hn1, hn2⟩ ⟨hm1, hm2⟩, Option.bind_some, zb_if, if_pos h, en, em, modelsOf_eq (by omega), Option.bind_some, in_eq, Option.bind_some, zb_if, hw _ hpw, iT hi1 hi2, show (0 : Int32).toInt = 0 from rfl, if_neg c]
  · refine ⟨-1, S, hR, fun M hC => ⟨M, ?_, hC, zagM.rf⟩, fun M hM => ⟨M, ?_, hM, zagC.rf⟩⟩
    · unfold FX7_fits
      rw [isTrial_eq hC.1 h8 ⟨hn1, hn2⟩ ⟨hm1, hm2⟩, Option.bind_some, zb_if, if_neg h]
    · unfold FX8_fits
      rw [isTry_eq hM.1 h8 ⟨hn1, hn2⟩ ⟨hm1, hm2⟩, Option.bind_some, zb_if, if_neg h]
