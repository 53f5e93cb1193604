/-! ===== contradicts: the class ===== -/
abbrev onT (t : Nat → Int) : Nat → Bool := fun i => decide (t i ≠ -9)
theorem onT_iff {t : Nat → Int} {i : Nat} : onT t i = true ↔ t i ≠ -9 := decide_eq_true_iff
def mnF (t κ : Nat → Int) (k v : Int) : Nat → Int
  | 0 => v
  | n + 1 => if onT t n = true ∧ κ n = k then (if t n < mnF t κ k v n then t n else mnF t κ k v n) else mnF t κ k v n
def mxF (t κ : Nat → Int) (k v : Int) : Nat → Int
  | 0 => v
  | n + 1 => if onT t n = true ∧ κ n = k then (if mxF t κ k v n < t n then t n else mxF t κ k v n) else mxF t κ k v n
theorem mnF_p {t κ : Nat → Int} {k v : Int} {n : Nat} (h : onT t n = true ∧ κ n = k) : mnF t κ k v (n + 1) = if t n < mnF t κ k v n then t n else mnF t κ k v n := if_pos h
theorem mnF_n {t κ : Nat → Int} {k v : Int} {n : Nat} (h : ¬ (onT t n = true ∧ κ n = k)) : mnF t κ k v (n + 1) = mnF t κ k v n := if_neg h
theorem mxF_p {t κ : Nat → Int} {k v : Int} {n : Nat} (h : onT t n = true ∧ κ n = k) : mxF t κ k v (n + 1) = if mxF t κ k v n < t n then t n else mxF t κ k v n := if_pos h
theorem mxF_n {t κ : Nat → Int} {k v : Int} {n : Nat} (h : ¬ (onT t n = true ∧ κ n = k)) : mxF t κ k v (n + 1) = mxF t κ k v n := if_neg h
theorem mF_0 {t κ : Nat → Int} {k v : Int} : ∀ n, (∀ i, i < n → onT t i = true → κ i ≠ k) → mnF t κ k v n = v ∧ mxF t κ k v n = v := by
  intro n
  induction n with
  | zero => intro _; exact ⟨rfl, rfl⟩
  | succ n ih =>
    intro h
    have := ih (fun i hi => h i (by omega))
    rw [mnF_n (fun z => h n (by omega) z.1 z.2), mxF_n (fun z => h n (by omega) z.1 z.2)]
    exact this
theorem mF_r {t κ : Nat → Int} {k v : Int} (hv : 0 ≤ v ∧ v ≤ 99) : ∀ n, (∀ i, i < n → onT t i = true → 0 ≤ t i ∧ t i ≤ 99) → (0 ≤ mnF t κ k v n ∧ mnF t κ k v n ≤ 99) ∧ 0 ≤ mxF t κ k v n ∧ mxF t κ k v n ≤ 99 := by
  intro n
  induction n with
  | zero => intro _; exact ⟨hv, hv⟩
  | succ n ih =>
    intro h
    have ih := ih (fun i hi => h i (by omega))
    by_cases c : onT t n = true ∧ κ n = k
    · have ht := h n (by omega) c.1
      rw [mnF_p c, mxF_p c]
      refine ⟨?_, ?_⟩
      · by_cases d : t n < mnF t κ k v n
        · rw [if_pos d]; exact ht
        · rw [if_neg d]; exact ih.1
      · by_cases d : mxF t κ k v n < t n
        · rw [if_pos d]; exact ht
        · rw [if_neg d]; exact ih.2
    · rw [mnF_n c, mxF_n c]; exact ih
theorem mF_1 {t κ : Nat → Int} {n : Nat} (h : hF (onT t) κ n = true) : mnF t κ (κ n) (t n) (n + 1) = t n ∧ mxF t κ (κ n) (t n) (n + 1) = t n := by
  have h1 := hF_iff.mp h
  have h2 := mF_0 (t := t) (κ := κ) (k := κ n) (v := t n) n h1.2
  rw [mnF_p ⟨h1.1, rfl⟩, mxF_p ⟨h1.1, rfl⟩, h2.1, h2.2, if_neg (Int.lt_irrefl _)]
  exact ⟨rfl, rfl⟩
/-- the least and greatest of each number -/
def wdA (t κ : Nat → Int) (n : Nat) (M : zMem) : Prop := ∀ i, i < n → hF (onT t) κ i = true → M.1 98 (hD (onT t) κ i) = iI (mnF t κ (κ i) (t i) n) ∧ M.1 99 (hD (onT t) κ i) = iI (mxF t κ (κ i) (t i) n)
theorem widen_eq {t κ : Nat → Int} {n : Nat} {M : zMem} (h : tyA (onT t) κ n M) (hw : wdA t κ n M) (hn : onT t n = true) (hlt : n < 2401) (hκ : ∀ i, i < n + 1 → -2147483648 ≤ κ i ∧ κ i ≤ 2147483647) (ht : ∀ i, i < n + 1 → onT t i = true → 0 ≤ t i ∧ t i ≤ 99) : ∃ M', FX0_widen (iI (t n)) (iI (κ n)) M = some M' ∧ zfr [11, 12, 13, 14, 98, 99] M M' ∧ tyA (onT t) κ (n + 1) M' ∧ wdA t κ (n + 1) M' := by
  have hd := hD_le (onT t) κ n
  obtain ⟨i0, M1, a1, a2, a3, a4, a5, a6⟩ := ty_step h hn (by omega) hκ
  have hdi := hD_le (onT t) κ i0
  have e98 : M1.1 98 = M.1 98 := a5.1 98 (by decide)
  have e99 : M1.1 99 = M.1 99 := a5.1 99 (by decide)
  have tn := ht n (by omega) hn
  have h11 := h.1
  have h11' := a6.1
  by_cases hf : hF (onT t) κ n = true
  · have ei : i0 = n := hF_uniq a2 hf a3
    subst ei
    refine ⟨zwr (zwr M1 98 (hD (onT t) κ i0) (iI (t i0))) 99 (hD (onT t) κ i0) (iI (t i0)), ?_, ((a5.mono (by decide)).wr (by decide)).wr (by decide), a6.fr ((zfr.rf (S := [98, 99])).wr (by decide) |>.wr (by decide)) (by decide), fun i hi hfi => ?_⟩
    · unfold FX0_widen
      rw [zlet_e, a4, Option.bind_some]
      rw [if_pos (show iI (hD (onT t) κ i0 : Nat) < (2401 : Int32) from (iLt (b := 2401) (by omega) (by omega)).mpr (by omega))]
      rw [hD_p hf] at h11'
      simp only [zlet_e, zj]
      rw [h11, h11', if_pos (show iI (hD (onT t) κ i0 : Nat) < iI ((hD (onT t) κ i0 + 1 : Nat) : Int) from (iLt (by omega) (by omega)).mpr (by omega)), if_neg (show ¬ (1 : Int32) = 0 by decide), if_neg (show ¬ (1 : Int32) = 0 by decide), zgI (by omega) (by omega) (by omega), zgI (by omega) (by omega) (by omega), iC (by omega) (by omega), Int.toNat_natCast]
    · rw [zwr_nc (c := 98) (q := 99) (by decide)]
      by_cases e : i = i0
      · subst e
        rw [zwr_eq, zwr_eq, (mF_1 hf).1, (mF_1 hf).2]
        exact ⟨rfl, rfl⟩
      · have hne : hD (onT t) κ i ≠ hD (onT t) κ i0 := fun z => e (hD_inj hfi hf z)
        have hk : ¬ (onT t i0 = true ∧ κ i0 = κ i) := fun z => e (hF_uniq hfi hf z.2.symm)
        rw [zwr_nj hne, zwr_nj hne, zwr_nc (by decide), mnF_n hk, mxF_n hk, e98, e99]
        exact hw i (by omega) hfi
  · have hi0 : i0 < n := by
      by_cases e : i0 = n
      · subst e; exact absurd a2 hf
      · omega
    obtain ⟨w1, w2⟩ := hw i0 hi0 a2
    have ti0 := ht i0 (by omega) (hF_iff.mp a2).1
    have hr := mF_r (t := t) (κ := κ) (k := κ i0) (v := t i0) ti0 n (fun i hi => ht i (by omega))
    have hon : onT t n = true ∧ κ n = κ i0 := ⟨hn, a3.symm⟩
    refine ⟨zwr (zwr M1 98 (hD (onT t) κ i0) (iI (mnF t κ (κ i0) (t i0) (n + 1)))) 99 (hD (onT t) κ i0) (iI (mxF t κ (κ i0) (t i0) (n + 1))), ?_, ((a5.mono (by decide)).wr (by decide)).wr (by decide), a6.fr ((zfr.rf (S := [98, 99])).wr (by decide) |>.wr (by decide)) (by decide), fun i hi hfi => ?_⟩
    · unfold FX0_widen
      rw [zlet_e, a4, Option.bind_some]
      rw [if_pos (show iI (hD (onT t) κ i0 : Nat) < (2401 : Int32) from (iLt (b := 2401) (by omega) (by omega)).mpr (by omega))]
      rw [hD_n hf] at h11'
      simp only [zlet_e, zj]
      rw [h11, h11', if_neg (show ¬ iI (hD (onT t) κ n : Nat) < iI (hD (onT t) κ n : Nat) from fun z => by have := (iLt (by omega) (by omega)).mp z; omega), if_pos True.intro, zgI (by omega) (by omega) (by omega), zrI _ _ (by omega) (by omega), Int.toNat_natCast, e98, w1, minI (by omega) (by omega), Option.bind_some, zgI (by omega) (by omega) (by omega), if_pos True.intro, zgI (by omega) (by omega) (by omega), zrI _ _ (by omega) (by omega), iC (by omega) (by omega), Int.toNat_natCast, zwr_nc (c := 99) (q := 98) (by decide), e99, w2, maxI (by omega) (by omega), Option.bind_some, zgI (by omega) (by omega) (by omega), mnF_p hon, mxF_p hon]
    · have hin : i < n := by
        by_cases e : i = n
        · subst e; exact absurd hfi hf
        · omega
      rw [zwr_nc (c := 98) (q := 99) (by decide)]
      by_cases e : i = i0
      · subst e
        rw [zwr_eq, zwr_eq]
        exact ⟨rfl, rfl⟩
      · have hne : hD (onT t) κ i ≠ hD (onT t) κ i0 := fun z => e (hD_inj hfi a2 z)
        have hk : ¬ (onT t n = true ∧ κ n = κ i) := fun z => e (hF_uniq hfi a2 (z.2.symm.trans a3.symm))
        rw [zwr_nj hne, zwr_nj hne, zwr_nc (by decide), mnF_n hk, mxF_n hk, e98, e99]
        exact hw i hin hfi
/-- the contradicted numbers among the first j; the contradicted firsts among the first i -/
abbrev cxP (t κ : Nat → Int) (N : Nat) (z : Int) (i : Nat) : Prop := z < mxF t κ (κ i) (t i) N - mnF t κ (κ i) (t i) N
def cxN (t κ : Nat → Int) (N : Nat) (z : Int) : Nat → Nat
  | 0 => 0
  | j + 1 => cxN t κ N z j + (if cxP t κ N z (hE (onT t) κ N j) then 1 else 0)
def cxI (t κ : Nat → Int) (N : Nat) (z : Int) : Nat → Nat
  | 0 => 0
  | i + 1 => cxI t κ N z i + (if hF (onT t) κ i = true ∧ cxP t κ N z i then 1 else 0)
theorem cx_eq (t κ : Nat → Int) (N : Nat) (z : Int) : ∀ i, i ≤ N → cxN t κ N z (hD (onT t) κ i) = cxI t κ N z i := by
  intro i
  induction i with
  | zero => intro _; rfl
  | succ i ih =>
    intro h
    have ih := ih (by omega)
    show _ = cxI t κ N z i + (if hF (onT t) κ i = true ∧ cxP t κ N z i then 1 else 0)
    by_cases c : hF (onT t) κ i = true
    · have e := hE_D (n := N) (show i < N by omega) c
      rw [hD_p c]
      show cxN t κ N z (hD (onT t) κ i) + (if cxP t κ N z (hE (onT t) κ N (hD (onT t) κ i)) then 1 else 0) = _
      rw [e, ih]
      by_cases d : cxP t κ N z i
      · rw [if_pos d, if_pos ⟨c, d⟩]
      · rw [if_neg d, if_neg (fun w => d w.2)]
    · rw [hD_n c, if_neg (fun w => c w.1), ih]
      rfl
theorem cxN_le (t κ : Nat → Int) (N : Nat) (z : Int) : ∀ j, cxN t κ N z j ≤ j := by
  intro j
  induction j with
  | zero => exact Nat.le_refl _
  | succ j ih =>
    show cxN t κ N z j + (if cxP t κ N z (hE (onT t) κ N j) then 1 else 0) ≤ j + 1
    by_cases d : cxP t κ N z (hE (onT t) κ N j)
    · rw [if_pos d]; omega
    · rw [if_neg d]; omega
theorem contraC_end {t κ : Nat → Int} {N : Nat} {M : zMem} {z : Int} (hN : N ≤ 2401) (h : tyA (onT t) κ N M) (hw : wdA t κ N M) (ht : ∀ i, i < N → onT t i = true → 0 ≤ t i ∧ t i ≤ 99) (hz : M.1 96 5 = iI z) (hz2 : 0 ≤ z ∧ z ≤ 99) (s3 : Int32 × zMem) (h3 : s3.2 = M) : zloop (FX0_contradictions_L56 s3) zFuel ((0 : Int32), (0 : Int32)) = some (iI (cxN t κ N z (hD (onT t) κ N) : Nat), M) := by
  have hd := hD_le (onT t) κ N
  have h11 := h.1
  refine zloop_end (f := FX0_contradictions_L56 s3) (fun j => (iI (cxN t κ N z j : Nat), iI (j : Int))) (hD (onT t) κ N) rfl (fun j hj rec => ?_) (fun rec => ?_) (zfu (by omega))
  · obtain ⟨e1, e2, e3⟩ := hE_is (onT t) κ N j hj
    obtain ⟨w1, w2⟩ := hw _ e1 e2
    rw [e3] at w1 w2
    have ti := ht _ e1 (hF_iff.mp e2).1
    have hr := mF_r (t := t) (κ := κ) (k := κ (hE (onT t) κ N j)) (v := t (hE (onT t) κ N j)) ti N ht
    unfold FX0_contradictions_L56
    rw [h3, h11, if_pos (show iI (j : Int) < iI (hD (onT t) κ N : Nat) from (iLt (by omega) (by omega)).mpr (by omega)), if_pos (show iI (j : Int) < (2401 : Int32) from (iLt (b := 2401) (by omega) (by omega)).mpr (by omega))]
    refine (zgI (by omega) (by omega) (by omega)).trans ?_
    refine (zgI (by omega) (by omega) (by omega)).trans ?_
    simp only [zlet_e, zj]
    rw [hz, zrI _ _ (by omega) (by omega), zrI _ _ (by omega) (by omega), Int.toNat_natCast, w1, w2, iS, iA1 j]
    show _ = rec (iI ((cxN t κ N z j + (if cxP t κ N z (hE (onT t) κ N j) then 1 else 0) : Nat) : Int), _)
    by_cases c : cxP t κ N z (hE (onT t) κ N j)
    · rw [if_pos c, if_pos ((iLt (by omega) (by omega)).mpr c), iA1]
    · rw [if_neg c, if_neg (fun y => c ((iLt (by omega) (by omega)).mp y)), show (0 : Int32) = iI 0 from rfl, iA, Int.add_zero]
      rfl
  · unfold FX0_contradictions_L56
    rw [h3, h11, if_neg (show ¬ iI (hD (onT t) κ N : Nat) < iI (hD (onT t) κ N : Nat) from fun y => by have := (iLt (by omega) (by omega)).mp y; omega)]
theorem contraC {S : zSt} {M : zMem} (hC : zIC S M) (hR : zRS S) {N : Nat} (hN : N = 2401) : ∃ M', FX7_contradicts M = some (iI (cxN S.2.2.2.2.1 (kP S.1) N S.2.2.2.1 (hD (onT S.2.2.2.2.1) (kP S.1) N) : Nat), M') ∧ zIC S M' ∧ zagM M M' := by
  obtain ⟨M1, a1, a2, a3, a4, a5⟩ := hC.look hR
  have hrB := hR.2.2.2
  have hcB := a2.2.2.2.1
  revert hrB hcB
  generalize S.2.2.2 = B
  intro hrB hcB
  obtain ⟨M2, b1, b2, b3⟩ := ty_start M1 (onT B.2.1) (kP S.1)
  have k4 : zPlC S.1 M2 := a4.fr (fun c h1 h2 => b2.1 c (by simp only [List.mem_cons, List.not_mem_nil, or_false]; omega))
  have ht : ∀ i, i < 2401 → onT B.2.1 i = true → 0 ≤ B.2.1 i ∧ B.2.1 i ≤ 99 := fun i hi ho => by
    have := onT_iff.mp ho
    have := hrB.2 i hi
    omega
  have h97 : ∀ i, i < 2401 → M2.1 97 i = iI (B.2.1 i) := fun i hi => (congrFun (b2.1 97 (by decide)) i).trans (hcB.2.1 i hi)
  have h96 : M2.1 96 5 = iI B.1 := (congrFun (b2.1 96 (by decide)) 5).trans hcB.1
  have key := zloop_inv (f := FX0_contradictions_L9) (r := fun s => zloop (FX0_contradictions_L56 (iI ((2401 : Nat) : Int), s.2)) zFuel ((0 : Int32), (0 : Int32))) (fun i s => s.1 = iI (i : Int) ∧ zfr [11, 12, 13, 14, 98, 99] M2 s.2 ∧ tyA (onT B.2.1) (kP S.1) i s.2 ∧ wdA B.2.1 (kP S.1) i s.2) 2401 ?_ ?_ 2401 0 zFuel ((0 : Int32), M2) rfl (zfu (by omega)) ⟨rfl, zfr.rf, b3, fun i hi => absurd hi (Nat.not_lt_zero _)⟩
  · obtain ⟨⟨s1, s2⟩, ⟨-, g1, g2, g3⟩, g4⟩ := key
    have g1 : zfr [11, 12, 13, 14, 98, 99] M2 s2 := g1
    have g5 := contraC_end (t := B.2.1) (κ := kP S.1) (N := 2401) (z := B.1) (by omega) g2 g3 ht ((congrFun (g1.1 96 (by decide)) 5).trans h96) hrB.1 (iI ((2401 : Nat) : Int), s2) rfl
    refine ⟨s2, ?_, (a2.qf hR (by unfold zsc; decide) b2).qf hR (by unfold zsc; decide) g1, ((a5.agM (by decide)).tr (b2.agM (by decide))).tr (g1.agM (by decide))⟩
    unfold FX7_contradicts FX0_contradictions
    rw [a1, Option.bind_some, b1, Option.bind_some, g4, hN]
    show (zloop (FX0_contradictions_L56 (iI ((2401 : Nat) : Int), s2)) zFuel ((0 : Int32), (0 : Int32))).bind _ = _
    rw [g5, Option.bind_some]
  · intro i s hi hI
    obtain ⟨s1, sm⟩ := s
    obtain ⟨e1, e2, e3, e4⟩ := hI
    have e1 : s1 = _ := e1
    have e2 : zfr [11, 12, 13, 14, 98, 99] M2 sm := e2
    subst e1
    have e97 : sm.1 97 i = iI (B.2.1 i) := (congrFun (e2.1 97 (by decide)) i).trans (h97 i hi)
    have e18 : sm.1 18 i = iI (kP S.1 i) := (congrFun (e2.1 18 (by decide)) i).trans (k4.2 i hi).1
    by_cases c : B.2.1 i = -9
    · have hno : ¬ onT B.2.1 i = true := fun z => onT_iff.mp z c
      refine ⟨(iI ((i + 1 : Nat) : Int), sm), ⟨rfl, e2, ty_off e3 hno, fun j hj hfj => ?_⟩, fun rec => ?_⟩
      · have hne : j ≠ i := fun z => hno (by rw [← z]; exact (hF_iff.mp hfj).1)
        rw [mnF_n (fun z => hno z.1), mxF_n (fun z => hno z.1)]
        exact e4 j (by omega) hfj
      · unfold FX0_contradictions_L9
        rw [if_pos (show iI (i : Int) < (2401 : Int32) from (iLt (b := 2401) (by omega) (by omega)).mpr (by omega))]
        refine (zgI (by omega) (by omega) (by omega)).trans ?_
        rw [if_pos (show zrd sm 97 (iI (i : Int)) = -9 by rw [zrI _ _ (by omega) (by omega), Int.toNat_natCast, e97, c]; rfl)]
        simp only [zlet_e]
        rw [iA1]
    · have ho : onT B.2.1 i = true := onT_iff.mpr c
      obtain ⟨M', w1, w2, w3, w4⟩ := widen_eq e3 e4 ho hi (fun j hj => by have := kP_r hR.1 (p := j) (by omega); omega) (fun j hj => ht j (by omega))
      refine ⟨(iI ((i + 1 : Nat) : Int), M'), ⟨rfl, e2.tr w2, w3, w4⟩, fun rec => ?_⟩
      unfold FX0_contradictions_L9
      rw [if_pos (show iI (i : Int) < (2401 : Int32) from (iLt (b := 2401) (by omega) (by omega)).mpr (by omega))]
      refine (zgI (by omega) (by omega) (by omega)).trans ?_
      have tr := ht i hi ho
      rw [if_neg (show ¬ zrd sm 97 (iI (i : Int)) = -9 by rw [zrI _ _ (by omega) (by omega), Int.toNat_natCast, e97, show (-9 : Int32) = iI (-9) from rfl, iEq (by omega) (by omega)]; exact c)]
      refine (zgI (by omega) (by omega) (by omega)).trans ?_
      refine (zgI (by omega) (by omega) (by omega)).trans ?_
      show (FX0_widen (zrd sm 97 (iI (i : Int))) (zrd sm 18 (iI (i : Int))) sm).bind _ = _
      rw [zrI _ _ (by omega) (by omega), zrI _ _ (by omega) (by omega), Int.toNat_natCast, e97, e18, w1, Option.bind_some]
      simp only [zlet_e]
      rw [iA1]
  · intro s hI rec
    obtain ⟨s1, sm⟩ := s
    obtain ⟨e1, -⟩ := hI
    have e1 : s1 = iI ((2401 : Nat) : Int) := e1
    subst e1
    unfold FX0_contradictions_L9
    rw [if_neg (show ¬ iI ((2401 : Nat) : Int) < (2401 : Int32) by decide)]
