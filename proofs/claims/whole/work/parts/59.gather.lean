/-! ===== trials: the class gathers ===== -/
theorem zTrV.fr {L : zL} {P : zPr} {M M' : zMem} {k d : Nat} (h : zTrV L P M k d) (hP : zRP P) (e0 : ∀ j, j = 12 ∨ j = 13 ∨ j = 14 → M'.1 34 j = M.1 34 j) (e : ∀ c, c = 55 ∨ (57 ≤ c ∧ c ≤ 92) → M'.1 c = M.1 c) : zTrV L P M' k d := by
  obtain ⟨a1, a2, a3, a4, a5, a6⟩ := h
  refine ⟨a1, a2, by rw [e0 12 (by omega)]; exact a3, by rw [e0 13 (by omega)]; exact a4, by rw [e0 14 (by omega)]; exact a5, fun r hr => ?_⟩
  have hr36 : r < 36 := by
    have h1 := hP.1
    have h2 := hP.2.2.1
    unfold rwOn at hr
    omega
  rw [e 55 (by omega), e (57 + r) (by omega)]
  exact a6 r hr
def fl (L : zL) (P : zPr) (k d i : Nat) : List Nat := (List.range i).filter (fun n => decide (fitP L P k d n))
theorem fl_p {L : zL} {P : zPr} {k d i : Nat} (h : fitP L P k d i) : fl L P k d (i + 1) = fl L P k d i ++ [i] := by
  unfold fl
  rw [List.range_succ, List.filter_append, List.filter_cons_of_pos (p := fun n => decide (fitP L P k d n)) (decide_eq_true h)]
  rfl
theorem fl_n {L : zL} {P : zPr} {k d i : Nat} (h : ¬ fitP L P k d i) : fl L P k d (i + 1) = fl L P k d i := by
  unfold fl
  rw [List.range_succ, List.filter_append, List.filter_cons_of_neg (p := fun n => decide (fitP L P k d n)) (fun z => h (of_decide_eq_true z))]
  exact List.append_nil _
theorem fl_len (L : zL) (P : zPr) (k d i : Nat) : (fl L P k d i).length ≤ i := by
  have := List.length_filter_le (fun n => decide (fitP L P k d n)) (List.range i)
  rw [List.length_range] at this
  exact this
theorem fl_lt {L : zL} {P : zPr} {k d i j v : Nat} (h : (fl L P k d i)[j]? = some v) : v < i := by
  have h1 := List.mem_of_getElem? h
  unfold fl at h1
  exact List.mem_range.mp (List.mem_filter.mp h1).1
theorem app_at {l : List Nat} {n j v : Nat} (h : (l ++ [n])[j]? = some v) : l[j]? = some v ∨ (j = l.length ∧ v = n) := by
  by_cases c : j < l.length
  · rw [List.getElem?_append_left c] at h
    exact Or.inl h
  · rw [List.getElem?_append_right (by omega)] at h
    by_cases c2 : j - l.length = 0
    · rw [c2] at h
      exact Or.inr ⟨by omega, (Option.some.inj h).symm⟩
    · have : ([n] : List Nat)[j - l.length]? = none := List.getElem?_eq_none (by simp; omega)
      rw [this] at h
      cases h
theorem gather_eq {S : zSt} {M : zMem} (hC : zIC S M) (hR : zRS S) {k d : Nat} (h16 : M.1 34 16 = 0) (hV : zTrV S.1 S.2.2.1 M k d) (hG : M.1 34 17 = 0 ∨ zTrG S.1 S.2.2.1 M k d) : ∃ M', FX6_gather M = some M' ∧ zIC S M' ∧ zagM M M' ∧ zTrV S.1 S.2.2.1 M' k d ∧ zTrG S.1 S.2.2.1 M' k d := by
  rcases hG with hG | hG
  · unfold FX6_gather
    rw [if_pos hG, zlet_e]
    have hk := hV.1
    have hpw := pow_r (d := d) (k := k) hV.2.1 hk.2.1
    obtain ⟨h1, h2, h3, h4, h5, h6⟩ := hC
    have hP := hR.2.2.1
    have key := zloop_inv (f := FX6_gather_L15) (r := fun st => some (zwr st.2 34 17 1)) (fun i st => st.1 = iI (i : Int) ∧ (zfg (fun c => c = 34 ∨ c = 93 ∨ c = 94) M st.2 ∧ ∀ j, j ≠ 15 → st.2.1 34 j = M.1 34 j) ∧ st.2.1 34 15 = iI ((fl S.1 S.2.2.1 k d i).length : Nat) ∧ ∀ j v : Nat, (fl S.1 S.2.2.1 k d i)[j]? = some v → st.2.1 94 j = iI v) (d ^ k) ?_ ?_ (d ^ k) 0 zFuel ((0 : Int32), zwr M 34 15 0) (Nat.zero_add _) (zfu (by omega)) ⟨rfl, ⟨zfg.rf.wr (Or.inl rfl), fun j hj => zwr_nj hj⟩, zwr_eq, fun j v hv => by cases hv⟩
    · obtain ⟨⟨t1, t2⟩, ⟨-, ⟨g1, g2⟩, g3, g4⟩, g5⟩ := key
      have g1 : zfg _ M t2 := g1
      have g2 : ∀ j, j ≠ 15 → t2.1 34 j = M.1 34 j := g2
      have g3 : t2.1 34 15 = _ := g3
      have g4 : ∀ j v : Nat, _ → t2.1 94 j = iI v := g4
      have n2 : ∀ c, c ≠ 34 → c ≠ 93 → c ≠ 94 → (zwr t2 34 17 1).1 c = M.1 c := fun c a1 a2 a3 => (zwr_ne a1).trans (g1.1 c (by omega))
      have j2 : ∀ j, j ≠ 15 → j ≠ 17 → (zwr t2 34 17 1).1 34 j = M.1 34 j := fun j a1 a2 => (zwr_nj a2).trans (g2 j a1)
      have hV' : zTrV S.1 S.2.2.1 (zwr t2 34 17 1) k d := hV.fr hP (fun j hj => j2 j (by omega) (by omega)) (fun c hc => n2 c (by omega) (by omega) (by omega))
      have hG' : zTrG S.1 S.2.2.1 (zwr t2 34 17 1) k d := by
        refine ⟨zwr_eq, (zwr_nj (by decide)).trans g3, fun i hi => ?_⟩
        rw [zwr_nc (by decide)]
        exact g4 i _ (List.getElem?_eq_getElem hi)
      refine ⟨_, g5, ⟨h1.fr hR.1.1 (fun c hc => n2 c (by omega) (by omega) (by omega)) (by rw [n2 23 (by omega) (by omega) (by omega)]), h2.fr (by rw [n2 23 (by omega) (by omega) (by omega)]) (n2 24 (by omega) (by omega) (by omega)), h3.fr hP (fun j hj => j2 j (by omega) (by omega)) (fun c c1 c2 => n2 c (by omega) (by omega) (by omega)), h4.fr (by rw [n2 96 (by omega) (by omega) (by omega)]) (n2 97 (by omega) (by omega) (by omega)) (by rw [show (zwr t2 34 17 1).2 = M.2 from g1.2]), h5.fr (by rw [n2 15 (by omega) (by omega) (by omega)]) (fun c c1 c2 => n2 c (by omega) (by omega) (by omega)), Or.inr ⟨(j2 16 (by decide) (by decide)).trans h16, k, d, hV', Or.inr hG'⟩⟩, ⟨fun c hc => n2 c (by omega) (by omega) (by omega), by rw [show (zwr t2 34 17 1).2 = M.2 from g1.2]⟩, hV', hG'⟩
    · intro i st hi hI
      obtain ⟨t1, t2⟩ := st
      obtain ⟨f1, ⟨f2, f3⟩, f4, f5⟩ := hI
      have f1 : t1 = _ := f1
      have f2 : zfg _ M t2 := f2
      have f3 : ∀ j, j ≠ 15 → t2.1 34 j = M.1 34 j := f3
      have f4 : t2.1 34 15 = _ := f4
      have f5 : ∀ j v : Nat, _ → t2.1 94 j = iI v := f5
      subst f1
      have hP2 : zCP S.2.2.1 t2 := h3.fr hP (fun j hj => f3 j (by omega)) (fun c c1 c2 => f2.1 c (by omega))
      have hV2 : zTrV S.1 S.2.2.1 t2 k d := hV.fr hP (fun j hj => f3 j (by omega)) (fun c hc => f2.1 c (by omega))
      obtain ⟨M', a1, a2⟩ := holds_eq hR.1 hP2 hP (n := i) (by omega) hV2
      have hll := fl_len S.1 S.2.2.1 k d i
      have e34 : M'.1 34 = t2.1 34 := a2.1 34 (by decide)
      have e94 : M'.1 94 = t2.1 94 := a2.1 94 (by decide)
      have f2' : zfg (fun c => c = 34 ∨ c = 93 ∨ c = 94) M M' := f2.tr (a2.g (fun c hc => by simp only [List.mem_cons, List.not_mem_nil, or_false] at hc; omega))
      by_cases c : fitP S.1 S.2.2.1 k d i
      · refine ⟨(iI ((i + 1 : Nat) : Int), zwr (zwr M' 94 (fl S.1 S.2.2.1 k d i).length (iI i)) 34 15 (iI (((fl S.1 S.2.2.1 k d i).length + 1 : Nat) : Int))), ⟨rfl, ⟨(f2'.wr (Or.inr (Or.inr rfl))).wr (Or.inl rfl), fun j hj => (zwr_nj hj).trans ((zwr_nc (by decide)).trans ((congrFun e34 j).trans (f3 j hj)))⟩, ?_, fun j v hv => ?_⟩, fun rec => ?_⟩
        · rw [fl_p c, List.length_append]
          exact zwr_eq
        · rw [fl_p c] at hv
          refine (zwr_nc (by decide)).trans ?_
          rcases app_at hv with h | ⟨h, h'⟩
          · obtain ⟨hjl, -⟩ := List.getElem?_eq_some_iff.mp h
            rw [zwr_nj (by omega), e94]
            exact f5 j v h
          · rw [h, h']
            exact zwr_eq
        · unfold FX6_gather_L15
          rw [zj_e]
          dsimp only
          rw [f3 14 (by decide), hV.2.2.2.2.1, if_pos ((iLt (by omega) (by omega)).mpr (by omega)), if_pos (show iI (i : Int) < (4096 : Int32) from (iLt (b := 4096) (by omega) (by omega)).mpr (by omega)), a1, Option.bind_some]
          dsimp only
          unfold zb
          rw [if_pos c, if_neg (show ¬ (1 : Int32) = 0 by decide), e34, f4, zgI (by omega) (by omega) (by omega), zlet_e, iC (by omega) (by omega), Int.toNat_natCast]
          simp only [zlet_e]
          rw [zwr_nc (c := 34) (by decide), e34, f4, iA1, iA1]
      · refine ⟨(iI ((i + 1 : Nat) : Int), M'), ⟨rfl, ⟨f2', fun j hj => (congrFun e34 j).trans (f3 j hj)⟩, ?_, fun j v hv => ?_⟩, fun rec => ?_⟩
        · rw [fl_n c]
          exact (congrFun e34 15).trans f4
        · rw [fl_n c] at hv
          exact (congrFun e94 j).trans (f5 j v hv)
        · unfold FX6_gather_L15
          rw [zj_e]
          dsimp only
          rw [f3 14 (by decide), hV.2.2.2.2.1, if_pos ((iLt (by omega) (by omega)).mpr (by omega)), if_pos (show iI (i : Int) < (4096 : Int32) from (iLt (b := 4096) (by omega) (by omega)).mpr (by omega)), a1, Option.bind_some]
          dsimp only
          unfold zb
          rw [if_neg c, if_pos rfl, zlet_e, iA1]
    · intro st hI rec
      obtain ⟨t1, t2⟩ := st
      obtain ⟨f1, ⟨f2, f3⟩, -⟩ := hI
      have f1 : t1 = _ := f1
      have f3 : ∀ j, j ≠ 15 → t2.1 34 j = M.1 34 j := f3
      subst f1
      unfold FX6_gather_L15
      rw [zj_e]
      dsimp only
      rw [f3 14 (by decide), hV.2.2.2.2.1, if_neg (fun z => by have := (iLt (a := (d ^ k : Nat)) (b := (d ^ k : Nat)) (by omega) (by omega)).mp z; omega)]
      simp only [zlet_e]
  · unfold FX6_gather
    rw [if_neg (show ¬ M.1 34 17 = 0 by rw [hG.1]; decide)]
    exact ⟨M, rfl, hC, zagM.rf, hV, hG⟩
/-- the fitting models by number -/
def fE (L : zL) (P : zPr) (k d i : Nat) : Nat := (fitL L P k d).getD i 0
theorem fE_is {L : zL} {P : zPr} {k d i : Nat} (h : i < (fitL L P k d).length) : (fitL L P k d)[i] = fE L P k d i ∧ fE L P k d i < d ^ k := by
  have e : (fitL L P k d)[i]? = some (fitL L P k d)[i] := List.getElem?_eq_getElem h
  have e2 : (fitL L P k d)[i] = fE L P k d i := by
    unfold fE
    rw [List.getD_eq_getElem?_getD, e]
    rfl
  refine ⟨e2, ?_⟩
  rw [← e2]
  exact fl_lt (L := L) (P := P) (k := k) (d := d) (i := d ^ k) e
theorem zTrG.at {L : zL} {P : zPr} {M : zMem} {k d : Nat} (h : zTrG L P M k d) {i : Nat} (hi : i < (fitL L P k d).length) : M.1 94 i = iI (fE L P k d i : Nat) := by
  rw [h.2.2 i hi, (fE_is hi).1]
theorem fitL_len {L : zL} {P : zPr} {k d : Nat} (hd : 2 ≤ d ∧ d ≤ 16) (hk : k ≤ 3) : (fitL L P k d).length ≤ 4096 := Nat.le_trans (fl_len L P k d (d ^ k)) (pow_r hd hk).2
theorem weightOf_eq {M : zMem} {d n b : Nat} (hd : 2 ≤ d ∧ d ≤ 16) (hn : n ≤ 2147483647) (hb : b ≤ 1000) (h13 : M.1 34 13 = iI d) : FX6_weightOf (iI n) (iI b) M = some (iI (n / d ^ b % d : Nat)) := by
  have hd0 : ¬ iI (d : Int) = 0 := fun z => by have := (i0 (by omega) (by omega)).mp z; omega
  unfold FX6_weightOf
  refine zloop_end (f := FX6_weightOf_L5 M (iI b)) (fun i => (iI (n / d ^ i : Nat), iI (i : Int))) b ?_ (fun i hi rec => ?_) (fun rec => ?_) (zfu (by omega))
  · show _ = (iI ((n / 1 : Nat) : Int), _)
    rw [Nat.div_one]
    rfl
  · have hq : n / d ^ i ≤ 2147483647 := Nat.le_trans (Nat.div_le_self _ _) hn
    unfold FX6_weightOf_L5
    dsimp only
    rw [if_pos ((iLt (by omega) (by omega)).mpr (by omega)), h13, if_neg hd0]
    simp only [zlet_e]
    rw [ndiv hq (by omega), dpow, iA1]
  · have hq : n / d ^ b ≤ 2147483647 := Nat.le_trans (Nat.div_le_self _ _) hn
    unfold FX6_weightOf_L5
    dsimp only
    rw [if_neg (fun z => by have := (iLt (a := b) (b := b) (by omega) (by omega)).mp z; omega), h13, if_neg hd0, nrem hq (by omega)]
/-- the sum of a model's weights -/
def wgt (d n : Nat) : Nat → Nat
  | 0 => 0
  | b + 1 => wgt d n b + n / d ^ b % d
theorem wgt_le {d n : Nat} (hd : 2 ≤ d ∧ d ≤ 16) : ∀ b, wgt d n b ≤ 16 * b := by
  intro b
  induction b with
  | zero => exact Nat.le_refl _
  | succ b ih =>
    have := Nat.mod_lt (n / d ^ b) (show 0 < d by omega)
    show wgt d n b + n / d ^ b % d ≤ _
    omega
/-- the least sum's model among the first i -/
def lsB (e : Nat → Nat) (k d : Nat) (v : Int) : Nat → Int × Int
  | 0 => (-9, v)
  | i + 1 => if (lsB e k d v i).1 = -9 ∨ (wgt d (e i) k : Nat) < (lsB e k d v i).2 then ((e i : Nat), (wgt d (e i) k : Nat)) else lsB e k d v i
theorem lsB_r {e : Nat → Nat} {k d : Nat} {v : Int} (hv : -9 ≤ v ∧ v ≤ 0) (hd : 2 ≤ d ∧ d ≤ 16) (hk : k ≤ 3) : ∀ i, (∀ j, j < i → e j < 4096) → (-9 ≤ (lsB e k d v i).1 ∧ (lsB e k d v i).1 < 4096) ∧ (-9 ≤ (lsB e k d v i).2 ∧ (lsB e k d v i).2 ≤ 1000) ∧ ((lsB e k d v i).1 = -9 ∨ 0 ≤ (lsB e k d v i).2) := by
  intro i
  induction i with
  | zero => intro _; exact ⟨⟨by show (-9 : Int) ≤ -9; omega, by show (-9 : Int) < 4096; omega⟩, ⟨hv.1, by show v ≤ 1000; omega⟩, Or.inl rfl⟩
  | succ i ih =>
    intro h
    have ih := ih (fun j hj => h j (by omega))
    have h1 := h i (by omega)
    have h2 := wgt_le (n := e i) hd k
    show (-9 ≤ (if (lsB e k d v i).1 = -9 ∨ (wgt d (e i) k : Nat) < (lsB e k d v i).2 then (((e i : Nat) : Int), ((wgt d (e i) k : Nat) : Int)) else lsB e k d v i).1 ∧ (if (lsB e k d v i).1 = -9 ∨ (wgt d (e i) k : Nat) < (lsB e k d v i).2 then (((e i : Nat) : Int), ((wgt d (e i) k : Nat) : Int)) else lsB e k d v i).1 < 4096) ∧ (-9 ≤ (if (lsB e k d v i).1 = -9 ∨ (wgt d (e i) k : Nat) < (lsB e k d v i).2 then (((e i : Nat) : Int), ((wgt d (e i) k : Nat) : Int)) else lsB e k d v i).2 ∧ (if (lsB e k d v i).1 = -9 ∨ (wgt d (e i) k : Nat) < (lsB e k d v i).2 then (((e i : Nat) : Int), ((wgt d (e i) k : Nat) : Int)) else lsB e k d v i).2 ≤ 1000) ∧ ((if (lsB e k d v i).1 = -9 ∨ (wgt d (e i) k : Nat) < (lsB e k d v i).2 then (((e i : Nat) : Int), ((wgt d (e i) k : Nat) : Int)) else lsB e k d v i).1 = -9 ∨ 0 ≤ (if (lsB e k d v i).1 = -9 ∨ (wgt d (e i) k : Nat) < (lsB e k d v i).2 then (((e i : Nat) : Int), ((wgt d (e i) k : Nat) : Int)) else lsB e k d v i).2)
    by_cases c : (lsB e k d v i).1 = -9 ∨ (wgt d (e i) k : Nat) < (lsB e k d v i).2
    · rw [if_pos c]
      dsimp only
      omega
    · rw [if_neg c]
      exact ih
theorem lsB_v (e : Nat → Nat) (k d : Nat) (v v' : Int) : ∀ i, 0 < i → lsB e k d v i = lsB e k d v' i := by
  intro i
  induction i with
  | zero => intro h; omega
  | succ i ih =>
    intro _
    by_cases c : i = 0
    · subst c
      have e1 : ∀ v : Int, lsB e k d v (0 + 1) = (((e 0 : Nat) : Int), ((wgt d (e 0) k : Nat) : Int)) := fun v => if_pos (Or.inl rfl)
      rw [e1, e1]
    · have ih := ih (by omega)
      show (if (lsB e k d v i).1 = -9 ∨ _ < (lsB e k d v i).2 then _ else lsB e k d v i) = (if (lsB e k d v' i).1 = -9 ∨ _ < (lsB e k d v' i).2 then _ else lsB e k d v' i)
      rw [ih]
theorem leastC {M : zMem} {k d len : Nat} {e : Nat → Nat} (hk : k ≤ 3) (hd : 2 ≤ d ∧ d ≤ 16) (hl : len ≤ 4096) (h12 : M.1 34 12 = iI k) (h13 : M.1 34 13 = iI d) (h15 : M.1 34 15 = iI len) (he : ∀ i, i < len → M.1 94 i = iI (e i : Nat) ∧ e i < 4096) : FX6_least M = some (iI (lsB e k d 0 len).1) := by
  unfold FX6_least
  refine zloop_end (f := FX6_least_L7 M) (fun i => (iI (lsB e k d 0 i).1, iI (lsB e k d 0 i).2, iI (i : Int))) len rfl (fun i hi rec => ?_) (fun rec => ?_) (zfu (by omega))
  · obtain ⟨e1, e2⟩ := he i hi
    have hr := lsB_r (e := e) (k := k) (d := d) (v := 0) (by omega) hd hk i (fun j hj => (he j (by omega)).2)
    have hw := wgt_le (n := e i) hd k
    unfold FX6_least_L7
    dsimp only
    rw [h15, if_pos ((iLt (by omega) (by omega)).mpr (by omega))]
    refine zloop_end (f := FX6_least_L21 M rec (iI (lsB e k d 0 i).1, iI (lsB e k d 0 i).2, iI (i : Int))) (fun b => (iI (wgt d (e i) b : Nat), iI (b : Int))) k rfl (fun b hb rec2 => ?_) (fun rec2 => ?_) (zfu (by omega))
    · unfold FX6_least_L21
      dsimp only
      rw [h12, if_pos ((iLt (by omega) (by omega)).mpr (by omega)), zgI (by omega) (by omega) (by omega), zrI _ _ (by omega) (by omega), Int.toNat_natCast, e1, weightOf_eq hd (by omega) (by omega) h13, Option.bind_some]
      simp only [zlet_e]
      rw [iA, iA1]
      rfl
    · unfold FX6_least_L21
      dsimp only
      rw [h12, if_neg (fun z => by have := (iLt (a := k) (b := k) (by omega) (by omega)).mp z; omega)]
      simp only [zj_e, zlet_e]
      rw [zgI (by omega) (by omega) (by omega), zrI _ _ (by omega) (by omega), Int.toNat_natCast, e1, iA1, show (-9 : Int32) = iI (-9) from rfl]
      have es : lsB e k d 0 (i + 1) = if (lsB e k d 0 i).1 = -9 ∨ (wgt d (e i) k : Nat) < (lsB e k d 0 i).2 then (((e i : Nat) : Int), ((wgt d (e i) k : Nat) : Int)) else lsB e k d 0 i := rfl
      rw [es]
      have q1 : iI (lsB e k d 0 i).1 = iI (-9) ↔ (lsB e k d 0 i).1 = -9 := iEq (by omega) (by omega)
      have q2 : iI ((wgt d (e i) k : Nat) : Int) < iI (lsB e k d 0 i).2 ↔ ((wgt d (e i) k : Nat) : Int) < (lsB e k d 0 i).2 := iLt (by omega) (by omega)
      by_cases c1 : (lsB e k d 0 i).1 = -9
      · rw [if_pos (q1.mpr c1), if_pos (Or.inl c1)]
      · rw [if_neg (fun z => c1 (q1.mp z))]
        by_cases c2 : ((wgt d (e i) k : Nat) : Int) < (lsB e k d 0 i).2
        · rw [if_pos (q2.mpr c2), if_pos (Or.inr c2)]
        · rw [if_neg (fun z => c2 (q2.mp z)), if_neg (fun z => by rcases z with z | z; exact c1 z; exact c2 z)]
  · unfold FX6_least_L7
    dsimp only
    rw [h15, if_neg (fun z => by have := (iLt (a := len) (b := len) (by omega) (by omega)).mp z; omega)]
/-- what is sure of a body -/
def suR (e : Nat → Nat) (d b len : Nat) : Int := if len = 0 then -9 else if ∀ i, i < len → e i / d ^ b % d = e 0 / d ^ b % d then ((e 0 / d ^ b % d : Nat) : Int) else -9
theorem sureC {M : zMem} {d b len : Nat} {e : Nat → Nat} (hd : 2 ≤ d ∧ d ≤ 16) (hb : b ≤ 3) (hl : len ≤ 4096) (h13 : M.1 34 13 = iI d) (h15 : M.1 34 15 = iI len) (he : ∀ i, i < len → M.1 94 i = iI (e i : Nat) ∧ e i < 4096) : FX6_sureWeight (iI b) M = some (iI (suR e d b len)) := by
  unfold FX6_sureWeight suR
  rw [h15]
  by_cases c0 : len = 0
  · rw [if_pos ((i0 (by omega) (by omega)).mpr (by omega)), if_pos c0]
    rfl
  · rw [if_neg (fun z => c0 (by have := (i0 (by omega) (by omega)).mp z; omega)), if_neg c0, zgT (show zin (0 : Int32) 4096 = true from rfl), show zrd M 94 (0 : Int32) = iI (e 0 : Nat) from (he 0 (by omega)).1, weightOf_eq hd (by have := (he 0 (by omega)).2; omega) (by omega) h13, Option.bind_some]
    have hm : ∀ n, n / d ^ b % d < d := fun n => Nat.mod_lt _ (by omega)
    have loop : ∀ (j i u : Nat), i + j = len → j < u → 0 < i → (∀ q, q < i → e q / d ^ b % d = e 0 / d ^ b % d) → zloop (FX6_sureWeight_L24 M (iI (e 0 / d ^ b % d : Nat)) (iI b)) u (iI i) = some (iI (if ∀ i, i < len → e i / d ^ b % d = e 0 / d ^ b % d then ((e 0 / d ^ b % d : Nat) : Int) else -9)) := by
      intro j
      induction j with
      | zero =>
        intro i u hi hu hp h
        cases u with
        | zero => omega
        | succ u =>
          rw [zloop_s]
          unfold FX6_sureWeight_L24
          rw [h15, if_neg (fun z => by have := (iLt (by omega) (by omega)).mp z; omega), if_pos (fun q hq => h q (by omega))]
      | succ j ih =>
        intro i u hi hu hp h
        cases u with
        | zero => omega
        | succ u =>
          have ih := ih (i + 1) u (by omega) (by omega) (by omega)
          rw [zloop_s]
          revert ih
          generalize zloop (FX6_sureWeight_L24 M (iI (e 0 / d ^ b % d : Nat)) (iI b)) u = rec
          intro ih
          obtain ⟨e1, e2⟩ := he i (by omega)
          have m1 := hm (e i)
          have m2 := hm (e 0)
          unfold FX6_sureWeight_L24
          rw [h15, if_pos ((iLt (by omega) (by omega)).mpr (by omega)), zgI (by omega) (by omega) (by omega), zrI _ _ (by omega) (by omega), Int.toNat_natCast, e1, weightOf_eq hd (by omega) (by omega) h13, Option.bind_some]
          by_cases c : e i / d ^ b % d = e 0 / d ^ b % d
          · rw [if_pos (by rw [c]), zlet_e, iA1]
            exact ih (fun q hq => by
              by_cases eq : q = i
              · rw [eq]; exact c
              · exact h q (by omega))
          · rw [if_neg (fun z => c (by have := (iEq (by omega) (by omega)).mp z; omega)), if_neg (fun z => c (z i (by omega)))]
            rfl
    exact loop (len - 1) 1 zFuel (by omega) (zfu (by omega)) (by omega) (fun q hq => by rw [show q = 0 by omega])
