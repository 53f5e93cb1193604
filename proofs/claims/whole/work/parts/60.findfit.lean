/-! ===== trials: the reference finds those that fit ===== -/
abbrev cW (L : zL) (P : zPr) (k d v s : Nat) (a : Int) : Int := cel (wL L k d v) (P.2.2.2.1 s) (P.2.2.2.2.1 s) a
theorem spotsM {L : zL} {P : zPr} {M : zMem} {k d v j0 : Nat} (hr : zRL L) (hd : 2 ≤ d ∧ d ≤ 16) (hL : zML (wL L k d v) M) (hP : zMP P M) (hp : zRP P) (hj : j0 < 4096) {i0 : Nat} (s6 : Int32 × Int32 × zMem) (h6 : s6.1 = iI j0 ∧ s6.2.1 = iI i0) : ∃ M', (zfr [115, 116] M M' ∧ (∀ s, s < P.2.2.1 → M'.1 115 (8 * j0 + s) = iI (cW L P k d v s 0) ∧ M'.1 116 (8 * j0 + s) = iI (cW L P k d v s 1)) ∧ ∀ q, q < 8 * j0 → M'.1 115 q = M.1 115 q ∧ M'.1 116 q = M.1 116 q) ∧ ∀ r5 : (Int32 × Int32 × zMem) → Option (Int32 × zMem), zloop (FX8_findFitting_L49 r5 s6) zFuel ((0 : Int32), M) = r5 (iI ((j0 + 1 : Nat) : Int), iI ((i0 + 1 : Nat) : Int), M') := by
  have hp2 := hp.2.2.1
  have hr' := wL_R hr (k := k) (n := v) hd
  have key := zloop_invK (κ := (Int32 × Int32 × zMem) → Option (Int32 × zMem)) (f := fun r5 => FX8_findFitting_L49 r5 s6) (r := fun r5 st => r5 (iI ((j0 + 1 : Nat) : Int), iI ((i0 + 1 : Nat) : Int), st.2)) (fun i st => st.1 = iI (i : Int) ∧ zfr [115, 116] M st.2 ∧ (∀ s, s < i → st.2.1 115 (8 * j0 + s) = iI (cW L P k d v s 0) ∧ st.2.1 116 (8 * j0 + s) = iI (cW L P k d v s 1)) ∧ ∀ q, q < 8 * j0 → st.2.1 115 q = M.1 115 q ∧ st.2.1 116 q = M.1 116 q) P.2.2.1 ?_ ?_ P.2.2.1 0 zFuel ((0 : Int32), M) (Nat.zero_add _) (zfu (by omega)) ⟨rfl, zfr.rf, fun s hs => absurd hs (Nat.not_lt_zero _), fun _ _ => ⟨rfl, rfl⟩⟩
  · obtain ⟨⟨t1, t2⟩, ⟨-, g1, g2, g3⟩, g4⟩ := key
    exact ⟨t2, ⟨g1, g2, g3⟩, g4⟩
  · intro i st hi hI
    obtain ⟨t1, t2⟩ := st
    obtain ⟨f1, f2, f3, f4⟩ := hI
    have f1 : t1 = _ := f1
    have f2 : zfr [115, 116] M t2 := f2
    have f3 : ∀ s, s < i → t2.1 115 (8 * j0 + s) = _ ∧ t2.1 116 (8 * j0 + s) = _ := f3
    have f4 : ∀ q, q < 8 * j0 → t2.1 115 q = M.1 115 q ∧ t2.1 116 q = M.1 116 q := f4
    subst f1
    have hL2 : zML (wL L k d v) t2 := hL.zf f2 (by decide)
    have hP2 : zMP P t2 := hP.zf f2 (by decide)
    have hxy := hp.2.2.2.1 i hi
    have hv := hP2.2.2.2.1 i hi
    have e : (8 : Int32) * iI j0 + iI i = iI ((8 * j0 + i : Nat) : Int) := by
      rw [show (8 : Int32) = iI 8 from rfl, iM, iA]
      rfl
    have c0 := cellOfM_eq hL2 hr' (x := P.2.2.2.1 i) (y := P.2.2.2.2.1 i) (by omega) (by omega) 0
    have hL3 : zML (wL L k d v) (zwr t2 115 (8 * j0 + i) (iI (cW L P k d v i 0))) := hL2.zf ((zfr.rf (S := [115, 116])).wr (by decide)) (by decide)
    have c1 := cellOfM_eq hL3 hr' (x := P.2.2.2.1 i) (y := P.2.2.2.2.1 i) (by omega) (by omega) 1
    rw [show (0 : Int32).toInt = 0 from rfl] at c0
    rw [show (1 : Int32).toInt = 1 from rfl] at c1
    refine ⟨(iI ((i + 1 : Nat) : Int), zwr (zwr t2 115 (8 * j0 + i) (iI (cW L P k d v i 0))) 116 (8 * j0 + i) (iI (cW L P k d v i 1))), ⟨rfl, (f2.wr (by decide)).wr (by decide), fun s hs => ?_, fun q hq => ?_⟩, fun r5 rec => ?_⟩
    · show (zwr (zwr t2 115 _ _) 116 _ _).1 115 (8 * j0 + s) = _ ∧ (zwr (zwr t2 115 _ _) 116 _ _).1 116 (8 * j0 + s) = _
      rw [zwr_nc (c := 115) (q := 116) (by decide)]
      by_cases c : s = i
      · subst c
        rw [zwr_eq, zwr_eq]
        exact ⟨rfl, rfl⟩
      · rw [zwr_nj (by omega), zwr_nj (by omega), zwr_nc (by decide)]
        exact f3 s (by omega)
    · show (zwr (zwr t2 115 _ _) 116 _ _).1 115 q = _ ∧ (zwr (zwr t2 115 _ _) 116 _ _).1 116 q = _
      rw [zwr_nc (c := 115) (q := 116) (by decide), zwr_nj (by omega), zwr_nj (by omega), zwr_nc (by decide)]
      exact f4 q hq
    · show FX8_findFitting_L49 r5 s6 rec _ = _
      unfold FX8_findFitting_L49
      rw [h6.1]
      dsimp only
      rw [hP2.2.2.1, if_pos ((iLt (by omega) (by omega)).mpr (by omega)), zgI (by omega) (by omega) (by omega), zgI (by omega) (by omega) (by omega), zrI _ _ (by omega) (by omega), zrI _ _ (by omega) (by omega), Int.toNat_natCast, hv.1, hv.2, c0, Option.bind_some, e, zgI (by omega) (by omega) (by omega), zlet_e, iC (by omega) (by omega), Int.toNat_natCast, zgI (by omega) (by omega) (by omega), zgI (by omega) (by omega) (by omega), zrI _ _ (by omega) (by omega), zrI _ _ (by omega) (by omega), Int.toNat_natCast, zwr_nc (c := 104) (by decide), zwr_nc (c := 105) (by decide), hv.1, hv.2, c1, Option.bind_some, zgI (by omega) (by omega) (by omega)]
      simp only [zlet_e]
      rw [iA1]
  · intro st hI r5 rec
    obtain ⟨t1, t2⟩ := st
    obtain ⟨f1, f2, -⟩ := hI
    have f1 : t1 = _ := f1
    have f2 : zfr [115, 116] M t2 := f2
    subst f1
    have hP2 : zMP P t2 := hP.zf f2 (by decide)
    show FX8_findFitting_L49 r5 s6 rec _ = _
    unfold FX8_findFitting_L49
    rw [h6.1, h6.2]
    dsimp only
    rw [hP2.2.2.1, if_neg (fun z => by have := (iLt (a := P.2.2.1) (b := P.2.2.1) (by omega) (by omega)).mp z; omega)]
    simp only [zlet_e]
    rw [iA1, iA1]
/-- the reference's table of those that fit -/
def sgM (L : zL) (P : zPr) (k d : Nat) (l : List Nat) (M : zMem) : Prop := ∀ j v : Nat, l[j]? = some v → M.1 114 j = iI v ∧ ∀ s, s < P.2.2.1 → M.1 115 (8 * j + s) = iI (cW L P k d v s 0) ∧ M.1 116 (8 * j + s) = iI (cW L P k d v s 1)
theorem sgM.fr {L : zL} {P : zPr} {k d : Nat} {l : List Nat} {M M' : zMem} (h : sgM L P k d l M) (e : ∀ c, 114 ≤ c → c ≤ 116 → M'.1 c = M.1 c) : sgM L P k d l M' := fun j v hv => by
  rw [e 114 (by omega) (by omega), e 115 (by omega) (by omega), e 116 (by omega) (by omega)]
  exact h j v hv
theorem findFit_eq {S : zSt} {M : zMem} (hM : zIM S M) (hR : zRS S) {k m : Nat} (hk : 1 ≤ k ∧ k ≤ 3) (hkL : k ≤ S.1.1) (hm : 1 ≤ m ∧ m ≤ 15) : ∃ M', FX8_findFitting (iI k) (iI m) M = some (iI ((fitL S.1 S.2.2.1 k (m + 1)).length : Nat), M') ∧ zfq [114, 115, 116] M M' ∧ sgM S.1 S.2.2.1 k (m + 1) (fitL S.1 S.2.2.1 k (m + 1)) M' := by
  have hd : 2 ≤ m + 1 ∧ m + 1 ≤ 16 := by omega
  have h8 := hR.1.1
  have hpw := pow_r hd hk.2
  have hp := hR.2.2.1
  obtain ⟨M1, a1, a2, a3, a4⟩ := keep_eq M
  have hM1 : zIM S M1 := hM.qq (by decide) a3
  have key := zloop_inv (f := FX8_findFitting_L16 (iI ((m + 1) ^ k : Nat)) (iI k) (iI m)) (r := fun st => (FX8_giveBack st.2.2).bind fun b7 => some (st.1, b7)) (fun i st => st.1 = iI ((fl S.1 S.2.2.1 k (m + 1) i).length : Nat) ∧ st.2.1 = iI (i : Int) ∧ zfq [101, 114, 115, 116] M st.2.2 ∧ kW M st.2.2 ∧ zMk S.1 k st.2.2 ∧ sgM S.1 S.2.2.1 k (m + 1) (fl S.1 S.2.2.1 k (m + 1) i) st.2.2) ((m + 1) ^ k) ?_ ?_ ((m + 1) ^ k) 0 zFuel ((0 : Int32), (0 : Int32), M1) (Nat.zero_add _) (zfu (by omega)) ⟨rfl, rfl, ⟨fun c b1 b2 => a3.1 c (by simp) b2, a3.2⟩, a2, hM1.1.k k, fun j v hv => by cases hv⟩
  · obtain ⟨⟨t1, t2, t3⟩, ⟨g1, -, g2, g3, g4, g5⟩, g6⟩ := key
    have g1 : t1 = _ := g1
    have g2 : zfq [101, 114, 115, 116] M t3 := g2
    have g3 : kW M t3 := g3
    have g5 : sgM _ _ _ _ _ t3 := g5
    obtain ⟨M3, c1, c2, c3⟩ := back_eq g3
    refine ⟨M3, ?_, ⟨fun c b1 b2 => ?_, fun j hj => (congrFun (c2.1 100 (by decide)) j).trans (g2.2.1 j hj), c2.2.trans g2.2.2⟩, g5.fr (fun c b1 b2 => c2.1 c (by simp only [List.mem_cons, List.not_mem_nil, or_false]; omega))⟩
    · unfold FX8_findFitting
      rw [a1, Option.bind_some, modelsOf_eq hk.2, Option.bind_some, g6]
      dsimp only
      rw [c1, Option.bind_some, g1]
      rfl
    · by_cases e : c = 101
      · rw [e]; exact c3
      · refine (c2.1 c (by simp only [List.mem_cons, List.not_mem_nil, or_false]; exact e)).trans (g2.1 c ?_ b2)
        simp only [List.mem_cons, List.not_mem_nil, or_false] at b1 ⊢
        omega
  · intro i st hi hI
    obtain ⟨t1, t2, t3⟩ := st
    obtain ⟨f1, f2, f3, f4, f5, f6⟩ := hI
    have f1 : t1 = _ := f1
    have f2 : t2 = _ := f2
    have f3 : zfq [101, 114, 115, 116] M t3 := f3
    have f4 : kW M t3 := f4
    have f5 : zMk S.1 k t3 := f5
    have f6 : sgM _ _ _ _ _ t3 := f6
    subst f1 f2
    have hll := fl_len S.1 S.2.2.1 k (m + 1) i
    obtain ⟨M2, b1, b2, b3, b4⟩ := weigh_eq (k := k) (m := m) (n := i) hk.2 hkL h8 hm.2 (by omega) f5
    have hf2 : zfq [101, 114, 115, 116] M M2 := f3.tr (b3.q (by decide))
    have hP2 : zMP S.2.2.1 M2 := by
      have hP := hM.2.2.1
      exact hP.fr (fun j hj => hf2.2.1 j (by omega)) (hf2.1 103 (by decide) (by decide)) (hf2.1 104 (by decide) (by decide)) (hf2.1 105 (by decide) (by decide))
    have hkw2 : kW M M2 := f4.w (b3.1 100 (by decide)) b4
    have hfit := doesFit_eq hR.1 hkL hm b2 hP2 hp
    have h6' : sgM S.1 S.2.2.1 k (m + 1) (fl S.1 S.2.2.1 k (m + 1) i) M2 := f6.fr (fun c c1 c2 => b3.1 c (by simp only [List.mem_cons, List.not_mem_nil, or_false]; omega))
    by_cases c : fitP S.1 S.2.2.1 k (m + 1) i
    · have hw114 : zfr [114] M2 (zwr M2 114 (fl S.1 S.2.2.1 k (m + 1) i).length (iI i)) := zfr.rf.wr (by decide)
      obtain ⟨M3, ⟨c1, c2, c3⟩, c4⟩ := spotsM hR.1 hd (b2.zf hw114 (by decide)) (hP2.zf hw114 (by decide)) hp (j0 := (fl S.1 S.2.2.1 k (m + 1) i).length) (by omega) (i0 := i) (iI ((fl S.1 S.2.2.1 k (m + 1) i).length : Nat), iI (i : Int), t3) ⟨rfl, rfl⟩
      have e114 : M3.1 114 = (zwr M2 114 (fl S.1 S.2.2.1 k (m + 1) i).length (iI i)).1 114 := c1.1 114 (by decide)
      refine ⟨(iI (((fl S.1 S.2.2.1 k (m + 1) i).length + 1 : Nat) : Int), iI ((i + 1 : Nat) : Int), M3), ⟨?_, rfl, (hf2.tr (hw114.q (by decide))).tr (c1.q (by decide)), ?_, ?_, fun j v hv => ?_⟩, fun rec => ?_⟩
      · rw [fl_p c, List.length_append]
        rfl
      · refine hkw2.w ?_ (fun j _ _ _ => ?_)
        · rw [c1.1 100 (by decide), hw114.1 100 (by decide)]
        · rw [c1.1 101 (by decide), hw114.1 101 (by decide)]
      · exact wL_k ((b2.zf hw114 (by decide)).zf c1 (by decide))
      · rw [fl_p c] at hv
        show M3.1 114 j = _ ∧ ∀ s, s < S.2.2.1.2.2.1 → M3.1 115 (8 * j + s) = _ ∧ M3.1 116 (8 * j + s) = _
        rw [e114]
        rcases app_at hv with h | ⟨h, h'⟩
        · obtain ⟨hjl, -⟩ := List.getElem?_eq_some_iff.mp h
          obtain ⟨q1, q2⟩ := h6' j v h
          have hsp := hp.2.2.1
          refine ⟨(zwr_nj (by omega)).trans q1, fun s hs => ?_⟩
          obtain ⟨r1, r2⟩ := c3 (8 * j + s) (by omega)
          rw [r1, r2, zwr_nc (by decide), zwr_nc (by decide)]
          exact q2 s hs
        · rw [h, h']
          exact ⟨zwr_eq, c2⟩
      · unfold FX8_findFitting_L16
        rw [if_pos (show iI (i : Int) < iI ((m + 1) ^ k : Nat) from (iLt (by omega) (by omega)).mpr (by omega))]
        show (FX8_weigh (iI k) (iI m) (iI (i : Int)) t3).bind _ = _
        rw [b1, Option.bind_some, hfit, Option.bind_some]
        unfold zb
        rw [if_pos c, if_neg (show ¬ (1 : Int32) = 0 by decide)]
        refine (zgI (by omega) (by omega) (by omega)).trans ?_
        rw [zlet_e]
        dsimp only
        rw [iC (by omega) (by omega), Int.toNat_natCast]
        exact c4 rec
    · refine ⟨(iI ((fl S.1 S.2.2.1 k (m + 1) i).length : Nat), iI ((i + 1 : Nat) : Int), M2), ⟨?_, rfl, hf2, hkw2, wL_k b2, ?_⟩, fun rec => ?_⟩
      · rw [fl_n c]
      · rw [fl_n c]; exact h6'
      · unfold FX8_findFitting_L16
        rw [if_pos (show iI (i : Int) < iI ((m + 1) ^ k : Nat) from (iLt (by omega) (by omega)).mpr (by omega))]
        show (FX8_weigh (iI k) (iI m) (iI (i : Int)) t3).bind _ = _
        rw [b1, Option.bind_some, hfit, Option.bind_some]
        unfold zb
        rw [if_neg c, if_pos rfl, zlet_e, iA1]
  · intro st hI rec
    obtain ⟨t1, t2, t3⟩ := st
    obtain ⟨-, f2, -⟩ := hI
    have f2 : t2 = _ := f2
    subst f2
    unfold FX8_findFitting_L16
    rw [if_neg (show ¬ iI (((m + 1) ^ k : Nat) : Int) < iI ((m + 1) ^ k : Nat) from fun z => by have := (iLt (by omega) (by omega)).mp z; omega)]
theorem sgM.at {L : zL} {P : zPr} {M : zMem} {k d : Nat} (h : sgM L P k d (fitL L P k d) M) {i : Nat} (hi : i < (fitL L P k d).length) : M.1 114 i = iI (fE L P k d i : Nat) ∧ ∀ s, s < P.2.2.1 → M.1 115 (8 * i + s) = iI (cW L P k d (fE L P k d i) s 0) ∧ M.1 116 (8 * i + s) = iI (cW L P k d (fE L P k d i) s 1) := by
  have := h i _ (List.getElem?_eq_getElem hi)
  rw [(fE_is hi).1] at this
  exact this
theorem wgt_3 {d n k : Nat} (hd : 2 ≤ d ∧ d ≤ 16) (h : n < d ^ k) : ∀ b, k ≤ b → wgt d n b = wgt d n k := by
  intro b
  induction b with
  | zero => intro hb; rw [show k = 0 by omega]
  | succ b ih =>
    intro hb
    by_cases e : k = b + 1
    · rw [e]
    · show wgt d n b + n / d ^ b % d = _
      have := Nat.pow_le_pow_right (show 0 < d by omega) (show k ≤ b by omega)
      rw [ih (by omega), Nat.div_eq_of_lt (by omega), Nat.zero_mod, Nat.add_zero]
theorem lsB_pos (e : Nat → Nat) (k d : Nat) (v : Int) : ∀ i, 0 < i → 0 ≤ (lsB e k d v i).1 ∧ 0 ≤ (lsB e k d v i).2 := by
  intro i
  induction i with
  | zero => intro h; omega
  | succ i ih =>
    intro _
    have es : lsB e k d v (i + 1) = if (lsB e k d v i).1 = -9 ∨ (wgt d (e i) k : Nat) < (lsB e k d v i).2 then (((e i : Nat) : Int), ((wgt d (e i) k : Nat) : Int)) else lsB e k d v i := rfl
    rw [es]
    by_cases c : (lsB e k d v i).1 = -9 ∨ (wgt d (e i) k : Nat) < (lsB e k d v i).2
    · rw [if_pos c]
      exact ⟨Int.natCast_nonneg _, Int.natCast_nonneg _⟩
    · rw [if_neg c]
      by_cases h : 0 < i
      · exact ih h
      · have h0 : i = 0 := by omega
        subst h0
        exact absurd (Or.inl rfl) c
theorem lsB_9 (e : Nat → Nat) (k d : Nat) (i : Nat) : (lsB e k d (-9) i).1 = -9 ↔ (lsB e k d (-9) i).2 = -9 := by
  by_cases h : 0 < i
  · have := lsB_pos e k d (-9) i h
    omega
  · have h0 : i = 0 := by omega
    subst h0
    exact ⟨fun _ => rfl, fun _ => rfl⟩
theorem leastM {M : zMem} {k m len : Nat} {e : Nat → Nat} (hk : k ≤ 3) (hm : 1 ≤ m ∧ m ≤ 15) (hl : len ≤ 4096) (he : ∀ i, i < len → M.1 114 i = iI (e i : Nat) ∧ e i < (m + 1) ^ k) : zloop (FX8_models_L51 (iI len, M) (iI m)) zFuel ((-9 : Int32), (-9 : Int32), (0 : Int32)) = some (iI (lsB e k (m + 1) (-9) len).1, M) := by
  have hd : 2 ≤ m + 1 ∧ m + 1 ≤ 16 := by omega
  have hpw := pow_r hd hk
  refine zloop_end (f := FX8_models_L51 (iI len, M) (iI m)) (fun i => (iI (lsB e k (m + 1) (-9) i).1, iI (lsB e k (m + 1) (-9) i).2, iI (i : Int))) len rfl (fun i hi rec => ?_) (fun rec => ?_) (zfu (by omega))
  · obtain ⟨e1, e2⟩ := he i hi
    have hr := lsB_r (e := e) (k := k) (d := m + 1) (v := -9) (by omega) hd hk i (fun j hj => by have := (he j (by omega)).2; omega)
    have hw := wgt_le (n := e i) hd k
    have hsum : iI (e i / (m + 1) ^ 0 % (m + 1) : Nat) + iI (e i / (m + 1) ^ 1 % (m + 1) : Nat) + iI (e i / (m + 1) ^ 2 % (m + 1) : Nat) = iI (wgt (m + 1) (e i) k : Nat) := by
      rw [← wgt_3 hd e2 3 hk, iA, iA]
      show _ = iI ((0 + e i / (m + 1) ^ 0 % (m + 1) + e i / (m + 1) ^ 1 % (m + 1) + e i / (m + 1) ^ 2 % (m + 1) : Nat) : Int)
      congr 1
      omega
    have d0 := digit_eq (m := m) (n := e i) (b := 0) hm.2 (by omega) (by omega)
    have d1 := digit_eq (m := m) (n := e i) (b := 1) hm.2 (by omega) (by omega)
    have d2 := digit_eq (m := m) (n := e i) (b := 2) hm.2 (by omega) (by omega)
    have d0' : FX8_digit (iI m) (iI (e i : Nat)) (0 : Int32) = _ := d0
    have d1' : FX8_digit (iI m) (iI (e i : Nat)) (1 : Int32) = _ := d1
    have d2' : FX8_digit (iI m) (iI (e i : Nat)) (2 : Int32) = _ := d2
    unfold FX8_models_L51
    dsimp only
    rw [if_pos ((iLt (by omega) (by omega)).mpr (by omega)), zgI (by omega) (by omega) (by omega), zrI _ _ (by omega) (by omega), Int.toNat_natCast, e1, d0', Option.bind_some, zgI (by omega) (by omega) (by omega), d1', Option.bind_some, zgI (by omega) (by omega) (by omega), d2', Option.bind_some, hsum]
    simp only [zj_e, zlet_e]
    rw [zgI (by omega) (by omega) (by omega), iA1, show (-9 : Int32) = iI (-9) from rfl]
    have es : lsB e k (m + 1) (-9) (i + 1) = if (lsB e k (m + 1) (-9) i).1 = -9 ∨ (wgt (m + 1) (e i) k : Nat) < (lsB e k (m + 1) (-9) i).2 then (((e i : Nat) : Int), ((wgt (m + 1) (e i) k : Nat) : Int)) else lsB e k (m + 1) (-9) i := rfl
    rw [es]
    have q1 : iI (lsB e k (m + 1) (-9) i).1 = iI (-9) ↔ (lsB e k (m + 1) (-9) i).1 = -9 := iEq (by omega) (by omega)
    have q3 : iI (lsB e k (m + 1) (-9) i).2 = iI (-9) ↔ (lsB e k (m + 1) (-9) i).2 = -9 := iEq (by omega) (by omega)
    have q2 : iI ((wgt (m + 1) (e i) k : Nat) : Int) < iI (lsB e k (m + 1) (-9) i).2 ↔ ((wgt (m + 1) (e i) k : Nat) : Int) < (lsB e k (m + 1) (-9) i).2 := iLt (by omega) (by omega)
    have q9 := lsB_9 e k (m + 1) i
    by_cases c1 : (lsB e k (m + 1) (-9) i).1 = -9
    · rw [if_pos (q1.mpr c1), if_pos (q3.mpr (q9.mp c1)), if_pos (Or.inl c1)]
    · rw [if_neg (fun z => c1 (q1.mp z)), if_neg (fun z => c1 (q9.mpr (q3.mp z)))]
      by_cases c2 : ((wgt (m + 1) (e i) k : Nat) : Int) < (lsB e k (m + 1) (-9) i).2
      · rw [if_pos (q2.mpr c2), if_pos (q2.mpr c2), if_pos (Or.inr c2)]
      · rw [if_neg (fun z => c2 (q2.mp z)), if_neg (fun z => c1 (q9.mpr (q3.mp z))), if_neg (fun z => c2 (q2.mp z)), if_neg (fun z => Or.elim z c1 c2)]
  · unfold FX8_models_L51
    dsimp only
    rw [if_neg (fun z => by have := (iLt (a := len) (b := len) (by omega) (by omega)).mp z; omega)]
theorem sureM {M : zMem} {k m len b : Nat} {e : Nat → Nat} (hk : k ≤ 3) (hm : 1 ≤ m ∧ m ≤ 15) (hb : b ≤ 3) (hl : len ≤ 4096) (he : ∀ i, i < len → M.1 114 i = iI (e i : Nat) ∧ e i < (m + 1) ^ k) : (zj (fun (x7 : Int32) => zloop (FX8_sure_L56 (iI len, M) (iI m) (iI b)) zFuel (x7, (1 : Int32))) fun k8 => if (iI len, M).1 = 0 then (k8 (-9 : Int32)) else (zguard (zin (0 : Int32) 4096) ((FX8_digit (iI m) (zrd (iI (len : Int), M).2 114 (0 : Int32)) (iI b)).bind fun b15 => k8 b15))) = some (iI (suR e (m + 1) b len), M) := by
  have hd : 2 ≤ m + 1 ∧ m + 1 ≤ 16 := by omega
  have hpw := pow_r hd hk
  have hm2 : ∀ n, n / (m + 1) ^ b % (m + 1) < m + 1 := fun n => Nat.mod_lt _ (by omega)
  have stop : ∀ v : Int32, ∀ i : Nat, len ≤ i → i ≤ 5000 → zloop (FX8_sure_L56 (iI len, M) (iI m) (iI b)) zFuel (v, iI i) = some (v, M) := by
    intro v i hi hi2
    show zloop _ (999999 + 1) _ = _
    rw [zloop_s]
    unfold FX8_sure_L56
    dsimp only
    rw [if_neg (fun z => by have := (iLt (by omega) (by omega)).mp z; omega)]
  rw [zj_e]
  dsimp only
  unfold suR
  by_cases c0 : len = 0
  · rw [if_pos ((i0 (by omega) (by omega)).mpr (by omega)), if_pos c0]
    exact stop (-9) 1 (by omega) (by omega)
  · rw [if_neg (fun z => c0 (by have := (i0 (by omega) (by omega)).mp z; omega)), if_neg c0, zgT (show zin (0 : Int32) 4096 = true from rfl), show zrd M 114 (0 : Int32) = iI (e 0 : Nat) from (he 0 (by omega)).1, digit_eq hm.2 (by have := (he 0 (by omega)).2; omega) (by omega), Option.bind_some]
    refine zloop_end (f := FX8_sure_L56 (iI len, M) (iI m) (iI b)) (fun i => (iI (if ∀ q, q < i + 1 → e q / (m + 1) ^ b % (m + 1) = e 0 / (m + 1) ^ b % (m + 1) then ((e 0 / (m + 1) ^ b % (m + 1) : Nat) : Int) else -9), iI ((i + 1 : Nat) : Int))) (len - 1) ?_ (fun i hi rec => ?_) (fun rec => ?_) (zfu (by omega))
    · rw [if_pos (fun q hq => by rw [show q = 0 by omega])]
      rfl
    · obtain ⟨e1, e2⟩ := he (i + 1) (by omega)
      have m1 := hm2 (e (i + 1))
      have m0 := hm2 (e 0)
      unfold FX8_sure_L56
      dsimp only
      rw [if_pos ((iLt (by omega) (by omega)).mpr (by omega)), zgI (by omega) (by omega) (by omega), zrI _ _ (by omega) (by omega), Int.toNat_natCast, e1, digit_eq hm.2 (by omega) (by omega), Option.bind_some]
      simp only [zj_e, zlet_e]
      rw [iA1]
      by_cases c : ∀ q, q < i + 1 → e q / (m + 1) ^ b % (m + 1) = e 0 / (m + 1) ^ b % (m + 1)
      · rw [if_pos c]
        by_cases c2 : e (i + 1) / (m + 1) ^ b % (m + 1) = e 0 / (m + 1) ^ b % (m + 1)
        · rw [if_pos (by rw [c2]), if_pos (fun q hq => by
            by_cases eq : q = i + 1
            · rw [eq]; exact c2
            · exact c q (by omega))]
        · rw [if_neg (fun z => c2 (by have := (iEq (by omega) (by omega)).mp z; omega)), if_neg (fun z => c2 (z (i + 1) (by omega)))]
          rfl
      · rw [if_neg c, if_neg (fun z => by have := (iEq (by omega) (by omega)).mp z; omega), if_neg (fun z => c (fun q hq => z q (by omega)))]
        rfl
    · unfold FX8_sure_L56
      dsimp only
      rw [if_neg (fun z => by have := (iLt (a := (len - 1 + 1 : Nat)) (b := len) (by omega) (by omega)).mp z; omega), show len - 1 + 1 = len by omega]
