/-! ===== the class's Tally ===== -/
theorem ushr19 (x : Int32) : ∃ m : Nat, m < 8192 ∧ zushr x 19 = iI m := by
  unfold zushr
  have e : (Int32.toUInt32 19 &&& Int32.toUInt32 31) = 19 := by decide
  rw [e]
  generalize x.toUInt32 = u
  refine ⟨(u >>> 19).toNat, ?_, ?_⟩
  · rw [UInt32.toNat_shiftRight, show (19 : UInt32).toNat % 32 = 19 from rfl, Nat.shiftRight_eq_div_pow]
    have := u.toNat_lt
    omega
  · generalize u >>> 19 = w
    rw [← nIi]
    apply Int32.toBitVec_inj.mp
    show w.toBitVec = BitVec.ofNat 32 w.toNat
    apply BitVec.eq_of_toNat_eq
    rw [BitVec.toNat_ofNat]
    exact (Nat.mod_eq_of_lt w.toNat_lt).symm
def hHm (k : Int) : Nat := zcl (zushr (iI k * (-1640531535 : Int32)) 19)
theorem hHm_eq (k : Int) : hHm k < 8192 ∧ zushr (iI k * (-1640531535 : Int32)) 19 = iI (hHm k : Nat) := by
  obtain ⟨m, h1, h2⟩ := ushr19 (iI k * (-1640531535 : Int32))
  unfold hHm
  rw [h2, iC (by omega) (by omega), Int.toNat_natCast]
  exact ⟨h1, rfl⟩
theorem and8191 {p : Nat} (h : p < 8192) : (iI p + 1) &&& (8191 : Int32) = iI ((p + 1) % 8192 : Nat) := by
  rw [iA1, ← nIi, ← nIi]
  apply Int32.toBitVec_inj.mp
  rw [Int32.toBitVec_and]
  apply BitVec.eq_of_toNat_eq
  rw [BitVec.toNat_and]
  show (BitVec.ofNat 32 (p + 1)).toNat &&& 8191 = (BitVec.ofNat 32 ((p + 1) % 8192)).toNat
  rw [BitVec.toNat_ofNat, BitVec.toNat_ofNat, Nat.mod_eq_of_lt (by omega), Nat.mod_eq_of_lt (by omega)]
  exact Nat.and_two_pow_sub_one_eq_mod (p + 1) 13
theorem fillQ {q n : Nat} (hk : zkd q = (1, n)) (hn : n ≤ 100000) (v : Int32) (M : zMem) : ∃ M', FJ7_fill_53178 q v M = some M' ∧ zfr [q] M M' ∧ ∀ i, i < n → M'.1 q i = v := by
  have hl : zlenI q = n := by unfold zlenI; rw [hk]; rfl
  have key := zloop_inv (f := FJ7_fill_53178_L5 q v (iI (n : Nat))) (r := fun s => some s.2) (fun i s => s.1 = iI (i : Int) ∧ zfr [q] M s.2 ∧ ∀ p, p < i → s.2.1 q p = v) n ?_ ?_ n 0 zFuel ((0 : Int32), M) (Nat.zero_add _) (zfu (by omega)) ⟨rfl, zfr.rf, fun p hp => by omega⟩
  · obtain ⟨⟨s1, s2⟩, ⟨-, g1, g2⟩, g3⟩ := key
    refine ⟨s2, ?_, g1, g2⟩
    unfold FJ7_fill_53178
    rw [zgT (by rw [hk]; rfl), zlet_e, hl, show Int32.ofNat n = iI (n : Nat) from nIi n]
    exact g3
  · intro i s hi hI
    obtain ⟨s1, sm⟩ := s
    obtain ⟨e1, e2, e3⟩ := hI
    have e1 : s1 = _ := e1
    subst e1
    refine ⟨(iI ((i + 1 : Nat) : Int), zwr sm q i v), ⟨rfl, e2.wr List.mem_cons_self, fun p hp => ?_⟩, fun rec => ?_⟩
    · by_cases e : p = i
      · subst e; exact zwr_eq
      · exact (zwr_nj e).trans (e3 p (by omega))
    · unfold FJ7_fill_53178_L5
      rw [if_pos (show iI (i : Int) < iI (n : Nat) from (iLt (by omega) (by omega)).mpr (by omega)), hl]
      refine (zgI (by omega) (by omega) (by omega)).trans ?_
      simp only [zlet_e]
      rw [iC (by omega) (by omega), Int.toNat_natCast, iA1]
  · intro s hI rec
    obtain ⟨s1, sm⟩ := s
    obtain ⟨e1, -⟩ := hI
    have e1 : s1 = iI (n : Nat) := e1
    subst e1
    unfold FJ7_fill_53178_L5
    rw [if_neg (show ¬ iI (n : Nat) < iI (n : Nat) from fun z => by have := (iLt (by omega) (by omega)).mp z; omega)]
/-- the tally after the first n keys -/
def tyA (on : Nat → Bool) (κ : Nat → Int) (n : Nat) (M : zMem) : Prop :=
  M.1 11 3 = iI (hD on κ n : Nat) ∧ (∀ i, i < n → hF on κ i = true → M.1 13 (hD on κ i) = iI (κ i) ∧ M.1 14 (hD on κ i) = iI (hC on κ (κ i) n : Nat)) ∧ ∃ T, hT on κ hHm n T ∧ (∀ s, s < 8192 → T s = none → M.1 12 s = 0) ∧ ∀ s i, s < 8192 → T s = some i → M.1 12 s = iI ((hD on κ i + 1 : Nat) : Int)
theorem tyA.fr {on : Nat → Bool} {κ : Nat → Int} {n : Nat} {S : List Nat} {M M' : zMem} (h : tyA on κ n M) (f : zfr S M M') (hS : 11 ∉ S ∧ 12 ∉ S ∧ 13 ∉ S ∧ 14 ∉ S) : tyA on κ n M' := by
  obtain ⟨h1, h2, T, h3, h4, h5⟩ := h
  exact ⟨by rw [f.1 11 hS.1]; exact h1, fun i hi hf => by rw [f.1 13 hS.2.2.1, f.1 14 hS.2.2.2]; exact h2 i hi hf, T, h3, fun s hs e => by rw [f.1 12 hS.2.1]; exact h4 s hs e, fun s i hs e => by rw [f.1 12 hS.2.1]; exact h5 s i hs e⟩
theorem ty_start (M : zMem) (on : Nat → Bool) (κ : Nat → Int) : ∃ M', FX4_start M = some M' ∧ zfr [11, 12] M M' ∧ tyA on κ 0 M' := by
  obtain ⟨M1, a1, a2, a3⟩ := fillQ (q := 12) (n := 8192) (by decide) (by decide) 0 M
  refine ⟨zwr M1 11 3 0, ?_, (a2.mono (by decide)).wr (by decide), ⟨zwr_eq, fun i hi => absurd hi (Nat.not_lt_zero _), fun _ => none, hT_0 _ _ _, fun s hs _ => ?_, fun s i _ h => absurd h (fun z => nomatch z)⟩⟩
  · unfold FX4_start
    rw [a1, Option.bind_some, zlet_e]
  · rw [zwr_nc (by decide)]
    exact a3 s hs
theorem ty_off {on : Nat → Bool} {κ : Nat → Int} {n : Nat} {M : zMem} (h : tyA on κ n M) (hn : ¬ on n = true) : tyA on κ (n + 1) M := by
  have hf : ¬ hF on κ n = true := fun z => hn (hF_iff.mp z).1
  obtain ⟨h1, h2, T, h3, h4, h5⟩ := h
  refine ⟨by rw [hD_n hf]; exact h1, fun i hi hfi => ?_, T, hT_old h3 hf, h4, h5⟩
  by_cases e : i = n
  · subst e; exact absurd hfi hf
  · rw [hC_s, if_neg (fun z => hn z.1), Nat.add_zero]
    exact h2 i (by omega) hfi
theorem ty_take {κ : Nat → Int} {d p : Nat} {k : Int} {M : zMem} (hd : d < 4096) (hp : p < 8192) (h : M.1 11 3 = iI d) : FX4_take (iI k) (iI p) M = some (iI d, zwr (zwr (zwr (zwr M 13 d (iI k)) 14 d 1) 11 3 (iI ((d + 1 : Nat) : Int))) 12 p (iI ((d + 1 : Nat) : Int))) := by
  unfold FX4_take
  rw [h, if_pos (show iI (d : Int) < (4096 : Int32) from (iLt (b := 4096) (by omega) (by omega)).mpr (by omega))]
  simp only [zlet_e]
  rw [zgI (by omega) (by omega) (by omega), zgI (by omega) (by omega) (by omega), zgI (by omega) (by omega) (by omega), iC (by omega) (by omega), Int.toNat_natCast, iC (by omega) (by omega), Int.toNat_natCast, zwr_nc (c := 11) (q := 14) (by decide), zwr_nc (c := 11) (q := 13) (by decide), h, iA1, zwr_eq]
theorem ty_step {on : Nat → Bool} {κ : Nat → Int} {n : Nat} {M : zMem} (h : tyA on κ n M) (hn : on n = true) (hd : hD on κ n < 4096) (hκ : ∀ i, i < n + 1 → -2147483648 ≤ κ i ∧ κ i ≤ 2147483647) : ∃ i0 M', i0 < n + 1 ∧ hF on κ i0 = true ∧ κ i0 = κ n ∧ FX4_numberOf (iI (κ n)) M = some (iI (hD on κ i0 : Nat), M') ∧ zfr [11, 12, 13, 14] M M' ∧ tyA on κ (n + 1) M' := by
  obtain ⟨h1, h2, T, h3, h4, h5⟩ := h
  obtain ⟨hm1, hm2⟩ := hHm_eq (κ n)
  obtain ⟨N, n1, n2, n3⟩ := hT_look h3 (by omega) (κ n) hm1
  have hpl := hP_lt (hHm (κ n))
  have hstart : FX4_numberOf (iI (κ n)) M = zloop (FX4_numberOf_L10 M (iI (κ n))) zFuel (iI (hHm (κ n) : Nat), (0 : Int32)) := by
    unfold FX4_numberOf
    rw [zlet_e, show (19 : Int32) = 19 from rfl, hm2]
  have walk : ∀ r, (∀ rec, FX4_numberOf_L10 M (iI (κ n)) rec (iI (hP (hHm (κ n)) N : Nat), iI N) = r) → FX4_numberOf (iI (κ n)) M = r := by
    intro r hr
    rw [hstart]
    refine zloop_end (f := FX4_numberOf_L10 M (iI (κ n))) (fun t => (iI (hP (hHm (κ n)) t : Nat), iI (t : Int))) N ?_ (fun t ht rec => ?_) hr (zfu (by omega))
    · show _ = (iI (hP (hHm (κ n)) 0 : Nat), iI ((0 : Nat) : Int))
      rw [hP_0 hm1]
      rfl
    · obtain ⟨j, j1, j2⟩ := n2 t ht
      have hpt := hpl t
      obtain ⟨⟨c1, c2⟩, -⟩ := h3.1 _ j hpt j1
      have hdj := hD_lt c2 c1
      have e12 := h5 _ j hpt j1
      have e13 := (h2 j c1 c2).1
      have k1 := hκ j (by omega)
      have k2 := hκ n (by omega)
      unfold FX4_numberOf_L10
      rw [if_pos (show iI (t : Int) < (8192 : Int32) from (iLt (b := 8192) (by omega) (by omega)).mpr (by omega))]
      refine (zgI (by omega) (by omega) (by omega)).trans ?_
      simp only [zlet_e]
      rw [zrI _ _ (by omega) (by omega), Int.toNat_natCast, e12, show (1 : Int32) = iI 1 from rfl, iS, show ((hD on κ j + 1 : Nat) : Int) - 1 = (hD on κ j : Nat) by omega, if_neg (show ¬ iI ((hD on κ j : Nat) : Int) < 0 from fun z => by have := (iLt (b := 0) (by omega) (by omega)).mp z; omega), zgI (by omega) (by omega) (by omega), zrI _ _ (by omega) (by omega), Int.toNat_natCast, e13, if_neg (fun z => j2 ((iEq k1 k2).mp z)), show iI 1 = (1 : Int32) from rfl, and8191 hpt, iA1, ← hP_s]
  have hpN := hpl N
  rcases n3 with ⟨n3, n4⟩ | ⟨i, n3, n4⟩
  · have hf : hF on κ n = true := hF_iff.mpr ⟨hn, n4⟩
    refine ⟨n, zwr (zwr (zwr (zwr M 13 (hD on κ n) (iI (κ n))) 14 (hD on κ n) 1) 11 3 (iI ((hD on κ n + 1 : Nat) : Int))) 12 (hP (hHm (κ n)) N) (iI ((hD on κ n + 1 : Nat) : Int)), by omega, hf, rfl, walk _ (fun rec => ?_), (((zfr.rf.wr (by decide)).wr (by decide)).wr (by decide)).wr (by decide), ?_⟩
    · unfold FX4_numberOf_L10
      rw [if_pos (show iI (N : Int) < (8192 : Int32) from (iLt (b := 8192) (by omega) (by omega)).mpr (by omega))]
      refine (zgI (by omega) (by omega) (by omega)).trans ?_
      simp only [zlet_e]
      rw [zrI _ _ (by omega) (by omega), Int.toNat_natCast, h4 _ hpN n3, if_pos (show (0 : Int32) - 1 < 0 by decide), ty_take (κ := κ) hd hpN h1, Option.bind_some]
    · refine ⟨?_, fun i hi hfi => ?_, gU T (hP (hHm (κ n)) N) (some n), hT_new h3 n1 hf n2 n3, fun s hs e => ?_, fun s i hs e => ?_⟩
      · rw [zwr_nc (by decide), zwr_eq, hD_p hf]
      · rw [zwr_nc (c := 13) (by decide), zwr_nc (c := 13) (by decide), zwr_nc (c := 13) (by decide), zwr_nc (c := 14) (q := 12) (by decide), zwr_nc (c := 14) (q := 11) (by decide)]
        by_cases e : i = n
        · subst e
          rw [zwr_eq, zwr_eq, hC_s, hC_0 i n4, if_pos ⟨hn, rfl⟩]
          exact ⟨rfl, rfl⟩
        · have hlt := hD_lt hfi (show i < n by omega)
          rw [zwr_nj (by omega), zwr_nj (by omega), zwr_nc (by decide), hC_s, if_neg (fun z => e (hF_uniq hfi hf z.2.symm)), Nat.add_zero]
          exact h2 i (by omega) hfi
      · by_cases c : s = hP (hHm (κ n)) N
        · rw [c, gU_eq] at e; cases e
        · rw [gU_ne c] at e
          rw [zwr_nj c, zwr_nc (by decide), zwr_nc (by decide), zwr_nc (by decide)]
          exact h4 s hs e
      · by_cases c : s = hP (hHm (κ n)) N
        · rw [c, gU_eq] at e
          have : n = i := Option.some.inj e
          rw [c, zwr_eq, this]
        · rw [gU_ne c] at e
          rw [zwr_nj c, zwr_nc (by decide), zwr_nc (by decide), zwr_nc (by decide)]
          exact h5 s i hs e
  · obtain ⟨⟨c1, c2⟩, -⟩ := h3.1 _ i hpN n3
    have hf : ¬ hF on κ n = true := fun z => (hF_iff.mp z).2 i c1 (hF_iff.mp c2).1 n4
    have hdi := hD_lt c2 c1
    have e12 := h5 _ i hpN n3
    obtain ⟨e13, e14⟩ := h2 i c1 c2
    have hcl := hC_le on κ (κ i) n
    refine ⟨i, zwr M 14 (hD on κ i) (iI ((hC on κ (κ i) n + 1 : Nat) : Int)), by omega, c2, n4, walk _ (fun rec => ?_), zfr.rf.wr (by decide), ?_⟩
    · unfold FX4_numberOf_L10
      rw [if_pos (show iI (N : Int) < (8192 : Int32) from (iLt (b := 8192) (by omega) (by omega)).mpr (by omega))]
      refine (zgI (by omega) (by omega) (by omega)).trans ?_
      simp only [zlet_e]
      rw [zrI _ _ (by omega) (by omega), Int.toNat_natCast, e12, show (1 : Int32) = iI 1 from rfl, iS, show ((hD on κ i + 1 : Nat) : Int) - 1 = (hD on κ i : Nat) by omega, if_neg (show ¬ iI ((hD on κ i : Nat) : Int) < 0 from fun z => by have := (iLt (b := 0) (by omega) (by omega)).mp z; omega), zgI (by omega) (by omega) (by omega), zrI _ _ (by omega) (by omega), Int.toNat_natCast, e13, if_pos (by rw [n4]), zgI (by omega) (by omega) (by omega), zgI (by omega) (by omega) (by omega), iC (by omega) (by omega), zrI _ _ (by omega) (by omega), Int.toNat_natCast, e14, show iI 1 = (1 : Int32) from rfl, iA1]
    · refine ⟨?_, fun j hj hfj => ?_, T, hT_old h3 hf, fun s hs e => ?_, fun s j hs e => ?_⟩
      · rw [zwr_nc (by decide), hD_n hf]; exact h1
      · rw [zwr_nc (c := 13) (by decide)]
        have hjn : j < n := by
          by_cases e : j = n
          · subst e; exact absurd hfj hf
          · omega
        obtain ⟨f1, f2⟩ := h2 j hjn hfj
        refine ⟨f1, ?_⟩
        by_cases e : j = i
        · subst e
          rw [zwr_eq, hC_s, if_pos ⟨hn, n4.symm⟩]
        · rw [zwr_nj (fun z => e (hD_inj hfj c2 z)), hC_s, if_neg (fun z => e (hF_uniq hfj c2 (z.2.symm.trans n4.symm))), Nat.add_zero]
          exact f2
      · rw [zwr_nc (by decide)]; exact h4 s hs e
      · rw [zwr_nc (by decide)]; exact h5 s j hs e
