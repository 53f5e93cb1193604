/-! ===== trials: the reference's heaps ===== -/
/-- signs of the fitting models in the reference's cells -/
def sgE (L : zL) (P : zPr) (k d : Nat) (e : Nat → Nat) (len : Nat) (M : zMem) : Prop := ∀ i, i < len → ∀ s, s < P.2.2.1 → M.1 115 (8 * i + s) = iI (cW L P k d (e i) s 0) ∧ M.1 116 (8 * i + s) = iI (cW L P k d (e i) s 1)
theorem sgE.fr {L : zL} {P : zPr} {k d len : Nat} {e : Nat → Nat} {M M' : zMem} (h : sgE L P k d e len M) (e5 : M'.1 115 = M.1 115) (e6 : M'.1 116 = M.1 116) : sgE L P k d e len M' := fun i hi s hs => by
  rw [e5, e6]
  exact h i hi s hs
theorem kR_s (L : zL) (P : zPr) (k d : Nat) (e : Nat → Nat) (f t i : Nat) : kR L P k d e f (t + 1) i = kR L P k d e f t i ++ [(cW L P k d (e i) (f + t) 0, cW L P k d (e i) (f + t) 1)] := by
  unfold kR
  rw [List.range_succ, List.map_append]
  rfl
def hK (l : List (Int × Int)) : Int32 := l.foldl (fun a p => (a * 31 + iI p.1) * 31 + iI p.2) 0
theorem hK_s (l : List (Int × Int)) (p : Int × Int) : hK (l ++ [p]) = (hK l * 31 + iI p.1) * 31 + iI p.2 := by
  unfold hK
  rw [List.foldl_append]
  rfl
theorem and8191_is (x : Int32) : ∃ m : Nat, m < 8192 ∧ x &&& (8191 : Int32) = iI m := by
  refine ⟨x.toBitVec.toNat % 8192, Nat.mod_lt _ (by decide), ?_⟩
  rw [← nIi]
  apply Int32.toBitVec_inj.mp
  rw [Int32.toBitVec_and]
  apply BitVec.eq_of_toNat_eq
  rw [BitVec.toNat_and]
  show x.toBitVec.toNat &&& 8191 = (BitVec.ofNat 32 (x.toBitVec.toNat % 8192)).toNat
  rw [BitVec.toNat_ofNat, Nat.mod_eq_of_lt (a := x.toBitVec.toNat % 8192) (by have := Nat.mod_lt x.toBitVec.toNat (show 0 < 8192 by decide); omega)]
  exact Nat.and_two_pow_sub_one_eq_mod x.toBitVec.toNat 13
def hHl (l : List (Int × Int)) : Nat := zcl ((hK l ^^^ (hK l >>> ((15 : Int32) &&& 31))) &&& (8191 : Int32))
theorem hHl_eq (l : List (Int × Int)) : hHl l < 8192 ∧ (hK l ^^^ (hK l >>> ((15 : Int32) &&& 31))) &&& (8191 : Int32) = iI (hHl l : Nat) := by
  obtain ⟨m, h1, h2⟩ := and8191_is (hK l ^^^ (hK l >>> ((15 : Int32) &&& 31)))
  unfold hHl
  rw [h2, iC (by omega) (by omega), Int.toNat_natCast]
  exact ⟨h1, rfl⟩
theorem alike_eq {L : zL} {P : zPr} {M : zMem} {k d len f t i j : Nat} {e : Nat → Nat} (hr : zRL L) (hp : zRP P) (hd : 2 ≤ d ∧ d ≤ 16) (hs : sgE L P k d e len M) (hl : len ≤ 4096) (hi : i < len) (hj : j < len) (hft : f + t ≤ P.2.2.1) : FX8_isAlike (iI i) (iI j) (iI f) (iI ((f + t : Nat) : Int)) M = some (zb (kR L P k d e f t i = kR L P k d e f t j)) := by
  have hp2 := hp.2.2.1
  have ex : ∀ q u : Nat, (8 : Int32) * iI q + iI u = iI ((8 * q + u : Nat) : Int) := fun q u => by
    rw [show (8 : Int32) = iI 8 from rfl, iM, iA]
    rfl
  have out : ∀ (s u : Nat), s ≤ t → 0 < u → ¬ kR L P k d e f t i = kR L P k d e f t j → zloop (FX8_isAlike_L6 M (iI i) (iI j) (iI ((f + t : Nat) : Int))) u ((0 : Int32), iI ((f + s : Nat) : Int)) = some (zb (kR L P k d e f t i = kR L P k d e f t j)) := by
    intro s u hs hu hn
    cases u with
    | zero => omega
    | succ u =>
      rw [zloop_s]
      unfold FX8_isAlike_L6
      unfold zb
      rw [if_neg hn]
      dsimp only
      rw [if_pos rfl, zgT (show zisb (0 : Int32) = true from rfl)]
      by_cases c : iI ((f + s : Nat) : Int) < iI ((f + t : Nat) : Int)
      · rw [if_pos c]
      · rw [if_neg c]
  have loop : ∀ (q s u : Nat), s + q = t → q < u → (∀ s', s' < s → cW L P k d (e i) (f + s') 0 = cW L P k d (e j) (f + s') 0 ∧ cW L P k d (e i) (f + s') 1 = cW L P k d (e j) (f + s') 1) → zloop (FX8_isAlike_L6 M (iI i) (iI j) (iI ((f + t : Nat) : Int))) u ((1 : Int32), iI ((f + s : Nat) : Int)) = some (zb (kR L P k d e f t i = kR L P k d e f t j)) := by
    intro q
    induction q with
    | zero =>
      intro s u hsq hu h
      cases u with
      | zero => omega
      | succ u =>
        rw [zloop_s]
        unfold FX8_isAlike_L6
        dsimp only
        rw [if_neg (fun z => by have := (iLt (by omega) (by omega)).mp z; omega), zgT (show zisb (1 : Int32) = true from rfl)]
        unfold zb
        rw [if_pos (kR_eq.mpr (fun s' hs' => h s' (by omega)))]
    | succ q ih =>
      intro s u hsq hu h
      cases u with
      | zero => omega
      | succ u =>
        rw [zloop_s]
        have o1 := out (s + 1) u (by omega) (by omega)
        have o2 := ih (s + 1) u (by omega) (by omega)
        revert o1 o2
        generalize zloop (FX8_isAlike_L6 M (iI i) (iI j) (iI ((f + t : Nat) : Int))) u = rec
        intro o1 o2
        obtain ⟨i1, i2⟩ := hs i hi (f + s) (by omega)
        obtain ⟨j1, j2⟩ := hs j hj (f + s) (by omega)
        have r1 := cW_le hr hp (k := k) (n := e i) hd (show f + s < P.2.2.1 by omega) 0
        have r2 := cW_le hr hp (k := k) (n := e i) hd (show f + s < P.2.2.1 by omega) 1
        have r3 := cW_le hr hp (k := k) (n := e j) hd (show f + s < P.2.2.1 by omega) 0
        have r4 := cW_le hr hp (k := k) (n := e j) hd (show f + s < P.2.2.1 by omega) 1
        have k1 : iI (cW L P k d (e i) (f + s) 0) = iI (cW L P k d (e j) (f + s) 0) ↔ cW L P k d (e i) (f + s) 0 = cW L P k d (e j) (f + s) 0 := iEq (by omega) (by omega)
        have k2 : iI (cW L P k d (e i) (f + s) 1) = iI (cW L P k d (e j) (f + s) 1) ↔ cW L P k d (e i) (f + s) 1 = cW L P k d (e j) (f + s) 1 := iEq (by omega) (by omega)
        unfold FX8_isAlike_L6
        dsimp only
        rw [if_pos ((iLt (by omega) (by omega)).mpr (by omega)), if_neg (show ¬ (1 : Int32) = 0 by decide), ex, ex, zgI (by omega) (by omega) (by omega), zgI (by omega) (by omega) (by omega)]
        simp only [zj_e, zlet_e]
        rw [zgI (by omega) (by omega) (by omega), zgI (by omega) (by omega) (by omega), zrI _ _ (by omega) (by omega), zrI _ _ (by omega) (by omega), zrI _ _ (by omega) (by omega), zrI _ _ (by omega) (by omega), Int.toNat_natCast, Int.toNat_natCast, i1, i2, j1, j2, iA1]
        by_cases c1 : cW L P k d (e i) (f + s) 0 = cW L P k d (e j) (f + s) 0
        · rw [if_pos (k1.mpr c1)]
          by_cases c2 : cW L P k d (e i) (f + s) 1 = cW L P k d (e j) (f + s) 1
          · rw [if_pos (k2.mpr c2)]
            exact o2 (fun s' hs' => by
              by_cases es : s' = s
              · rw [es]; exact ⟨c1, c2⟩
              · exact h s' (by omega))
          · rw [if_neg (fun z => c2 (k2.mp z))]
            exact o1 (fun z => c2 (kR_eq.mp z s (by omega)).2)
        · rw [if_neg (fun z => c1 (k1.mp z))]
          exact o1 (fun z => c1 (kR_eq.mp z s (by omega)).1)
  unfold FX8_isAlike
  exact loop t 0 zFuel (by omega) (zfu (by omega)) (fun s' hs' => absurd hs' (Nat.not_lt_zero _))
/-- the reference's table behind n models -/
def hpA (κ : Nat → List (Int × Int)) (n : Nat) (M : zMem) : Prop := M.1 100 33 = iI (hD onA κ n : Nat) ∧ (∀ i, i < n → hF onA κ i = true → M.1 118 i = iI (hC onA κ (κ i) n : Nat)) ∧ ∃ T, hT onA κ hHl n T ∧ (∀ s, s < 8192 → T s = none → M.1 117 s = -9) ∧ ∀ s i, s < 8192 → T s = some i → M.1 117 s = iI (i : Nat)
theorem g_m9' {g : Nat} (h : g ≤ 10000) : ¬ iI g = (-9 : Int32) := by
  rw [show (-9 : Int32) = iI (-9) from rfl, iEq (by omega) (by omega)]
  omega
theorem heap_put {M1 : zMem} {p i0 c g n : Nat} (r7 : (Int32 × Int32 × zMem) → Option (Int32 × zMem)) (hp : p < 8192) (hi : i0 < 4096) (hc : c ≤ 4096) (hg : g ≤ 4096) (h117 : M1.1 117 p = iI i0) (h118 : M1.1 118 i0 = iI c) : (zguard (zin (iI p) 8192) (zguard (zin (zrd M1 117 (iI p)) 4096) (zguard (zin (zrd M1 117 (iI p)) 4096) (zlet (zwr M1 118 (zcl (zrd M1 117 (iI p))) ((zrd M1 118 (zrd M1 117 (iI p))) + (1 : Int32))) fun M18 => zguard (zin (iI p) 8192) (zguard (zin (zrd M18 117 (iI p)) 4096) (zj (fun (x19 : Int32) => zlet (iI n + (1 : Int32)) fun x21 => r7 (x19, x21, M18)) fun k20 => if iI g < (zrd M18 118 (zrd M18 117 (iI p))) then (zguard (zin (iI p) 8192) (zguard (zin (zrd M18 117 (iI p)) 4096) (k20 (zrd M18 118 (zrd M18 117 (iI p)))))) else (k20 (iI g)))))))) = r7 (iI (if g < c + 1 then c + 1 else g : Nat), iI ((n + 1 : Nat) : Int), zwr M1 118 i0 (iI ((c + 1 : Nat) : Int))) := by
  have e1 : zrd M1 117 (iI p) = iI i0 := by rw [zrI _ _ (by omega) (by omega), Int.toNat_natCast]; exact h117
  rw [e1, zgI (by omega) (by omega) (by omega), zgI (by omega) (by omega) (by omega), zgI (by omega) (by omega) (by omega), zlet_e, zrI M1 118 (by omega) (by omega), iC (by omega) (by omega), Int.toNat_natCast, h118, iA1]
  have e2 : zrd (zwr M1 118 i0 (iI ((c + 1 : Nat) : Int))) 117 (iI p) = iI i0 := by
    rw [zrI _ _ (by omega) (by omega), Int.toNat_natCast, zwr_nc (by decide)]; exact h117
  rw [e2]
  have e3 : zrd (zwr M1 118 i0 (iI ((c + 1 : Nat) : Int))) 118 (iI i0) = iI ((c + 1 : Nat) : Int) := by
    rw [zrI _ _ (by omega) (by omega), Int.toNat_natCast, zwr_eq]
  rw [e3, zgI (by omega) (by omega) (by omega), zgI (by omega) (by omega) (by omega)]
  simp only [zj_e, zlet_e]
  rw [zgI (by omega) (by omega) (by omega), zgI (by omega) (by omega) (by omega), iA1]
  by_cases h : g < c + 1
  · rw [if_pos h, if_pos ((iLt (by omega) (by omega)).mpr (by omega))]
  · rw [if_neg h, if_neg (fun z => by have := (iLt (by omega) (by omega)).mp z; omega)]
theorem heap_step {L : zL} {P : zPr} {M : zMem} {k d len f t n : Nat} {e : Nat → Nat} (hr : zRL L) (hp : zRP P) (hd : 2 ≤ d ∧ d ≤ 16) (hs : sgE L P k d e len M) (hl : len ≤ 4096) (hn : n < len) (hft : f + t ≤ P.2.2.1) (hA : hpA (kR L P k d e f t) n M) (s8 : Int32 × Int32 × zMem) (h8 : s8 = (iI (mxc (kR L P k d e f t) n : Nat), iI n, M)) : ∃ M', (zfq [117, 118] M M' ∧ hpA (kR L P k d e f t) (n + 1) M') ∧ ∀ r7 : (Int32 × Int32 × zMem) → Option (Int32 × zMem), zloop (FX8_heap_L113 r7 s8 (iI f) (iI ((f + t : Nat) : Int))) zFuel (iI (hHl (kR L P k d e f t n) : Nat)) = r7 (iI (mxc (kR L P k d e f t) (n + 1) : Nat), iI ((n + 1 : Nat) : Int), M') := by
  subst h8
  obtain ⟨h1, h2, T, h3, h4, h5⟩ := hA
  have hdl := hD_le onA (kR L P k d e f t) n
  obtain ⟨hm1, -⟩ := hHl_eq (kR L P k d e f t n)
  obtain ⟨N, n1, n2, n3⟩ := hT_look h3 (by omega) (kR L P k d e f t n) hm1
  have hpl := hP_lt (hHl (kR L P k d e f t n))
  have hml := mxc_le (kR L P k d e f t) n
  have walk : ∀ r7 r, (∀ rec, FX8_heap_L113 r7 (iI (mxc (kR L P k d e f t) n : Nat), iI n, M) (iI f) (iI ((f + t : Nat) : Int)) rec (iI (hP (hHl (kR L P k d e f t n)) N : Nat)) = r) → zloop (FX8_heap_L113 r7 (iI (mxc (kR L P k d e f t) n : Nat), iI n, M) (iI f) (iI ((f + t : Nat) : Int))) zFuel (iI (hHl (kR L P k d e f t n) : Nat)) = r := by
    intro r7 r hrr
    refine zloop_end (f := FX8_heap_L113 r7 (iI (mxc (kR L P k d e f t) n : Nat), iI n, M) (iI f) (iI ((f + t : Nat) : Int))) (fun u => iI (hP (hHl (kR L P k d e f t n)) u : Nat)) N ?_ (fun u hu rec => ?_) hrr (zfu (by omega))
    · show _ = iI (hP (hHl (kR L P k d e f t n)) 0 : Nat)
      rw [hP_0 hm1]
    · obtain ⟨j, j1, j2⟩ := n2 u hu
      have hpu := hpl u
      obtain ⟨⟨c1, c2⟩, -⟩ := h3.1 _ j hpu j1
      have e117 : zrd M 117 (iI (hP (hHl (kR L P k d e f t n)) u : Nat)) = iI j := by
        rw [zrI _ _ (by omega) (by omega), Int.toNat_natCast]
        exact h5 _ j hpu j1
      unfold FX8_heap_L113
      rw [zgI (by omega) (by omega) (by omega), zj_e]
      dsimp only
      rw [e117, if_neg (g_m9' (by omega)), zgI (by omega) (by omega) (by omega), alike_eq hr hp hd hs hl (by omega) hn hft, Option.bind_some]
      unfold zb
      rw [if_neg j2, if_pos rfl, zlet_e, and8191 hpu, ← hP_s]
  have hpN := hpl N
  have hcN : hC onA (kR L P k d e f t) (kR L P k d e f t n) (n + 1) = hC onA (kR L P k d e f t) (kR L P k d e f t n) n + 1 := by rw [hC_s, if_pos ⟨rfl, rfl⟩]
  have hcl := hC_le onA (kR L P k d e f t) (kR L P k d e f t n) n
  rcases n3 with ⟨n3, n4⟩ | ⟨i, n3, n4⟩
  · have hf : hF onA (kR L P k d e f t) n = true := hF_iff.mpr ⟨rfl, n4⟩
    have hc0 := hC_0 (on := onA) (κ := kR L P k d e f t) (k := kR L P k d e f t n) n n4
    refine ⟨zwr (zwr (zwr (zwr M 117 (hP (hHl (kR L P k d e f t n)) N) (iI n)) 118 n 0) 100 33 (iI ((hD onA (kR L P k d e f t) n + 1 : Nat) : Int))) 118 n (iI ((0 + 1 : Nat) : Int)), ⟨(((zfq.rf.wr (by decide) (by decide)).wr (by decide) (by decide)).ws (by omega)).wr (by decide) (by decide), ?_, fun j hj hfj => ?_, gU T (hP (hHl (kR L P k d e f t n)) N) (some n), hT_new h3 n1 hf n2 n3, fun s hs ee => ?_, fun s i hs ee => ?_⟩, fun r7 => walk r7 _ (fun rec => ?_)⟩
    · rw [zwr_nc (by decide), zwr_eq, hD_p hf]
    · by_cases ej : j = n
      · rw [ej, zwr_eq, hcN, hc0]
      · rw [zwr_nj ej, zwr_nc (by decide), zwr_nj ej, zwr_nc (by decide), hC_s, if_neg (fun z => ej (hF_uniq hfj hf z.2.symm)), Nat.add_zero]
        exact h2 j (by omega) hfj
    · rw [zwr_nc (by decide), zwr_nc (by decide), zwr_nc (by decide)]
      by_cases c : s = hP (hHl (kR L P k d e f t n)) N
      · rw [c, gU_eq] at ee; cases ee
      · rw [gU_ne c] at ee
        rw [zwr_nj c]
        exact h4 s hs ee
    · rw [zwr_nc (by decide), zwr_nc (by decide), zwr_nc (by decide)]
      by_cases c : s = hP (hHl (kR L P k d e f t n)) N
      · rw [c, gU_eq] at ee
        have : n = i := Option.some.inj ee
        rw [c, zwr_eq, this]
      · rw [gU_ne c] at ee
        rw [zwr_nj c]
        exact h5 s i hs ee
    · have e117 : zrd M 117 (iI (hP (hHl (kR L P k d e f t n)) N : Nat)) = -9 := by
        rw [zrI _ _ (by omega) (by omega), Int.toNat_natCast]
        exact h4 _ hpN n3
      unfold FX8_heap_L113
      rw [zgI (by omega) (by omega) (by omega), zj_e]
      dsimp only
      rw [e117, if_pos rfl, zgI (by omega) (by omega) (by omega), zj_e, if_pos rfl, zgI (by omega) (by omega) (by omega), zlet_e, zgI (by omega) (by omega) (by omega)]
      rw [zlet_e, zlet_e, iC (by omega) (by omega), iC (by omega) (by omega), Int.toNat_natCast, Int.toNat_natCast, zwr_nc (c := 100) (q := 118) (by decide), zwr_nc (c := 100) (q := 117) (by decide), h1, iA1 (hD onA (kR L P k d e f t) n)]
      dsimp only
      have w1 : (zwr (zwr (zwr M 117 (hP (hHl (kR L P k d e f t n)) N) (iI n)) 118 n 0) 100 33 (iI ((hD onA (kR L P k d e f t) n + 1 : Nat) : Int))).1 117 (hP (hHl (kR L P k d e f t n)) N) = iI n := by
        rw [zwr_nc (by decide), zwr_nc (by decide), zwr_eq]
      have w2 : (zwr (zwr (zwr M 117 (hP (hHl (kR L P k d e f t n)) N) (iI n)) 118 n 0) 100 33 (iI ((hD onA (kR L P k d e f t) n + 1 : Nat) : Int))).1 118 n = iI ((0 : Nat) : Int) := by
        rw [zwr_nc (by decide), zwr_eq]; rfl
      revert w1 w2
      generalize zwr (zwr (zwr M 117 (hP (hHl (kR L P k d e f t n)) N) (iI n)) 118 n 0) 100 33 (iI ((hD onA (kR L P k d e f t) n + 1 : Nat) : Int)) = MM
      intro w1 w2
      refine (heap_put (M1 := MM) (p := hP (hHl (kR L P k d e f t n)) N) (i0 := n) (c := 0) (g := mxc (kR L P k d e f t) n) (n := n) r7 hpN (show n < 4096 by omega) (by omega) (by omega) w1 w2).trans ?_
      · rw [mxc_s, hcN, hc0]
  · obtain ⟨⟨c1, c2⟩, -⟩ := h3.1 _ i hpN n3
    have hf : ¬ hF onA (kR L P k d e f t) n = true := fun z => (hF_iff.mp z).2 i c1 rfl n4
    have h118 := h2 i c1 c2
    rw [n4] at h118
    refine ⟨zwr M 118 i (iI ((hC onA (kR L P k d e f t) (kR L P k d e f t n) n + 1 : Nat) : Int)), ⟨zfq.rf.wr (by decide) (by decide), ?_, fun j hj hfj => ?_, T, hT_old h3 hf, fun s hs ee => ?_, fun s j hs ee => ?_⟩, fun r7 => walk r7 _ (fun rec => ?_)⟩
    · rw [zwr_nc (by decide), hD_n hf]; exact h1
    · have hjn : j < n := by
        by_cases e : j = n
        · subst e; exact absurd hfj hf
        · omega
      by_cases ej : j = i
      · rw [ej, zwr_eq, n4, hcN]
      · rw [zwr_nj ej, hC_s, if_neg (fun z => ej (hF_uniq hfj c2 (z.2.symm.trans n4.symm))), Nat.add_zero]
        exact h2 j hjn hfj
    · rw [zwr_nc (by decide)]; exact h4 s hs ee
    · rw [zwr_nc (by decide)]; exact h5 s j hs ee
    · have e117 : zrd M 117 (iI (hP (hHl (kR L P k d e f t n)) N : Nat)) = iI i := by
        rw [zrI _ _ (by omega) (by omega), Int.toNat_natCast]
        exact h5 _ i hpN n3
      unfold FX8_heap_L113
      rw [zgI (by omega) (by omega) (by omega), zj_e]
      dsimp only
      rw [e117, if_neg (g_m9' (by omega)), zgI (by omega) (by omega) (by omega), alike_eq hr hp hd hs hl (by omega) hn hft, Option.bind_some]
      unfold zb
      rw [if_pos n4, if_neg (show ¬ (1 : Int32) = 0 by decide), zgI (by omega) (by omega) (by omega), zj_e, if_neg (g_m9' (by omega))]
      dsimp only
      refine (heap_put r7 hpN (show i < 4096 by omega) (by omega) (by omega) ?_ h118).trans ?_
      · exact h5 _ i hpN n3
      · rw [mxc_s, hcN]
theorem hash_eq {L : zL} {P : zPr} {M : zMem} {k d len f t n : Nat} {e : Nat → Nat} (hp : zRP P) (hs : sgE L P k d e len M) (hl : len ≤ 4096) (hn : n < len) (hft : f + t ≤ P.2.2.1) (s8 : Int32 × Int32 × zMem) (h8a : s8.2.1 = iI n) (h8b : s8.2.2 = M) (r7 : (Int32 × Int32 × zMem) → Option (Int32 × zMem)) : zloop (FX8_heap_L49 r7 s8 (iI f) (iI ((f + t : Nat) : Int))) zFuel ((0 : Int32), iI f) = zloop (FX8_heap_L113 r7 s8 (iI f) (iI ((f + t : Nat) : Int))) zFuel (iI (hHl (kR L P k d e f t n) : Nat)) := by
  have hp2 := hp.2.2.1
  obtain ⟨-, hm2⟩ := hHl_eq (kR L P k d e f t n)
  refine zloop_end (f := FX8_heap_L49 r7 s8 (iI f) (iI ((f + t : Nat) : Int))) (fun j => (hK (kR L P k d e f j n), iI ((f + j : Nat) : Int))) t rfl (fun j hj rec => ?_) (fun rec => ?_) (zfu (by omega))
  · obtain ⟨i1, i2⟩ := hs n hn (f + j) (by omega)
    have ex : (8 : Int32) * iI n + iI ((f + j : Nat) : Int) = iI ((8 * n + (f + j) : Nat) : Int) := by
      rw [show (8 : Int32) = iI 8 from rfl, iM, iA]
      rfl
    unfold FX8_heap_L49
    dsimp only
    rw [h8a, h8b, if_pos ((iLt (by omega) (by omega)).mpr (by omega)), ex, zgI (by omega) (by omega) (by omega), zgI (by omega) (by omega) (by omega), zlet_e, zlet_e, zrI _ _ (by omega) (by omega), zrI _ _ (by omega) (by omega), Int.toNat_natCast, i1, i2, iA1, kR_s, hK_s]
    rfl
  · unfold FX8_heap_L49
    dsimp only
    rw [if_neg (fun z => by have := (iLt (a := (f + t : Nat)) (b := (f + t : Nat)) (by omega) (by omega)).mp z; omega), zlet_e, hm2]
theorem heap_eq {L : zL} {P : zPr} {M : zMem} {k d len f t : Nat} {e : Nat → Nat} (hr : zRL L) (hp : zRP P) (hd : 2 ≤ d ∧ d ≤ 16) (hs : sgE L P k d e len M) (hl : len ≤ 4096) (hft : f + t ≤ P.2.2.1) : ∃ M', FX8_heap (iI len) (iI f) (iI ((f + t : Nat) : Int)) M = some (iI (mxc (kR L P k d e f t) len : Nat), M') ∧ zfq [117, 118] M M' ∧ M'.1 100 33 = iI (hD onA (kR L P k d e f t) len : Nat) := by
  have hp2 := hp.2.2.1
  have wipe := zloop_inv (f := FX8_heap_L3 (iI len) (iI f) (iI ((f + t : Nat) : Int))) (r := fun st => zloop (FX8_heap_L37 (iI len) (iI f) (iI ((f + t : Nat) : Int))) zFuel ((0 : Int32), (0 : Int32), zwr st.2 100 33 0)) (fun i st => st.1 = iI (i : Int) ∧ zfr [117] M st.2 ∧ ∀ p, p < i → st.2.1 117 p = -9) 8192 ?_ ?_ 8192 0 zFuel ((0 : Int32), M) rfl (zfu (by omega)) ⟨rfl, zfr.rf, fun p hp => absurd hp (Nat.not_lt_zero _)⟩
  · obtain ⟨⟨t1, t2⟩, ⟨-, g1, g2⟩, g3⟩ := wipe
    have g1 : zfr [117] M t2 := g1
    have hf1 : zfq [117, 118] M (zwr t2 100 33 0) := (g1.q (by decide)).ws (by omega)
    have key := zloop_inv (f := FX8_heap_L37 (iI len) (iI f) (iI ((f + t : Nat) : Int))) (r := fun st => some (st.1, st.2.2)) (fun i st => st.1 = iI (mxc (kR L P k d e f t) i : Nat) ∧ st.2.1 = iI (i : Int) ∧ zfq [117, 118] M st.2.2 ∧ hpA (kR L P k d e f t) i st.2.2) len ?_ ?_ len 0 zFuel ((0 : Int32), (0 : Int32), zwr t2 100 33 0) (Nat.zero_add _) (zfu (by omega)) ⟨rfl, rfl, hf1, zwr_eq, fun i hi => absurd hi (Nat.not_lt_zero _), fun _ => none, hT_0 _ _ _, fun s hs _ => (zwr_nc (by decide)).trans (g2 s hs), fun s i _ h => absurd h (fun z => nomatch z)⟩
    · obtain ⟨⟨u1, u2, u3⟩, ⟨k1, -, k2, k3⟩, k4⟩ := key
      have k1 : u1 = _ := k1
      refine ⟨u3, ?_, k2, k3.1⟩
      unfold FX8_heap
      rw [g3, k4, k1]
    · intro i st hi hI
      obtain ⟨u1, u2, u3⟩ := st
      obtain ⟨f1, f2, f3, f4⟩ := hI
      have f1 : u1 = _ := f1
      have f2 : u2 = _ := f2
      have f3 : zfq [117, 118] M u3 := f3
      subst f1 f2
      have hs3 : sgE L P k d e len u3 := hs.fr (f3.1 115 (by decide) (by decide)) (f3.1 116 (by decide) (by decide))
      obtain ⟨M', ⟨w1, w2⟩, w3⟩ := heap_step hr hp hd hs3 hl hi hft f4 _ rfl
      refine ⟨(iI (mxc (kR L P k d e f t) (i + 1) : Nat), iI ((i + 1 : Nat) : Int), M'), ⟨rfl, rfl, f3.tr w1, w2⟩, fun rec => ?_⟩
      unfold FX8_heap_L37
      rw [if_pos (show iI (i : Int) < iI len from (iLt (by omega) (by omega)).mpr (by omega)), hash_eq hp hs3 hl hi hft _ rfl rfl]
      exact w3 rec
    · intro st hI rec
      obtain ⟨u1, u2, u3⟩ := st
      obtain ⟨-, f2, -⟩ := hI
      have f2 : u2 = _ := f2
      subst f2
      unfold FX8_heap_L37
      rw [if_neg (show ¬ iI (len : Int) < iI len from fun z => by have := (iLt (by omega) (by omega)).mp z; omega)]
  · intro i st hi hI
    obtain ⟨t1, t2⟩ := st
    obtain ⟨e1, e2, e3⟩ := hI
    have e1 : t1 = _ := e1
    subst e1
    refine ⟨(iI ((i + 1 : Nat) : Int), zwr t2 117 i (-9)), ⟨rfl, e2.wr (by decide), fun p hp => ?_⟩, fun rec => ?_⟩
    · by_cases c : p = i
      · subst c; exact zwr_eq
      · exact (zwr_nj c).trans (e3 p (by omega))
    · unfold FX8_heap_L3
      rw [if_pos (show iI (i : Int) < (8192 : Int32) from (iLt (b := 8192) (by omega) (by omega)).mpr (by omega))]
      refine (zgI (by omega) (by omega) (by omega)).trans ?_
      simp only [zlet_e]
      rw [iC (by omega) (by omega), Int.toNat_natCast, iA1]
  · intro st hI rec
    obtain ⟨t1, t2⟩ := st
    obtain ⟨e1, -⟩ := hI
    have e1 : t1 = iI ((8192 : Nat) : Int) := e1
    subst e1
    unfold FX8_heap_L3
    rw [if_neg (show ¬ iI ((8192 : Nat) : Int) < (8192 : Int32) by decide)]
    simp only [zlet_e]
