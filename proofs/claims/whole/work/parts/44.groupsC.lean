/-! ===== groups: the class's flood ===== -/
theorem minI {a b : Int} (ha : -2147483648 ≤ a ∧ a ≤ 2147483647) (hb : -2147483648 ≤ b ∧ b ≤ 2147483647) : FJ9_min_7cf53 (iI a) (iI b) = some (iI (if b < a then b else a)) := by
  unfold FJ9_min_7cf53
  by_cases h : b < a
  · rw [if_pos ((iLt hb ha).mpr h), if_pos h]
  · rw [if_neg (fun z => h ((iLt hb ha).mp z)), if_neg h]
theorem maxI {a b : Int} (ha : -2147483648 ≤ a ∧ a ≤ 2147483647) (hb : -2147483648 ≤ b ∧ b ≤ 2147483647) : FJ9_max_7cf53 (iI a) (iI b) = some (iI (if a < b then b else a)) := by
  unfold FJ9_max_7cf53
  by_cases h : a < b
  · rw [if_pos ((iLt ha hb).mpr h), if_pos h]
  · rw [if_neg (fun z => h ((iLt ha hb).mp z)), if_neg h]
def gRC (s : gSt) (M : zMem) : Prop := (∀ p, p < 2401 → M.1 21 p = (if s.2.1 p = true then (1 : Int32) else 0)) ∧ ∀ i, i < s.1 → M.1 22 i = iI (s.2.2 i : Nat)
theorem gRC.vs {s : gSt} {M : zMem} {p : Nat} (h : gRC s M) (hw : s.2.1 p = true) : gRC (gVs p s) (zwr (zwr M 21 p 0) 22 s.1 (iI (p : Nat))) := by
  unfold gVs
  rw [if_pos hw]
  refine ⟨fun q hq => ?_, fun i hi => ?_⟩
  · rw [zwr_nc (by decide)]
    show _ = if gU s.2.1 p false q = true then (1 : Int32) else 0
    by_cases e : q = p
    · subst e
      rw [zwr_eq, gU_eq]
      rfl
    · rw [zwr_nj e, gU_ne e]
      exact h.1 q hq
  · have hi : i < s.1 + 1 := hi
    show _ = iI (gU s.2.2 s.1 p i : Nat)
    by_cases e : i = s.1
    · subst e
      rw [zwr_eq, gU_eq]
    · rw [zwr_nj e, zwr_nc (by decide), gU_ne e]
      exact h.2 i (by omega)
theorem visC {s : gSt} {M : zMem} (hv : gIv s) (hc : gRC s M) {x y c : Int} (hx : 0 ≤ x ∧ x ≤ 48) (hy : 0 ≤ y ∧ y ≤ 48) (hcx : x ≤ c + 1) (hc0 : 0 ≤ c ∧ c ≤ 48) : ∃ M', gRC (gV x y s) M' ∧ zfr [21, 22] M M' ∧ ∀ (r6 : (Int32 × Int32 × zMem) → Option (Int32 × zMem)) (s7 : Int32 × Int32 × zMem) (rec : (Int32 × Int32 × zMem) → Option (Int32 × zMem)), s7.2.1 = iI y → FX1_queueNeighbours_L48 r6 s7 (iI c) rec (iI (s.1 : Nat), iI x, M) = rec (iI ((gV x y s).1 : Nat), iI (x + 1), M') := by
  have hp : (49 * y + x).toNat < 2401 := by omega
  have e : iI (y * 49 + x) = iI ((49 * y + x).toNat : Nat) := by congr 1; omega
  have hw := hc.1 _ hp
  have hm : FJ9_min_7cf53 (iI c + 1) 48 = some (iI (if 48 < c + 1 then 48 else c + 1)) := by
    rw [show (1 : Int32) = iI 1 from rfl, show (48 : Int32) = iI 48 from rfl, iA]
    exact minI (by omega) (by omega)
  have hlt : ¬ iI (if 48 < c + 1 then 48 else c + 1) < iI x := by
    intro z
    by_cases h : 48 < c + 1
    · rw [if_pos h, iLt (by omega) (by omega)] at z; omega
    · rw [if_neg h, iLt (by omega) (by omega)] at z; omega
  have hs := hv.1
  have eV : gV x y s = gVs (49 * y + x).toNat s := if_pos ⟨hx, hy⟩
  rw [eV]
  generalize hq : (49 * y + x).toNat = p at *
  by_cases w : s.2.1 p = true
  · have hn := hv.lt hp w
    rw [if_pos w] at hw
    refine ⟨zwr (zwr M 21 p 0) 22 s.1 (iI (p : Nat)), hc.vs w, (zfr.rf.wr (by decide)).wr (by decide), fun r6 s7 rec h7 => ?_⟩
    have hg : gVs p s = (s.1 + 1, gU s.2.1 p false, gU s.2.2 s.1 p) := if_pos w
    unfold FX1_queueNeighbours_L48
    rw [hm, Option.bind_some, if_neg hlt]
    simp only [zlet]
    rw [h7, show (49 : Int32) = iI 49 from rfl, iM, iA, e, zgI (by omega) (by omega) (by omega), zrI _ _ (by omega) (by omega), Int.toNat_natCast, hw, if_neg (by decide), show (2401 : Int32) = iI 2401 from rfl, if_pos ((iLt (by omega) (by omega)).mpr (by omega)), zgI (by omega) (by omega) (by omega), zgI (by omega) (by omega) (by omega), iC (by omega) (by omega), iC (by omega) (by omega), Int.toNat_natCast, Int.toNat_natCast, iA1, show (1 : Int32) = iI 1 from rfl, iA, hg]
    rfl
  · rw [if_neg w] at hw
    have hg : gVs p s = s := if_neg w
    rw [hg]
    refine ⟨M, hc, zfr.rf, fun r6 s7 rec h7 => ?_⟩
    unfold FX1_queueNeighbours_L48
    rw [hm, Option.bind_some, if_neg hlt]
    simp only [zlet]
    rw [h7, show (49 : Int32) = iI 49 from rfl, iM, iA, e, zgI (by omega) (by omega) (by omega), zrI _ _ (by omega) (by omega), Int.toNat_natCast, hw, if_pos rfl, show (1 : Int32) = iI 1 from rfl, iA]
theorem gIv.from {s : gSt} (h : gIv s) (y x : Int) : ∀ n, gIv (gFrom y x n s) := by
  intro n
  induction n with
  | zero => exact h
  | succ n ih => exact ih.v _ _
theorem gIv.rows {s : gSt} (h : gIv s) (c y : Int) : ∀ n, gIv (gRows c y n s) := by
  intro n
  induction n with
  | zero => exact h
  | succ n ih => exact ih.from _ _ _
theorem rowC {s : gSt} {M : zMem} (hv : gIv s) (hc : gRC s M) {y c : Int} (hy : 0 ≤ y ∧ y ≤ 48) (hc0 : 0 ≤ c ∧ c ≤ 48) (s7 : Int32 × Int32 × zMem) (h7 : s7.2.1 = iI y) : ∃ M', (gRC (gFrom y (c - 1) 3 s) M' ∧ zfr [21, 22] M M') ∧ ∀ (r6 : (Int32 × Int32 × zMem) → Option (Int32 × zMem)), zloop (FX1_queueNeighbours_L48 r6 s7 (iI c)) zFuel (iI (s.1 : Nat), iI (if c - 1 < 0 then 0 else c - 1), M) = r6 (iI ((gFrom y (c - 1) 3 s).1 : Nat), iI (y + 1), M') := by
  have ct := gFrom_cut (y := y) (s := s) hc0
  have hlo : 0 ≤ (if c - 1 < 0 then 0 else c - 1) ∧ (if c - 1 < 0 then 0 else c - 1) ≤ c := by
    by_cases h : c - 1 < 0
    · rw [if_pos h]; omega
    · rw [if_neg h]; omega
  have hhi : c ≤ (if 48 < c + 1 then 48 else c + 1) ∧ (if 48 < c + 1 then 48 else c + 1) ≤ 48 ∧ (if 48 < c + 1 then 48 else c + 1) ≤ c + 1 := by
    by_cases h : 48 < c + 1
    · rw [if_pos h]; omega
    · rw [if_neg h]; omega
  have hm : FJ9_min_7cf53 (iI c + 1) 48 = some (iI (if 48 < c + 1 then 48 else c + 1)) := by
    rw [show (1 : Int32) = iI 1 from rfl, show (48 : Int32) = iI 48 from rfl, iA]
    exact minI (by omega) (by omega)
  revert hm hhi hlo ct
  generalize (if c - 1 < 0 then 0 else c - 1) = lo
  generalize (if 48 < c + 1 then 48 else c + 1) = hi
  intro ct hlo hhi hm
  have key := zloop_invK (κ := (Int32 × Int32 × zMem) → Option (Int32 × zMem)) (f := fun r6 => FX1_queueNeighbours_L48 r6 s7 (iI c)) (r := fun r6 st => r6 (st.1, iI (y + 1), st.2.2)) (fun i st => gRC (gFrom y lo i s) st.2.2 ∧ zfr [21, 22] M st.2.2 ∧ st.1 = iI ((gFrom y lo i s).1 : Nat) ∧ st.2.1 = iI (lo + i)) (hi - lo + 1).toNat ?_ ?_ (hi - lo + 1).toNat 0 zFuel (iI (s.1 : Nat), iI lo, M) (Nat.zero_add _) (zfu (by omega)) ⟨hc, zfr.rf, rfl, by show iI lo = iI (lo + ((0 : Nat) : Int)); congr 1; omega⟩
  · obtain ⟨⟨t1, t2, t3⟩, ⟨g1, g2, g3, g4⟩, g5⟩ := key
    rw [ct] at g1 g3
    refine ⟨t3, ⟨g1, g2⟩, fun r6 => (g5 r6).trans ?_⟩
    have g3 : t1 = _ := g3
    rw [g3]
  · intro i st hi2 hI
    obtain ⟨t1, t2, t3⟩ := st
    obtain ⟨g1, g2, g3, g4⟩ := hI
    have g1 : gRC _ t3 := g1
    have g3 : t1 = _ := g3
    have g4 : t2 = _ := g4
    subst g3 g4
    obtain ⟨M', k1, k2, k3⟩ := visC (hv.from y lo i) g1 (x := lo + i) (y := y) (c := c) (by omega) hy (by omega) hc0
    refine ⟨(_, iI (lo + i + 1), M'), ⟨k1, g2.tr k2, rfl, ?_⟩, fun q rec => k3 q s7 rec h7⟩
    show iI (lo + i + 1) = iI (lo + ((i + 1 : Nat) : Int))
    congr 1
    omega
  · intro st hI q rec
    obtain ⟨t1, t2, t3⟩ := st
    obtain ⟨-, -, -, g4⟩ := hI
    have g4 : t2 = _ := g4
    subst g4
    show FX1_queueNeighbours_L48 q s7 (iI c) rec _ = _
    unfold FX1_queueNeighbours_L48
    rw [hm, Option.bind_some, if_pos ((iLt (by omega) (by omega)).mpr (by omega))]
    simp only [zlet]
    rw [h7, show (1 : Int32) = iI 1 from rfl, iA]
theorem rem49 {p : Nat} (h : p < 2401) : zrem (iI p) 49 = iI (p % 49 : Nat) := by
  rw [show (49 : Int32) = iI 49 from rfl, iR (by omega) (by omega)]
  congr 1
theorem div49 {p : Nat} (h : p < 2401) : iI p / 49 = iI (p / 49 : Nat) := by
  rw [show (49 : Int32) = iI 49 from rfl, iD (by omega) (by omega)]
  congr 1
theorem gNb_iv {s : gSt} (h : gIv s) (p : Nat) : gIv (gNb p s) := h.k _ _ _
theorem gNb_le (p : Nat) (s : gSt) : s.1 ≤ (gNb p s).1 := gK_le _ _ _ _
theorem nbC {s : gSt} {M : zMem} (hv : gIv s) (hc : gRC s M) {p : Nat} (hp : p < 2401) : ∃ M', FX1_queueNeighbours (iI p) (iI (s.1 : Nat)) M = some (iI ((gNb p s).1 : Nat), M') ∧ gRC (gNb p s) M' ∧ zfr [21, 22] M M' := by
  have hr : 0 ≤ ((p / 49 : Nat) : Int) ∧ ((p / 49 : Nat) : Int) ≤ 48 := by omega
  have hc0 : 0 ≤ ((p % 49 : Nat) : Int) ∧ ((p % 49 : Nat) : Int) ≤ 48 := by omega
  have e0 := gNb_rows p s
  revert e0
  have ct := gRows_cut (c := ((p % 49 : Nat) : Int)) (s := s) hr
  have er := div49 hp
  have ec := rem49 hp
  revert ct er ec hr hc0
  generalize ((p / 49 : Nat) : Int) = r
  generalize ((p % 49 : Nat) : Int) = c
  intro hr hc0 ct er ec e0
  have hlo : 0 ≤ (if r - 1 < 0 then 0 else r - 1) ∧ (if r - 1 < 0 then 0 else r - 1) ≤ r := by
    by_cases h : r - 1 < 0
    · rw [if_pos h]; omega
    · rw [if_neg h]; omega
  have hhi : r ≤ (if 48 < r + 1 then 48 else r + 1) ∧ (if 48 < r + 1 then 48 else r + 1) ≤ 48 ∧ (if 48 < r + 1 then 48 else r + 1) ≤ r + 1 := by
    by_cases h : 48 < r + 1
    · rw [if_pos h]; omega
    · rw [if_neg h]; omega
  have hm : FJ9_min_7cf53 (iI r + 1) 48 = some (iI (if 48 < r + 1 then 48 else r + 1)) := by
    rw [show (1 : Int32) = iI 1 from rfl, show (48 : Int32) = iI 48 from rfl, iA]
    exact minI (by omega) (by omega)
  have hx : FJ9_max_7cf53 (iI r - 1) 0 = some (iI (if r - 1 < 0 then 0 else r - 1)) := by
    rw [show (1 : Int32) = iI 1 from rfl, show (0 : Int32) = iI 0 from rfl, iS]
    exact maxI (by omega) (by omega)
  have hxc : FJ9_max_7cf53 (iI c - 1) 0 = some (iI (if c - 1 < 0 then 0 else c - 1)) := by
    rw [show (1 : Int32) = iI 1 from rfl, show (0 : Int32) = iI 0 from rfl, iS]
    exact maxI (by omega) (by omega)
  unfold FX1_queueNeighbours
  simp only [zlet]
  rw [ec, er, hx, Option.bind_some]
  rw [e0, ← ct]
  clear e0 ct hx er ec
  revert hm hhi hlo
  generalize (if r - 1 < 0 then 0 else r - 1) = lo
  generalize (if 48 < r + 1 then 48 else r + 1) = hi
  intro hlo hhi hm
  have key := zloop_inv (f := FX1_queueNeighbours_L24 (iI c) (iI r)) (r := fun st => some (st.1, st.2.2)) (fun i st => gRC (gRows c lo i s) st.2.2 ∧ zfr [21, 22] M st.2.2 ∧ st.1 = iI ((gRows c lo i s).1 : Nat) ∧ st.2.1 = iI (lo + i)) (hi - lo + 1).toNat ?_ ?_ (hi - lo + 1).toNat 0 zFuel (iI (s.1 : Nat), iI lo, M) (Nat.zero_add _) (zfu (by omega)) ⟨hc, zfr.rf, rfl, by show iI lo = iI (lo + ((0 : Nat) : Int)); congr 1; omega⟩
  · obtain ⟨⟨t1, t2, t3⟩, ⟨g1, g2, g3, g4⟩, g5⟩ := key
    have g3 : t1 = _ := g3
    refine ⟨t3, g5.trans ?_, g1, g2⟩
    rw [g3]
  · intro i st hi2 hI
    obtain ⟨t1, t2, t3⟩ := st
    obtain ⟨g1, g2, g3, g4⟩ := hI
    have g1 : gRC _ t3 := g1
    have g3 : t1 = _ := g3
    have g4 : t2 = _ := g4
    subst g3 g4
    obtain ⟨M', ⟨k1, k2⟩, k3⟩ := rowC (hv.rows c lo i) g1 (y := lo + i) (c := c) (by omega) hc0 (iI ((gRows c lo i s).1 : Nat), iI (lo + i), t3) rfl
    refine ⟨(_, iI (lo + i + 1), M'), ⟨k1, g2.tr k2, rfl, ?_⟩, fun rec => ?_⟩
    · show iI (lo + i + 1) = iI (lo + ((i + 1 : Nat) : Int))
      congr 1
      omega
    · unfold FX1_queueNeighbours_L24
      rw [hm, Option.bind_some, if_neg (fun z => by have := (iLt (a := hi) (b := lo + i) (by omega) (by omega)).mp z; omega), hxc, Option.bind_some]
      exact k3 rec
  · intro st hI rec
    obtain ⟨t1, t2, t3⟩ := st
    obtain ⟨-, -, -, g4⟩ := hI
    have g4 : t2 = _ := g4
    subst g4
    unfold FX1_queueNeighbours_L24
    rw [hm, Option.bind_some, if_pos ((iLt (by omega) (by omega)).mpr (by omega))]
theorem colC : ∀ (f i n : Nat) (s : gSt) (M : zMem), i + f = 2402 → i ≤ s.1 → f < n → gIv s → gRC s M → ∃ M', zloop FX1_collect_L18 n (iI (s.1 : Nat), iI i, M) = some (iI ((gCol f i s).1 : Nat), M') ∧ gRC (gCol f i s) M' ∧ zfr [21, 22] M M' := by
  intro f
  induction f with
  | zero =>
    intro i n s M h1 h2 _ hv
    have := hv.1
    omega
  | succ f ih =>
    intro i n s M h1 h2 hn hv hc
    have hs := hv.1
    cases n with
    | zero => omega
    | succ n =>
      show ∃ M', FX1_collect_L18 (zloop FX1_collect_L18 n) (iI (s.1 : Nat), iI i, M) = _ ∧ _
      show ∃ M', FX1_collect_L18 (zloop FX1_collect_L18 n) (iI (s.1 : Nat), iI i, M) = some (iI ((if i < s.1 then gCol f (i + 1) (gNb (s.2.2 i) s) else s).1 : Nat), M') ∧ gRC (if i < s.1 then gCol f (i + 1) (gNb (s.2.2 i) s) else s) M' ∧ zfr [21, 22] M M'
      unfold FX1_collect_L18
      by_cases hi : i < s.1
      · have hq := hv.2 i hi
        have hle := gNb_le (s.2.2 i) s
        obtain ⟨M1, a1, a2, a3⟩ := nbC hv hc hq
        obtain ⟨M2, b1, b2, b3⟩ := ih (i + 1) n (gNb (s.2.2 i) s) M1 (by omega) (by omega) (by omega) (gNb_iv hv _) a2
        rw [if_pos hi]
        refine ⟨M2, ?_, b2, a3.tr b3⟩
        rw [show (2401 : Int32) = iI 2401 from rfl, if_pos (show iI i < iI (s.1 : Nat) from (iLt (by omega) (by omega)).mpr (by omega)), if_pos (show iI i < iI 2401 from (iLt (by omega) (by omega)).mpr (by omega))]
        refine (zgI (by omega) (by omega) (by omega)).trans ?_
        show (FX1_queueNeighbours (zrd M 22 (iI i)) (iI (s.1 : Nat)) M).bind _ = _
        rw [zrI _ _ (by omega) (by omega), Int.toNat_natCast, hc.2 i hi, a1, Option.bind_some]
        simp only [zlet]
        rw [iA1]
        exact b1
      · rw [if_neg hi]
        refine ⟨M, ?_, hc, zfr.rf⟩
        rw [if_neg (show ¬ iI i < iI (s.1 : Nat) from fun z => by have := (iLt (by omega) (by omega)).mp z; omega)]
theorem oneC {W : Nat → Bool} {M : zMem} {p : Nat} (hp : p < 2401) (hw : W p = true) (hm : ∀ q, q < 2401 → M.1 21 q = (if W q = true then (1 : Int32) else 0)) : ∃ M', FX1_collect (iI p) M = some (iI ((gCol 2402 0 (gOne W p)).1 : Nat), M') ∧ gRC (gCol 2402 0 (gOne W p)) M' ∧ zfr [21, 22] M M' := by
  have h1 : gRC (gOne W p) (zwr (zwr M 21 p 0) 22 0 (iI p)) := by
    refine ⟨fun q hq => ?_, fun i hi => ?_⟩
    · rw [zwr_nc (by decide)]
      show _ = if gU W p false q = true then (1 : Int32) else 0
      by_cases e : q = p
      · subst e; rw [zwr_eq, gU_eq]; rfl
      · rw [zwr_nj e, gU_ne e]; exact hm q hq
    · have hi : i < 1 := hi
      have hi0 : i = 0 := by omega
      subst hi0
      rw [zwr_eq]
      rfl
  obtain ⟨M', a1, a2, a3⟩ := colC 2402 0 zFuel (gOne W p) _ rfl (Nat.zero_le _) (zfu (by omega)) (gIv.one hp hw) h1
  refine ⟨M', ?_, a2, ((zfr.rf.wr (by decide)).wr (by decide)).tr a3⟩
  unfold FX1_collect
  simp only [zlet]
  rw [zgI (by omega) (by omega) (by omega), iC (by omega) (by omega), Int.toNat_natCast, zgT (show zin (0 : Int32) 2401 = true from rfl)]
  exact (congrArg (zloop FX1_collect_L18 zFuel) (show ((1 : Int32), (0 : Int32), zwr (zwr M 21 p ((0 : Int32) &&& 1)) 22 (zcl (0 : Int32)) (iI p)) = (iI ((gOne W p).1 : Nat), iI ((0 : Nat) : Int), zwr (zwr M 21 p 0) 22 0 (iI p)) from rfl)).trans a1
theorem splitC {W : Nat → Bool} {M : zMem} (hm : ∀ q, q < 2401 → M.1 21 q = (if W q = true then (1 : Int32) else 0)) (x0 : Int32) : ∃ M', FX1_split x0 M = some (iI ((gRun W 2401).2.1 : Nat), M') ∧ zfr [20, 21, 22] M M' ∧ ∀ w : Nat, x0 = iI w → w < (gRun W 2401).2.1 → M'.1 20 2 = iI ((gRun W 2401).2.2.1 w : Nat) ∧ M'.1 20 3 = iI ((gRun W 2401).2.2.2 w : Nat) := by
  have key := zloop_inv (f := FX1_split_L4 x0) (r := fun st => some (st.1, st.2.2)) (fun p st => st.2.1 = iI p ∧ st.1 = iI ((gRun W p).2.1 : Nat) ∧ zfr [20, 21, 22] M st.2.2 ∧ (∀ q, q < 2401 → st.2.2.1 21 q = (if (gRun W p).1 q = true then (1 : Int32) else 0)) ∧ ∀ w : Nat, x0 = iI w → w < (gRun W p).2.1 → st.2.2.1 20 2 = iI ((gRun W p).2.2.1 w : Nat) ∧ st.2.2.1 20 3 = iI ((gRun W p).2.2.2 w : Nat)) 2401 ?_ ?_ 2401 0 zFuel ((0 : Int32), (0 : Int32), M) rfl (zfu (by omega)) ⟨rfl, rfl, zfr.rf, hm, fun w _ hw => absurd hw (Nat.not_lt_zero _)⟩
  · obtain ⟨⟨t1, t2, t3⟩, ⟨g1, g2, g3, g4, g5⟩, g6⟩ := key
    have g2 : t1 = _ := g2
    refine ⟨t3, ?_, g3, g5⟩
    unfold FX1_split
    rw [g6, g2]
  · intro p st hp hI
    obtain ⟨t1, t2, t3⟩ := st
    obtain ⟨g1, g2, g3, g4, g5⟩ := hI
    have g1 : t2 = _ := g1
    have g2 : t1 = _ := g2
    have g4 : ∀ q, q < 2401 → t3.1 21 q = _ := g4
    subst g1 g2
    have hg := gRun_le W p
    by_cases h : (gRun W p).1 p = true
    · obtain ⟨M1, a1, a2, a3⟩ := oneC hp h g4
      have hq : t3.1 21 p = 1 := by rw [g4 p hp, if_pos h]
      by_cases e : iI ((gRun W p).2.1 : Nat) = x0
      · refine ⟨(iI (((gRun W p).2.1 + 1 : Nat) : Int), iI ((p + 1 : Nat) : Int), zwr (zwr M1 20 2 (iI p)) 20 3 (iI ((gCol 2402 0 (gOne (gRun W p).1 p)).1 : Nat))), ⟨rfl, ?_, ((g3.tr (a3.mono (by decide))).wr (by decide)).wr (by decide), ?_, ?_⟩, fun rec => ?_⟩
        · rw [gRun_p h]
        · intro q hq
          rw [gRun_p h]
          show (zwr (zwr M1 20 2 _) 20 3 _).1 21 q = _
          rw [zwr_nc (by decide), zwr_nc (by decide)]
          exact a2.1 q hq
        · intro w hw1 hw2
          rw [gRun_p h] at hw2 ⊢
          have hw2 : w < (gRun W p).2.1 + 1 := hw2
          have ew : (gRun W p).2.1 = w := by
            have := (iEq (by omega) (by omega)).mp (e.trans hw1)
            omega
          subst ew
          show (zwr (zwr M1 20 2 _) 20 3 _).1 20 2 = iI (gU _ _ _ _ : Nat) ∧ (zwr (zwr M1 20 2 _) 20 3 _).1 20 3 = iI (gU _ _ _ _ : Nat)
          rw [gU_eq, gU_eq, zwr_eq, zwr_nj (by decide), zwr_eq]
          exact ⟨rfl, rfl⟩
        · unfold FX1_split_L4
          show (if iI p < (2401 : Int32) then _ else _) = _
          rw [show (2401 : Int32) = iI 2401 from rfl, if_pos ((iLt (by omega) (by omega)).mpr (by omega))]
          refine (zgI (by omega) (by omega) (by omega)).trans ?_
          show (if zrd t3 21 (iI p) = 0 then _ else _) = _
          rw [zrI _ _ (by omega) (by omega), Int.toNat_natCast, hq, if_neg (by decide)]
          show (FX1_collect (iI p) t3).bind _ = _
          rw [a1, Option.bind_some, if_pos e]
          simp only [zlet]
          rw [iA1, iA1]
      · refine ⟨(iI (((gRun W p).2.1 + 1 : Nat) : Int), iI ((p + 1 : Nat) : Int), M1), ⟨rfl, ?_, g3.tr (a3.mono (by decide)), ?_, ?_⟩, fun rec => ?_⟩
        · rw [gRun_p h]
        · intro q hq
          rw [gRun_p h]
          exact a2.1 q hq
        · intro w hw1 hw2
          rw [gRun_p h] at hw2 ⊢
          have hw2 : w < (gRun W p).2.1 + 1 := hw2
          have ew : w ≠ (gRun W p).2.1 := fun z => e (by rw [hw1, z])
          show M1.1 20 2 = iI (gU _ _ _ _ : Nat) ∧ M1.1 20 3 = iI (gU _ _ _ _ : Nat)
          rw [gU_ne ew, gU_ne ew, a3.1 20 (by decide)]
          exact g5 w hw1 (by omega)
        · unfold FX1_split_L4
          show (if iI p < (2401 : Int32) then _ else _) = _
          rw [show (2401 : Int32) = iI 2401 from rfl, if_pos ((iLt (by omega) (by omega)).mpr (by omega))]
          refine (zgI (by omega) (by omega) (by omega)).trans ?_
          show (if zrd t3 21 (iI p) = 0 then _ else _) = _
          rw [zrI _ _ (by omega) (by omega), Int.toNat_natCast, hq, if_neg (by decide)]
          show (FX1_collect (iI p) t3).bind _ = _
          rw [a1, Option.bind_some, if_neg e]
          simp only [zlet]
          rw [iA1, iA1]
    · have hq : t3.1 21 p = 0 := by rw [g4 p hp, if_neg h]
      refine ⟨(iI ((gRun W p).2.1 : Nat), iI ((p + 1 : Nat) : Int), t3), ⟨rfl, ?_, g3, ?_, ?_⟩, fun rec => ?_⟩
      · rw [gRun_n h]
      · rw [gRun_n h]; exact g4
      · rw [gRun_n h]; exact g5
      · unfold FX1_split_L4
        show (if iI p < (2401 : Int32) then _ else _) = _
        rw [show (2401 : Int32) = iI 2401 from rfl, if_pos ((iLt (by omega) (by omega)).mpr (by omega))]
        refine (zgI (by omega) (by omega) (by omega)).trans ?_
        show (if zrd t3 21 (iI p) = 0 then _ else _) = _
        rw [zrI _ _ (by omega) (by omega), Int.toNat_natCast, hq, if_pos rfl]
        simp only [zlet]
        rw [iA1]
  · intro st hI rec
    obtain ⟨t1, t2, t3⟩ := st
    obtain ⟨g1, -⟩ := hI
    have g1 : t2 = iI ((2401 : Nat) : Int) := g1
    subst g1
    unfold FX1_split_L4
    show (if iI ((2401 : Nat) : Int) < (2401 : Int32) then _ else _) = _
    rw [if_neg (by decide)]
