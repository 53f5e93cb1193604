/-! ===== groups: the reference's flood ===== -/
/-- a frame of the reference: outside some cells, and the first slots of its own object -/
def zfq (S : List Nat) (M M' : zMem) : Prop := (∀ c, c ∉ S → c ≠ 100 → M'.1 c = M.1 c) ∧ (∀ j, j < 22 → M'.1 100 j = M.1 100 j) ∧ M'.2 = M.2
theorem zfq.rf {S : List Nat} {M : zMem} : zfq S M M := ⟨fun _ _ _ => rfl, fun _ _ => rfl, rfl⟩
theorem zfq.tr {S : List Nat} {M M1 M2 : zMem} (h1 : zfq S M M1) (h2 : zfq S M1 M2) : zfq S M M2 := ⟨fun c a b => (h2.1 c a b).trans (h1.1 c a b), fun j hj => (h2.2.1 j hj).trans (h1.2.1 j hj), h2.2.2.trans h1.2.2⟩
theorem zfq.wr {S : List Nat} {M M1 : zMem} {q i : Nat} {v : Int32} (h : zfq S M M1) (hq : q ∈ S) (h100 : q ≠ 100) : zfq S M (zwr M1 q i v) := ⟨fun c a b => (zwr_ne (c := c) (q := q) (fun e => a (by rw [e]; exact hq))).trans (h.1 c a b), fun j hj => (zwr_nc (Ne.symm h100)).trans (h.2.1 j hj), h.2.2⟩
theorem zfq.ws {S : List Nat} {M M1 : zMem} {i : Nat} {v : Int32} (h : zfq S M M1) (hi : 22 ≤ i) : zfq S M (zwr M1 100 i v) := ⟨fun c a b => (zwr_ne b).trans (h.1 c a b), fun j hj => (zwr_nj (by omega)).trans (h.2.1 j hj), h.2.2⟩
theorem zfr.q {S S' : List Nat} {M M' : zMem} (h : zfr S M M') (hs : ∀ c ∈ S, c ∈ S' ∧ c ≠ 100) : zfq S' M M' := ⟨fun c a _ => h.1 c (fun z => a (hs c z).1), fun j _ => by rw [h.1 100 (fun z => (hs 100 z).2 rfl)], h.2⟩
theorem zfq.agC {S : List Nat} {M M' : zMem} (f : zfq S M M') (hS : ∀ c ∈ S, 100 ≤ c) : zagC M M' := ⟨fun c hc => f.1 c (fun z => by have := hS c z; omega) (by omega), by rw [f.2.2]⟩
theorem zIM.qq {S : zSt} {Q : List Nat} {M M' : zMem} (h : zIM S M) (hQ : ∀ c ∈ Q, 107 ≤ c) (f : zfq Q M M') : zIM S M' := by
  have n : ∀ c, 101 ≤ c → c < 107 → M'.1 c = M.1 c := fun c h1 h2 => f.1 c (fun z => by have := hQ c z; omega) (by omega)
  have j : ∀ i, i < 22 → M'.1 100 i = M.1 100 i := f.2.1
  exact ⟨h.1.fr (fun i hi => j i (by omega)) (n 101 (by omega) (by omega)), h.2.1.fr (j 5 (by omega)) (n 102 (by omega) (by omega)), h.2.2.1.fr (fun i hi => j i (by omega)) (n 103 (by omega) (by omega)) (n 104 (by omega) (by omega)) (n 105 (by omega) (by omega)), h.2.2.2.fr (j 9 (by omega)) (n 106 (by omega) (by omega)) (by rw [f.2.2])⟩
def gRM (g : Nat) (s : gSt) (M : zMem) : Prop := (∀ p, p < 2401 → (s.2.1 p = true ↔ ¬ M.1 109 p = 0 ∧ M.1 110 p = -9)) ∧ (∀ i, i < s.1 → M.1 111 i = iI (s.2.2 i : Nat)) ∧ M.1 100 22 = iI g
theorem g_m9 {g : Nat} (h : g ≤ 2401) : ¬ iI g = (-9 : Int32) := by
  rw [show (-9 : Int32) = iI (-9) from rfl, iEq (by omega) (by omega)]
  omega
theorem gRM.vs {g : Nat} {s : gSt} {M : zMem} {p : Nat} (hg : g ≤ 2401) (h : gRM g s M) (hw : s.2.1 p = true) : gRM g (gVs p s) (zwr (zwr M 110 p (iI g)) 111 s.1 (iI (p : Nat))) := by
  unfold gVs
  rw [if_pos hw]
  refine ⟨fun q hq => ?_, fun i hi => ?_, ?_⟩
  · rw [zwr_nc (by decide), zwr_nc (by decide), zwr_nc (by decide)]
    show gU s.2.1 p false q = true ↔ _
    by_cases e : q = p
    · subst e
      rw [zwr_eq, gU_eq]
      exact ⟨fun z => absurd z (by decide), fun z => absurd z.2 (g_m9 hg)⟩
    · rw [zwr_nj e, gU_ne e]
      exact h.1 q hq
  · have hi : i < s.1 + 1 := hi
    show _ = iI (gU s.2.2 s.1 p i : Nat)
    by_cases e : i = s.1
    · subst e
      rw [zwr_eq, gU_eq]
    · rw [zwr_nj e, zwr_nc (by decide), gU_ne e]
      exact h.2.1 i (by omega)
  · rw [zwr_nc (by decide), zwr_nc (by decide)]
    exact h.2.2
theorem rem3 {k : Nat} (h : k < 9) : zrem (iI k) 3 = iI (k % 3 : Nat) := by
  rw [show (3 : Int32) = iI 3 from rfl, iR (by omega) (by omega)]
  congr 1
theorem div3 {k : Nat} (h : k < 9) : iI k / 3 = iI (k / 3 : Nat) := by
  rw [show (3 : Int32) = iI 3 from rfl, iD (by omega) (by omega)]
  congr 1
theorem visM {g : Nat} {s : gSt} {M : zMem} (hg : g ≤ 2401) (hv : gIv s) (hc : gRM g s M) {c r : Int} {k : Nat} (hk : k < 9) (hc0 : 0 ≤ c ∧ c ≤ 48) (hr0 : 0 ≤ r ∧ r ≤ 48) : ∃ M', gRM g (gV (c + (k % 3 : Nat) - 1) (r + (k / 3 : Nat) - 1) s) M' ∧ zfr [110, 111] M M' ∧ ∀ (r4 : (Int32 × Int32 × zMem) → Option zMem) (s5 : Int32 × Int32 × zMem) (rec : (Int32 × Int32 × zMem) → Option zMem), FX8_spread_L57 r4 s5 (iI (c - 24)) (iI (r - 24)) rec (iI (s.1 : Nat), iI k, M) = rec (iI ((gV (c + (k % 3 : Nat) - 1) (r + (k / 3 : Nat) - 1) s).1 : Nat), iI ((k + 1 : Nat) : Int), M') := by
  have ea : iI (c - 24) + zrem (iI k) 3 - 1 = iI (c + (k % 3 : Nat) - 1 - 24) := by
    rw [rem3 hk, iA, show (1 : Int32) = iI 1 from rfl, iS]
    congr 1
    omega
  have eb : iI (r - 24) + iI k / 3 - 1 = iI (r + (k / 3 : Nat) - 1 - 24) := by
    rw [div3 hk, iA, show (1 : Int32) = iI 1 from rfl, iS]
    congr 1
    omega
  have ha : -1 ≤ c + (k % 3 : Nat) - 1 ∧ c + (k % 3 : Nat) - 1 ≤ 49 := by omega
  have hb : -1 ≤ r + (k / 3 : Nat) - 1 ∧ r + (k / 3 : Nat) - 1 ≤ 49 := by omega
  revert ea eb ha hb
  generalize c + (k % 3 : Nat) - 1 = a
  generalize r + (k / 3 : Nat) - 1 = b
  intro ea eb ha hb
  have hs := hv.1
  have hpi : pIn 24 (iI (a - 24)) (iI (b - 24)) ↔ (0 ≤ a ∧ a ≤ 48) ∧ (0 ≤ b ∧ b ≤ 48) := by
    rw [pIn_I (by omega) (by omega)]
    omega
  by_cases hin : (0 ≤ a ∧ a ≤ 48) ∧ (0 ≤ b ∧ b ≤ 48)
  · have eV : gV a b s = gVs (49 * b + a).toNat s := if_pos hin
    rw [eV]
    have hp : (49 * b + a).toNat < 2401 := by omega
    have epx : FX8_pixel (iI (a - 24)) (iI (b - 24)) = some (iI ((49 * b + a).toNat : Nat)) := by
      rw [pixel_eq]
      congr 2
      omega
    have hw := hc.1 _ hp
    generalize hq : (49 * b + a).toNat = p at *
    by_cases w : s.2.1 p = true
    · have hn := hv.lt hp w
      have hw := hw.mp w
      have hgs : gVs p s = (s.1 + 1, gU s.2.1 p false, gU s.2.2 s.1 p) := if_pos w
      refine ⟨zwr (zwr M 110 p (iI g)) 111 s.1 (iI (p : Nat)), hc.vs hg w, (zfr.rf.wr (by decide)).wr (by decide), fun r4 s5 rec => ?_⟩
      unfold FX8_spread_L57
      simp only [zlet]
      rw [if_pos (show iI (k : Int) < (9 : Int32) from (iLt (b := 9) (by omega) (by omega)).mpr (by omega)), ea, eb, isPixel_eq, Option.bind_some, zb_if, if_pos (hpi.mpr hin), epx]
      simp only [Option.bind_some]
      rw [zgI (by omega) (by omega) (by omega), zrI _ _ (by omega) (by omega), Int.toNat_natCast, if_neg hw.1, zgI (by omega) (by omega) (by omega), zrI _ _ (by omega) (by omega), Int.toNat_natCast, if_pos hw.2, zgI (by omega) (by omega) (by omega), zgI (by omega) (by omega) (by omega), iC (by omega) (by omega), iC (by omega) (by omega), Int.toNat_natCast, Int.toNat_natCast, hc.2.2, iA1, iA1, hgs]
    · have hgs : gVs p s = s := if_neg w
      rw [hgs]
      refine ⟨M, hc, zfr.rf, fun r4 s5 rec => ?_⟩
      unfold FX8_spread_L57
      simp only [zlet]
      rw [if_pos (show iI (k : Int) < (9 : Int32) from (iLt (b := 9) (by omega) (by omega)).mpr (by omega)), ea, eb, isPixel_eq, Option.bind_some, zb_if, if_pos (hpi.mpr hin), epx]
      simp only [Option.bind_some]
      rw [zgI (by omega) (by omega) (by omega), zrI _ _ (by omega) (by omega), Int.toNat_natCast]
      by_cases h1 : M.1 109 p = 0
      · rw [if_pos h1, iA1]
      · rw [if_neg h1, zgI (by omega) (by omega) (by omega), zrI _ _ (by omega) (by omega), Int.toNat_natCast, if_neg (fun z => w (hw.mpr ⟨h1, z⟩)), iA1]
  · rw [gV_out hin]
    refine ⟨M, hc, zfr.rf, fun r4 s5 rec => ?_⟩
    unfold FX8_spread_L57
    simp only [zlet]
    rw [if_pos (show iI (k : Int) < (9 : Int32) from (iLt (b := 9) (by omega) (by omega)).mpr (by omega)), ea, eb, isPixel_eq, Option.bind_some, zb_if, if_neg (fun z => hin (hpi.mp z)), iA1]
theorem nbM {g : Nat} {s : gSt} {M : zMem} (hg : g ≤ 2401) (hv : gIv s) (hc : gRM g s M) {p : Nat} (hp : p < 2401) (s5 : Int32 × Int32 × zMem) {i : Nat} (h5 : s5.2.1 = iI i) : ∃ M', (gRM g (gNb p s) M' ∧ zfr [110, 111] M M') ∧ ∀ (r4 : (Int32 × Int32 × zMem) → Option zMem), zloop (FX8_spread_L57 r4 s5 (iI (pX p)) (iI (pY p))) zFuel (iI (s.1 : Nat), (0 : Int32), M) = r4 (iI ((gNb p s).1 : Nat), iI ((i + 1 : Nat) : Int), M') := by
  have hr : 0 ≤ ((p / 49 : Nat) : Int) ∧ ((p / 49 : Nat) : Int) ≤ 48 := by omega
  have hc0 : 0 ≤ ((p % 49 : Nat) : Int) ∧ ((p % 49 : Nat) : Int) ≤ 48 := by omega
  have key := zloop_invK (κ := (Int32 × Int32 × zMem) → Option zMem) (f := fun r4 => FX8_spread_L57 r4 s5 (iI (pX p)) (iI (pY p))) (r := fun r4 st => r4 (st.1, iI ((i + 1 : Nat) : Int), st.2.2)) (fun k st => gRM g (gK (p % 49 : Nat) (p / 49 : Nat) k s) st.2.2 ∧ zfr [110, 111] M st.2.2 ∧ st.1 = iI ((gK (p % 49 : Nat) (p / 49 : Nat) k s).1 : Nat) ∧ st.2.1 = iI k) 9 ?_ ?_ 9 0 zFuel (iI (s.1 : Nat), (0 : Int32), M) rfl (zfu (by omega)) ⟨hc, zfr.rf, rfl, rfl⟩
  · obtain ⟨⟨t1, t2, t3⟩, ⟨g1, g2, g3, g4⟩, g5⟩ := key
    have g3 : t1 = _ := g3
    refine ⟨t3, ⟨g1, g2⟩, fun r4 => (g5 r4).trans ?_⟩
    rw [g3]
    rfl
  · intro k st hk hI
    obtain ⟨t1, t2, t3⟩ := st
    obtain ⟨g1, g2, g3, g4⟩ := hI
    have g3 : t1 = _ := g3
    have g4 : t2 = _ := g4
    subst g3 g4
    obtain ⟨M', k1, k2, k3⟩ := visM hg (hv.k (p % 49 : Nat) (p / 49 : Nat) k) g1 hk hc0 hr
    exact ⟨(_, _, M'), ⟨k1, g2.tr k2, rfl, rfl⟩, fun q rec => k3 q s5 rec⟩
  · intro st hI q rec
    obtain ⟨t1, t2, t3⟩ := st
    obtain ⟨-, -, -, g4⟩ := hI
    have g4 : t2 = iI ((9 : Nat) : Int) := g4
    subst g4
    show FX8_spread_L57 q s5 _ _ rec _ = _
    unfold FX8_spread_L57
    rw [if_neg (show ¬ iI ((9 : Nat) : Int) < (9 : Int32) by decide)]
    simp only [zlet]
    rw [h5, iA1]
theorem colM_step {g : Nat} (hg : g < 2401) (x0 : Int32) {i : Nat} {s : gSt} {M : zMem} (hi : i < s.1) (hv : gIv s) (hc : gRM g s M) : ∃ M', (gRM g (gNb (s.2.2 i) s) M' ∧ zfr [110, 111] M M') ∧ ∀ r4, FX8_spread_L21 x0 r4 (iI (s.1 : Nat), iI i, M) = r4 (iI ((gNb (s.2.2 i) s).1 : Nat), iI ((i + 1 : Nat) : Int), M') := by
  have hs := hv.1
  have hq := hv.2 i hi
  obtain ⟨M1, a1, a3⟩ := nbM (Nat.le_of_lt hg) hv hc hq (iI (s.1 : Nat), iI i, M) (i := i) rfl
  refine ⟨M1, a1, fun r4 => ?_⟩
  unfold FX8_spread_L21
  rw [if_pos (show iI i < iI (s.1 : Nat) from (iLt (by omega) (by omega)).mpr (by omega))]
  refine (zgI (by omega) (by omega) (by omega)).trans ?_
  simp only [zlet_e]
  rw [zgI (by omega) (by omega) (by omega), zrI _ _ (by omega) (by omega), Int.toNat_natCast, hc.2.1 i hi, xOfM hq, yOfM hq]
  exact a3 r4
theorem colM_end {g : Nat} (hg : g < 2401) (x0 : Int32) {i : Nat} {s : gSt} {M : zMem} (hi : ¬ i < s.1) (hi2 : i ≤ 2402) (hv : gIv s) (hc : gRM g s M) (r4 : (Int32 × Int32 × zMem) → Option zMem) : FX8_spread_L21 x0 r4 (iI (s.1 : Nat), iI i, M) = some (zwr (zwr (zwr M 112 g x0) 113 g (iI (s.1 : Nat))) 100 22 (iI ((g + 1 : Nat) : Int))) := by
  have hs := hv.1
  unfold FX8_spread_L21
  rw [if_neg (show ¬ iI i < iI (s.1 : Nat) from fun z => by have := (iLt (by omega) (by omega)).mp z; omega)]
  simp only [zlet_e]
  rw [hc.2.2, zgI (by omega) (by omega) (by omega), iC (by omega) (by omega), Int.toNat_natCast, zwr_nc (c := 100) (q := 112) (by decide), hc.2.2, zgI (by omega) (by omega) (by omega), iC (by omega) (by omega), Int.toNat_natCast, zwr_nc (c := 100) (q := 113) (by decide), zwr_nc (c := 100) (q := 112) (by decide), hc.2.2, iA1]
theorem colM {g : Nat} (hg : g < 2401) (x0 : Int32) : ∀ (f i n : Nat) (s : gSt) (M : zMem), i + f = 2402 → i ≤ s.1 → f < n → gIv s → gRM g s M → ∃ M', gRM g (gCol f i s) M' ∧ zfr [110, 111] M M' ∧ zloop (FX8_spread_L21 x0) n (iI (s.1 : Nat), iI i, M) = some (zwr (zwr (zwr M' 112 g x0) 113 g (iI ((gCol f i s).1 : Nat))) 100 22 (iI ((g + 1 : Nat) : Int))) := by
  intro f
  induction f with
  | zero =>
    intro i n s M h1 h2 _ hv
    have := hv.1
    omega
  | succ f ih =>
    intro i n s M h1 h2 hn hv hc
    have hs := hv.1
    cases n with
    | zero => omega
    | succ n =>
      have eG : gCol (f + 1) i s = if i < s.1 then gCol f (i + 1) (gNb (s.2.2 i) s) else s := rfl
      rw [eG, zloop_s]
      by_cases hi : i < s.1
      · have hle := gNb_le (s.2.2 i) s
        obtain ⟨M1, ⟨a1, a2⟩, a3⟩ := colM_step hg x0 hi hv hc
        obtain ⟨M2, b1, b2, b3⟩ := ih (i + 1) n (gNb (s.2.2 i) s) M1 (by omega) (by omega) (by omega) (gNb_iv hv _) a1
        rw [if_pos hi]
        exact ⟨M2, b1, a2.tr b2, (a3 _).trans b3⟩
      · rw [if_neg hi]
        exact ⟨M, hc, zfr.rf, colM_end hg x0 hi (by omega) hv hc _⟩
theorem oneM {g : Nat} {W : Nat → Bool} {M : zMem} {p : Nat} (hg : g < 2401) (hp : p < 2401) (hw : W p = true) (hm : ∀ q, q < 2401 → (W q = true ↔ ¬ M.1 109 q = 0 ∧ M.1 110 q = -9)) (h22 : M.1 100 22 = iI g) : ∃ M', gRM g (gCol 2402 0 (gOne W p)) M' ∧ zfr [110, 111] M M' ∧ FX8_spread (iI p) M = some (zwr (zwr (zwr M' 112 g (iI p)) 113 g (iI ((gCol 2402 0 (gOne W p)).1 : Nat))) 100 22 (iI ((g + 1 : Nat) : Int))) := by
  have h1 : gRM g (gOne W p) (zwr (zwr M 111 0 (iI p)) 110 p (iI g)) := by
    refine ⟨fun q hq => ?_, fun i hi => ?_, ?_⟩
    · rw [zwr_nc (c := 109) (by decide), zwr_nc (c := 109) (by decide)]
      show gU W p false q = true ↔ _
      by_cases e : q = p
      · subst e
        rw [zwr_eq, gU_eq]
        exact ⟨fun z => absurd z (by decide), fun z => absurd z.2 (g_m9 (Nat.le_of_lt hg))⟩
      · rw [zwr_nj e, zwr_nc (by decide), gU_ne e]
        exact hm q hq
    · have hi : i < 1 := hi
      have hi0 : i = 0 := by omega
      subst hi0
      rw [zwr_nc (by decide), zwr_eq]
      rfl
    · rw [zwr_nc (by decide), zwr_nc (by decide)]
      exact h22
  obtain ⟨M', a1, a2, a3⟩ := colM hg (iI p) 2402 0 zFuel (gOne W p) _ rfl (Nat.zero_le _) (zfu (by omega)) (gIv.one hp hw) h1
  refine ⟨M', a1, ((zfr.rf.wr (by decide)).wr (by decide)).tr a2, ?_⟩
  unfold FX8_spread
  simp only [zlet_e]
  rw [zgT (show zin (0 : Int32) 2401 = true from rfl), zgI (by omega) (by omega) (by omega), iC (by omega) (by omega), Int.toNat_natCast, zwr_nc (c := 100) (by decide), h22]
  exact (congrArg (zloop (FX8_spread_L21 (iI p)) zFuel) (show ((1 : Int32), (0 : Int32), zwr (zwr M 111 (zcl (0 : Int32)) (iI p)) 110 p (iI g)) = (iI ((gOne W p).1 : Nat), iI ((0 : Nat) : Int), zwr (zwr M 111 0 (iI p)) 110 p (iI g)) from rfl)).trans a3
theorem groupsM_eq {W : Nat → Bool} {M : zMem} (hm : ∀ q, q < 2401 → (W q = true ↔ ¬ M.1 109 q = 0)) : ∃ M', FX8_findGroups M = some M' ∧ zfq [110, 111, 112, 113] M M' ∧ M'.1 100 22 = iI ((gRun W 2401).2.1 : Nat) ∧ ∀ w : Nat, w < (gRun W 2401).2.1 → M'.1 112 w = iI ((gRun W 2401).2.2.1 w : Nat) ∧ M'.1 113 w = iI ((gRun W 2401).2.2.2 w : Nat) := by
  obtain ⟨M0, ⟨w1, w2⟩, w3⟩ := groups_wipe (zwr M 100 22 0)
  have hf0 : zfq [110, 111, 112, 113] M M0 := (zfq.rf.ws (by omega)).tr (w1.q (by decide))
  have h109 : ∀ q, M0.1 109 q = M.1 109 q := fun q => congrFun (hf0.1 109 (by decide) (by decide)) q
  have key := zloop_inv (f := FX8_findGroups_L30) (r := fun st => some st.2) (fun p st => st.1 = iI p ∧ zfq [110, 111, 112, 113] M st.2 ∧ (∀ q, q < 2401 → ((gRun W p).1 q = true ↔ ¬ st.2.1 109 q = 0 ∧ st.2.1 110 q = -9)) ∧ st.2.1 100 22 = iI ((gRun W p).2.1 : Nat) ∧ ∀ w : Nat, w < (gRun W p).2.1 → st.2.1 112 w = iI ((gRun W p).2.2.1 w : Nat) ∧ st.2.1 113 w = iI ((gRun W p).2.2.2 w : Nat)) 2401 ?_ ?_ 2401 0 zFuel ((0 : Int32), M0) rfl (zfu (by omega)) ⟨rfl, hf0, fun q hq => ?_, ?_, fun w hw => absurd hw (Nat.not_lt_zero _)⟩
  · obtain ⟨⟨t1, t2⟩, ⟨g1, g2, g3, g4, g5⟩, g6⟩ := key
    refine ⟨t2, ?_, g2, g4, g5⟩
    unfold FX8_findGroups
    simp only [zlet_e]
    rw [w3]
    exact g6
  · intro p st hp hI
    obtain ⟨t1, t2⟩ := st
    obtain ⟨g1, g2, g3, g4, g5⟩ := hI
    have g1 : t1 = _ := g1
    have g3 : ∀ q, q < 2401 → ((gRun W p).1 q = true ↔ ¬ t2.1 109 q = 0 ∧ t2.1 110 q = -9) := g3
    subst g1
    have hg := gRun_le W p
    by_cases h : (gRun W p).1 p = true
    · have hw := (g3 p hp).mp h
      obtain ⟨M1, a1, a2, a3⟩ := oneM (g := (gRun W p).2.1) (by omega) hp h g3 g4
      refine ⟨(iI ((p + 1 : Nat) : Int), zwr (zwr (zwr M1 112 (gRun W p).2.1 (iI p)) 113 (gRun W p).2.1 (iI ((gCol 2402 0 (gOne (gRun W p).1 p)).1 : Nat))) 100 22 (iI (((gRun W p).2.1 + 1 : Nat) : Int))), ⟨rfl, (((g2.tr (a2.q (by decide))).wr (by decide) (by decide)).wr (by decide) (by decide)).ws (by omega), ?_, ?_, ?_⟩, fun rec => ?_⟩
      · intro q hq
        rw [gRun_p h]
        show (gCol 2402 0 (gOne (gRun W p).1 p)).2.1 q = true ↔ ¬ (zwr (zwr (zwr M1 112 _ _) 113 _ _) 100 22 _).1 109 q = 0 ∧ (zwr (zwr (zwr M1 112 _ _) 113 _ _) 100 22 _).1 110 q = -9
        rw [zwr_nc (by decide), zwr_nc (by decide), zwr_nc (by decide), zwr_nc (by decide), zwr_nc (by decide), zwr_nc (by decide)]
        exact a1.1 q hq
      · rw [gRun_p h]
        exact zwr_eq
      · intro w hw2
        rw [gRun_p h] at hw2 ⊢
        have hw2 : w < (gRun W p).2.1 + 1 := hw2
        show (zwr (zwr (zwr M1 112 _ _) 113 _ _) 100 22 _).1 112 w = iI (gU _ _ _ _ : Nat) ∧ (zwr (zwr (zwr M1 112 _ _) 113 _ _) 100 22 _).1 113 w = iI (gU _ _ _ _ : Nat)
        rw [zwr_nc (c := 112) (q := 100) (by decide), zwr_nc (c := 113) (q := 100) (by decide), zwr_nc (c := 112) (q := 113) (by decide)]
        by_cases e : w = (gRun W p).2.1
        · rw [e, zwr_eq, zwr_eq, gU_eq, gU_eq]
          exact ⟨rfl, rfl⟩
        · rw [zwr_nj e, zwr_nj e, zwr_nc (c := 113) (q := 112) (by decide), gU_ne e, gU_ne e, a2.1 112 (by decide), a2.1 113 (by decide)]
          exact g5 w (by omega)
      · unfold FX8_findGroups_L30
        show (if iI p < (2401 : Int32) then _ else _) = _
        rw [show (2401 : Int32) = iI 2401 from rfl, if_pos ((iLt (by omega) (by omega)).mpr (by omega))]
        refine (zgI (by omega) (by omega) (by omega)).trans ?_
        show (if zrd t2 109 (iI p) = 0 then _ else _) = _
        rw [zrI _ _ (by omega) (by omega), Int.toNat_natCast, if_neg hw.1]
        refine (zgI (by omega) (by omega) (by omega)).trans ?_
        show (if zrd t2 110 (iI p) = -9 then _ else _) = _
        rw [zrI _ _ (by omega) (by omega), Int.toNat_natCast, if_pos hw.2]
        show (FX8_spread (iI p) t2).bind _ = _
        rw [a3, Option.bind_some]
        simp only [zlet_e]
        rw [iA1]
    · refine ⟨(iI ((p + 1 : Nat) : Int), t2), ⟨rfl, g2, ?_, ?_, ?_⟩, fun rec => ?_⟩
      · rw [gRun_n h]; exact g3
      · rw [gRun_n h]; exact g4
      · rw [gRun_n h]; exact g5
      · unfold FX8_findGroups_L30
        show (if iI p < (2401 : Int32) then _ else _) = _
        rw [show (2401 : Int32) = iI 2401 from rfl, if_pos ((iLt (by omega) (by omega)).mpr (by omega))]
        refine (zgI (by omega) (by omega) (by omega)).trans ?_
        show (if zrd t2 109 (iI p) = 0 then _ else _) = _
        rw [zrI _ _ (by omega) (by omega), Int.toNat_natCast]
        simp only [zlet_e]
        by_cases h1 : t2.1 109 p = 0
        · rw [if_pos h1, iA1]
        · rw [if_neg h1]
          refine (zgI (by omega) (by omega) (by omega)).trans ?_
          show (if zrd t2 110 (iI p) = -9 then _ else _) = _
          rw [zrI _ _ (by omega) (by omega), Int.toNat_natCast, if_neg (fun z => h ((g3 p hp).mpr ⟨h1, z⟩)), iA1]
  · intro st hI rec
    obtain ⟨t1, t2⟩ := st
    obtain ⟨g1, -⟩ := hI
    have g1 : t1 = iI ((2401 : Nat) : Int) := g1
    subst g1
    unfold FX8_findGroups_L30
    show (if iI ((2401 : Nat) : Int) < (2401 : Int32) then _ else _) = _
    rw [if_neg (by decide)]
  · show W q = true ↔ ¬ M0.1 109 q = 0 ∧ M0.1 110 q = -9
    rw [h109, hm q hq]
    exact ⟨fun z => ⟨z, w2 q hq⟩, fun z => z.1⟩
  · show M0.1 100 22 = iI 0
    rw [w1.1 100 (by decide)]
    exact zwr_eq
