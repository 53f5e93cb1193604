/-! ===== trials: aim, shown, holds ===== -/
/-- the lens with a model's weights -/
def wL (L : zL) (k d n : Nat) : zL := (L.1, fun b f => if b < k ∧ f = 3 then ((n / d ^ b % d : Nat) : Int) else L.2.1 b f, L.2.2)
theorem wL_R {L : zL} (hr : zRL L) {k d n : Nat} (hd : 2 ≤ d ∧ d ≤ 16) : zRL (wL L k d n) := by
  refine ⟨hr.1, fun b f hb hf => ?_, hr.2.2⟩
  show fLo f ≤ (if b < k ∧ f = 3 then ((n / d ^ b % d : Nat) : Int) else L.2.1 b f) ∧ (if b < k ∧ f = 3 then ((n / d ^ b % d : Nat) : Int) else L.2.1 b f) ≤ fHi f
  by_cases h : b < k ∧ f = 3
  · rw [if_pos h, h.2]
    have := Nat.mod_lt (n / d ^ b) (show 0 < d by omega)
    show (0 : Int) ≤ _ ∧ _ ≤ (400 : Int)
    omega
  · rw [if_neg h]
    exact hr.2.1 b f hb hf
theorem bV_congr {F F' : Nat → Int} (h : ∀ f, f ≠ 3 → F f = F' f) (kd w x y ax : Int) : bV F kd w x y ax = bV F' kd w x y ax := by
  unfold bV bP bD bR
  rw [h 1 (by decide), h 2 (by decide), h 4 (by decide), h 5 (by decide)]
def sW (L : zL) (d n : Nat) (x y a : Int) : Nat → Int
  | 0 => 0
  | b + 1 => sW L d n x y a b + bW L b (n / d ^ b % d : Nat) x y a
theorem pS_w (L : zL) (k d n : Nat) (x y a : Int) : ∀ m, pS (wL L k d n).2.1 x y a m = (if m ≤ k then sW L d n x y a m else sW L d n x y a k + (pS L.2.1 x y a m - pS L.2.1 x y a k)) := by
  intro m
  induction m with
  | zero => rw [if_pos (Nat.zero_le _)]; rfl
  | succ m ih =>
    show pS (wL L k d n).2.1 x y a m + bV ((wL L k d n).2.1 m) ((wL L k d n).2.1 m 0) ((wL L k d n).2.1 m 3) x y a = _
    have e0 : (wL L k d n).2.1 m 0 = L.2.1 m 0 := if_neg (fun z => by omega)
    have eF : bV ((wL L k d n).2.1 m) (L.2.1 m 0) ((wL L k d n).2.1 m 3) x y a = bV (L.2.1 m) (L.2.1 m 0) ((wL L k d n).2.1 m 3) x y a := bV_congr (fun f hf => if_neg (fun z => hf z.2)) _ _ _ _ _
    rw [ih, e0, eF]
    by_cases h : m < k
    · rw [if_pos (show m ≤ k by omega), if_pos (show m + 1 ≤ k by omega)]
      have e3 : (wL L k d n).2.1 m 3 = ((n / d ^ m % d : Nat) : Int) := if_pos ⟨h, rfl⟩
      rw [e3]
      rfl
    · have e3 : (wL L k d n).2.1 m 3 = L.2.1 m 3 := if_neg (fun z => h z.1)
      rw [e3, if_neg (show ¬ m + 1 ≤ k by omega)]
      have es : pS L.2.1 x y a (m + 1) = pS L.2.1 x y a m + bV (L.2.1 m) (L.2.1 m 0) (L.2.1 m 3) x y a := rfl
      rw [es]
      by_cases h2 : m ≤ k
      · have : m = k := by omega
        subst this
        rw [if_pos h2]
        omega
      · rw [if_neg h2]
        omega
theorem lI_w {L : zL} {k d n : Nat} (hk : k ≤ L.1) (x y a : Int) : lI (wL L k d n) x y a = lS L k x y a - sW L d n x y a k := by
  have h1 : lB (wL L k d n) x y a = lB L x y a := rfl
  have h2 := pS_w L k d n x y a L.1
  unfold lI lS
  rw [h1, show (wL L k d n).1 = L.1 from rfl, h2]
  by_cases h : L.1 ≤ k
  · have : L.1 = k := by omega
    rw [if_pos h, this]
    omega
  · rw [if_neg h]
    omega
theorem rwP_sub (P : zPr) (g g' : Int → Int → Int → Int) (r : Nat) : rwP P (fun x y a => g x y a - g' x y a) r = rwP P g r - rwP P g' r := by
  unfold rwP
  by_cases h : r < 20
  · rw [if_pos h, if_pos h, if_pos h]; dsimp only; omega
  · rw [if_neg h, if_neg h, if_neg h]
theorem shB_eq (L : zL) (P : zPr) (d n r : Nat) : ∀ k, shB L P d n r k = rwP P (fun x y a => sW L d n x y a k) r := by
  intro k
  induction k with
  | zero =>
    show (0 : Int) = rwP P (fun _ _ _ => 0) r
    unfold rwP
    by_cases h : r < 20
    · rw [if_pos h]; rfl
    · rw [if_neg h]
  | succ k ih =>
    show shB L P d n r k + rwP P (bW L k (n / d ^ k % d : Nat)) r = rwP P (fun x y a => sW L d n x y a k + bW L k (n / d ^ k % d : Nat) x y a) r
    rw [ih]
    unfold rwP
    by_cases h : r < 20
    · rw [if_pos h, if_pos h, if_pos h]; dsimp only; omega
    · rw [if_neg h, if_neg h, if_neg h]
theorem shI_eq {L : zL} (P : zPr) {k : Nat} (hk : k ≤ L.1) (d n r : Nat) : shI L P k d n r = rwP P (lI (wL L k d n)) r := by
  have e : lI (wL L k d n) = fun x y a => lS L k x y a - sW L d n x y a k := by
    funext x y a
    exact lI_w hk x y a
  unfold shI
  rw [shB_eq, e, rwP_sub]
theorem rwP_le {P : zPr} (hp : zRP P) {g : Int → Int → Int → Int} {B : Int} (hB : 0 ≤ B) (hg : ∀ x y a, (-30 ≤ x ∧ x ≤ 30) → (-30 ≤ y ∧ y ≤ 30) → -B ≤ g x y a ∧ g x y a ≤ B) {r : Nat} (hr : rwOn P r) : -(2 * B) ≤ rwP P g r ∧ rwP P g r ≤ 2 * B := by
  unfold rwP
  have h1 := hp.1
  unfold rwOn at hr
  by_cases h : r < 20
  · rw [if_pos h]
    have q := hp.2.1 (r / 2)
    have a1 := hg _ _ ((r % 2 : Nat) : Int) (q 0 (by omega) (by omega)) (q 1 (by omega) (by omega))
    have a2 := hg _ _ ((r % 2 : Nat) : Int) (q 2 (by omega) (by omega)) (q 3 (by omega) (by omega))
    omega
  · rw [if_neg h]
    have q := hp.2.2.2.1 ((r - 20) / 2) (by omega)
    have a1 := hg _ _ ((r % 2 : Nat) : Int) q.1 q.2
    omega
theorem shI_le {L : zL} {P : zPr} (hr : zRL L) (hp : zRP P) {k d n r : Nat} (hk : k ≤ L.1) (hd : 2 ≤ d ∧ d ≤ 16) (h : rwOn P r) : -106240 ≤ shI L P k d n r ∧ shI L P k d n r ≤ 106240 := by
  rw [shI_eq P hk]
  have := rwP_le hp (g := lI (wL L k d n)) (B := 53120) (by omega) (fun x y a hx hy => by have := lI_le (wL_R hr (k := k) (n := n) hd) (x := x) (y := y) (by omega) (by omega) a; omega) h
  omega
theorem nrem {a d : Nat} (ha : a ≤ 2147483647) (hd : d ≤ 2147483647) : zrem (iI a) (iI d) = iI (a % d : Nat) := by
  rw [iR (by omega) (by omega)]
  congr 1
theorem ndiv {a d : Nat} (ha : a ≤ 2147483647) (hd : d ≤ 2147483647) : iI a / iI d = iI (a / d : Nat) := by
  rw [iD (by omega) (by omega)]
  congr 1
theorem dpow {n d b : Nat} : n / d ^ b / d = n / d ^ (b + 1) := by rw [Nat.div_div_eq_div_mul, Nat.pow_succ]
theorem aim_eq {M : zMem} {k d n : Nat} (hk : k ≤ 3) (hd : 2 ≤ d ∧ d ≤ 16) (hn : n ≤ 2147483647) (h12 : M.1 34 12 = iI k) (h13 : M.1 34 13 = iI d) : ∃ M', FX6_aim (iI n) M = some M' ∧ zfr [93] M M' ∧ ∀ b, b < k → M'.1 93 b = iI ((16 * b + n / d ^ b % d : Nat) : Int) := by
  have key := zloop_inv (f := FX6_aim_L4) (r := fun st => some st.2.2) (fun b st => st.1 = iI (n / d ^ b : Nat) ∧ st.2.1 = iI (b : Int) ∧ zfr [93] M st.2.2 ∧ ∀ b', b' < b → st.2.2.1 93 b' = iI ((16 * b' + n / d ^ b' % d : Nat) : Int)) k ?_ ?_ k 0 zFuel (iI n, (0 : Int32), M) (Nat.zero_add _) (zfu (by omega)) ⟨by show iI n = iI ((n / 1 : Nat) : Int); rw [Nat.div_one], rfl, zfr.rf, fun b' hb' => absurd hb' (Nat.not_lt_zero _)⟩
  · obtain ⟨⟨t1, t2, t3⟩, ⟨-, -, g1, g2⟩, g3⟩ := key
    exact ⟨t3, g3, g1, g2⟩
  · intro b st hb hI
    obtain ⟨t1, t2, t3⟩ := st
    obtain ⟨f1, f2, f3, f4⟩ := hI
    have f1 : t1 = _ := f1
    have f2 : t2 = _ := f2
    have f3 : zfr [93] M t3 := f3
    subst f1 f2
    have hq : n / d ^ b ≤ 2147483647 := Nat.le_trans (Nat.div_le_self _ _) hn
    have hm := Nat.mod_lt (n / d ^ b) (show 0 < d by omega)
    have e34 : t3.1 34 = M.1 34 := f3.1 34 (by decide)
    have hd0 : ¬ iI (d : Int) = 0 := fun z => by have := (i0 (by omega) (by omega)).mp z; omega
    refine ⟨(iI (n / d ^ (b + 1) : Nat), iI ((b + 1 : Nat) : Int), zwr t3 93 b (iI ((16 * b + n / d ^ b % d : Nat) : Int))), ⟨rfl, rfl, f3.wr (by decide), fun b' hb' => ?_⟩, fun rec => ?_⟩
    · by_cases e : b' = b
      · subst e; exact zwr_eq
      · exact (zwr_nj e).trans (f4 b' (by omega))
    · unfold FX6_aim_L4
      dsimp only
      rw [e34, h12, h13, if_pos ((iLt (by omega) (by omega)).mpr (by omega)), if_neg hd0]
      rw [zgI (by omega) (by omega) (by omega), zlet_e, nrem hq (by omega), show (16 : Int32) = iI 16 from rfl, iM, iA, show (b : Int) * 16 + ((n / d ^ b % d : Nat) : Int) = ((16 * b + n / d ^ b % d : Nat) : Int) by omega, iC (by omega) (by omega), Int.toNat_natCast, zwr_nc (c := 34) (by decide), e34, h13, if_neg hd0]
      simp only [zlet_e]
      rw [ndiv hq (by omega), dpow, iA1]
  · intro st hI rec
    obtain ⟨t1, t2, t3⟩ := st
    obtain ⟨f1, f2, f3, -⟩ := hI
    have f2 : t2 = _ := f2
    have f3 : zfr [93] M t3 := f3
    subst f2
    unfold FX6_aim_L4
    dsimp only
    rw [f3.1 34 (by decide), h12, if_neg (fun z => by have := (iLt (a := k) (b := k) (by omega) (by omega)).mp z; omega)]
theorem shown_eq {L : zL} {P : zPr} {M : zMem} {k d n r : Nat} (hk : k ≤ 3) (hd : 2 ≤ d ∧ d ≤ 16) (hr36 : r < 36) (h12 : M.1 34 12 = iI k) (hv : rwV L P k d r M) (ha : ∀ b, b < k → M.1 93 b = iI ((16 * b + n / d ^ b % d : Nat) : Int)) : FX6_shownBy (iI r) M = some (iI (shI L P k d n r)) := by
  unfold FX6_shownBy
  rw [zgI (by omega) (by omega) (by omega), zlet_e, zrI _ _ (by omega) (by omega), Int.toNat_natCast, hv.1]
  refine zloop_end (f := FX6_shownBy_L9 M (iI r)) (fun b => (iI (rwP P (lS L k) r - shB L P d n r b), iI (b : Int))) k ?_ (fun b hb rec => ?_) (fun rec => ?_) (zfu (by omega))
  · show _ = (iI (rwP P (lS L k) r - 0), _)
    rw [Int.sub_zero]
    rfl
  · have hm := Nat.mod_lt (n / d ^ b) (show 0 < d by omega)
    unfold FX6_shownBy_L9
    dsimp only
    rw [h12, if_pos ((iLt (by omega) (by omega)).mpr (by omega)), zgI (by omega) (by omega) (by omega), zgI (by omega) (by omega) (by omega), zrI _ _ (by omega) (by omega), Int.toNat_natCast, ha b hb, zrow_I 56 r (by omega), len48 hr36, zgI (by omega) (by omega) (by omega)]
    simp only [zlet_e]
    rw [zrI _ _ (by omega) (by omega), Int.toNat_natCast, hv.2 b _ hb hm, iS, iA1]
    show rec (iI (rwP P (lS L k) r - shB L P d n r b - rwP P (bW L b (n / d ^ b % d : Nat)) r), _) = rec (iI (rwP P (lS L k) r - (shB L P d n r b + rwP P (bW L b (n / d ^ b % d : Nat)) r)), _)
    rw [Int.sub_sub]
  · unfold FX6_shownBy_L9
    dsimp only
    rw [h12, if_neg (fun z => by have := (iLt (a := k) (b := k) (by omega) (by omega)).mp z; omega)]
    rfl
theorem zTrV.row {L : zL} {P : zPr} {M : zMem} {k d r : Nat} (h : zTrV L P M k d) (hr : rwOn P r) : rwV L P k d r M := ⟨(h.2.2.2.2.2 r hr).1, fun b w hb hw => by
  have := (h.2.2.2.2.2 r hr).2 b w hb hw
  rw [show 56 + 1 + r = 57 + r by omega]
  exact this⟩
theorem holds_eq {L : zL} {P : zPr} {M : zMem} (hr : zRL L) (hP : zCP P M) (hp : zRP P) {k d n : Nat} (hn : n ≤ 2147483647) (hV : zTrV L P M k d) : ∃ M', FX6_holds (iI n) M = some (zb (fitP L P k d n), M') ∧ zfr [93] M M' := by
  have hk := hV.1
  have hd := hV.2.1
  obtain ⟨M1, a1, a2, a3⟩ := aim_eq (n := n) hk.2.1 hd hn hV.2.2.1 hV.2.2.2.1
  have hrow : ∀ r, rwOn P r → rwV L P k d r M1 := fun r hr => (hV.row hr).fr (by rw [a2.1 55 (by decide)]) (by rw [a2.1 (56 + 1 + r) (by
    have h1 := hp.1
    have h2 := hp.2.2.1
    unfold rwOn at hr
    simp only [List.mem_cons, List.not_mem_nil, or_false]
    omega)])
  have e34 : M1.1 34 = M.1 34 := a2.1 34 (by decide)
  have h12 : M1.1 34 12 = iI k := by rw [e34]; exact hV.2.2.1
  have h4 : M1.1 34 4 = iI P.1 := by rw [e34]; exact hP.1
  have h6 : M1.1 34 6 = iI P.2.2.2.2.2 := by rw [e34]; exact hP.2.2.2.2
  have hp1 := hp.1
  have ht := hp.2.2.2.2
  refine ⟨M1, ?_, a2⟩
  unfold FX6_holds
  rw [a1, Option.bind_some]
  have loop : ∀ (j i m : Nat), i + j = 2 * P.1 → j < m → (∀ r, r < i → -P.2.2.2.2.2 ≤ shI L P k d n r ∧ shI L P k d n r ≤ P.2.2.2.2.2) → zloop (FX6_holds_L7 M1) m (iI i) = some (zb (fitP L P k d n), M1) := by
    intro j
    induction j with
    | zero =>
      intro i m hi hm h
      cases m with
      | zero => omega
      | succ m =>
        rw [zloop_s]
        unfold FX6_holds_L7
        rw [h4, show (2 : Int32) = iI 2 from rfl, iM, if_neg (fun z => by have := (iLt (by omega) (by omega)).mp z; omega)]
        unfold zb
        rw [if_pos (show fitP L P k d n from fun r hr => h r (by omega))]
    | succ j ih =>
      intro i m hi hm h
      cases m with
      | zero => omega
      | succ m =>
        have hon : rwOn P i := Or.inl (by omega)
        have hsh := shown_eq (L := L) (P := P) (n := n) hk.2.1 hd (by omega) h12 (hrow i hon) a3
        have hle := shI_le hr hp (n := n) hk.2.2 hd hon
        rw [zloop_s]
        generalize hrec : zloop (FX6_holds_L7 M1) m = rec
        unfold FX6_holds_L7
        rw [h4, show (2 : Int32) = iI 2 from rfl, iM, if_pos ((iLt (by omega) (by omega)).mpr (by omega)), hsh, Option.bind_some, abs_I (by omega), Option.bind_some, h6]
        by_cases c : -P.2.2.2.2.2 ≤ shI L P k d n i ∧ shI L P k d n i ≤ P.2.2.2.2.2
        · rw [if_neg (fun z => by have := (iLt (by omega) (by omega)).mp z; omega), zlet_e, iA1, ← hrec]
          exact ih (i + 1) m (by omega) (by omega) (fun r hr => by
            by_cases e : r = i
            · rw [e]; exact c
            · exact h r (by omega))
        · rw [if_pos ((iLt (by omega) (by omega)).mpr (by omega))]
          unfold zb
          rw [if_neg (show ¬ fitP L P k d n from fun z => c (z i (by omega)))]
  exact loop (2 * P.1) 0 zFuel (by omega) (zfu (by omega)) (fun r hr => absurd hr (Nat.not_lt_zero _))
