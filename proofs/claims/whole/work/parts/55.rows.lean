/-! ===== trials: a row of the tables ===== -/
def zfg (Q : Nat → Prop) (M M' : zMem) : Prop := (∀ c, ¬ Q c → M'.1 c = M.1 c) ∧ M'.2 = M.2
theorem zfg.rf {Q : Nat → Prop} {M : zMem} : zfg Q M M := ⟨fun _ _ => rfl, rfl⟩
theorem zfg.tr {Q : Nat → Prop} {M M1 M2 : zMem} (h1 : zfg Q M M1) (h2 : zfg Q M1 M2) : zfg Q M M2 := ⟨fun c h => (h2.1 c h).trans (h1.1 c h), h2.2.trans h1.2⟩
theorem zfg.wr {Q : Nat → Prop} {M M1 : zMem} {q i : Nat} {v : Int32} (h : zfg Q M M1) (hq : Q q) : zfg Q M (zwr M1 q i v) := ⟨fun c hc => (zwr_ne (c := c) (q := q) (fun e => hc (by rw [e]; exact hq))).trans (h.1 c hc), h.2⟩
theorem zfr.g {S : List Nat} {Q : Nat → Prop} {M M' : zMem} (h : zfr S M M') (hs : ∀ c ∈ S, Q c) : zfg Q M M' := ⟨fun c hc => h.1 c (fun z => hc (hs c z)), h.2⟩
theorem zfg.mono {Q Q' : Nat → Prop} {M M' : zMem} (h : zfg Q M M') (hs : ∀ c, Q c → Q' c) : zfg Q' M M' := ⟨fun c hc => h.1 c (fun z => hc (hs c z)), h.2⟩
/-- the cells of the tables -/
def qR (c : Nat) : Prop := c = 55 ∨ (57 ≤ c ∧ c ≤ 92)
theorem zCL.zg {Q : Nat → Prop} {L : zL} {M M' : zMem} (h : zCL L M) (hb : zRL L) (f : zfg Q M M') (hQ : ∀ c, Q c → ¬ (c ≤ 10 ∨ c = 23 ∨ (25 ≤ c ∧ c ≤ 33))) : zCL L M' :=
  h.fr hb.1 (fun c hc => f.1 c (fun z => hQ c z (by omega))) (by rw [f.1 23 (fun z => hQ 23 z (by omega))])
theorem zCP.zg {Q : Nat → Prop} {P : zPr} {M M' : zMem} (h : zCP P M) (hr : zRP P) (f : zfg Q M M') (hQ : ∀ c, Q c → ¬ (34 ≤ c ∧ c ≤ 54)) : zCP P M' :=
  h.fr hr (fun j _ => by rw [f.1 34 (fun z => hQ 34 z (by omega))]) (fun c h1 h2 => f.1 c (fun z => hQ c z (by omega)))
theorem qR_L {c : Nat} (h : qR c) : ¬ (c ≤ 10 ∨ c = 23 ∨ (25 ≤ c ∧ c ≤ 33)) := by unfold qR at h; omega
theorem qR_P {c : Nat} (h : qR c) : ¬ (34 ≤ c ∧ c ≤ 54) := by unfold qR at h; omega
theorem kd48 : ∀ r, r < 36 → zkd (56 + 1 + r) = (1, 48) := by decide +kernel
theorem len48 {r : Nat} (h : r < 36) : zlenI (56 + 1 + r) = 48 := by unfold zlenI; rw [kd48 r h]; rfl
/-- a row holds f, and g by body and weight -/
def rowV (k d r : Nat) (f : Int) (g : Nat → Nat → Int) (M : zMem) : Prop := M.1 55 r = iI f ∧ ∀ b w, b < k → w < d → M.1 (56 + 1 + r) (16 * b + w) = iI (g b w)
theorem startRow_eq {k d r : Nat} (M : zMem) (hr : r < 36) (hk : k ≤ 3) (hd : d ≤ 16) : ∃ M', FX6_startRow (iI r) M = some M' ∧ rowV k d r 0 (fun _ _ => 0) M' ∧ zfg (fun c => c = 55 ∨ c = 56 + 1 + r) M M' ∧ ∀ j, j ≠ r → M'.1 55 j = M.1 55 j := by
  obtain ⟨M', a1, a2, a3⟩ := fillQ (kd48 r hr) (by decide) 0 (zwr M 55 r 0)
  refine ⟨M', ?_, ⟨?_, fun b w hb hw => a3 _ (by omega)⟩, ?_, fun j hj => ?_⟩
  · unfold FX6_startRow
    rw [zgI (by omega) (by omega) (by omega), zlet_e, zgI (by omega) (by omega) (by omega), iC (by omega) (by omega), Int.toNat_natCast, zrow_I 56 r (by omega), a1, Option.bind_some]
  · rw [a2.1 55 (by simp only [List.mem_cons, List.not_mem_nil, or_false]; omega)]
    exact zwr_eq
  · exact (zfg.rf.wr (Or.inl rfl)).tr (a2.g (fun c hc => by simp only [List.mem_cons, List.not_mem_nil, or_false] at hc; exact Or.inr hc))
  · rw [a2.1 55 (by simp only [List.mem_cons, List.not_mem_nil, or_false]; omega)]
    exact zwr_nj hj
theorem addTo_w {L : zL} {M : zMem} (h : zCL L M) (hr : zRL L) {k d r b : Nat} {s x y a : Int} {f : Int} {g : Nat → Nat → Int} (hr36 : r < 36) (hk : k ≤ 3) (hkL : k ≤ L.1) (hd : d ≤ 16) (hb : b < k) (hx : -30 ≤ x ∧ x ≤ 30) (hy : -30 ≤ y ∧ y ≤ 30) (ha : 0 ≤ a ∧ a ≤ 1) (h13 : M.1 34 13 = iI d) (hv : rowV k d r f g M) (s9 : Int32 × zMem) (h9 : s9.1 = iI b) (h9b : s9.2.1 1 0 = M.1 1 0) : ∃ M', (rowV k d r f (fun b' w => if b' = b then g b' w + s * bW L b' w x y a else g b' w) M' ∧ zfr [56 + 1 + r] M M') ∧ ∀ r8 : (Int32 × zMem) → Option zMem, zloop (FX6_addToRow_L54 r8 s9 (iI r) (iI s) (iI x) (iI y) (iI a)) zFuel ((0 : Int32), M) = r8 (iI ((b + 1 : Nat) : Int), M') := by
  have hlb := zlb_or h
  have hrw := hr.row (b := b) (by omega)
  have hl48 := len48 hr36
  have hlbe : ∀ M1 : zMem, zfr [56 + 1 + r] M M1 → zlb M1 = zlb M := fun M1 e => by
    unfold zlb
    rw [e.1 1 (by simp only [List.mem_cons, List.not_mem_nil, or_false]; omega)]
  have key := zloop_invK (κ := (Int32 × zMem) → Option zMem) (f := fun r8 => FX6_addToRow_L54 r8 s9 (iI r) (iI s) (iI x) (iI y) (iI a)) (r := fun r8 st => r8 (iI ((b + 1 : Nat) : Int), st.2)) (fun i st => st.1 = iI (i : Int) ∧ zfr [56 + 1 + r] M st.2 ∧ rowV k d r f (fun b' w => if b' = b ∧ w < i then g b' w + s * bW L b' w x y a else g b' w) st.2) d ?_ ?_ d 0 zFuel ((0 : Int32), M) (Nat.zero_add _) (zfu (by omega)) ⟨rfl, zfr.rf, ⟨hv.1, fun b' w hb' hw' => by dsimp only; rw [if_neg (fun z => Nat.not_lt_zero _ z.2)]; exact hv.2 b' w hb' hw'⟩⟩
  · obtain ⟨⟨t1, t2⟩, ⟨-, g1, g2⟩, g3⟩ := key
    refine ⟨t2, ⟨⟨g2.1, fun b' w hb' hw' => ?_⟩, g1⟩, g3⟩
    refine (g2.2 b' w hb' hw').trans ?_
    dsimp only
    by_cases e : b' = b
    · rw [if_pos ⟨e, hw'⟩, if_pos e]
    · rw [if_neg (fun z => e z.1), if_neg e]
  · intro i st hi hI
    obtain ⟨t1, t2⟩ := st
    obtain ⟨f1, f2, f3⟩ := hI
    have f1 : t1 = _ := f1
    have f2 : zfr [56 + 1 + r] M t2 := f2
    have f3 : rowV k d r f _ t2 := f3
    subst f1
    have hL2 : zCL L t2 := h.zf hr f2 (by simp only [List.mem_cons, List.not_mem_nil, or_false]; omega)
    have hrow := crow hL2 hr (b := b) (by omega)
    rw [hlbe t2 f2] at hrow
    have h13' : t2.1 34 13 = iI d := by rw [f2.1 34 (by simp only [List.mem_cons, List.not_mem_nil, or_false]; omega)]; exact h13
    have hcell := f3.2 b i hb hi
    dsimp only at hcell
    rw [if_neg (fun z => Nat.lt_irrefl _ z.2)] at hcell
    have k0 := hrow.2 0 (by omega)
    have hk0 := hrw.all.1
    have hbe := bendBy_eq (w := (i : Int)) (ax := iI a) (kd := L.2.1 b 0) hrow hrw hk0 (by omega) (x := x) (y := y) (by omega) (by omega)
    rw [iT (by omega) (by omega)] at hbe
    have hq : zrow (zcl (s9.2.1 1 0)) s9.1 = zlb M + 1 + b := by
      rw [h9b, h9, zlb_def, zrow_I _ _ (by omega)]
    have hl6 := hrow.1
    refine ⟨(iI ((i + 1 : Nat) : Int), zwr t2 (56 + 1 + r) (16 * b + i) (iI (g b i + s * bW L b i x y a))), ⟨rfl, f2.wr List.mem_cons_self, ⟨?_, fun b' w hb' hw' => ?_⟩⟩, fun r8 rec => ?_⟩
    · rw [zwr_nc (show 55 ≠ 56 + 1 + r by omega)]; exact f3.1
    · by_cases e : 16 * b' + w = 16 * b + i
      · have e1 : b' = b := by omega
        have e2 : w = i := by omega
        subst e1 e2
        dsimp only
        rw [zwr_eq, if_pos ⟨rfl, by omega⟩]
      · refine (zwr_nj e).trans ((f3.2 b' w hb' hw').trans ?_)
        dsimp only
        by_cases c : b' = b ∧ w < i
        · rw [if_pos c, if_pos ⟨c.1, by omega⟩]
        · rw [if_neg c, if_neg (fun z => c ⟨z.1, by have := z.1; have := z.2; omega⟩)]
    · show FX6_addToRow_L54 r8 s9 _ _ _ _ _ rec _ = _
      unfold FX6_addToRow_L54
      rw [hq, zrow_I 56 r (by omega), hl48, hl6, h9]
      dsimp only
      rw [h13', if_pos ((iLt (by omega) (by omega)).mpr (by omega)), show (16 : Int32) = iI 16 from rfl, iM, iA, show (b : Int) * 16 + (i : Int) = ((16 * b + i : Nat) : Int) by omega, zgI (by omega) (by omega) (by omega), zgI (by omega) (by omega) (by omega), zgT (show zin (0 : Int32) 6 = true from rfl), show zrd t2 (zlb M + 1 + b) (0 : Int32) = iI (L.2.1 b 0) from k0, hbe, Option.bind_some, zgI (by omega) (by omega) (by omega)]
      simp only [zlet_e]
      rw [zrI _ _ (by omega) (by omega), iC (by omega) (by omega), Int.toNat_natCast, hcell, iM, iA, iA1]
      rfl
  · intro st hI r8 rec
    obtain ⟨t1, t2⟩ := st
    obtain ⟨f1, f2, -⟩ := hI
    have f1 : t1 = _ := f1
    have f2 : zfr [56 + 1 + r] M t2 := f2
    subst f1
    have h13' : t2.1 34 13 = iI d := by rw [f2.1 34 (by simp only [List.mem_cons, List.not_mem_nil, or_false]; omega)]; exact h13
    show FX6_addToRow_L54 r8 s9 _ _ _ _ _ rec _ = _
    unfold FX6_addToRow_L54
    rw [h9]
    dsimp only
    rw [h13', if_neg (fun z => by have := (iLt (a := d) (b := d) (by omega) (by omega)).mp z; omega)]
    simp only [zlet_e]
    rw [iA1]
theorem addToRow_eq {L : zL} {M : zMem} (h : zCL L M) (hr : zRL L) {k d r : Nat} {s x y a : Int} {f : Int} {g : Nat → Nat → Int} (hr36 : r < 36) (hk : k ≤ 3) (hkL : k ≤ L.1) (hd : d ≤ 16) (hx : -30 ≤ x ∧ x ≤ 30) (hy : -30 ≤ y ∧ y ≤ 30) (ha : 0 ≤ a ∧ a ≤ 1) (h12 : M.1 34 12 = iI k) (h13 : M.1 34 13 = iI d) (hv : rowV k d r f g M) : ∃ M', FX6_addToRow (iI r) (iI s) (iI x) (iI y) (iI a) M = some M' ∧ rowV k d r (f + s * lS L k x y a) (fun b w => g b w + s * bW L b w x y a) M' ∧ zfg (fun c => c = 55 ∨ c = 56 + 1 + r) M M' ∧ ∀ j, j ≠ r → M'.1 55 j = M.1 55 j := by
  have hlp := lightPast_eq h hr hkL (x := x) (y := y) (by omega) (by omega) (iI a)
  rw [iT (by omega) (by omega)] at hlp
  have hlpS : FX2_lightPast (iI k) (iI x) (iI y) (iI a) M = some (iI (lS L k x y a)) := hlp
  have hM1 : zfr [55] M (zwr M 55 r (iI (f + s * lS L k x y a))) := zfr.rf.wr List.mem_cons_self
  have key := zloop_inv (f := FX6_addToRow_L30 (iI r) (iI s) (iI x) (iI y) (iI a)) (r := fun st => some st.2) (fun i st => st.1 = iI (i : Int) ∧ zfr [56 + 1 + r] (zwr M 55 r (iI (f + s * lS L k x y a))) st.2 ∧ rowV k d r (f + s * lS L k x y a) (fun b' w => if b' < i then g b' w + s * bW L b' w x y a else g b' w) st.2) k ?_ ?_ k 0 zFuel ((0 : Int32), zwr M 55 r (iI (f + s * lS L k x y a))) (Nat.zero_add _) (zfu (by omega)) ⟨rfl, zfr.rf, ⟨zwr_eq, fun b' w hb' hw' => ?_⟩⟩
  · obtain ⟨⟨t1, t2⟩, ⟨-, g1, g2⟩, g3⟩ := key
    have g1 : zfr [56 + 1 + r] _ t2 := g1
    have g2 : rowV k d r _ _ t2 := g2
    refine ⟨t2, ?_, ⟨g2.1, fun b' w hb' hw' => ?_⟩, ?_, fun j hj => ?_⟩
    · unfold FX6_addToRow
      rw [zgI (by omega) (by omega) (by omega), h12, hlpS, Option.bind_some, zgI (by omega) (by omega) (by omega), zlet_e, zrI _ _ (by omega) (by omega), iC (by omega) (by omega), Int.toNat_natCast, hv.1, iM, iA]
      exact g3
    · refine (g2.2 b' w hb' hw').trans ?_
      dsimp only
      rw [if_pos hb']
    · exact (hM1.g (fun c hc => by simp only [List.mem_cons, List.not_mem_nil, or_false] at hc; exact Or.inl hc)).tr (g1.g (fun c hc => by simp only [List.mem_cons, List.not_mem_nil, or_false] at hc; exact Or.inr hc))
    · rw [g1.1 55 (by simp only [List.mem_cons, List.not_mem_nil, or_false]; omega)]
      exact zwr_nj hj
  · intro i st hi hI
    obtain ⟨t1, t2⟩ := st
    obtain ⟨f1, f2, f3⟩ := hI
    have f1 : t1 = _ := f1
    have f2 : zfr [56 + 1 + r] _ t2 := f2
    have f3 : rowV k d r _ _ t2 := f3
    subst f1
    have n : ∀ c, c ≠ 55 → c ≠ 56 + 1 + r → t2.1 c = M.1 c := fun c h1 h2 => (f2.1 c (by simp only [List.mem_cons, List.not_mem_nil, or_false]; exact h2)).trans (hM1.1 c (by simp only [List.mem_cons, List.not_mem_nil, or_false]; exact h1))
    have hL2 : zCL L t2 := h.fr hr.1 (fun c hc => n c (by omega) (by omega)) (by rw [n 23 (by omega) (by omega)])
    obtain ⟨M', ⟨k1, k2⟩, k3⟩ := addTo_w (s := s) hL2 hr hr36 hk hkL hd hi hx hy ha (by rw [n 34 (by omega) (by omega)]; exact h13) f3 (iI (i : Int), t2) rfl rfl
    refine ⟨(iI ((i + 1 : Nat) : Int), M'), ⟨rfl, f2.tr k2, ⟨k1.1, fun b' w hb' hw' => ?_⟩⟩, fun rec => ?_⟩
    · refine (k1.2 b' w hb' hw').trans ?_
      dsimp only
      by_cases c : b' = i
      · rw [if_pos c, if_neg (show ¬ b' < i by omega), if_pos (show b' < i + 1 by omega)]
      · rw [if_neg c]
        by_cases c2 : b' < i
        · rw [if_pos c2, if_pos (show b' < i + 1 by omega)]
        · rw [if_neg c2, if_neg (show ¬ b' < i + 1 by omega)]
    · unfold FX6_addToRow_L30
      rw [show (iI (i : Int), t2).2.1 34 12 = iI k by show t2.1 34 12 = _; rw [n 34 (by omega) (by omega)]; exact h12, if_pos (show iI (i : Int) < iI k from (iLt (by omega) (by omega)).mpr (by omega))]
      refine (zgT ?_).trans (k3 rec)
      show zin (iI (i : Int)) (zlenR (zcl (t2.1 1 0))) = true
      rw [zlb_def, len8 hL2]
      exact iIn (by omega) (by omega) (by omega)
  · intro st hI rec
    obtain ⟨t1, t2⟩ := st
    obtain ⟨f1, f2, -⟩ := hI
    have f1 : t1 = _ := f1
    have f2 : zfr [56 + 1 + r] _ t2 := f2
    subst f1
    have h12' : t2.1 34 12 = iI k := by
      rw [f2.1 34 (by simp only [List.mem_cons, List.not_mem_nil, or_false]; omega), hM1.1 34 (by decide)]
      exact h12
    unfold FX6_addToRow_L30
    rw [show (iI ((k : Nat) : Int), t2).2.1 34 12 = iI k from h12', if_neg (show ¬ iI (k : Int) < iI k from fun z => by have := (iLt (by omega) (by omega)).mp z; omega)]
  · dsimp only
    rw [if_neg (Nat.not_lt_zero _), zwr_nc (show 56 + 1 + r ≠ 55 by omega)]
    exact hv.2 b' w hb' hw'
