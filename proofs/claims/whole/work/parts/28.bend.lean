/-! ===== bend ===== -/
theorem zwl_eq {M : zMem} {q : Nat} {v : Int64} : (zwl M q v).2 q = v := if_pos rfl
theorem zwl_ne {M : zMem} {q c : Nat} {v : Int64} (h : c ≠ q) : (zwl M q v).2 c = M.2 c := if_neg h
def zask (k : Int) : Int64 := if k = 0 then 1 else if k = 1 then 11 else 111
theorem askedBy_eq {k : Int} (h : 0 ≤ k ∧ k ≤ 2) : ∃ b, FX2_askedBy (iI k) = some b ∧ b.toInt64 = zask k := by
  have e : k = 0 ∨ k = 1 ∨ k = 2 := by omega
  rcases e with rfl | rfl | rfl
  · exact ⟨1, by decide +kernel, by decide +kernel⟩
  · exact ⟨11, by decide +kernel, by decide +kernel⟩
  · exact ⟨111, by decide +kernel, by decide +kernel⟩
theorem isFeat0 (x : Int32) (M : zMem) : FX7_isFeature 0 x M = some (zb (0 ≤ x.toInt ∧ x.toInt ≤ 2)) := isFeature_k 0 x M (by decide)
theorem isFeat1 (x : Int32) (M : zMem) : FX7_isFeature 1 x M = some (zb (-40 ≤ x.toInt ∧ x.toInt ≤ 40)) := isFeature_k 1 x M (by decide)
theorem isFeat2 (x : Int32) (M : zMem) : FX7_isFeature 2 x M = some (zb (-40 ≤ x.toInt ∧ x.toInt ≤ 40)) := isFeature_k 2 x M (by decide)
theorem isFeat3 (x : Int32) (M : zMem) : FX7_isFeature 3 x M = some (zb (0 ≤ x.toInt ∧ x.toInt ≤ 400)) := isFeature_k 3 x M (by decide)
theorem bend_case (x0 x1 x2 x3 x4 : Int32) : zCase (FX7_bend x0 x1 x2 x3 x4) (FX8_bend x0 x1 x2 x3 x4) := by
  refine zCase.of (fun S hR => ?_)
  obtain ⟨kd, hk1, hk2, rfl⟩ := iOf x0
  obtain ⟨b, hb1, hb2, rfl⟩ := iOf x1
  obtain ⟨x, hx1, hx2, rfl⟩ := iOf x2
  obtain ⟨y, hy1, hy2, rfl⟩ := iOf x3
  have hn := hR.1.1
  by_cases h1 : 0 ≤ (iI kd).toInt ∧ (iI kd).toInt ≤ 2
  · have k0 : 0 ≤ kd ∧ kd ≤ 2 := by rw [iT hk1 hk2] at h1; exact h1
    by_cases h2 : 0 ≤ (iI b).toInt ∧ (iI b).toInt < S.1.1
    · have b0 : 0 ≤ b ∧ b < S.1.1 := by rw [iT hb1 hb2] at h2; exact h2
      obtain ⟨n, rfl⟩ : ∃ n : Nat, b = (n : Int) := ⟨b.toNat, by omega⟩
      have hnb : n < S.1.1 := by omega
      by_cases h3 : pIn 60 (iI x) (iI y)
      · have p0 := (pIn_I ⟨hx1, hx2⟩ ⟨hy1, hy2⟩).mp h3
        by_cases h4 : 0 ≤ x4.toInt ∧ x4.toInt ≤ 1
        · have hF : fIn (S.1.2.1 n) := hR.1.row hnb
          have hB := hR.2.2.2
          refine ⟨iI (bV (S.1.2.1 n) kd (S.1.2.1 n 3) x y x4.toInt), (S.1, S.2.1, S.2.2.1, (S.2.2.2.1, S.2.2.2.2.1, S.2.2.2.2.2 + zask kd)), ⟨hR.1, hR.2.1, hR.2.2.1, hB⟩, fun M hC => ?_, fun M hM => ?_⟩
          · have hp := hC.2.2.2.1
            obtain ⟨bt, e1, e2⟩ := askedBy_eq k0
            have hrow := crow hC.1 hR.1 hnb
            have hrow' : rowOK (zwl M 0 (S.2.2.2.2.2 + zask kd)) (zlb M + 1 + n) (S.1.2.1 n) := hrow
            refine ⟨zwl M 0 (S.2.2.2.2.2 + zask kd), ?_, hC.bri hR (fun c _ _ => rfl) ⟨hp.1, hp.2.1, zwl_eq⟩, ⟨fun c _ => rfl, zwl_ne (by decide)⟩⟩
            unfold FX7_bend
            simp only [zlet]
            rw [isFeat0, Option.bind_some, zb_if, if_pos h1, isBody_eq _ hC.1 hn, Option.bind_some, zb_if, if_pos h2, isAsked_eq, Option.bind_some, zb_if, if_pos ⟨h3, h4⟩, e1, Option.bind_some, e2, hp.2.2, zlb_def, len8 hC.1, zrow_I _ n (by omega), hrow.1, zgI (by omega) (by omega) (by omega), zgT (by rfl), show zrd (zwl M 0 (S.2.2.2.2.2 + zask kd)) (zlb M + 1 + n) 3 = iI (S.1.2.1 n 3) from hrow.2 3 (by decide), bendBy_eq hrow' hF k0 (hF 3 (by decide)) p0.1 p0.2]
            rfl
          · have hp := hM.2.2.2
            have hrow : mrow (zwl M 100 (S.2.2.2.2.2 + zask kd)) n (S.1.2.1 n) := mrowL hM.1 hR.1 hnb
            refine ⟨zwl M 100 (S.2.2.2.2.2 + zask kd), ?_, hM.bri (fun c _ _ => rfl) (fun j _ => rfl) ⟨hp.1, hp.2.1, zwl_eq⟩, ⟨fun c _ => rfl, zwl_ne (by decide)⟩⟩
            unfold FX8_bend
            rw [in_0_2, Option.bind_some, zb_if, if_pos h1, isBodyM_eq _ hM.1 hn, Option.bind_some, zb_if, if_pos h2, isNear_60, Option.bind_some, zb_if, if_pos h3, in_0_1, Option.bind_some, zb_if, if_pos h4]
            refine zj_p (fun t => t = zask kd) (r := some (iI (bV (S.1.2.1 n) kd (S.1.2.1 n 3) x y x4.toInt), zwl M 100 (S.2.2.2.2.2 + zask kd))) (fun t ht => ?_) (fun k hk => ?_)
            · subst ht
              simp only [zlet]
              rw [hp.2.2, bendOf_eq hrow hF k0 p0.1 p0.2]
              rfl
            · have e : kd = 0 ∨ kd = 1 ∨ kd = 2 := by omega
              rcases e with rfl | rfl | rfl
              · exact hk _ rfl
              · exact hk _ rfl
              · exact hk _ rfl
        · refine ⟨-1000000000, S, hR, fun M hC => ⟨M, ?_, hC, zagM.rf⟩, fun M hM => ⟨M, ?_, hM, zagC.rf⟩⟩
          · unfold FX7_bend
            rw [isFeat0, Option.bind_some, zb_if, if_pos h1, isBody_eq _ hC.1 hn, Option.bind_some, zb_if, if_pos h2, isAsked_eq, Option.bind_some, zb_if, if_neg (fun z => h4 z.2)]
          · unfold FX8_bend
            rw [in_0_2, Option.bind_some, zb_if, if_pos h1, isBodyM_eq _ hM.1 hn, Option.bind_some, zb_if, if_pos h2, isNear_60, Option.bind_some, zb_if, if_pos h3, in_0_1, Option.bind_some, zb_if, if_neg h4]
      · refine ⟨-1000000000, S, hR, fun M hC => ⟨M, ?_, hC, zagM.rf⟩, fun M hM => ⟨M, ?_, hM, zagC.rf⟩⟩
        · unfold FX7_bend
          rw [isFeat0, Option.bind_some, zb_if, if_pos h1, isBody_eq _ hC.1 hn, Option.bind_some, zb_if, if_pos h2, isAsked_eq, Option.bind_some, zb_if, if_neg (fun z => h3 z.1)]
        · unfold FX8_bend
          rw [in_0_2, Option.bind_some, zb_if, if_pos h1, isBodyM_eq _ hM.1 hn, Option.bind_some, zb_if, if_pos h2, isNear_60, Option.bind_some, zb_if, if_neg h3]
    · refine ⟨-1000000000, S, hR, fun M hC => ⟨M, ?_, hC, zagM.rf⟩, fun M hM => ⟨M, ?_, hM, zagC.rf⟩⟩
      · unfold FX7_bend
        rw [isFeat0, Option.bind_some, zb_if, if_pos h1, isBody_eq _ hC.1 hn, Option.bind_some, zb_if, if_neg h2]
      · unfold FX8_bend
        rw [in_0_2, Option.bind_some, zb_if, if_pos h1, isBodyM_eq _ hM.1 hn, Option.bind_some, zb_if, if_neg h2]
  · refine ⟨-1000000000, S, hR, fun M hC => ⟨M, ?_, hC, zagM.rf⟩, fun M hM => ⟨M, ?_, hM, zagC.rf⟩⟩
    · unfold FX7_bend
      rw [isFeat0, Option.bind_some, zb_if, if_neg h1]
    · unfold FX8_bend
      rw [in_0_2, Option.bind_some, zb_if, if_neg h1]
