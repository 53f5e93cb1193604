/-! ===== set ===== -/
theorem isTold_eq {f : Nat} (v : Int32) (h : f < 6) : FX8_isTold (iI f) v = some (zb (fLo f ≤ v.toInt ∧ v.toInt ≤ fHi f)) := by
  have k : f = 0 ∨ f = 1 ∨ f = 2 ∨ f = 3 ∨ f = 4 ∨ f = 5 := by omega
  unfold FX8_isTold
  rcases k with rfl | rfl | rfl | rfl | rfl | rfl
  · rw [if_pos (by decide), in_0_2, Option.bind_some, zb_g]; rfl
  · rw [if_neg (by decide), if_pos (by decide), in_m40_40, Option.bind_some, zb_g]; rfl
  · rw [if_neg (by decide), if_pos (by decide), in_m40_40, Option.bind_some, zb_g]; rfl
  · rw [if_neg (by decide), if_neg (by decide), if_pos (by decide), in_0_400, Option.bind_some, zb_g]; rfl
  · rw [if_neg (by decide), if_neg (by decide), if_neg (by decide), if_pos (by decide), in_0_900, Option.bind_some, zb_g]; rfl
  · rw [if_neg (by decide), if_neg (by decide), if_neg (by decide), if_neg (by decide), in_0_90, Option.bind_some, zb_g]; rfl
theorem set_case (x0 x1 x2 : Int32) : zCase (FX7_set x0 x1 x2) (FX8_set x0 x1 x2) := by
  refine zCase.of (fun S hR => ?_)
  obtain ⟨b, hb1, hb2, rfl⟩ := iOf x0
  obtain ⟨f, hf1, hf2, rfl⟩ := iOf x1
  obtain ⟨v, hv1, hv2, rfl⟩ := iOf x2
  have hn := hR.1.1
  by_cases h2 : 0 ≤ (iI b).toInt ∧ (iI b).toInt < S.1.1
  · have b0 : 0 ≤ b ∧ b < S.1.1 := by rw [iT hb1 hb2] at h2; exact h2
    obtain ⟨n, rfl⟩ : ∃ n : Nat, b = (n : Int) := ⟨b.toNat, by omega⟩
    have hnb : n < S.1.1 := by omega
    by_cases h3 : 0 ≤ (iI f).toInt ∧ (iI f).toInt ≤ 5
    · have f0 : 0 ≤ f ∧ f ≤ 5 := by rw [iT hf1 hf2] at h3; exact h3
      obtain ⟨j, rfl⟩ : ∃ j : Nat, f = (j : Int) := ⟨f.toNat, by omega⟩
      have hj : j < 6 := by omega
      by_cases h4 : fLo j ≤ (iI v).toInt ∧ (iI v).toInt ≤ fHi j
      · have r4 : fLo j ≤ v ∧ v ≤ fHi j := by rw [iT hv1 hv2] at h4; exact h4
        refine ⟨iI (S.1.2.1 n j), ((S.1.1, zupr S.1.2.1 n (zup (S.1.2.1 n) j v), S.1.2.2), S.2), ⟨⟨hn, fun b f hb hf => ?_, hR.1.2.2⟩, hR.2⟩, fun M hC => ?_, fun M hM => ?_⟩
        · show fLo f ≤ zupr S.1.2.1 n (zup (S.1.2.1 n) j v) b f ∧ zupr S.1.2.1 n (zup (S.1.2.1 n) j v) b f ≤ fHi f
          by_cases e : b = n
          · subst e
            rw [zupr_eq]
            by_cases e2 : f = j
            · subst e2; rw [zup_eq]; exact r4
            · rw [zup_ne e2]; exact hR.1.2.1 b f hb hf
          · rw [zupr_ne e]; exact hR.1.2.1 b f hb hf
        · have hc := zLC_CL hC.1 hR.1
          have hz := zlb_or hc
          have hl6 : zlenI (zlb (zLC M) + 1 + n) = 6 := len6 _ (by omega) (by omega)
          have hl : zlb (zwr (zLC M) (zlb (zLC M) + 1 + n) j (iI v)) = zlb (zLC M) := congrArg zcl (zwr_nc (by omega))
          refine ⟨_, ?_, hC.lc hR (M' := zwr (zLC M) (zlb (zLC M) + 1 + n) j (iI v)) (fun c h1 h2 => zwr_ne (by omega)) rfl ⟨?_, ?_, ?_, ?_, fun b f hb hf => ?_⟩, zLC_ag.wr (by omega)⟩
          · unfold FX7_set
            rw [isBody_eq _ hC.1 hn, Option.bind_some, zb_if, if_pos h2, within_0_5, Option.bind_some, zb_if, if_pos h3, isFeature_k j _ _ hj, Option.bind_some, zb_if, if_pos h4, zLC_eq, Option.bind_some]
            simp only [zlet]
            rw [zlb_def, len8 hc, zrow_I _ n (by omega), hl6, zgI (by omega) (by omega) (by omega), zgI (by omega) (by omega) (by omega), zgI (by omega) (by omega) (by omega), zgI (by omega) (by omega) (by omega), zrI _ _ (by omega) (by omega), iC (by omega) (by omega), Int.toNat_natCast, hc.2.2.2.2 n j hnb hj]
          · exact (or_congr (and_congr (by rw [zwr_nc (by omega)]) (by rw [zwr_nc (by omega)])) (and_congr (by rw [zwr_nc (by omega)]) (by rw [zwr_nc (by omega)]))).mpr hc.1
          · rw [zwr_nc (by omega)]; exact hc.2.1
          · rw [zwr_nc (by omega)]; exact hc.2.2.1
          · rw [zwr_nc (by omega)]; exact hc.2.2.2.1
          · have hb : b < S.1.1 := hb
            rw [hl]
            show _ = iI (zupr S.1.2.1 n (zup (S.1.2.1 n) j v) b f)
            by_cases e : b = n
            · subst e
              rw [zupr_eq]
              by_cases e2 : f = j
              · subst e2; rw [zup_eq, zwr_eq]
              · rw [zup_ne e2, zwr_nj e2]; exact hc.2.2.2.2 b f hb hf
            · rw [zupr_ne e, zwr_nc (by omega)]; exact hc.2.2.2.2 b f hb hf
        · have hp := hM.1
          refine ⟨_, ?_, hM.len (M' := zwr M 101 (6 * n + j) (iI v)) (fun c h1 h2 => zwr_ne h2) rfl (fun j h1 _ _ => zwr_nc (by decide)) ⟨?_, ?_, ?_, fun b f hb hf => ?_⟩, zagC.rf.wr (by decide)⟩
          · have c0 : (6 * (n : Int) + (j : Int)).toNat = 6 * n + j := by omega
            unfold FX8_set
            rw [isBodyM_eq _ hM.1 hn, Option.bind_some, zb_if, if_pos h2, in_0_5, Option.bind_some, zb_if, if_pos h3, isTold_eq _ hj, Option.bind_some, zb_if, if_pos h4]
            simp only [zlet]
            rw [show (6 : Int32) = iI 6 from rfl, iM, iA, zgI (by omega) (by omega) (by omega), zgI (by omega) (by omega) (by omega), zrI _ _ (by omega) (by omega), iC (by omega) (by omega), c0, hp.2.2.2 n j hnb hj]
          · rw [zwr_nc (by decide)]; exact hp.1
          · rw [zwr_nc (by decide)]; exact hp.2.1
          · rw [zwr_nc (by decide)]; exact hp.2.2.1
          · have hb : b < S.1.1 := hb
            show _ = iI (zupr S.1.2.1 n (zup (S.1.2.1 n) j v) b f)
            by_cases e : b = n
            · subst e
              rw [zupr_eq]
              by_cases e2 : f = j
              · subst e2; rw [zup_eq, zwr_eq]
              · rw [zup_ne e2, zwr_nj (by omega)]; exact hp.2.2.2 b f hb hf
            · rw [zupr_ne e, zwr_nj (by omega)]; exact hp.2.2.2 b f hb hf
      · refine ⟨-1000000000, S, hR, fun M hC => ⟨M, ?_, hC, zagM.rf⟩, fun M hM => ⟨M, ?_, hM, zagC.rf⟩⟩
        · unfold FX7_set
          rw [isBody_eq _ hC.1 hn, Option.bind_some, zb_if, if_pos h2, within_0_5, Option.bind_some, zb_if, if_pos h3, isFeature_k j _ _ hj, Option.bind_some, zb_if, if_neg h4]
        · unfold FX8_set
          rw [isBodyM_eq _ hM.1 hn, Option.bind_some, zb_if, if_pos h2, in_0_5, Option.bind_some, zb_if, if_pos h3, isTold_eq _ hj, Option.bind_some, zb_if, if_neg h4]
    · refine ⟨-1000000000, S, hR, fun M hC => ⟨M, ?_, hC, zagM.rf⟩, fun M hM => ⟨M, ?_, hM, zagC.rf⟩⟩
      · unfold FX7_set
        rw [isBody_eq _ hC.1 hn, Option.bind_some, zb_if, if_pos h2, within_0_5, Option.bind_some, zb_if, if_neg h3]
      · unfold FX8_set
        rw [isBodyM_eq _ hM.1 hn, Option.bind_some, zb_if, if_pos h2, in_0_5, Option.bind_some, zb_if, if_neg h3]
  · refine ⟨-1000000000, S, hR, fun M hC => ⟨M, ?_, hC, zagM.rf⟩, fun M hM => ⟨M, ?_, hM, zagC.rf⟩⟩
    · unfold FX7_set
      rw [isBody_eq _ hC.1 hn, Option.bind_some, zb_if, if_neg h2]
    · unfold FX8_set
      rw [isBodyM_eq _ hM.1 hn, Option.bind_some, zb_if, if_neg h2]
