/-! ===== the state behind the constructors ===== -/
def zS0 : zSt := ((0, fun _ _ => 0, 0, 0), (0, fun _ => 0), (0, fun _ _ => 0, 0, fun _ => 0, fun _ => 0, 8), (5, fun _ => -9, 0))
theorem zS0_R : zRS zS0 := ⟨⟨by decide, fun b f hb => absurd hb (Nat.not_lt_zero _), by decide, by decide⟩, ⟨by decide, fun i hi => absurd hi (Nat.not_lt_zero _)⟩, ⟨by decide, fun i j hi => absurd hi (Nat.not_lt_zero _), by decide, fun i hi => absurd hi (Nat.not_lt_zero _), by decide, by decide⟩, ⟨by decide, fun i _ => Or.inl rfl⟩⟩
theorem zMf_97 {i : Nat} (h : i < 2401) : zMf.1 97 i = -9 := by
  rw [zfin_row (by decide)]
  show (if (97 : Nat) = 106 ∧ i < 2401 then (-9 : Int32) else if (97 : Nat) = 97 ∧ i < 2401 then (-9 : Int32) else zM0.1 97 i) = -9
  rw [if_neg (by omega), if_pos ⟨rfl, h⟩]
theorem zMf_106 {i : Nat} (h : i < 2401) : zMf.1 106 i = -9 := by
  rw [zfin_row (by decide)]
  show (if (106 : Nat) = 106 ∧ i < 2401 then (-9 : Int32) else zM1.1 106 i) = -9
  rw [if_pos ⟨rfl, h⟩]
theorem zS0_C : zIC zS0 zMf := ⟨⟨Or.inl ⟨rfl, rfl⟩, rfl, rfl, rfl, fun b f hb => absurd hb (Nat.not_lt_zero _)⟩, ⟨rfl, fun i hi => absurd hi (Nat.not_lt_zero _)⟩, ⟨rfl, fun i j hi => absurd hi (Nat.not_lt_zero _), rfl, fun i hi => absurd hi (Nat.not_lt_zero _), rfl⟩, ⟨rfl, fun i hi => zMf_97 hi, rfl⟩, Or.inl rfl, Or.inl rfl⟩
theorem zS0_M : zIM zS0 zMf := ⟨⟨rfl, rfl, rfl, fun b f hb => absurd hb (Nat.not_lt_zero _)⟩, ⟨rfl, fun i hi => absurd hi (Nat.not_lt_zero _)⟩, ⟨rfl, fun i j hi => absurd hi (Nat.not_lt_zero _), rfl, fun i hi => absurd hi (Nat.not_lt_zero _), rfl⟩, ⟨rfl, fun i hi => zMf_106 hi, rfl⟩⟩
