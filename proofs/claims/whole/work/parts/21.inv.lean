/-! ===== a run's invariant ===== -/
def lS (L : zL) (k : Nat) (x y ax : Int) : Int := lB L x y ax - (pS L.2.1 x y ax L.1 - pS L.2.1 x y ax k)
def bW (L : zL) (b : Nat) (w x y ax : Int) : Int := bV (L.2.1 b) (L.2.1 b 0) w x y ax
/-- what a row of the trials' tables gathers of g: a pair's difference, or a spot -/
def rwP (P : zPr) (g : Int → Int → Int → Int) (r : Nat) : Int := if r < 20 then g (P.2.1 (r / 2) 0) (P.2.1 (r / 2) 1) (r % 2 : Nat) - g (P.2.1 (r / 2) 2) (P.2.1 (r / 2) 3) (r % 2 : Nat) else g (P.2.2.2.1 ((r - 20) / 2)) (P.2.2.2.2.1 ((r - 20) / 2)) (r % 2 : Nat)
def rwOn (P : zPr) (r : Nat) : Prop := r < 2 * P.1 ∨ (20 ≤ r ∧ r < 20 + 2 * P.2.2.1)
def shB (L : zL) (P : zPr) (d n r : Nat) : Nat → Int
  | 0 => 0
  | b + 1 => shB L P d n r b + rwP P (bW L b (n / d ^ b % d : Nat)) r
def shI (L : zL) (P : zPr) (k d n r : Nat) : Int := rwP P (lS L k) r - shB L P d n r k
abbrev fitP (L : zL) (P : zPr) (k d n : Nat) : Prop := ∀ r, r < 2 * P.1 → -P.2.2.2.2.2 ≤ shI L P k d n r ∧ shI L P k d n r ≤ P.2.2.2.2.2
def fitL (L : zL) (P : zPr) (k d : Nat) : List Nat := (List.range (d ^ k)).filter (fun n => decide (fitP L P k d n))
def zTrV (L : zL) (P : zPr) (M : zMem) (k d : Nat) : Prop := (1 ≤ k ∧ k ≤ 3 ∧ k ≤ L.1) ∧ (2 ≤ d ∧ d ≤ 16) ∧ M.1 34 12 = iI k ∧ M.1 34 13 = iI d ∧ M.1 34 14 = iI (d ^ k : Nat) ∧ ∀ r, rwOn P r → M.1 55 r = iI (rwP P (lS L k) r) ∧ ∀ b w, b < k → w < d → M.1 (57 + r) (16 * b + w) = iI (rwP P (bW L b w) r)
def zTrG (L : zL) (P : zPr) (M : zMem) (k d : Nat) : Prop := M.1 34 17 = 1 ∧ M.1 34 15 = iI ((fitL L P k d).length : Nat) ∧ ∀ i (h : i < (fitL L P k d).length), M.1 94 i = iI ((fitL L P k d)[i] : Nat)
def zTrC (L : zL) (P : zPr) (M : zMem) : Prop := M.1 34 16 = 1 ∨ (M.1 34 16 = 0 ∧ ∃ k d, zTrV L P M k d ∧ (M.1 34 17 = 0 ∨ zTrG L P M k d))
def zPlS (L : zL) (M : zMem) : Prop := M.1 15 5 = 1 ∨ (M.1 15 5 = 0 ∧ zPlC L M)
abbrev zSt : Type := zL × zTx × zPr × zBr
def zRS (S : zSt) : Prop := zRL S.1 ∧ zRT S.2.1 ∧ zRP S.2.2.1 ∧ zRB S.2.2.2
def zIC (S : zSt) (M : zMem) : Prop := zCL S.1 M ∧ zCT S.2.1 M ∧ zCP S.2.2.1 M ∧ zCB S.2.2.2 M ∧ zPlS S.1 M ∧ zTrC S.1 S.2.2.1 M
def zIM (S : zSt) (M : zMem) : Prop := zML S.1 M ∧ zMT S.2.1 M ∧ zMP S.2.2.1 M ∧ zMB S.2.2.2 M
theorem zPlC.fr {L : zL} {M M' : zMem} (h : zPlC L M) (e : ∀ c, 16 ≤ c → c ≤ 19 → M'.1 c = M.1 c) : zPlC L M' := by
  refine ⟨fun x y hx hy => ?_, fun p hp => ?_⟩
  · unfold zLt
    rw [e 16 (by omega) (by omega), e 17 (by omega) (by omega)]
    exact h.1 x y hx hy
  · rw [e 18 (by omega) (by omega), e 19 (by omega) (by omega)]
    exact h.2 p hp
theorem zPlS.fr {L : zL} {M M' : zMem} (h : zPlS L M) (e0 : M'.1 15 5 = M.1 15 5) (e : ∀ c, 16 ≤ c → c ≤ 19 → M'.1 c = M.1 c) : zPlS L M' := by
  unfold zPlS
  rw [e0]
  exact h.imp id (fun z => ⟨z.1, z.2.fr e⟩)
theorem zTrC.fr {L : zL} {P : zPr} {M M' : zMem} (h : zTrC L P M) (hP : zRP P) (e0 : ∀ j, 12 ≤ j → j ≤ 17 → M'.1 34 j = M.1 34 j) (e : ∀ c, c = 55 ∨ (57 ≤ c ∧ c ≤ 92) ∨ c = 94 → M'.1 c = M.1 c) : zTrC L P M' := by
  unfold zTrC
  rw [e0 16 (by omega) (by omega), e0 17 (by omega) (by omega)]
  refine h.imp id (fun z => ⟨z.1, ?_⟩)
  obtain ⟨k, d, h1, h2⟩ := z.2
  refine ⟨k, d, ?_, h2.imp id (fun g => ?_)⟩
  · obtain ⟨a1, a2, a3, a4, a5, a6⟩ := h1
    refine ⟨a1, a2, by rw [e0 12 (by omega) (by omega)]; exact a3, by rw [e0 13 (by omega) (by omega)]; exact a4, by rw [e0 14 (by omega) (by omega)]; exact a5, fun r hr => ?_⟩
    have hr36 : r < 36 := by
      have h1 := hP.1
      have h2 := hP.2.2.1
      unfold rwOn at hr
      omega
    rw [e 55 (by omega), e (57 + r) (by omega)]
    exact a6 r hr
  · unfold zTrG
    rw [e0 15 (by omega) (by omega), e0 17 (by omega) (by omega), e 94 (by omega)]
    exact g
theorem zIC.ag {S : zSt} {M M' : zMem} (h : zIC S M) (r : zRS S) (a : zagC M M') : zIC S M' := by
  obtain ⟨h1, h2, h3, h4, h5, h6⟩ := h
  refine ⟨h1.fr r.1.1 (fun c hc => a.1 c (by omega)) (by rw [a.1 23 (by omega)]), h2.fr (by rw [a.1 23 (by omega)]) (a.1 24 (by omega)), h3.fr r.2.2.1 (fun j _ => by rw [a.1 34 (by omega)]) (fun c h1 h2 => a.1 c (by omega)), h4.fr (by rw [a.1 96 (by omega)]) (a.1 97 (by omega)) a.2, h5.fr (by rw [a.1 15 (by omega)]) (fun c h1 h2 => a.1 c (by omega)), h6.fr r.2.2.1 (fun j _ _ => by rw [a.1 34 (by omega)]) (fun c hc => a.1 c (by omega))⟩
theorem zIM.ag {S : zSt} {M M' : zMem} (h : zIM S M) (a : zagM M M') : zIM S M' := ⟨h.1.ag a, h.2.1.ag a, h.2.2.1.ag a, h.2.2.2.ag a⟩
/-- cells that a query of the class may touch: scratch only -/
def zsc (Q : List Nat) : Prop := ∀ c ∈ Q, (11 ≤ c ∧ c ≤ 14) ∨ (20 ≤ c ∧ c ≤ 22) ∨ c = 93 ∨ c = 95 ∨ c = 98 ∨ c = 99
theorem zIC.qf {S : zSt} {Q : List Nat} {M M' : zMem} (h : zIC S M) (r : zRS S) (hQ : zsc Q) (f : zfr Q M M') : zIC S M' := by
  obtain ⟨h1, h2, h3, h4, h5, h6⟩ := h
  have n : ∀ c, ¬ ((11 ≤ c ∧ c ≤ 14) ∨ (20 ≤ c ∧ c ≤ 22) ∨ c = 93 ∨ c = 95 ∨ c = 98 ∨ c = 99) → M'.1 c = M.1 c := fun c hc => f.1 c (fun z => hc (hQ c z))
  refine ⟨h1.fr r.1.1 (fun c hc => n c (by omega)) (by rw [n 23 (by omega)]), h2.fr (by rw [n 23 (by omega)]) (n 24 (by omega)), h3.fr r.2.2.1 (fun j _ => by rw [n 34 (by omega)]) (fun c h1 h2 => n c (by omega)), h4.fr (by rw [n 96 (by omega)]) (n 97 (by omega)) (by rw [f.2]), h5.fr (by rw [n 15 (by omega)]) (fun c h1 h2 => n c (by omega)), h6.fr r.2.2.1 (fun j _ _ => by rw [n 34 (by omega)]) (fun c hc => n c (by omega))⟩
/-- after lookAnew the invariant stands, with the plane -/
theorem zIC.look {S : zSt} {M : zMem} (h : zIC S M) (r : zRS S) : ∃ M', FX3_lookAnew M = some M' ∧ zIC S M' ∧ M'.1 15 5 = 0 ∧ zPlC S.1 M' ∧ zfr [15, 16, 17, 18, 19] M M' := by
  obtain ⟨h1, h2, h3, h4, h5, h6⟩ := h
  obtain ⟨M', g1, g2, g3, g4⟩ := lookAnew_eq h1 r.1 h5
  have n : ∀ c, ¬ (15 ≤ c ∧ c ≤ 19) → M'.1 c = M.1 c := fun c hc => g4.1 c (fun z => hc (by revert z; simp only [List.mem_cons, List.not_mem_nil, or_false]; omega))
  refine ⟨M', g1, ⟨h1.fr r.1.1 (fun c hc => n c (by omega)) (by rw [n 23 (by omega)]), h2.fr (by rw [n 23 (by omega)]) (n 24 (by omega)), h3.fr r.2.2.1 (fun j _ => by rw [n 34 (by omega)]) (fun c h1 h2 => n c (by omega)), h4.fr (by rw [n 96 (by omega)]) (n 97 (by omega)) (by rw [g4.2]), Or.inr ⟨g2, g3⟩, h6.fr r.2.2.1 (fun j _ _ => by rw [n 34 (by omega)]) (fun c hc => n c (by omega))⟩, g2, g3, g4⟩
theorem zIM.qf {S : zSt} {Q : List Nat} {M M' : zMem} (h : zIM S M) (hQ : ∀ c ∈ Q, c < 100 ∨ 107 ≤ c) (f : zfr Q M M') : zIM S M' := by
  have n : ∀ c, 100 ≤ c → c < 107 → M'.1 c = M.1 c := fun c h1 h2 => f.1 c (fun z => by have := hQ c z; omega)
  refine ⟨h.1.fr (fun j _ => by rw [n 100 (by omega) (by omega)]) (n 101 (by omega) (by omega)), h.2.1.fr (by rw [n 100 (by omega) (by omega)]) (n 102 (by omega) (by omega)), h.2.2.1.fr (fun j _ => by rw [n 100 (by omega) (by omega)]) (n 103 (by omega) (by omega)) (n 104 (by omega) (by omega)) (n 105 (by omega) (by omega)), h.2.2.2.fr (by rw [n 100 (by omega) (by omega)]) (n 106 (by omega) (by omega)) (by rw [f.2])⟩
/-- the two halves of a case, and the case -/
def zHC {ρ : Type} (F : zMem → Option (ρ × zMem)) (S : zSt) (r : ρ) (S' : zSt) : Prop := ∀ M, zIC S M → ∃ M1, F M = some (r, M1) ∧ zIC S' M1 ∧ zagM M M1
def zHM {ρ : Type} (F : zMem → Option (ρ × zMem)) (S : zSt) (r : ρ) (S' : zSt) : Prop := ∀ M, zIM S M → ∃ M1, F M = some (r, M1) ∧ zIM S' M1 ∧ zagC M M1
def zCase {ρ : Type} (F7 F8 : zMem → Option (ρ × zMem)) : Prop := ∀ S M, zRS S → zIC S M → zIM S M → ∃ r M1 M2 S', F7 M = some (r, M1) ∧ F8 M1 = some (r, M2) ∧ zRS S' ∧ zIC S' M2 ∧ zIM S' M2
theorem zCase.of {ρ : Type} {F7 F8 : zMem → Option (ρ × zMem)} (h : ∀ S, zRS S → ∃ r S', zRS S' ∧ zHC F7 S r S' ∧ zHM F8 S r S') : zCase F7 F8 := by
  intro S M hR hC hM
  obtain ⟨r, S', h1, h2, h3⟩ := h S hR
  obtain ⟨M1, a1, a2, a3⟩ := h2 M hC
  obtain ⟨M2, b1, b2, b3⟩ := h3 M1 (hM.ag a3)
  exact ⟨r, M1, M2, S', a1, b1, h1, a2.ag h1 b3, b2⟩
