theorem w92 : Cond.classLink RL 7 RX7 ∈ zTab := z_in 92 (by decide +kernel) rfl
theorem w93 : Cond.instantiable RX7 8 ∈ zTab := z_in 93 (by decide +kernel) rfl
theorem w94 : Cond.methodLink RL 9 yX7_init ∈ zTab := z_in 94 (by decide +kernel) rfl
theorem w95 : Cond.instanceMethod yX7_init ∈ zTab := z_in 95 (by decide +kernel) rfl
theorem w96 : Cond.code yX7_init cX7_init 4 none ∈ zTab := z_in 96 (by decide +kernel) rfl
theorem w781 : Cond.classLink RL 10 RX8 ∈ zTab := z_in 781 (by decide +kernel) rfl
theorem w782 : Cond.instantiable RX8 34 ∈ zTab := z_in 782 (by decide +kernel) rfl
theorem w783 : Cond.methodLink RL 12 yX8_init ∈ zTab := z_in 783 (by decide +kernel) rfl
theorem w784 : Cond.instanceMethod yX8_init ∈ zTab := z_in 784 (by decide +kernel) rfl
theorem w785 : Cond.code yX8_init cX8_init 2 none ∈ zTab := z_in 785 (by decide +kernel) rfl
/-! ===== from the law's entry on (printed by wip/whole/start.py) ===== -/
/-- the memory behind both constructors -/
def zMe : zMem := zfillM zM1 106 2401 (-9 : Int32)
def zMf : zMem := (fun c j => if c = 0 then 0 else if c = 1 then (if j = 0 then 2 else 0) else if c = 11 then 0 else if c = 15 then (if j = 5 then 1 else 0) else if c = 20 then 0 else if c = 23 then (if j = 1 then 25 else 0) else if c = 34 then (if j = 6 then 8 else (if j = 12 then 1 else (if j = 13 then 2 else (if j = 16 then 1 else 0)))) else if c = 96 then (if j = 5 then 5 else 0) else if c = 100 then (if j = 8 then 8 else (if j = 9 then 5 else 0)) else zMe.1 c j, fun _ => 0)
theorem zfin_none : ∀ q, q < 119 → q ∉ [0, 1, 11, 15, 20, 23, 34, 96, 100] → zPl zP69 q = none := by decide +kernel
theorem zfin_row {c : Nat} (h : c ∉ [0, 1, 11, 15, 20, 23, 34, 96, 100]) : zMf.1 c = zMe.1 c := by
  simp only [List.mem_cons, List.not_mem_nil, or_false, not_or] at h
  obtain ⟨h0, h1, h11, h15, h20, h23, h34, h96, h100⟩ := h
  funext j
  show (if c = 0 then 0 else if c = 1 then (if j = 0 then 2 else 0) else if c = 11 then 0 else if c = 15 then (if j = 5 then 1 else 0) else if c = 20 then 0 else if c = 23 then (if j = 1 then 25 else 0) else if c = 34 then (if j = 6 then 8 else (if j = 12 then 1 else (if j = 13 then 2 else (if j = 16 then 1 else 0)))) else if c = 96 then (if j = 5 then 5 else 0) else if c = 100 then (if j = 8 then 8 else (if j = 9 then 5 else 0)) else zMe.1 c j) = zMe.1 c j
  rw [if_neg h0, if_neg h1, if_neg h11, if_neg h15, if_neg h20, if_neg h23, if_neg h34, if_neg h96, if_neg h100]
set_option maxRecDepth 100000 in
theorem zfin_0 (ad : Nat → Nat) (cy : Nat → ClassId) : zcellP ad cy zP69 zMe 0 = zcell ad cy zMf 0 := by
  rw [zcellP_some (fs := [.ref 1, .ref 15, .ref 20, .ref 11, .ref 23, .ref 34, .ref 96, .long 0]) rfl, zcell5 (k := 7) rfl]
  rfl
set_option maxRecDepth 100000 in
theorem zfin_1 (ad : Nat → Nat) (cy : Nat → ClassId) : zcellP ad cy zP69 zMe 1 = zcell ad cy zMf 1 := by
  rw [zcellP_some (fs := [.ref 2, .int 0, .int 0, .int 0]) rfl, zcell5 (k := 2) rfl]
  rfl
set_option maxRecDepth 100000 in
theorem zfin_11 (ad : Nat → Nat) (cy : Nat → ClassId) : zcellP ad cy zP69 zMe 11 = zcell ad cy zMf 11 := by
  rw [zcellP_some (fs := [.ref 12, .ref 13, .ref 14, .int 0]) rfl, zcell5 (k := 4) rfl]
  rfl
set_option maxRecDepth 100000 in
theorem zfin_15 (ad : Nat → Nat) (cy : Nat → ClassId) : zcellP ad cy zP69 zMe 15 = zcell ad cy zMf 15 := by
  rw [zcellP_some (fs := [.ref 1, .ref 16, .ref 17, .ref 18, .ref 19, .int (1 : Int32)]) rfl, zcell5 (k := 3) rfl]
  rfl
set_option maxRecDepth 100000 in
theorem zfin_20 (ad : Nat → Nat) (cy : Nat → ClassId) : zcellP ad cy zP69 zMe 20 = zcell ad cy zMf 20 := by
  rw [zcellP_some (fs := [.ref 21, .ref 22, .int 0, .int 0]) rfl, zcell5 (k := 1) rfl]
  rfl
set_option maxRecDepth 100000 in
theorem zfin_23 (ad : Nat → Nat) (cy : Nat → ClassId) : zcellP ad cy zP69 zMe 23 = zcell ad cy zMf 23 := by
  rw [zcellP_some (fs := [.ref 24, .ref 25, .int 0, .int 0]) rfl, zcell5 (k := 5) rfl]
  rfl
set_option maxRecDepth 100000 in
theorem zfin_34 (ad : Nat → Nat) (cy : Nat → ClassId) : zcellP ad cy zP69 zMe 34 = zcell ad cy zMf 34 := by
  rw [zcellP_some (fs := [.ref 1, .ref 11, .ref 35, .ref 46, .int 0, .int 0, .int (8 : Int32), .ref 55, .ref 56, .ref 93, .ref 94, .ref 95, .int (1 : Int32), .int (2 : Int32), .int 0, .int 0, .int (1 : Int32), .int 0]) rfl, zcell5 (k := 6) rfl]
  rfl
set_option maxRecDepth 100000 in
theorem zfin_96 (ad : Nat → Nat) (cy : Nat → ClassId) : zcellP ad cy zP69 zMe 96 = zcell ad cy zMf 96 := by
  rw [zcellP_some (fs := [.ref 15, .ref 11, .ref 97, .ref 98, .ref 99, .int (5 : Int32)]) rfl, zcell5 (k := 0) rfl]
  rfl
set_option maxRecDepth 100000 in
theorem zfin_100 (ad : Nat → Nat) (cy : Nat → ClassId) : zcellP ad cy zP69 zMe 100 = zcell ad cy zMf 100 := by
  rw [zcellP_some (fs := [.ref 101, .int 0, .int 0, .int 0, .ref 102, .int 0, .int 0, .ref 103, .int (8 : Int32), .int (5 : Int32), .int 0, .ref 104, .ref 105, .ref 106, .long 0, .ref 107, .ref 108, .ref 109, .ref 110, .ref 111, .ref 112, .ref 113, .int 0, .int 0, .int 0, .int 0, .int 0, .int 0, .ref 114, .ref 115, .ref 116, .ref 117, .ref 118, .int 0]) rfl, zcell5 (k := 8) rfl]
  rfl
theorem zfin_cells (ad : Nat → Nat) (cy : Nat → ClassId) : ∀ q, q < 119 → zcellP ad cy zP69 zMe q = zcell ad cy zMf q := by
  intro q hq
  by_cases h : q ∈ [0, 1, 11, 15, 20, 23, 34, 96, 100]
  · simp only [List.mem_cons, List.not_mem_nil, or_false] at h
    rcases h with rfl | rfl | rfl | rfl | rfl | rfl | rfl | rfl | rfl
    · exact zfin_0 ad cy
    · exact zfin_1 ad cy
    · exact zfin_11 ad cy
    · exact zfin_15 ad cy
    · exact zfin_20 ad cy
    · exact zfin_23 ad cy
    · exact zfin_34 ad cy
    · exact zfin_96 ad cy
    · exact zfin_100 ad cy
  · rw [zcellP_none (zfin_none q hq h)]
    exact (zcell_congr (zfin_row h) rfl).symm
theorem zws_len {ad : Nat → Nat} {cy : Nat → ClassId} {M : zMem} : (zws ad cy M).length = 119 := by
  unfold zws
  rw [List.length_map, List.length_range]
theorem zfin_zR {Y : zY} {X : zX} {Φ : State → Prop} {pc : Nat} {lo : List (Nat × Value)} {st : List Value} (hY : zOf Y) (h : zG Y X 4 Φ pc lo st zMf) : zGp Y X 4 (xK X) (xN X) Φ 119 zP69 zMe pc lo st := by
  intro H locs ls hw hS hl
  refine h H locs ls (fun k q hk => ?_) ⟨fun i j p q hi hj hpq => ?_, fun k q hk => ?_⟩ hS hl
  · by_cases h9 : k < 119
    · rw [zws_get h9] at hk
      cases hk
      have g := hw.2.2 k h9
      rw [zfin_cells _ _ k h9, ← hY k h9] at g
      exact g
    · rw [List.getElem?_eq_none (by rw [zws_len]; omega)] at hk
      cases hk
  · have h1 : i < 119 := by have := (List.getElem?_eq_some_iff.mp hi).1; rw [zws_len] at this; exact this
    have h2 : j < 119 := by have := (List.getElem?_eq_some_iff.mp hj).1; rw [zws_len] at this; exact this
    rw [zws_get h1] at hi
    rw [zws_get h2] at hj
    cases hi
    cases hj
    have e : yA Y i = yA Y j := hpq
    rw [hY i h1, hY j h2] at e
    omega
  · have h1 : k < 119 := by have := (List.getElem?_eq_some_iff.mp hk).1; rw [zws_len] at this; exact this
    rw [zws_get h1] at hk
    cases hk
    show yB Y ≤ yA Y k
    rw [hY k h1]
    omega
theorem va_AOA.spec {U : State} (h : va_AOA .int U) : ∃ (c : Nat) (k : Class) (comp : ClassId), U.vm.classes[c]? = some k ∧ k.kind = .array comp (.array .int) ∧ U.vm.findClass ("[" ++ (FieldType.array .int).toString) = some c := by
  have h0 := h
  unfold va_AOA Cond.before Cond.holds at h0
  simp only [Cond.value, beq_iff_eq] at h0
  cases hc : U.vm.findClass (FieldType.array .int).toString with
  | none => simp [hc] at h0
  | some comp =>
    simp only [hc, Option.bind_some, Option.bind_eq_some_iff, Option.map_eq_some_iff] at h0
    obtain ⟨c, hi, k, hk, hb⟩ := h0
    cases hkk : k.kind with
    | array c2 ty2 =>
      rw [hkk] at hb
      simp only [Bool.and_eq_true, decide_eq_true_eq] at hb
      exact ⟨c, k, c2, hk, by rw [hkk, hb.1], hb.2⟩
    | _ => rw [hkk] at hb; cases hb
theorem zNF_in : ∀ q, q ∈ zNF → Cond.fieldLinkNest q.1 q.2.1 q.2.2.1 q.2.2.2.1 q.2.2.2.2.1 q.2.2.2.2.2 ∈ lw_tbl := List.forall_mem_cons.mpr ⟨List.mem_of_getElem? (i := 109) (by decide +kernel), List.forall_mem_cons.mpr ⟨List.mem_of_getElem? (i := 110) (by decide +kernel), List.forall_mem_cons.mpr ⟨List.mem_of_getElem? (i := 112) (by decide +kernel), List.forall_mem_cons.mpr ⟨List.mem_of_getElem? (i := 114) (by decide +kernel), List.forall_mem_cons.mpr ⟨List.mem_of_getElem? (i := 116) (by decide +kernel), List.forall_mem_cons.mpr ⟨List.mem_of_getElem? (i := 135) (by decide +kernel), List.forall_mem_cons.mpr ⟨List.mem_of_getElem? (i := 137) (by decide +kernel), List.forall_mem_cons.mpr ⟨List.mem_of_getElem? (i := 138) (by decide +kernel), List.forall_mem_cons.mpr ⟨List.mem_of_getElem? (i := 140) (by decide +kernel), List.forall_mem_cons.mpr ⟨List.mem_of_getElem? (i := 141) (by decide +kernel), List.forall_mem_cons.mpr ⟨List.mem_of_getElem? (i := 161) (by decide +kernel), List.forall_mem_cons.mpr ⟨List.mem_of_getElem? (i := 162) (by decide +kernel), List.forall_mem_cons.mpr ⟨List.mem_of_getElem? (i := 165) (by decide +kernel), List.forall_mem_cons.mpr ⟨List.mem_of_getElem? (i := 186) (by decide +kernel), List.forall_mem_cons.mpr ⟨List.mem_of_getElem? (i := 189) (by decide +kernel), List.forall_mem_cons.mpr ⟨List.mem_of_getElem? (i := 191) (by decide +kernel), List.forall_mem_cons.mpr ⟨List.mem_of_getElem? (i := 211) (by decide +kernel), List.forall_mem_cons.mpr ⟨List.mem_of_getElem? (i := 213) (by decide +kernel), List.forall_mem_cons.mpr ⟨List.mem_of_getElem? (i := 215) (by decide +kernel), List.forall_mem_cons.mpr ⟨List.mem_of_getElem? (i := 237) (by decide +kernel), List.forall_mem_cons.mpr ⟨List.mem_of_getElem? (i := 239) (by decide +kernel), List.forall_mem_cons.mpr ⟨List.mem_of_getElem? (i := 241) (by decide +kernel), List.forall_mem_cons.mpr ⟨List.mem_of_getElem? (i := 250) (by decide +kernel), List.forall_mem_cons.mpr ⟨List.mem_of_getElem? (i := 252) (by decide +kernel), List.forall_mem_cons.mpr ⟨List.mem_of_getElem? (i := 254) (by decide +kernel), List.forall_mem_cons.mpr ⟨List.mem_of_getElem? (i := 305) (by decide +kernel), List.forall_mem_cons.mpr ⟨List.mem_of_getElem? (i := 309) (by decide +kernel), List.forall_mem_cons.mpr ⟨List.mem_of_getElem? (i := 370) (by decide +kernel), List.forall_mem_cons.mpr ⟨List.mem_of_getElem? (i := 620) (by decide +kernel), List.forall_mem_cons.mpr ⟨List.mem_of_getElem? (i := 625) (by decide +kernel), fun _ h => absurd h List.not_mem_nil⟩⟩⟩⟩⟩⟩⟩⟩⟩⟩⟩⟩⟩⟩⟩⟩⟩⟩⟩⟩⟩⟩⟩⟩⟩⟩⟩⟩⟩⟩
theorem zNM_in : ∀ q, q ∈ zNM → Cond.methodLinkNest q.1 q.2.1 q.2.2.1 q.2.2.2 ∈ lw_tbl := List.forall_mem_cons.mpr ⟨List.mem_of_getElem? (i := 102) (by decide +kernel), List.forall_mem_cons.mpr ⟨List.mem_of_getElem? (i := 129) (by decide +kernel), List.forall_mem_cons.mpr ⟨List.mem_of_getElem? (i := 153) (by decide +kernel), List.forall_mem_cons.mpr ⟨List.mem_of_getElem? (i := 181) (by decide +kernel), List.forall_mem_cons.mpr ⟨List.mem_of_getElem? (i := 204) (by decide +kernel), List.forall_mem_cons.mpr ⟨List.mem_of_getElem? (i := 227) (by decide +kernel), List.forall_mem_cons.mpr ⟨List.mem_of_getElem? (i := 295) (by decide +kernel), List.forall_mem_cons.mpr ⟨List.mem_of_getElem? (i := 366) (by decide +kernel), List.forall_mem_cons.mpr ⟨List.mem_of_getElem? (i := 398) (by decide +kernel), List.forall_mem_cons.mpr ⟨List.mem_of_getElem? (i := 401) (by decide +kernel), List.forall_mem_cons.mpr ⟨List.mem_of_getElem? (i := 414) (by decide +kernel), List.forall_mem_cons.mpr ⟨List.mem_of_getElem? (i := 441) (by decide +kernel), List.forall_mem_cons.mpr ⟨List.mem_of_getElem? (i := 448) (by decide +kernel), List.forall_mem_cons.mpr ⟨List.mem_of_getElem? (i := 449) (by decide +kernel), List.forall_mem_cons.mpr ⟨List.mem_of_getElem? (i := 452) (by decide +kernel), List.forall_mem_cons.mpr ⟨List.mem_of_getElem? (i := 455) (by decide +kernel), List.forall_mem_cons.mpr ⟨List.mem_of_getElem? (i := 456) (by decide +kernel), List.forall_mem_cons.mpr ⟨List.mem_of_getElem? (i := 473) (by decide +kernel), List.forall_mem_cons.mpr ⟨List.mem_of_getElem? (i := 497) (by decide +kernel), List.forall_mem_cons.mpr ⟨List.mem_of_getElem? (i := 501) (by decide +kernel), List.forall_mem_cons.mpr ⟨List.mem_of_getElem? (i := 512) (by decide +kernel), List.forall_mem_cons.mpr ⟨List.mem_of_getElem? (i := 521) (by decide +kernel), List.forall_mem_cons.mpr ⟨List.mem_of_getElem? (i := 533) (by decide +kernel), List.forall_mem_cons.mpr ⟨List.mem_of_getElem? (i := 538) (by decide +kernel), List.forall_mem_cons.mpr ⟨List.mem_of_getElem? (i := 547) (by decide +kernel), List.forall_mem_cons.mpr ⟨List.mem_of_getElem? (i := 556) (by decide +kernel), List.forall_mem_cons.mpr ⟨List.mem_of_getElem? (i := 573) (by decide +kernel), List.forall_mem_cons.mpr ⟨List.mem_of_getElem? (i := 592) (by decide +kernel), List.forall_mem_cons.mpr ⟨List.mem_of_getElem? (i := 604) (by decide +kernel), List.forall_mem_cons.mpr ⟨List.mem_of_getElem? (i := 626) (by decide +kernel), List.forall_mem_cons.mpr ⟨List.mem_of_getElem? (i := 631) (by decide +kernel), List.forall_mem_cons.mpr ⟨List.mem_of_getElem? (i := 651) (by decide +kernel), List.forall_mem_cons.mpr ⟨List.mem_of_getElem? (i := 664) (by decide +kernel), List.forall_mem_cons.mpr ⟨List.mem_of_getElem? (i := 665) (by decide +kernel), List.forall_mem_cons.mpr ⟨List.mem_of_getElem? (i := 666) (by decide +kernel), List.forall_mem_cons.mpr ⟨List.mem_of_getElem? (i := 683) (by decide +kernel), List.forall_mem_cons.mpr ⟨List.mem_of_getElem? (i := 688) (by decide +kernel), List.forall_mem_cons.mpr ⟨List.mem_of_getElem? (i := 696) (by decide +kernel), List.forall_mem_cons.mpr ⟨List.mem_of_getElem? (i := 704) (by decide +kernel), List.forall_mem_cons.mpr ⟨List.mem_of_getElem? (i := 705) (by decide +kernel), List.forall_mem_cons.mpr ⟨List.mem_of_getElem? (i := 706) (by decide +kernel), List.forall_mem_cons.mpr ⟨List.mem_of_getElem? (i := 707) (by decide +kernel), List.forall_mem_cons.mpr ⟨List.mem_of_getElem? (i := 711) (by decide +kernel), List.forall_mem_cons.mpr ⟨List.mem_of_getElem? (i := 716) (by decide +kernel), List.forall_mem_cons.mpr ⟨List.mem_of_getElem? (i := 724) (by decide +kernel), List.forall_mem_cons.mpr ⟨List.mem_of_getElem? (i := 741) (by decide +kernel), List.forall_mem_cons.mpr ⟨List.mem_of_getElem? (i := 749) (by decide +kernel), List.forall_mem_cons.mpr ⟨List.mem_of_getElem? (i := 753) (by decide +kernel), List.forall_mem_cons.mpr ⟨List.mem_of_getElem? (i := 758) (by decide +kernel), List.forall_mem_cons.mpr ⟨List.mem_of_getElem? (i := 769) (by decide +kernel), List.forall_mem_cons.mpr ⟨List.mem_of_getElem? (i := 773) (by decide +kernel), fun _ h => absurd h List.not_mem_nil⟩⟩⟩⟩⟩⟩⟩⟩⟩⟩⟩⟩⟩⟩⟩⟩⟩⟩⟩⟩⟩⟩⟩⟩⟩⟩⟩⟩⟩⟩⟩⟩⟩⟩⟩⟩⟩⟩⟩⟩⟩⟩⟩⟩⟩⟩⟩⟩⟩⟩⟩

set_option maxRecDepth 100000 in
set_option maxHeartbeats 4000000 in
/-- the walk of the law from its entry, out of the pure claim -/
theorem zstart (hpure : ∀ (xs : Nat → Int32) (L : Nat), L ≤ 3584 → FL xs L zMf = some 1) {p : Program} {e : Env} {s : State} {m : MethodId} {below : List Frame} {meth : Method} {c : Code} (l : Launch) {b L : Nat} {xs : Nat → Int32} (hL : L ≤ 3584) (C0 : lw_At p s m meth c b L xs) : W p l e room_1 s m #[Value.ref b] below meth c s.heap [] 0 0 (lw_Z below #[Value.ref b] s) (entryFrame m ([Value.ref b] : List Value).toArray 4) := by
  obtain ⟨hx, hb, hr, hml, hown, hts, hX, hbl, hlocks, hgv⟩ := id C0
  have htz : ∀ w ∈ zTab, w.before #[Value.ref b] s = true := fun w hw => hts w (List.mem_filter.mp hw).1
  have hfl := flat_of_before _ hgv
  have hold : ∀ a : Nat, a < s.heap.size → ¬ (s.heap.size ≤ a) := fun a h => Nat.not_le.mpr h
  obtain ⟨c0, iS0, hKn0⟩ := u_known (C := RX0) (T := TX0) (N := 6) (n := 6) htz zOKw0 (htz (.instantiable RX0 6) w294)
  obtain ⟨c1, iS1, hKn1⟩ := u_known (C := RX1) (T := TX1) (N := 4) (n := 4) htz zOKw1 (htz (.instantiable RX1 4) w180)
  obtain ⟨c2, iS2, hKn2⟩ := u_known (C := RX2) (T := TX2) (N := 4) (n := 4) htz zOKw2 (htz (.instantiable RX2 4) w101)
  obtain ⟨c3, iS3, hKn3⟩ := u_known (C := RX3) (T := TX3) (N := 6) (n := 6) htz zOKw3 (htz (.instantiable RX3 6) w152)
  obtain ⟨c4, iS4, hKn4⟩ := u_known (C := RX4) (T := TX4) (N := 4) (n := 4) htz zOKw4 (htz (.instantiable RX4 4) w128)
  obtain ⟨c5, iS5, hKn5⟩ := u_known (C := RX5) (T := TX5) (N := 4) (n := 4) htz zOKw5 (htz (.instantiable RX5 4) w203)
  obtain ⟨c6, iS6, hKn6⟩ := u_known (C := RX6) (T := TX6) (N := 18) (n := 18) htz zOKw6 (htz (.instantiable RX6 18) w226)
  obtain ⟨c7, iS7, hKn7⟩ := u_known (C := RX7) (T := TX7) (N := 8) (n := 8) htz zOKw7 (htz (.instantiable RX7 8) w93)
  obtain ⟨c8, iS8, hKn8⟩ := u_known (C := RX8) (T := TX8) (N := 34) (n := 34) htz zOKw8 (htz (.instantiable RX8 34) w782)
  obtain ⟨dC, dI, hKc⟩ : ∃ (dC : Nat → ClassId) (dI : Nat → Nat → Nat), ∀ (k : Nat) (q : vw_C), vwCl[k]? = some q → u_Kn s q.1 q.2.1 q.2.2 (dC k) (dI k) := by
    refine ⟨fun k => if k = 0 then c0 else if k = 1 then c1 else if k = 2 then c2 else if k = 3 then c3 else if k = 4 then c4 else if k = 5 then c5 else if k = 6 then c6 else if k = 7 then c7 else c8, fun k => if k = 0 then iS0 else if k = 1 then iS1 else if k = 2 then iS2 else if k = 3 then iS3 else if k = 4 then iS4 else if k = 5 then iS5 else if k = 6 then iS6 else if k = 7 then iS7 else iS8, ?_⟩
    intro k q hq
    match k, hq with
    | 0, hq => cases hq; exact hKn0
    | 1, hq => cases hq; exact hKn1
    | 2, hq => cases hq; exact hKn2
    | 3, hq => cases hq; exact hKn3
    | 4, hq => cases hq; exact hKn4
    | 5, hq => cases hq; exact hKn5
    | 6, hq => cases hq; exact hKn6
    | 7, hq => cases hq; exact hKn7
    | 8, hq => cases hq; exact hKn8
    | k + 9, hq => simp [vwCl] at hq
  obtain ⟨a0, k0, m0, p0, q0, r0⟩ := Cond.arrayClass_spec (htz _ w126)
  obtain ⟨a1, k1, m1, p1, q1, r1⟩ := Cond.arrayClass_spec (htz _ w891)
  obtain ⟨a2, k2, m2, p2, q2, r2⟩ := Cond.arrayClass_spec (htz _ w201)
  have hAO : va_AOA .int s := hts (Cond.arrayOver (.array .int)) (List.mem_of_getElem? (i := 107) (by decide +kernel))
  obtain ⟨a3, k3, m3, q3, r3, p3⟩ := va_AOA.spec hAO
  have hLe : ∀ j : Nat, j < 6 → (Term.elem (.static "LensBench" "LEAST_OF" "[I") (.int (Int32.ofNat j))).eval #[Value.ref b] s none [] s = some (.int (zLO j)) := by
    intro j hj
    match j, hj with
    | 0, _ => exact va_eqt (hfl _ (by decide +kernel))
    | 1, _ => exact va_eqt (hfl _ (by decide +kernel))
    | 2, _ => exact va_eqt (hfl _ (by decide +kernel))
    | 3, _ => exact va_eqt (hfl _ (by decide +kernel))
    | 4, _ => exact va_eqt (hfl _ (by decide +kernel))
    | 5, _ => exact va_eqt (hfl _ (by decide +kernel))
    | j + 6, h => omega
  have hMo : ∀ j : Nat, j < 6 → (Term.elem (.static "LensBench" "MOST_OF" "[I") (.int (Int32.ofNat j))).eval #[Value.ref b] s none [] s = some (.int (zMO j)) := by
    intro j hj
    match j, hj with
    | 0, _ => exact va_eqt (hfl _ (by decide +kernel))
    | 1, _ => exact va_eqt (hfl _ (by decide +kernel))
    | 2, _ => exact va_eqt (hfl _ (by decide +kernel))
    | 3, _ => exact va_eqt (hfl _ (by decide +kernel))
    | 4, _ => exact va_eqt (hfl _ (by decide +kernel))
    | 5, _ => exact va_eqt (hfl _ (by decide +kernel))
    | j + 6, h => omega
  obtain ⟨t1, ht1, hT1⟩ := va_Tof (ty := .int) (N := 6) (f := fun j => .int (zLO j)) (A := fun q => s.heap.size ≤ q) (by decide) (hfl (Cond.arrayOf (.static "LensBench" "LEAST_OF" "[I") .int) (by decide +kernel)) (va_eqt (z := 6) (hfl _ (by decide +kernel))) hLe hold
  obtain ⟨t2, ht2, hT2⟩ := va_Tof (ty := .int) (N := 6) (f := fun j => .int (zMO j)) (A := fun q => s.heap.size ≤ q) (by decide) (hfl (Cond.arrayOf (.static "LensBench" "MOST_OF" "[I") .int) (by decide +kernel)) (va_eqt (z := 6) (hfl _ (by decide +kernel))) hMo hold
  have hZ1 := va_Zref (hts _ (List.mem_of_getElem? (i := 356) (by decide +kernel))) (htz _ w79) ht1 hold
  have hZ2 := va_Zref (hts _ (List.mem_of_getElem? (i := 358) (by decide +kernel))) (htz _ w79) ht2 hold
  obtain ⟨Y, hYe⟩ : ∃ Y : zY, Y = ((dC, dI), (fun q => if q < 119 then s.heap.size + q else if q = 119 then t1 else if q = 120 then t2 else b), (fun k => if k = 0 then a0 else if k = 1 then a1 else if k = 2 then a2 else a3), s.heap.size) := ⟨_, rfl⟩
  have hY : zOf Y := fun q hq => by rw [hYe]; show (if q < 119 then s.heap.size + q else _) = s.heap.size + q; rw [if_pos hq]
  have hA119 : yA Y 119 = t1 := by rw [hYe]; rfl
  have hA120 : yA Y 120 = t2 := by rw [hYe]; rfl
  have hA121 : yA Y 121 = b := by rw [hYe]; rfl
  have hB0 : yB Y = s.heap.size := by rw [hYe]
  have hS : zSs Y s s.heap := by
    unfold zSs
    rw [hA119, hA120]
    have e : yF Y = fun q => s.heap.size ≤ q := by rw [hYe]
    rw [e]
    exact ⟨hZ1, hZ2, hT1, hT2⟩
  have hK : va_K (yD Y) vwCl (ztys (yC Y)) s := by
    rw [hYe]
    refine ⟨hKc, fun k q hq => ?_⟩
    match k, hq with
    | 0, hq => cases hq; exact ⟨fun n z => ⟨fun k h => (by cases h), k0, q0, m0, r0⟩, p0⟩
    | 1, hq => cases hq; exact ⟨fun n z => ⟨fun k h => (by cases h), k1, q1, m1, r1⟩, p1⟩
    | 2, hq => cases hq; exact ⟨fun n z => ⟨fun k h => (by cases h), k2, q2, m2, r2⟩, p2⟩
    | 3, hq => cases hq; exact ⟨fun n z => ⟨fun k h => (by cases h), k3, q3, m3, r3⟩, p3⟩
    | k + 4, hq => simp [ztys] at hq
  have hN : zNs s := ⟨fun q hq => va_Nw.of rfl (hts _ (zNF_in q hq)), fun q hq => va_Nw.of rfl (hts _ (zNM_in q hq)), hAO⟩
  obtain ⟨X, hXe⟩ : ∃ X : zX, X = (p, l, e, room_1, s, m, #[Value.ref b], below, meth, c, 600000, 7302250) := ⟨_, rfl⟩
  have C : zC Y X RL cL_law 4 room_1 ret := by
    rw [hXe]
    exact ⟨hx, hb, hml, hown, htz, hlocks, hr, rfl, ⟨Nat.le_refl _, Nat.le_refl _⟩, by rw [hB0]; exact Nat.le_refl _, hK, hN, hS⟩
  have HX : zLx Y X L xs := by
    rw [hXe]
    unfold zLx
    rw [hA121]
    exact ⟨hX, hbl, hB0, rfl, rfl, rfl⟩
  have hl := lv_entry ([.ref b]) (n := 4) (Nat.le_of_ble_eq_true rfl)
  rw [lg_entry_eq]
  generalize (lg_sl ([.ref b]) ++ List.replicate (4 - (lg_sl ([.ref b])).length) Slot.unset).toArray = ls at hl ⊢
  have hl : lv_has ls 4 (([(0, .ref 121)] : List (Nat × Value)).map (fun q => (q.1, zcv (yA Y) q.2))) := by
    show lv_has ls 4 [(0, .ref (yA Y 121))]
    rw [hA121]
    exact hl
  have fin : zGp Y X 4 600000 7302250 (lw_Z below #[Value.ref b] s) 119 zP69 zMe 16 [(2, .ref 100), (1, .ref 0), (0, .ref 121)] [] := by
    have h1 := mL_law C HX zMf 1 (hpure xs L hL)
    have h2 : zG Y X 4 (lw_Z below #[Value.ref b] s) 16 [(2, .ref 100), (1, .ref 0), (0, .ref 121)] [] zMf := by
      intro H locs ls hP hD hS hl T hT X'
      obtain ⟨t, g1, g2⟩ := h1 H locs ls hP hD hS hl T hT X'
      refine ⟨t, g1, ?_⟩
      have g3 := g2 rfl
      rw [hA121, hXe] at g3
      exact g3
    have h3 := zfin_zR hY h2
    have e1 : xK X = 600000 := by rw [hXe]
    have e2 : xN X = 7302250 := by rw [hXe]
    rw [e1, e2] at h3
    exact h3
  have key : zGp Y X 4 0 0 (lw_Z below #[Value.ref b] s) 0 [] zM0 0 [(0, .ref 121)] [] := by
    refine p_new (q := 0) (ci := 7) C [.null, .null, .null, .null, .null, .null, .null, .long 0] zOK7 w92 w93 w79 hY rfl rfl (by decide) zdf7 (fun _ => rfl) (Nat.le_of_ble_eq_true rfl) (Nat.le_of_ble_eq_true rfl) dL_law_0 rfl ?_
    refine p_dup (P := zP1) C dL_law_3 rfl rfl ?_
    refine p_callI (P := zP1) (c2 := cX7_init) (n2 := 4) C [] (na := 0) rfl (mX7_init Y hY) w94 w95 w79 w96 hdX7_init rfl ⟨Nat.le_of_ble_eq_true rfl, Nat.le_of_ble_eq_true rfl⟩ ⟨Nat.le_of_ble_eq_true rfl, Nat.le_of_ble_eq_true rfl⟩ (Nat.le_of_ble_eq_true rfl) rfl dL_law_4 rfl ?_
    refine p_astore_n (P := zP48) (M := zM1) (lo' := [(1, .ref 0), (0, .ref 121)]) C dL_law_7 rfl (by decide) rfl rfl ?_
    refine p_new (q := 100) (ci := 8) (P := zP48) C [.null, .int 0, .int 0, .int 0, .null, .int 0, .int 0, .null, .int 0, .int 0, .int 0, .null, .null, .null, .long 0, .null, .null, .null, .null, .null, .null, .null, .int 0, .int 0, .int 0, .int 0, .int 0, .int 0, .null, .null, .null, .null, .null, .int 0] zOK8 w781 w782 w88 hY rfl rfl (by decide) zdf8 (fun _ => rfl) (Nat.le_of_ble_eq_true rfl) (Nat.le_of_ble_eq_true rfl) dL_law_8 rfl ?_
    refine p_dup (P := zP49) C dL_law_11 rfl rfl ?_
    refine p_callI (P := zP49) (c2 := cX8_init) (n2 := 2) C [] (na := 0) rfl (mX8_init Y hY) w783 w784 w88 w785 hdX8_init rfl ⟨Nat.le_of_ble_eq_true rfl, Nat.le_of_ble_eq_true rfl⟩ ⟨Nat.le_of_ble_eq_true rfl, Nat.le_of_ble_eq_true rfl⟩ (Nat.le_of_ble_eq_true rfl) rfl dL_law_12 rfl ?_
    refine p_astore_n (P := zP69) (M := zMe) (lo' := [(2, .ref 100), (1, .ref 0), (0, .ref 121)]) C dL_law_15 rfl (by decide) rfl rfl ?_
    exact p_widen (Nat.le_of_ble_eq_true rfl) (Nat.le_of_ble_eq_true rfl) fin
  have g := key s.heap [] ls ⟨by rw [hB0]; rfl, Nat.zero_le _, fun q hq => absurd hq (Nat.not_lt_zero _)⟩ (by rw [hXe]; exact va_S.rf) hl
  rw [hXe] at g
  exact g
