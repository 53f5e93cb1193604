/-! ===== the constructors (printed by wip/whole/init.py) ===== -/
def zM0 : zMem := (fun _ _ => 0, fun _ => 0)
def zfillM (M : zMem) (q k : Nat) (v : Int32) : zMem := (fun c j => if c = q ∧ j < k then v else M.1 c j, M.2)
def zM1 : zMem := (zfillM zM0 97 2401 (-9 : Int32))
theorem zfillM_0 (M : zMem) (q : Nat) (v : Int32) : zfillM M q 0 v = M := by
  unfold zfillM
  refine Prod.ext (funext fun c => funext fun j => ?_) rfl
  simp
theorem zfillM_S (M : zMem) (q : Nat) {i : Nat} {v : Int32} (h : i < 2 ^ 31) : zwr (zfillM M q i v) q (zcl (nI i)) v = zfillM M q (i + 1) v := by
  have e : zcl (nI i) = i := nI_clamp h
  rw [e]
  unfold zwr zfillM
  refine Prod.ext (funext fun c => funext fun j => ?_) rfl
  show (if c = q ∧ j = i then v else if c = q ∧ j < i then v else M.1 c j) = if c = q ∧ j < i + 1 then v else M.1 c j
  by_cases h1 : c = q
  · by_cases h2 : j = i
    · rw [if_pos ⟨h1, h2⟩, if_pos ⟨h1, by omega⟩]
    · rw [if_neg (fun h => h2 h.2)]
      by_cases h3 : j < i
      · rw [if_pos ⟨h1, h3⟩, if_pos ⟨h1, by omega⟩]
      · rw [if_neg (fun h => h3 h.2), if_neg (fun h => by have := h.2; omega)]
  · rw [if_neg (fun h => h1 h.1), if_neg (fun h => h1 h.1), if_neg (fun h => h1 h.1)]
set_option maxRecDepth 100000 in
set_option maxHeartbeats 4000000 in
theorem pJ7_fill_53178 (Y : zY) (hY : zOf Y) {n q k : Nat} {P : List (Nat × List Value)} {M : zMem} {v : Int32} (hqn : q < n) (hP : zPl P q = none) (h1 : zkd q = (1, k)) (hk : k < 2 ^ 31) : zMp Y yJ7_fill_53178 cJ7_fill_53178 4 0 0 0 0 [.ref q, .int v] n P M n P (zfillM M q k v) := by
  refine zMp_of (own := RJ7) (by decide) rfl (Nat.le_of_ble_eq_true rfl) (fun X C _ => ?_)
  show zGp Y X 4 0 0 _ n P M 0 [(0, .ref q), (1, .int v)] []
  refine p_iconst C (0 : Int32) dJ7_fill_53178_0 rfl rfl ?_
  refine p_istore_n (lo' := [(2, .int (0 : Int32)), (0, .ref q), (1, .int v)]) C dJ7_fill_53178_1 rfl (by decide) rfl rfl ?_
  refine p_aload_n C 1 dJ7_fill_53178_2 rfl rfl rfl ?_
  refine p_alen C hY hqn hP h1 dJ7_fill_53178_3 rfl ?_
  refine p_istore_n (lo' := [(3, .int (nI k)), (2, .int (0 : Int32)), (0, .ref q), (1, .int v)]) C dJ7_fill_53178_4 rfl (by decide) rfl rfl ?_
  have loop : ∀ (r i : Nat), i + r = k → zGp Y X 4 0 0 (MQ (xB X) (va_Qv (fun _ : Unit => True) (fun _ => zPq Y n P (zfillM M q k v)) (yF Y)) (xA X) (xS X) 0 0 (yF Y)) n P (zfillM M q i v) 5 [(0, .ref q), (1, .int v), (2, .int (nI i)), (3, .int (nI k))] [] := by
    intro r
    induction r with
    | zero =>
      intro i hi
      have hi : i = k := by omega
      subst hi
      refine p_iload_n C 2 dJ7_fill_53178_5 rfl rfl rfl ?_
      refine p_iload_n C 3 dJ7_fill_53178_6 rfl rfl rfl ?_
      refine p_icmpge C dJ7_fill_53178_7 rfl rfl (fun _ => ?_) (fun h => absurd (Int32.le_refl _) h)
      exact p_vret C dJ7_fill_53178_20
    | succ r ih =>
      intro i hi
      refine p_iload_n C 2 dJ7_fill_53178_5 rfl rfl rfl ?_
      refine p_iload_n C 3 dJ7_fill_53178_6 rfl rfl rfl ?_
      refine p_icmpge C dJ7_fill_53178_7 rfl rfl (fun h => absurd h (nI_ge (by omega) hk)) (fun _ => ?_)
      refine p_aload_n C 0 dJ7_fill_53178_10 rfl rfl rfl ?_
      refine p_iload_n C 2 dJ7_fill_53178_11 rfl rfl rfl ?_
      refine p_iload_n C 1 dJ7_fill_53178_12 rfl rfl rfl ?_
      refine p_iastore (k := k) C hY hqn hP h1 (vp_in_nI (by omega) hk) dJ7_fill_53178_13 rfl ?_
      rw [zfillM_S _ _ (by omega)]
      refine p_iinc (v := nI (i + 1)) (lo' := [(2, .int (nI (i + 1))), (0, .ref q), (1, .int v), (3, .int (nI k))]) C 2 dJ7_fill_53178_14 rfl (nI_1 i) (by decide) rfl rfl ?_
      refine p_goto C dJ7_fill_53178_17 rfl ?_
      exact p_perm [1, 2, 0, 3] rfl (ih (i + 1) (by omega))
  have g := loop k 0 (by omega)
  rw [zfillM_0] at g
  exact p_perm [2, 3, 1, 0] rfl g
theorem zdf0 : ∀ j, j < 6 → defaultValue (tyX0 j) = vp_V [.null, .null, .null, .null, .null, .int 0] j := by decide +kernel
theorem zdf1 : ∀ j, j < 4 → defaultValue (tyX1 j) = vp_V [.null, .null, .int 0, .int 0] j := by decide +kernel
theorem zdf2 : ∀ j, j < 4 → defaultValue (tyX2 j) = vp_V [.null, .int 0, .int 0, .int 0] j := by decide +kernel
theorem zdf3 : ∀ j, j < 6 → defaultValue (tyX3 j) = vp_V [.null, .null, .null, .null, .null, .int 0] j := by decide +kernel
theorem zdf4 : ∀ j, j < 4 → defaultValue (tyX4 j) = vp_V [.null, .null, .null, .int 0] j := by decide +kernel
theorem zdf5 : ∀ j, j < 4 → defaultValue (tyX5 j) = vp_V [.null, .null, .int 0, .int 0] j := by decide +kernel
theorem zdf6 : ∀ j, j < 18 → defaultValue (tyX6 j) = vp_V [.null, .null, .null, .null, .int 0, .int 0, .int 0, .null, .null, .null, .null, .null, .int 0, .int 0, .int 0, .int 0, .int 0, .int 0] j := by decide +kernel
theorem zdf7 : ∀ j, j < 8 → defaultValue (tyX7 j) = vp_V [.null, .null, .null, .null, .null, .null, .null, .long 0] j := by decide +kernel
theorem zdf8 : ∀ j, j < 34 → defaultValue (tyX8 j) = vp_V [.null, .int 0, .int 0, .int 0, .null, .int 0, .int 0, .null, .int 0, .int 0, .int 0, .null, .null, .null, .long 0, .null, .null, .null, .null, .null, .null, .null, .int 0, .int 0, .int 0, .int 0, .int 0, .int 0, .null, .null, .null, .null, .null, .int 0] j := by decide +kernel
theorem w97 : Cond.methodLink RX7 3 objectInit ∈ zTab := z_in 97 (by decide +kernel) rfl
theorem w98 : Cond.instanceMethod objectInit ∈ zTab := z_in 98 (by decide +kernel) rfl
theorem w99 : Cond.code objectInit ⟨#[0xb1]⟩ 1 none ∈ zTab := z_in 99 (by decide +kernel) rfl
theorem w100 : Cond.classLink RX7 9 RX2 ∈ zTab := z_in 100 (by decide +kernel) rfl
theorem w101 : Cond.instantiable RX2 4 ∈ zTab := z_in 101 (by decide +kernel) rfl
theorem w103 : Cond.instanceMethod yX2_init ∈ zTab := z_in 103 (by decide +kernel) rfl
theorem w104 : Cond.code yX2_init cX2_init 1 none ∈ zTab := z_in 104 (by decide +kernel) rfl
theorem w105 : Cond.methodLink RX2 3 objectInit ∈ zTab := z_in 105 (by decide +kernel) rfl
theorem w106 : Cond.classLink RX2 9 "[[I" ∈ zTab := z_in 106 (by decide +kernel) rfl
theorem w126 : Cond.arrayClass (.int) ∈ zTab := z_in 126 (by decide +kernel) rfl
theorem w127 : Cond.classLink RX7 12 RX4 ∈ zTab := z_in 127 (by decide +kernel) rfl
theorem w128 : Cond.instantiable RX4 4 ∈ zTab := z_in 128 (by decide +kernel) rfl
theorem w130 : Cond.instanceMethod yX4_init ∈ zTab := z_in 130 (by decide +kernel) rfl
theorem w131 : Cond.code yX4_init cX4_init 1 none ∈ zTab := z_in 131 (by decide +kernel) rfl
theorem w132 : Cond.methodLink RX4 1 objectInit ∈ zTab := z_in 132 (by decide +kernel) rfl
theorem w151 : Cond.classLink RX7 15 RX3 ∈ zTab := z_in 151 (by decide +kernel) rfl
theorem w152 : Cond.instantiable RX3 6 ∈ zTab := z_in 152 (by decide +kernel) rfl
theorem w154 : Cond.instanceMethod yX3_init ∈ zTab := z_in 154 (by decide +kernel) rfl
theorem w155 : Cond.code yX3_init cX3_init 2 none ∈ zTab := z_in 155 (by decide +kernel) rfl
theorem w156 : Cond.methodLink RX3 3 objectInit ∈ zTab := z_in 156 (by decide +kernel) rfl
theorem w179 : Cond.classLink RX7 32 RX1 ∈ zTab := z_in 179 (by decide +kernel) rfl
theorem w180 : Cond.instantiable RX1 4 ∈ zTab := z_in 180 (by decide +kernel) rfl
theorem w182 : Cond.instanceMethod yX1_init ∈ zTab := z_in 182 (by decide +kernel) rfl
theorem w183 : Cond.code yX1_init cX1_init 1 none ∈ zTab := z_in 183 (by decide +kernel) rfl
theorem w184 : Cond.methodLink RX1 3 objectInit ∈ zTab := z_in 184 (by decide +kernel) rfl
theorem w201 : Cond.arrayClass (.boolean) ∈ zTab := z_in 201 (by decide +kernel) rfl
theorem w202 : Cond.classLink RX7 39 RX5 ∈ zTab := z_in 202 (by decide +kernel) rfl
theorem w203 : Cond.instantiable RX5 4 ∈ zTab := z_in 203 (by decide +kernel) rfl
theorem w205 : Cond.instanceMethod yX5_init ∈ zTab := z_in 205 (by decide +kernel) rfl
theorem w206 : Cond.code yX5_init cX5_init 1 none ∈ zTab := z_in 206 (by decide +kernel) rfl
theorem w207 : Cond.methodLink RX5 3 objectInit ∈ zTab := z_in 207 (by decide +kernel) rfl
theorem w208 : Cond.classLink RX5 15 "[[I" ∈ zTab := z_in 208 (by decide +kernel) rfl
theorem w225 : Cond.classLink RX7 46 RX6 ∈ zTab := z_in 225 (by decide +kernel) rfl
theorem w226 : Cond.instantiable RX6 18 ∈ zTab := z_in 226 (by decide +kernel) rfl
theorem w228 : Cond.instanceMethod yX6_init ∈ zTab := z_in 228 (by decide +kernel) rfl
theorem w229 : Cond.code yX6_init cX6_init 3 none ∈ zTab := z_in 229 (by decide +kernel) rfl
theorem w230 : Cond.methodLink RX6 5 objectInit ∈ zTab := z_in 230 (by decide +kernel) rfl
theorem w231 : Cond.classLink RX6 11 "[[I" ∈ zTab := z_in 231 (by decide +kernel) rfl
theorem w293 : Cond.classLink RX7 55 RX0 ∈ zTab := z_in 293 (by decide +kernel) rfl
theorem w294 : Cond.instantiable RX0 6 ∈ zTab := z_in 294 (by decide +kernel) rfl
theorem w296 : Cond.instanceMethod yX0_init ∈ zTab := z_in 296 (by decide +kernel) rfl
theorem w297 : Cond.code yX0_init cX0_init 3 none ∈ zTab := z_in 297 (by decide +kernel) rfl
theorem w298 : Cond.methodLink RX0 3 objectInit ∈ zTab := z_in 298 (by decide +kernel) rfl
theorem w299 : Cond.methodLink RX0 33 yJ7_fill_53178 ∈ zTab := z_in 299 (by decide +kernel) rfl
theorem w786 : Cond.methodLink RX8 1 objectInit ∈ zTab := z_in 786 (by decide +kernel) rfl
theorem w787 : Cond.constant RX8 61 (32768 : Int32) ∈ zTab := z_in 787 (by decide +kernel) rfl
theorem w891 : Cond.arrayClass (.byte) ∈ zTab := z_in 891 (by decide +kernel) rfl
theorem hdX2_init : yX2_init.cls ≠ "java/lang/invoke/MethodHandle" ∧ yX2_init.cls ≠ "java/lang/invoke/VarHandle" ∧ (parseMethodDescriptor yX2_init.desc).map (fun d => d.parameters.length) = some 0 := by decide +kernel
theorem hdX4_init : yX4_init.cls ≠ "java/lang/invoke/MethodHandle" ∧ yX4_init.cls ≠ "java/lang/invoke/VarHandle" ∧ (parseMethodDescriptor yX4_init.desc).map (fun d => d.parameters.length) = some 0 := by decide +kernel
theorem hdX3_init : yX3_init.cls ≠ "java/lang/invoke/MethodHandle" ∧ yX3_init.cls ≠ "java/lang/invoke/VarHandle" ∧ (parseMethodDescriptor yX3_init.desc).map (fun d => d.parameters.length) = some 1 := by decide +kernel
theorem hdX1_init : yX1_init.cls ≠ "java/lang/invoke/MethodHandle" ∧ yX1_init.cls ≠ "java/lang/invoke/VarHandle" ∧ (parseMethodDescriptor yX1_init.desc).map (fun d => d.parameters.length) = some 0 := by decide +kernel
theorem hdX5_init : yX5_init.cls ≠ "java/lang/invoke/MethodHandle" ∧ yX5_init.cls ≠ "java/lang/invoke/VarHandle" ∧ (parseMethodDescriptor yX5_init.desc).map (fun d => d.parameters.length) = some 0 := by decide +kernel
theorem hdX6_init : yX6_init.cls ≠ "java/lang/invoke/MethodHandle" ∧ yX6_init.cls ≠ "java/lang/invoke/VarHandle" ∧ (parseMethodDescriptor yX6_init.desc).map (fun d => d.parameters.length) = some 2 := by decide +kernel
theorem hdX0_init : yX0_init.cls ≠ "java/lang/invoke/MethodHandle" ∧ yX0_init.cls ≠ "java/lang/invoke/VarHandle" ∧ (parseMethodDescriptor yX0_init.desc).map (fun d => d.parameters.length) = some 2 := by decide +kernel
theorem hdX7_init : yX7_init.cls ≠ "java/lang/invoke/MethodHandle" ∧ yX7_init.cls ≠ "java/lang/invoke/VarHandle" ∧ (parseMethodDescriptor yX7_init.desc).map (fun d => d.parameters.length) = some 0 := by decide +kernel
theorem hdX8_init : yX8_init.cls ≠ "java/lang/invoke/MethodHandle" ∧ yX8_init.cls ≠ "java/lang/invoke/VarHandle" ∧ (parseMethodDescriptor yX8_init.desc).map (fun d => d.parameters.length) = some 0 := by decide +kernel
def zP1 : List (Nat × List Value) := (0, [.null, .null, .null, .null, .null, .null, .null, .long 0]) :: []
def zP2 : List (Nat × List Value) := (1, [.null, .int 0, .int 0, .int 0]) :: zP1
def zP3 : List (Nat × List Value) := (1, [.ref 2, .int 0, .int 0, .int 0]) :: zP2
def zP4 : List (Nat × List Value) := (11, [.null, .null, .null, .int 0]) :: zP3
def zP5 : List (Nat × List Value) := (11, [.ref 12, .null, .null, .int 0]) :: zP4
def zP6 : List (Nat × List Value) := (11, [.ref 12, .ref 13, .null, .int 0]) :: zP5
def zP7 : List (Nat × List Value) := (11, [.ref 12, .ref 13, .ref 14, .int 0]) :: zP6
def zP8 : List (Nat × List Value) := (15, [.null, .null, .null, .null, .null, .int 0]) :: zP7
def zP9 : List (Nat × List Value) := (15, [.null, .ref 16, .null, .null, .null, .int 0]) :: zP8
def zP10 : List (Nat × List Value) := (15, [.null, .ref 16, .ref 17, .null, .null, .int 0]) :: zP9
def zP11 : List (Nat × List Value) := (15, [.null, .ref 16, .ref 17, .ref 18, .null, .int 0]) :: zP10
def zP12 : List (Nat × List Value) := (15, [.null, .ref 16, .ref 17, .ref 18, .ref 19, .int 0]) :: zP11
def zP13 : List (Nat × List Value) := (15, [.null, .ref 16, .ref 17, .ref 18, .ref 19, .int (1 : Int32)]) :: zP12
def zP14 : List (Nat × List Value) := (15, [.ref 1, .ref 16, .ref 17, .ref 18, .ref 19, .int (1 : Int32)]) :: zP13
def zP15 : List (Nat × List Value) := (0, [.ref 1, .null, .null, .null, .null, .null, .null, .long 0]) :: zP14
def zP16 : List (Nat × List Value) := (0, [.ref 1, .null, .null, .ref 11, .null, .null, .null, .long 0]) :: zP15
def zP17 : List (Nat × List Value) := (0, [.ref 1, .ref 15, .null, .ref 11, .null, .null, .null, .long 0]) :: zP16
def zP18 : List (Nat × List Value) := (20, [.null, .null, .int 0, .int 0]) :: zP17
def zP19 : List (Nat × List Value) := (20, [.ref 21, .null, .int 0, .int 0]) :: zP18
def zP20 : List (Nat × List Value) := (20, [.ref 21, .ref 22, .int 0, .int 0]) :: zP19
def zP21 : List (Nat × List Value) := (0, [.ref 1, .ref 15, .ref 20, .ref 11, .null, .null, .null, .long 0]) :: zP20
def zP22 : List (Nat × List Value) := (23, [.null, .null, .int 0, .int 0]) :: zP21
def zP23 : List (Nat × List Value) := (23, [.ref 24, .null, .int 0, .int 0]) :: zP22
def zP24 : List (Nat × List Value) := (23, [.ref 24, .ref 25, .int 0, .int 0]) :: zP23
def zP25 : List (Nat × List Value) := (0, [.ref 1, .ref 15, .ref 20, .ref 11, .ref 23, .null, .null, .long 0]) :: zP24
def zP26 : List (Nat × List Value) := (34, [.null, .null, .null, .null, .int 0, .int 0, .int 0, .null, .null, .null, .null, .null, .int 0, .int 0, .int 0, .int 0, .int 0, .int 0]) :: zP25
def zP27 : List (Nat × List Value) := (34, [.null, .null, .ref 35, .null, .int 0, .int 0, .int 0, .null, .null, .null, .null, .null, .int 0, .int 0, .int 0, .int 0, .int 0, .int 0]) :: zP26
def zP28 : List (Nat × List Value) := (34, [.null, .null, .ref 35, .ref 46, .int 0, .int 0, .int 0, .null, .null, .null, .null, .null, .int 0, .int 0, .int 0, .int 0, .int 0, .int 0]) :: zP27
def zP29 : List (Nat × List Value) := (34, [.null, .null, .ref 35, .ref 46, .int 0, .int 0, .int (8 : Int32), .null, .null, .null, .null, .null, .int 0, .int 0, .int 0, .int 0, .int 0, .int 0]) :: zP28
def zP30 : List (Nat × List Value) := (34, [.null, .null, .ref 35, .ref 46, .int 0, .int 0, .int (8 : Int32), .ref 55, .null, .null, .null, .null, .int 0, .int 0, .int 0, .int 0, .int 0, .int 0]) :: zP29
def zP31 : List (Nat × List Value) := (34, [.null, .null, .ref 35, .ref 46, .int 0, .int 0, .int (8 : Int32), .ref 55, .ref 56, .null, .null, .null, .int 0, .int 0, .int 0, .int 0, .int 0, .int 0]) :: zP30
def zP32 : List (Nat × List Value) := (34, [.null, .null, .ref 35, .ref 46, .int 0, .int 0, .int (8 : Int32), .ref 55, .ref 56, .ref 93, .null, .null, .int 0, .int 0, .int 0, .int 0, .int 0, .int 0]) :: zP31
def zP33 : List (Nat × List Value) := (34, [.null, .null, .ref 35, .ref 46, .int 0, .int 0, .int (8 : Int32), .ref 55, .ref 56, .ref 93, .ref 94, .null, .int 0, .int 0, .int 0, .int 0, .int 0, .int 0]) :: zP32
def zP34 : List (Nat × List Value) := (34, [.null, .null, .ref 35, .ref 46, .int 0, .int 0, .int (8 : Int32), .ref 55, .ref 56, .ref 93, .ref 94, .ref 95, .int 0, .int 0, .int 0, .int 0, .int 0, .int 0]) :: zP33
def zP35 : List (Nat × List Value) := (34, [.null, .null, .ref 35, .ref 46, .int 0, .int 0, .int (8 : Int32), .ref 55, .ref 56, .ref 93, .ref 94, .ref 95, .int (1 : Int32), .int 0, .int 0, .int 0, .int 0, .int 0]) :: zP34
def zP36 : List (Nat × List Value) := (34, [.null, .null, .ref 35, .ref 46, .int 0, .int 0, .int (8 : Int32), .ref 55, .ref 56, .ref 93, .ref 94, .ref 95, .int (1 : Int32), .int (2 : Int32), .int 0, .int 0, .int 0, .int 0]) :: zP35
def zP37 : List (Nat × List Value) := (34, [.null, .null, .ref 35, .ref 46, .int 0, .int 0, .int (8 : Int32), .ref 55, .ref 56, .ref 93, .ref 94, .ref 95, .int (1 : Int32), .int (2 : Int32), .int 0, .int 0, .int (1 : Int32), .int 0]) :: zP36
def zP38 : List (Nat × List Value) := (34, [.ref 1, .null, .ref 35, .ref 46, .int 0, .int 0, .int (8 : Int32), .ref 55, .ref 56, .ref 93, .ref 94, .ref 95, .int (1 : Int32), .int (2 : Int32), .int 0, .int 0, .int (1 : Int32), .int 0]) :: zP37
def zP39 : List (Nat × List Value) := (34, [.ref 1, .ref 11, .ref 35, .ref 46, .int 0, .int 0, .int (8 : Int32), .ref 55, .ref 56, .ref 93, .ref 94, .ref 95, .int (1 : Int32), .int (2 : Int32), .int 0, .int 0, .int (1 : Int32), .int 0]) :: zP38
def zP40 : List (Nat × List Value) := (0, [.ref 1, .ref 15, .ref 20, .ref 11, .ref 23, .ref 34, .null, .long 0]) :: zP39
def zP41 : List (Nat × List Value) := (96, [.null, .null, .null, .null, .null, .int 0]) :: zP40
def zP42 : List (Nat × List Value) := (96, [.null, .null, .ref 97, .null, .null, .int 0]) :: zP41
def zP43 : List (Nat × List Value) := (96, [.null, .null, .ref 97, .ref 98, .null, .int 0]) :: zP42
def zP44 : List (Nat × List Value) := (96, [.null, .null, .ref 97, .ref 98, .ref 99, .int 0]) :: zP43
def zP45 : List (Nat × List Value) := (96, [.null, .null, .ref 97, .ref 98, .ref 99, .int (5 : Int32)]) :: zP44
def zP46 : List (Nat × List Value) := (96, [.ref 15, .null, .ref 97, .ref 98, .ref 99, .int (5 : Int32)]) :: zP45
def zP47 : List (Nat × List Value) := (96, [.ref 15, .ref 11, .ref 97, .ref 98, .ref 99, .int (5 : Int32)]) :: zP46
def zP48 : List (Nat × List Value) := (0, [.ref 1, .ref 15, .ref 20, .ref 11, .ref 23, .ref 34, .ref 96, .long 0]) :: zP47
def zP49 : List (Nat × List Value) := (100, [.null, .int 0, .int 0, .int 0, .null, .int 0, .int 0, .null, .int 0, .int 0, .int 0, .null, .null, .null, .long 0, .null, .null, .null, .null, .null, .null, .null, .int 0, .int 0, .int 0, .int 0, .int 0, .int 0, .null, .null, .null, .null, .null, .int 0]) :: zP48
def zP50 : List (Nat × List Value) := (100, [.ref 101, .int 0, .int 0, .int 0, .null, .int 0, .int 0, .null, .int 0, .int 0, .int 0, .null, .null, .null, .long 0, .null, .null, .null, .null, .null, .null, .null, .int 0, .int 0, .int 0, .int 0, .int 0, .int 0, .null, .null, .null, .null, .null, .int 0]) :: zP49
def zP51 : List (Nat × List Value) := (100, [.ref 101, .int 0, .int 0, .int 0, .ref 102, .int 0, .int 0, .null, .int 0, .int 0, .int 0, .null, .null, .null, .long 0, .null, .null, .null, .null, .null, .null, .null, .int 0, .int 0, .int 0, .int 0, .int 0, .int 0, .null, .null, .null, .null, .null, .int 0]) :: zP50
def zP52 : List (Nat × List Value) := (100, [.ref 101, .int 0, .int 0, .int 0, .ref 102, .int 0, .int 0, .ref 103, .int 0, .int 0, .int 0, .null, .null, .null, .long 0, .null, .null, .null, .null, .null, .null, .null, .int 0, .int 0, .int 0, .int 0, .int 0, .int 0, .null, .null, .null, .null, .null, .int 0]) :: zP51
def zP53 : List (Nat × List Value) := (100, [.ref 101, .int 0, .int 0, .int 0, .ref 102, .int 0, .int 0, .ref 103, .int (8 : Int32), .int 0, .int 0, .null, .null, .null, .long 0, .null, .null, .null, .null, .null, .null, .null, .int 0, .int 0, .int 0, .int 0, .int 0, .int 0, .null, .null, .null, .null, .null, .int 0]) :: zP52
def zP54 : List (Nat × List Value) := (100, [.ref 101, .int 0, .int 0, .int 0, .ref 102, .int 0, .int 0, .ref 103, .int (8 : Int32), .int (5 : Int32), .int 0, .null, .null, .null, .long 0, .null, .null, .null, .null, .null, .null, .null, .int 0, .int 0, .int 0, .int 0, .int 0, .int 0, .null, .null, .null, .null, .null, .int 0]) :: zP53
def zP55 : List (Nat × List Value) := (100, [.ref 101, .int 0, .int 0, .int 0, .ref 102, .int 0, .int 0, .ref 103, .int (8 : Int32), .int (5 : Int32), .int 0, .ref 104, .null, .null, .long 0, .null, .null, .null, .null, .null, .null, .null, .int 0, .int 0, .int 0, .int 0, .int 0, .int 0, .null, .null, .null, .null, .null, .int 0]) :: zP54
def zP56 : List (Nat × List Value) := (100, [.ref 101, .int 0, .int 0, .int 0, .ref 102, .int 0, .int 0, .ref 103, .int (8 : Int32), .int (5 : Int32), .int 0, .ref 104, .ref 105, .null, .long 0, .null, .null, .null, .null, .null, .null, .null, .int 0, .int 0, .int 0, .int 0, .int 0, .int 0, .null, .null, .null, .null, .null, .int 0]) :: zP55
def zP57 : List (Nat × List Value) := (100, [.ref 101, .int 0, .int 0, .int 0, .ref 102, .int 0, .int 0, .ref 103, .int (8 : Int32), .int (5 : Int32), .int 0, .ref 104, .ref 105, .ref 106, .long 0, .null, .null, .null, .null, .null, .null, .null, .int 0, .int 0, .int 0, .int 0, .int 0, .int 0, .null, .null, .null, .null, .null, .int 0]) :: zP56
def zP58 : List (Nat × List Value) := (100, [.ref 101, .int 0, .int 0, .int 0, .ref 102, .int 0, .int 0, .ref 103, .int (8 : Int32), .int (5 : Int32), .int 0, .ref 104, .ref 105, .ref 106, .long 0, .ref 107, .null, .null, .null, .null, .null, .null, .int 0, .int 0, .int 0, .int 0, .int 0, .int 0, .null, .null, .null, .null, .null, .int 0]) :: zP57
def zP59 : List (Nat × List Value) := (100, [.ref 101, .int 0, .int 0, .int 0, .ref 102, .int 0, .int 0, .ref 103, .int (8 : Int32), .int (5 : Int32), .int 0, .ref 104, .ref 105, .ref 106, .long 0, .ref 107, .ref 108, .null, .null, .null, .null, .null, .int 0, .int 0, .int 0, .int 0, .int 0, .int 0, .null, .null, .null, .null, .null, .int 0]) :: zP58
def zP60 : List (Nat × List Value) := (100, [.ref 101, .int 0, .int 0, .int 0, .ref 102, .int 0, .int 0, .ref 103, .int (8 : Int32), .int (5 : Int32), .int 0, .ref 104, .ref 105, .ref 106, .long 0, .ref 107, .ref 108, .ref 109, .null, .null, .null, .null, .int 0, .int 0, .int 0, .int 0, .int 0, .int 0, .null, .null, .null, .null, .null, .int 0]) :: zP59
def zP61 : List (Nat × List Value) := (100, [.ref 101, .int 0, .int 0, .int 0, .ref 102, .int 0, .int 0, .ref 103, .int (8 : Int32), .int (5 : Int32), .int 0, .ref 104, .ref 105, .ref 106, .long 0, .ref 107, .ref 108, .ref 109, .ref 110, .null, .null, .null, .int 0, .int 0, .int 0, .int 0, .int 0, .int 0, .null, .null, .null, .null, .null, .int 0]) :: zP60
def zP62 : List (Nat × List Value) := (100, [.ref 101, .int 0, .int 0, .int 0, .ref 102, .int 0, .int 0, .ref 103, .int (8 : Int32), .int (5 : Int32), .int 0, .ref 104, .ref 105, .ref 106, .long 0, .ref 107, .ref 108, .ref 109, .ref 110, .ref 111, .null, .null, .int 0, .int 0, .int 0, .int 0, .int 0, .int 0, .null, .null, .null, .null, .null, .int 0]) :: zP61
def zP63 : List (Nat × List Value) := (100, [.ref 101, .int 0, .int 0, .int 0, .ref 102, .int 0, .int 0, .ref 103, .int (8 : Int32), .int (5 : Int32), .int 0, .ref 104, .ref 105, .ref 106, .long 0, .ref 107, .ref 108, .ref 109, .ref 110, .ref 111, .ref 112, .null, .int 0, .int 0, .int 0, .int 0, .int 0, .int 0, .null, .null, .null, .null, .null, .int 0]) :: zP62
def zP64 : List (Nat × List Value) := (100, [.ref 101, .int 0, .int 0, .int 0, .ref 102, .int 0, .int 0, .ref 103, .int (8 : Int32), .int (5 : Int32), .int 0, .ref 104, .ref 105, .ref 106, .long 0, .ref 107, .ref 108, .ref 109, .ref 110, .ref 111, .ref 112, .ref 113, .int 0, .int 0, .int 0, .int 0, .int 0, .int 0, .null, .null, .null, .null, .null, .int 0]) :: zP63
def zP65 : List (Nat × List Value) := (100, [.ref 101, .int 0, .int 0, .int 0, .ref 102, .int 0, .int 0, .ref 103, .int (8 : Int32), .int (5 : Int32), .int 0, .ref 104, .ref 105, .ref 106, .long 0, .ref 107, .ref 108, .ref 109, .ref 110, .ref 111, .ref 112, .ref 113, .int 0, .int 0, .int 0, .int 0, .int 0, .int 0, .ref 114, .null, .null, .null, .null, .int 0]) :: zP64
def zP66 : List (Nat × List Value) := (100, [.ref 101, .int 0, .int 0, .int 0, .ref 102, .int 0, .int 0, .ref 103, .int (8 : Int32), .int (5 : Int32), .int 0, .ref 104, .ref 105, .ref 106, .long 0, .ref 107, .ref 108, .ref 109, .ref 110, .ref 111, .ref 112, .ref 113, .int 0, .int 0, .int 0, .int 0, .int 0, .int 0, .ref 114, .ref 115, .null, .null, .null, .int 0]) :: zP65
def zP67 : List (Nat × List Value) := (100, [.ref 101, .int 0, .int 0, .int 0, .ref 102, .int 0, .int 0, .ref 103, .int (8 : Int32), .int (5 : Int32), .int 0, .ref 104, .ref 105, .ref 106, .long 0, .ref 107, .ref 108, .ref 109, .ref 110, .ref 111, .ref 112, .ref 113, .int 0, .int 0, .int 0, .int 0, .int 0, .int 0, .ref 114, .ref 115, .ref 116, .null, .null, .int 0]) :: zP66
def zP68 : List (Nat × List Value) := (100, [.ref 101, .int 0, .int 0, .int 0, .ref 102, .int 0, .int 0, .ref 103, .int (8 : Int32), .int (5 : Int32), .int 0, .ref 104, .ref 105, .ref 106, .long 0, .ref 107, .ref 108, .ref 109, .ref 110, .ref 111, .ref 112, .ref 113, .int 0, .int 0, .int 0, .int 0, .int 0, .int 0, .ref 114, .ref 115, .ref 116, .ref 117, .null, .int 0]) :: zP67
def zP69 : List (Nat × List Value) := (100, [.ref 101, .int 0, .int 0, .int 0, .ref 102, .int 0, .int 0, .ref 103, .int (8 : Int32), .int (5 : Int32), .int 0, .ref 104, .ref 105, .ref 106, .long 0, .ref 107, .ref 108, .ref 109, .ref 110, .ref 111, .ref 112, .ref 113, .int 0, .int 0, .int 0, .int 0, .int 0, .int 0, .ref 114, .ref 115, .ref 116, .ref 117, .ref 118, .int 0]) :: zP68
set_option maxRecDepth 100000 in
set_option maxHeartbeats 4000000 in
theorem mX2_init (Y : zY) (hY : zOf Y) : zMp Y yX2_init cX2_init 1 1 12 9 56 [.ref 1] 2 zP2 zM0 11 zP3 zM0 := by
  refine zMp_of (own := RX2) (by decide) rfl (Nat.le_of_ble_eq_true rfl) (fun X C hin => ?_)
  have hin : (xH X).name = "<init>" := hin.symm
  show zGp Y X 1 0 0 _ 2 zP2 zM0 0 [(0, .ref 1)] []
  refine p_aload_n (P := zP2) C 0 dX2_init_0 rfl rfl rfl ?_
  refine p_objInit (P := zP2) C w105 w98 w99 dX2_init_1 (by decide) (by decide) rfl ?_
  refine p_aload_n (P := zP2) C 0 dX2_init_4 rfl rfl rfl ?_
  refine p_bipush (P := zP2) C (8 : Int32) dX2_init_5 rfl rfl ?_
  refine p_bipush (P := zP2) C (6 : Int32) dX2_init_7 rfl rfl ?_
  refine p_mna (P := zP2) (q := 2) (a := 8) (b := 6) C w106 w126 (by decide) (by decide) rfl rfl (by decide) (by decide) rfl (by decide) hY (by decide +kernel) (fun j hj => rfl) rfl (by decide +kernel) (Nat.le_of_ble_eq_true rfl) (Nat.le_of_ble_eq_true rfl) dX2_init_9 rfl ?_
  refine p_put (P := zP2) (v := .ref 2) C 0 zOK2 hY rfl rfl (by decide) (by decide) w108 rfl rfl (fun _ => rfl) (fun _ => rfl) (by decide) rfl dX2_init_13 rfl ?_
  exact p_vret (P := zP3) C dX2_init_16
set_option maxRecDepth 100000 in
set_option maxHeartbeats 4000000 in
theorem mX4_init (Y : zY) (hY : zOf Y) : zMp Y yX4_init cX4_init 1 1 12 3 16384 [.ref 11] 12 zP4 zM0 15 zP7 zM0 := by
  refine zMp_of (own := RX4) (by decide) rfl (Nat.le_of_ble_eq_true rfl) (fun X C hin => ?_)
  have hin : (xH X).name = "<init>" := hin.symm
  show zGp Y X 1 0 0 _ 12 zP4 zM0 0 [(0, .ref 11)] []
  refine p_aload_n (P := zP4) C 0 dX4_init_0 rfl rfl rfl ?_
  refine p_objInit (P := zP4) C w132 w98 w99 dX4_init_1 (by decide) (by decide) rfl ?_
  refine p_aload_n (P := zP4) C 0 dX4_init_4 rfl rfl rfl ?_
  refine p_sipush (P := zP4) C (8192 : Int32) dX4_init_5 rfl rfl ?_
  refine p_newa (P := zP4) (q := 12) (k := 8192) (t := 0) (ty := .int) C rfl rfl rfl (fun _ _ h => h) (zcell1 rfl rfl) w126 (by decide) rfl (Nat.le_of_ble_eq_true rfl) rfl (by decide) hY rfl (by funext j; rfl) (Nat.le_of_ble_eq_true rfl) (Nat.le_of_ble_eq_true rfl) dX4_init_8 rfl ?_
  refine p_putF (P := zP4) (v := .ref 12) C hin 0 zOK4 hY rfl rfl (by decide) (by decide) w133 rfl rfl rfl (fun _ => rfl) (fun _ => rfl) (by decide) rfl dX4_init_10 rfl ?_
  refine p_aload_n (P := zP5) C 0 dX4_init_13 rfl rfl rfl ?_
  refine p_sipush (P := zP5) C (4096 : Int32) dX4_init_14 rfl rfl ?_
  refine p_newa (P := zP5) (q := 13) (k := 4096) (t := 0) (ty := .int) C rfl rfl rfl (fun _ _ h => h) (zcell1 rfl rfl) w126 (by decide) rfl (Nat.le_of_ble_eq_true rfl) rfl (by decide) hY rfl (by funext j; rfl) (Nat.le_of_ble_eq_true rfl) (Nat.le_of_ble_eq_true rfl) dX4_init_17 rfl ?_
  refine p_putF (P := zP5) (v := .ref 13) C hin 1 zOK4 hY rfl rfl (by decide) (by decide) w134 rfl rfl rfl (fun _ => rfl) (fun _ => rfl) (by decide) rfl dX4_init_19 rfl ?_
  refine p_aload_n (P := zP6) C 0 dX4_init_22 rfl rfl rfl ?_
  refine p_sipush (P := zP6) C (4096 : Int32) dX4_init_23 rfl rfl ?_
  refine p_newa (P := zP6) (q := 14) (k := 4096) (t := 0) (ty := .int) C rfl rfl rfl (fun _ _ h => h) (zcell1 rfl rfl) w126 (by decide) rfl (Nat.le_of_ble_eq_true rfl) rfl (by decide) hY rfl (by funext j; rfl) (Nat.le_of_ble_eq_true rfl) (Nat.le_of_ble_eq_true rfl) dX4_init_26 rfl ?_
  refine p_putF (P := zP6) (v := .ref 14) C hin 2 zOK4 hY rfl rfl (by decide) (by decide) w136 rfl rfl rfl (fun _ => rfl) (fun _ => rfl) (by decide) rfl dX4_init_28 rfl ?_
  exact p_vret (P := zP7) C dX4_init_31
set_option maxRecDepth 100000 in
set_option maxHeartbeats 4000000 in
theorem mX3_init (Y : zY) (hY : zOf Y) : zMp Y yX3_init cX3_init 2 1 12 4 10004 [.ref 15, .ref 1] 16 zP8 zM0 20 zP14 zM0 := by
  refine zMp_of (own := RX3) (by decide) rfl (Nat.le_of_ble_eq_true rfl) (fun X C hin => ?_)
  have hin : (xH X).name = "<init>" := hin.symm
  show zGp Y X 2 0 0 _ 16 zP8 zM0 0 [(0, .ref 15), (1, .ref 1)] []
  refine p_aload_n (P := zP8) C 0 dX3_init_0 rfl rfl rfl ?_
  refine p_objInit (P := zP8) C w156 w98 w99 dX3_init_1 (by decide) (by decide) rfl ?_
  refine p_aload_n (P := zP8) C 0 dX3_init_4 rfl rfl rfl ?_
  refine p_sipush (P := zP8) C (2601 : Int32) dX3_init_5 rfl rfl ?_
  refine p_newa (P := zP8) (q := 16) (k := 2601) (t := 0) (ty := .int) C rfl rfl rfl (fun _ _ h => h) (zcell1 rfl rfl) w126 (by decide) rfl (Nat.le_of_ble_eq_true rfl) rfl (by decide) hY rfl (by funext j; rfl) (Nat.le_of_ble_eq_true rfl) (Nat.le_of_ble_eq_true rfl) dX3_init_8 rfl ?_
  refine p_putF (P := zP8) (v := .ref 16) C hin 1 zOK3 hY rfl rfl (by decide) (by decide) w158 rfl rfl rfl (fun _ => rfl) (fun _ => rfl) (by decide) rfl dX3_init_10 rfl ?_
  refine p_aload_n (P := zP9) C 0 dX3_init_13 rfl rfl rfl ?_
  refine p_sipush (P := zP9) C (2601 : Int32) dX3_init_14 rfl rfl ?_
  refine p_newa (P := zP9) (q := 17) (k := 2601) (t := 0) (ty := .int) C rfl rfl rfl (fun _ _ h => h) (zcell1 rfl rfl) w126 (by decide) rfl (Nat.le_of_ble_eq_true rfl) rfl (by decide) hY rfl (by funext j; rfl) (Nat.le_of_ble_eq_true rfl) (Nat.le_of_ble_eq_true rfl) dX3_init_17 rfl ?_
  refine p_putF (P := zP9) (v := .ref 17) C hin 2 zOK3 hY rfl rfl (by decide) (by decide) w159 rfl rfl rfl (fun _ => rfl) (fun _ => rfl) (by decide) rfl dX3_init_19 rfl ?_
  refine p_aload_n (P := zP10) C 0 dX3_init_22 rfl rfl rfl ?_
  refine p_sipush (P := zP10) C (2401 : Int32) dX3_init_23 rfl rfl ?_
  refine p_newa (P := zP10) (q := 18) (k := 2401) (t := 0) (ty := .int) C rfl rfl rfl (fun _ _ h => h) (zcell1 rfl rfl) w126 (by decide) rfl (Nat.le_of_ble_eq_true rfl) rfl (by decide) hY rfl (by funext j; rfl) (Nat.le_of_ble_eq_true rfl) (Nat.le_of_ble_eq_true rfl) dX3_init_26 rfl ?_
  refine p_putF (P := zP10) (v := .ref 18) C hin 3 zOK3 hY rfl rfl (by decide) (by decide) w160 rfl rfl rfl (fun _ => rfl) (fun _ => rfl) (by decide) rfl dX3_init_28 rfl ?_
  refine p_aload_n (P := zP11) C 0 dX3_init_31 rfl rfl rfl ?_
  refine p_sipush (P := zP11) C (2401 : Int32) dX3_init_32 rfl rfl ?_
  refine p_newa (P := zP11) (q := 19) (k := 2401) (t := 0) (ty := .int) C rfl rfl rfl (fun _ _ h => h) (zcell1 rfl rfl) w126 (by decide) rfl (Nat.le_of_ble_eq_true rfl) rfl (by decide) hY rfl (by funext j; rfl) (Nat.le_of_ble_eq_true rfl) (Nat.le_of_ble_eq_true rfl) dX3_init_35 rfl ?_
  refine p_putF (P := zP11) (v := .ref 19) C hin 4 zOK3 hY rfl rfl (by decide) (by decide) w163 rfl rfl rfl (fun _ => rfl) (fun _ => rfl) (by decide) rfl dX3_init_37 rfl ?_
  refine p_aload_n (P := zP12) C 0 dX3_init_40 rfl rfl rfl ?_
  refine p_iconst (P := zP12) C (1 : Int32) dX3_init_41 rfl rfl ?_
  refine p_put (P := zP12) (v := .int (1 : Int32)) C 5 zOK3 hY rfl rfl (by decide) (by decide) w164 rfl rfl (fun _ => rfl) (fun _ => rfl) (by decide) rfl dX3_init_42 rfl ?_
  refine p_aload_n (P := zP13) C 0 dX3_init_45 rfl rfl rfl ?_
  refine p_aload_n (P := zP13) C 1 dX3_init_46 rfl rfl rfl ?_
  refine p_putF (P := zP13) (v := .ref 1) C hin 0 zOK3 hY rfl rfl (by decide) (by decide) w157 rfl rfl rfl (fun _ => rfl) (fun _ => rfl) (by decide) rfl dX3_init_47 rfl ?_
  exact p_vret (P := zP14) C dX3_init_50
set_option maxRecDepth 100000 in
set_option maxHeartbeats 4000000 in
theorem mX1_init (Y : zY) (hY : zOf Y) : zMp Y yX1_init cX1_init 1 1 12 2 4802 [.ref 20] 21 zP18 zM0 23 zP20 zM0 := by
  refine zMp_of (own := RX1) (by decide) rfl (Nat.le_of_ble_eq_true rfl) (fun X C hin => ?_)
  have hin : (xH X).name = "<init>" := hin.symm
  show zGp Y X 1 0 0 _ 21 zP18 zM0 0 [(0, .ref 20)] []
  refine p_aload_n (P := zP18) C 0 dX1_init_0 rfl rfl rfl ?_
  refine p_objInit (P := zP18) C w184 w98 w99 dX1_init_1 (by decide) (by decide) rfl ?_
  refine p_aload_n (P := zP18) C 0 dX1_init_4 rfl rfl rfl ?_
  refine p_sipush (P := zP18) C (2401 : Int32) dX1_init_5 rfl rfl ?_
  refine p_newa (P := zP18) (q := 21) (k := 2401) (t := 2) (ty := .boolean) C rfl rfl rfl (fun _ _ h => h) (zcell3 rfl rfl) w201 (by decide) rfl (Nat.le_of_ble_eq_true rfl) rfl (by decide) hY rfl (by funext j; rfl) (Nat.le_of_ble_eq_true rfl) (Nat.le_of_ble_eq_true rfl) dX1_init_8 rfl ?_
  refine p_putF (P := zP18) (v := .ref 21) C hin 0 zOK1 hY rfl rfl (by decide) (by decide) w185 rfl rfl rfl (fun _ => rfl) (fun _ => rfl) (by decide) rfl dX1_init_10 rfl ?_
  refine p_aload_n (P := zP19) C 0 dX1_init_13 rfl rfl rfl ?_
  refine p_sipush (P := zP19) C (2401 : Int32) dX1_init_14 rfl rfl ?_
  refine p_newa (P := zP19) (q := 22) (k := 2401) (t := 0) (ty := .int) C rfl rfl rfl (fun _ _ h => h) (zcell1 rfl rfl) w126 (by decide) rfl (Nat.le_of_ble_eq_true rfl) rfl (by decide) hY rfl (by funext j; rfl) (Nat.le_of_ble_eq_true rfl) (Nat.le_of_ble_eq_true rfl) dX1_init_17 rfl ?_
  refine p_putF (P := zP19) (v := .ref 22) C hin 1 zOK1 hY rfl rfl (by decide) (by decide) w187 rfl rfl rfl (fun _ => rfl) (fun _ => rfl) (by decide) rfl dX1_init_19 rfl ?_
  exact p_vret (P := zP20) C dX1_init_22
set_option maxRecDepth 100000 in
set_option maxHeartbeats 4000000 in
theorem mX5_init (Y : zY) (hY : zOf Y) : zMp Y yX5_init cX5_init 1 1 12 10 256 [.ref 23] 24 zP22 zM0 34 zP24 zM0 := by
  refine zMp_of (own := RX5) (by decide) rfl (Nat.le_of_ble_eq_true rfl) (fun X C hin => ?_)
  have hin : (xH X).name = "<init>" := hin.symm
  show zGp Y X 1 0 0 _ 24 zP22 zM0 0 [(0, .ref 23)] []
  refine p_aload_n (P := zP22) C 0 dX5_init_0 rfl rfl rfl ?_
  refine p_objInit (P := zP22) C w207 w98 w99 dX5_init_1 (by decide) (by decide) rfl ?_
  refine p_aload_n (P := zP22) C 0 dX5_init_4 rfl rfl rfl ?_
  refine p_sipush (P := zP22) C (200 : Int32) dX5_init_5 rfl rfl ?_
  refine p_newa (P := zP22) (q := 24) (k := 200) (t := 0) (ty := .int) C rfl rfl rfl (fun _ _ h => h) (zcell1 rfl rfl) w126 (by decide) rfl (Nat.le_of_ble_eq_true rfl) rfl (by decide) hY rfl (by funext j; rfl) (Nat.le_of_ble_eq_true rfl) (Nat.le_of_ble_eq_true rfl) dX5_init_8 rfl ?_
  refine p_putF (P := zP22) (v := .ref 24) C hin 0 zOK5 hY rfl rfl (by decide) (by decide) w209 rfl rfl rfl (fun _ => rfl) (fun _ => rfl) (by decide) rfl dX5_init_10 rfl ?_
  refine p_aload_n (P := zP23) C 0 dX5_init_13 rfl rfl rfl ?_
  refine p_bipush (P := zP23) C (8 : Int32) dX5_init_14 rfl rfl ?_
  refine p_bipush (P := zP23) C (6 : Int32) dX5_init_16 rfl rfl ?_
  refine p_mna (P := zP23) (q := 25) (a := 8) (b := 6) C w208 w126 (by decide) (by decide) rfl rfl (by decide) (by decide) rfl (by decide) hY (by decide +kernel) (fun j hj => rfl) rfl (by decide +kernel) (Nat.le_of_ble_eq_true rfl) (Nat.le_of_ble_eq_true rfl) dX5_init_18 rfl ?_
  refine p_put (P := zP23) (v := .ref 25) C 1 zOK5 hY rfl rfl (by decide) (by decide) w210 rfl rfl (fun _ => rfl) (fun _ => rfl) (by decide) rfl dX5_init_22 rfl ?_
  exact p_vret (P := zP24) C dX5_init_25
set_option maxRecDepth 100000 in
set_option maxHeartbeats 4000000 in
theorem mX6_init (Y : zY) (hY : zOf Y) : zMp Y yX6_init cX6_init 3 1 12 61 10069 [.ref 34, .ref 1, .ref 11] 35 zP26 zM0 96 zP39 zM0 := by
  refine zMp_of (own := RX6) (by decide) rfl (Nat.le_of_ble_eq_true rfl) (fun X C hin => ?_)
  have hin : (xH X).name = "<init>" := hin.symm
  show zGp Y X 3 0 0 _ 35 zP26 zM0 0 [(0, .ref 34), (1, .ref 1), (2, .ref 11)] []
  refine p_aload_n (P := zP26) C 0 dX6_init_0 rfl rfl rfl ?_
  refine p_objInit (P := zP26) C w230 w98 w99 dX6_init_1 (by decide) (by decide) rfl ?_
  refine p_aload_n (P := zP26) C 0 dX6_init_4 rfl rfl rfl ?_
  refine p_bipush (P := zP26) C (10 : Int32) dX6_init_5 rfl rfl ?_
  refine p_iconst (P := zP26) C (4 : Int32) dX6_init_7 rfl rfl ?_
  refine p_mna (P := zP26) (q := 35) (a := 10) (b := 4) C w231 w126 (by decide) (by decide) rfl rfl (by decide) (by decide) rfl (by decide) hY (by decide +kernel) (fun j hj => rfl) rfl (by decide +kernel) (Nat.le_of_ble_eq_true rfl) (Nat.le_of_ble_eq_true rfl) dX6_init_8 rfl ?_
  refine p_putF (P := zP26) (v := .ref 35) C hin 2 zOK6 hY rfl rfl (by decide) (by decide) w234 rfl rfl rfl (fun _ => rfl) (fun _ => rfl) (by decide) rfl dX6_init_12 rfl ?_
  refine p_aload_n (P := zP27) C 0 dX6_init_15 rfl rfl rfl ?_
  refine p_bipush (P := zP27) C (8 : Int32) dX6_init_16 rfl rfl ?_
  refine p_iconst (P := zP27) C (2 : Int32) dX6_init_18 rfl rfl ?_
  refine p_mna (P := zP27) (q := 46) (a := 8) (b := 2) C w231 w126 (by decide) (by decide) rfl rfl (by decide) (by decide) rfl (by decide) hY (by decide +kernel) (fun j hj => rfl) rfl (by decide +kernel) (Nat.le_of_ble_eq_true rfl) (Nat.le_of_ble_eq_true rfl) dX6_init_19 rfl ?_
  refine p_putF (P := zP27) (v := .ref 46) C hin 3 zOK6 hY rfl rfl (by decide) (by decide) w235 rfl rfl rfl (fun _ => rfl) (fun _ => rfl) (by decide) rfl dX6_init_23 rfl ?_
  refine p_aload_n (P := zP28) C 0 dX6_init_26 rfl rfl rfl ?_
  refine p_bipush (P := zP28) C (8 : Int32) dX6_init_27 rfl rfl ?_
  refine p_put (P := zP28) (v := .int (8 : Int32)) C 6 zOK6 hY rfl rfl (by decide) (by decide) w240 rfl rfl (fun _ => rfl) (fun _ => rfl) (by decide) rfl dX6_init_29 rfl ?_
  refine p_aload_n (P := zP29) C 0 dX6_init_32 rfl rfl rfl ?_
  refine p_bipush (P := zP29) C (36 : Int32) dX6_init_33 rfl rfl ?_
  refine p_newa (P := zP29) (q := 55) (k := 36) (t := 0) (ty := .int) C rfl rfl rfl (fun _ _ h => h) (zcell1 rfl rfl) w126 (by decide) rfl (Nat.le_of_ble_eq_true rfl) rfl (by decide) hY rfl (by funext j; rfl) (Nat.le_of_ble_eq_true rfl) (Nat.le_of_ble_eq_true rfl) dX6_init_35 rfl ?_
  refine p_putF (P := zP29) (v := .ref 55) C hin 7 zOK6 hY rfl rfl (by decide) (by decide) w242 rfl rfl rfl (fun _ => rfl) (fun _ => rfl) (by decide) rfl dX6_init_37 rfl ?_
  refine p_aload_n (P := zP30) C 0 dX6_init_40 rfl rfl rfl ?_
  refine p_bipush (P := zP30) C (36 : Int32) dX6_init_41 rfl rfl ?_
  refine p_bipush (P := zP30) C (48 : Int32) dX6_init_43 rfl rfl ?_
  refine p_mna (P := zP30) (q := 56) (a := 36) (b := 48) C w231 w126 (by decide) (by decide) rfl rfl (by decide) (by decide) rfl (by decide) hY (by decide +kernel) (fun j hj => rfl) rfl (by decide +kernel) (Nat.le_of_ble_eq_true rfl) (Nat.le_of_ble_eq_true rfl) dX6_init_45 rfl ?_
  refine p_putF (P := zP30) (v := .ref 56) C hin 8 zOK6 hY rfl rfl (by decide) (by decide) w243 rfl rfl rfl (fun _ => rfl) (fun _ => rfl) (by decide) rfl dX6_init_49 rfl ?_
  refine p_aload_n (P := zP31) C 0 dX6_init_52 rfl rfl rfl ?_
  refine p_iconst (P := zP31) C (3 : Int32) dX6_init_53 rfl rfl ?_
  refine p_newa (P := zP31) (q := 93) (k := 3) (t := 0) (ty := .int) C rfl rfl rfl (fun _ _ h => h) (zcell1 rfl rfl) w126 (by decide) rfl (Nat.le_of_ble_eq_true rfl) rfl (by decide) hY rfl (by funext j; rfl) (Nat.le_of_ble_eq_true rfl) (Nat.le_of_ble_eq_true rfl) dX6_init_54 rfl ?_
  refine p_putF (P := zP31) (v := .ref 93) C hin 9 zOK6 hY rfl rfl (by decide) (by decide) w244 rfl rfl rfl (fun _ => rfl) (fun _ => rfl) (by decide) rfl dX6_init_56 rfl ?_
  refine p_aload_n (P := zP32) C 0 dX6_init_59 rfl rfl rfl ?_
  refine p_sipush (P := zP32) C (4096 : Int32) dX6_init_60 rfl rfl ?_
  refine p_newa (P := zP32) (q := 94) (k := 4096) (t := 0) (ty := .int) C rfl rfl rfl (fun _ _ h => h) (zcell1 rfl rfl) w126 (by decide) rfl (Nat.le_of_ble_eq_true rfl) rfl (by decide) hY rfl (by funext j; rfl) (Nat.le_of_ble_eq_true rfl) (Nat.le_of_ble_eq_true rfl) dX6_init_63 rfl ?_
  refine p_putF (P := zP32) (v := .ref 94) C hin 10 zOK6 hY rfl rfl (by decide) (by decide) w245 rfl rfl rfl (fun _ => rfl) (fun _ => rfl) (by decide) rfl dX6_init_65 rfl ?_
  refine p_aload_n (P := zP33) C 0 dX6_init_68 rfl rfl rfl ?_
  refine p_sipush (P := zP33) C (4096 : Int32) dX6_init_69 rfl rfl ?_
  refine p_newa (P := zP33) (q := 95) (k := 4096) (t := 0) (ty := .int) C rfl rfl rfl (fun _ _ h => h) (zcell1 rfl rfl) w126 (by decide) rfl (Nat.le_of_ble_eq_true rfl) rfl (by decide) hY rfl (by funext j; rfl) (Nat.le_of_ble_eq_true rfl) (Nat.le_of_ble_eq_true rfl) dX6_init_72 rfl ?_
  refine p_putF (P := zP33) (v := .ref 95) C hin 11 zOK6 hY rfl rfl (by decide) (by decide) w246 rfl rfl rfl (fun _ => rfl) (fun _ => rfl) (by decide) rfl dX6_init_74 rfl ?_
  refine p_aload_n (P := zP34) C 0 dX6_init_77 rfl rfl rfl ?_
  refine p_iconst (P := zP34) C (1 : Int32) dX6_init_78 rfl rfl ?_
  refine p_put (P := zP34) (v := .int (1 : Int32)) C 12 zOK6 hY rfl rfl (by decide) (by decide) w247 rfl rfl (fun _ => rfl) (fun _ => rfl) (by decide) rfl dX6_init_79 rfl ?_
  refine p_aload_n (P := zP35) C 0 dX6_init_82 rfl rfl rfl ?_
  refine p_iconst (P := zP35) C (2 : Int32) dX6_init_83 rfl rfl ?_
  refine p_put (P := zP35) (v := .int (2 : Int32)) C 13 zOK6 hY rfl rfl (by decide) (by decide) w248 rfl rfl (fun _ => rfl) (fun _ => rfl) (by decide) rfl dX6_init_84 rfl ?_
  refine p_aload_n (P := zP36) C 0 dX6_init_87 rfl rfl rfl ?_
  refine p_iconst (P := zP36) C (1 : Int32) dX6_init_88 rfl rfl ?_
  refine p_put (P := zP36) (v := .int (1 : Int32)) C 16 zOK6 hY rfl rfl (by decide) (by decide) w253 rfl rfl (fun _ => rfl) (fun _ => rfl) (by decide) rfl dX6_init_89 rfl ?_
  refine p_aload_n (P := zP37) C 0 dX6_init_92 rfl rfl rfl ?_
  refine p_aload_n (P := zP37) C 1 dX6_init_93 rfl rfl rfl ?_
  refine p_putF (P := zP37) (v := .ref 1) C hin 0 zOK6 hY rfl rfl (by decide) (by decide) w232 rfl rfl rfl (fun _ => rfl) (fun _ => rfl) (by decide) rfl dX6_init_94 rfl ?_
  refine p_aload_n (P := zP38) C 0 dX6_init_97 rfl rfl rfl ?_
  refine p_aload_n (P := zP38) C 2 dX6_init_98 rfl rfl rfl ?_
  refine p_putF (P := zP38) (v := .ref 11) C hin 1 zOK6 hY rfl rfl (by decide) (by decide) w233 rfl rfl rfl (fun _ => rfl) (fun _ => rfl) (by decide) rfl dX6_init_99 rfl ?_
  exact p_vret (P := zP39) C dX6_init_102
set_option maxRecDepth 100000 in
set_option maxHeartbeats 4000000 in
theorem mX0_init (Y : zY) (hY : zOf Y) : zMp Y yX0_init cX0_init 3 1 23 3 7203 [.ref 96, .ref 15, .ref 11] 97 zP41 zM0 100 zP47 (zfillM zM0 97 2401 (-9 : Int32)) := by
  refine zMp_of (own := RX0) (by decide) rfl (Nat.le_of_ble_eq_true rfl) (fun X C hin => ?_)
  have hin : (xH X).name = "<init>" := hin.symm
  show zGp Y X 3 0 0 _ 97 zP41 zM0 0 [(0, .ref 96), (1, .ref 15), (2, .ref 11)] []
  refine p_aload_n (P := zP41) C 0 dX0_init_0 rfl rfl rfl ?_
  refine p_objInit (P := zP41) C w298 w98 w99 dX0_init_1 (by decide) (by decide) rfl ?_
  refine p_aload_n (P := zP41) C 0 dX0_init_4 rfl rfl rfl ?_
  refine p_sipush (P := zP41) C (2401 : Int32) dX0_init_5 rfl rfl ?_
  refine p_newa (P := zP41) (q := 97) (k := 2401) (t := 0) (ty := .int) C rfl rfl rfl (fun _ _ h => h) (zcell1 rfl rfl) w126 (by decide) rfl (Nat.le_of_ble_eq_true rfl) rfl (by decide) hY rfl (by funext j; rfl) (Nat.le_of_ble_eq_true rfl) (Nat.le_of_ble_eq_true rfl) dX0_init_8 rfl ?_
  refine p_putF (P := zP41) (v := .ref 97) C hin 2 zOK0 hY rfl rfl (by decide) (by decide) w304 rfl rfl rfl (fun _ => rfl) (fun _ => rfl) (by decide) rfl dX0_init_10 rfl ?_
  refine p_aload_n (P := zP42) C 0 dX0_init_13 rfl rfl rfl ?_
  refine p_sipush (P := zP42) C (2401 : Int32) dX0_init_14 rfl rfl ?_
  refine p_newa (P := zP42) (q := 98) (k := 2401) (t := 0) (ty := .int) C rfl rfl rfl (fun _ _ h => h) (zcell1 rfl rfl) w126 (by decide) rfl (Nat.le_of_ble_eq_true rfl) rfl (by decide) hY rfl (by funext j; rfl) (Nat.le_of_ble_eq_true rfl) (Nat.le_of_ble_eq_true rfl) dX0_init_17 rfl ?_
  refine p_putF (P := zP42) (v := .ref 98) C hin 3 zOK0 hY rfl rfl (by decide) (by decide) w306 rfl rfl rfl (fun _ => rfl) (fun _ => rfl) (by decide) rfl dX0_init_19 rfl ?_
  refine p_aload_n (P := zP43) C 0 dX0_init_22 rfl rfl rfl ?_
  refine p_sipush (P := zP43) C (2401 : Int32) dX0_init_23 rfl rfl ?_
  refine p_newa (P := zP43) (q := 99) (k := 2401) (t := 0) (ty := .int) C rfl rfl rfl (fun _ _ h => h) (zcell1 rfl rfl) w126 (by decide) rfl (Nat.le_of_ble_eq_true rfl) rfl (by decide) hY rfl (by funext j; rfl) (Nat.le_of_ble_eq_true rfl) (Nat.le_of_ble_eq_true rfl) dX0_init_26 rfl ?_
  refine p_putF (P := zP43) (v := .ref 99) C hin 4 zOK0 hY rfl rfl (by decide) (by decide) w307 rfl rfl rfl (fun _ => rfl) (fun _ => rfl) (by decide) rfl dX0_init_28 rfl ?_
  refine p_aload_n (P := zP44) C 0 dX0_init_31 rfl rfl rfl ?_
  refine p_iconst (P := zP44) C (5 : Int32) dX0_init_32 rfl rfl ?_
  refine p_put (P := zP44) (v := .int (5 : Int32)) C 5 zOK0 hY rfl rfl (by decide) (by decide) w308 rfl rfl (fun _ => rfl) (fun _ => rfl) (by decide) rfl dX0_init_33 rfl ?_
  refine p_aload_n (P := zP45) C 0 dX0_init_36 rfl rfl rfl ?_
  refine p_aload_n (P := zP45) C 1 dX0_init_37 rfl rfl rfl ?_
  refine p_putF (P := zP45) (v := .ref 15) C hin 0 zOK0 hY rfl rfl (by decide) (by decide) w302 rfl rfl rfl (fun _ => rfl) (fun _ => rfl) (by decide) rfl dX0_init_38 rfl ?_
  refine p_aload_n (P := zP46) C 0 dX0_init_41 rfl rfl rfl ?_
  refine p_aload_n (P := zP46) C 2 dX0_init_42 rfl rfl rfl ?_
  refine p_putF (P := zP46) (v := .ref 11) C hin 1 zOK0 hY rfl rfl (by decide) (by decide) w303 rfl rfl rfl (fun _ => rfl) (fun _ => rfl) (by decide) rfl dX0_init_43 rfl ?_
  refine p_aload_n (P := zP47) C 0 dX0_init_46 rfl rfl rfl ?_
  refine p_getf (P := zP47) (v := .ref 97) C 2 zOK0 hY rfl rfl (by decide) (by decide) w304 rfl rfl dX0_init_47 rfl ?_
  refine p_bipush (P := zP47) C (-9 : Int32) dX0_init_50 rfl rfl ?_
  refine p_callS (P := zP47) (c2 := cJ7_fill_53178) (n2 := 4) C [.ref 97, .int (-9 : Int32)] (na := 2) rfl (pJ7_fill_53178 Y hY (by decide) rfl rfl (by decide)) w299 w300 w87 w301 hdJ7_fill_53178 ⟨Nat.le_of_ble_eq_true rfl, Nat.le_of_ble_eq_true rfl⟩ ⟨Nat.le_of_ble_eq_true rfl, Nat.le_of_ble_eq_true rfl⟩ (Nat.le_of_ble_eq_true rfl) rfl dX0_init_52 rfl ?_
  exact p_vret (P := zP47) C dX0_init_55
set_option maxRecDepth 100000 in
set_option maxHeartbeats 4000000 in
theorem mX7_init (Y : zY) (hY : zOf Y) : zMp Y yX7_init cX7_init 4 2 45 99 48820 [.ref 0] 1 zP1 zM0 100 zP48 (zfillM zM0 97 2401 (-9 : Int32)) := by
  refine zMp_of (own := RX7) (by decide) rfl (Nat.le_of_ble_eq_true rfl) (fun X C hin => ?_)
  have hin : (xH X).name = "<init>" := hin.symm
  show zGp Y X 4 0 0 _ 1 zP1 zM0 0 [(0, .ref 0)] []
  refine p_aload_n (P := zP1) C 0 dX7_init_0 rfl rfl rfl ?_
  refine p_objInit (P := zP1) C w97 w98 w99 dX7_init_1 (by decide) (by decide) rfl ?_
  refine p_new (P := zP1) (q := 1) (ci := 2) C [.null, .int 0, .int 0, .int 0] zOK2 w100 w101 w80 hY rfl rfl (by decide) zdf2 (fun _ => rfl) (Nat.le_of_ble_eq_true rfl) (Nat.le_of_ble_eq_true rfl) dX7_init_4 rfl ?_
  refine p_dup (P := zP2) C dX7_init_7 rfl rfl ?_
  refine p_callIN (P := zP2) (c2 := cX2_init) (n2 := 1) C [] (na := 0) rfl (mX2_init Y hY) (List.mem_of_getElem? (i := 0) rfl) w103 w80 w104 hdX2_init rfl ⟨Nat.le_of_ble_eq_true rfl, Nat.le_of_ble_eq_true rfl⟩ ⟨Nat.le_of_ble_eq_true rfl, Nat.le_of_ble_eq_true rfl⟩ (Nat.le_of_ble_eq_true rfl) rfl dX7_init_8 rfl ?_
  refine p_astore_n (lo' := [(1, .ref 1), (0, .ref 0)]) (P := zP3) C dX7_init_11 rfl (by decide) rfl rfl ?_
  refine p_new (P := zP3) (q := 11) (ci := 4) C [.null, .null, .null, .int 0] zOK4 w127 w128 w81 hY rfl rfl (by decide) zdf4 (fun _ => rfl) (Nat.le_of_ble_eq_true rfl) (Nat.le_of_ble_eq_true rfl) dX7_init_12 rfl ?_
  refine p_dup (P := zP4) C dX7_init_15 rfl rfl ?_
  refine p_callIN (P := zP4) (c2 := cX4_init) (n2 := 1) C [] (na := 0) rfl (mX4_init Y hY) (List.mem_of_getElem? (i := 1) rfl) w130 w81 w131 hdX4_init rfl ⟨Nat.le_of_ble_eq_true rfl, Nat.le_of_ble_eq_true rfl⟩ ⟨Nat.le_of_ble_eq_true rfl, Nat.le_of_ble_eq_true rfl⟩ (Nat.le_of_ble_eq_true rfl) rfl dX7_init_16 rfl ?_
  refine p_astore_n (lo' := [(2, .ref 11), (1, .ref 1), (0, .ref 0)]) (P := zP7) C dX7_init_19 rfl (by decide) rfl rfl ?_
  refine p_new (P := zP7) (q := 15) (ci := 3) C [.null, .null, .null, .null, .null, .int 0] zOK3 w151 w152 w82 hY rfl rfl (by decide) zdf3 (fun _ => rfl) (Nat.le_of_ble_eq_true rfl) (Nat.le_of_ble_eq_true rfl) dX7_init_20 rfl ?_
  refine p_dup (P := zP8) C dX7_init_23 rfl rfl ?_
  refine p_aload_n (P := zP8) C 1 dX7_init_24 rfl rfl rfl ?_
  refine p_callIN (P := zP8) (c2 := cX3_init) (n2 := 2) C [.ref 1] (na := 1) rfl (mX3_init Y hY) (List.mem_of_getElem? (i := 2) rfl) w154 w82 w155 hdX3_init rfl ⟨Nat.le_of_ble_eq_true rfl, Nat.le_of_ble_eq_true rfl⟩ ⟨Nat.le_of_ble_eq_true rfl, Nat.le_of_ble_eq_true rfl⟩ (Nat.le_of_ble_eq_true rfl) rfl dX7_init_25 rfl ?_
  refine p_astore_n (lo' := [(3, .ref 15), (2, .ref 11), (1, .ref 1), (0, .ref 0)]) (P := zP14) C dX7_init_28 rfl (by decide) rfl rfl ?_
  refine p_aload_n (P := zP14) C 3 dX7_init_29 rfl rfl rfl ?_
  refine p_aload_n (P := zP14) C 2 dX7_init_30 rfl rfl rfl ?_
  refine p_putF (P := zP14) (v := .ref 1) C hin 0 zOK7 hY rfl rfl (by decide) (by decide) w323 rfl rfl rfl (fun _ => rfl) (fun _ => rfl) (by decide) rfl dX7_init_31 rfl ?_
  refine p_aload_n (P := zP15) C 3 dX7_init_34 rfl rfl rfl ?_
  refine p_aload_n (P := zP15) C 1 dX7_init_35 rfl rfl rfl ?_
  refine p_putF (P := zP15) (v := .ref 11) C hin 3 zOK7 hY rfl rfl (by decide) (by decide) w326 rfl rfl rfl (fun _ => rfl) (fun _ => rfl) (by decide) rfl dX7_init_36 rfl ?_
  refine p_aload_n (P := zP16) C 3 dX7_init_39 rfl rfl rfl ?_
  refine p_aload_n (P := zP16) C 0 dX7_init_40 rfl rfl rfl ?_
  refine p_putF (P := zP16) (v := .ref 15) C hin 1 zOK7 hY rfl rfl (by decide) (by decide) w324 rfl rfl rfl (fun _ => rfl) (fun _ => rfl) (by decide) rfl dX7_init_41 rfl ?_
  refine p_aload_n (P := zP17) C 3 dX7_init_44 rfl rfl rfl ?_
  refine p_new (P := zP17) (q := 20) (ci := 1) C [.null, .null, .int 0, .int 0] zOK1 w179 w180 w83 hY rfl rfl (by decide) zdf1 (fun _ => rfl) (Nat.le_of_ble_eq_true rfl) (Nat.le_of_ble_eq_true rfl) dX7_init_45 rfl ?_
  refine p_dup (P := zP18) C dX7_init_48 rfl rfl ?_
  refine p_callIN (P := zP18) (c2 := cX1_init) (n2 := 1) C [] (na := 0) rfl (mX1_init Y hY) (List.mem_of_getElem? (i := 3) rfl) w182 w83 w183 hdX1_init rfl ⟨Nat.le_of_ble_eq_true rfl, Nat.le_of_ble_eq_true rfl⟩ ⟨Nat.le_of_ble_eq_true rfl, Nat.le_of_ble_eq_true rfl⟩ (Nat.le_of_ble_eq_true rfl) rfl dX7_init_49 rfl ?_
  refine p_putF (P := zP20) (v := .ref 20) C hin 2 zOK7 hY rfl rfl (by decide) (by decide) w325 rfl rfl rfl (fun _ => rfl) (fun _ => rfl) (by decide) rfl dX7_init_52 rfl ?_
  refine p_aload_n (P := zP21) C 3 dX7_init_55 rfl rfl rfl ?_
  refine p_new (P := zP21) (q := 23) (ci := 5) C [.null, .null, .int 0, .int 0] zOK5 w202 w203 w84 hY rfl rfl (by decide) zdf5 (fun _ => rfl) (Nat.le_of_ble_eq_true rfl) (Nat.le_of_ble_eq_true rfl) dX7_init_56 rfl ?_
  refine p_dup (P := zP22) C dX7_init_59 rfl rfl ?_
  refine p_callIN (P := zP22) (c2 := cX5_init) (n2 := 1) C [] (na := 0) rfl (mX5_init Y hY) (List.mem_of_getElem? (i := 4) rfl) w205 w84 w206 hdX5_init rfl ⟨Nat.le_of_ble_eq_true rfl, Nat.le_of_ble_eq_true rfl⟩ ⟨Nat.le_of_ble_eq_true rfl, Nat.le_of_ble_eq_true rfl⟩ (Nat.le_of_ble_eq_true rfl) rfl dX7_init_60 rfl ?_
  refine p_putF (P := zP24) (v := .ref 23) C hin 4 zOK7 hY rfl rfl (by decide) (by decide) w327 rfl rfl rfl (fun _ => rfl) (fun _ => rfl) (by decide) rfl dX7_init_63 rfl ?_
  refine p_aload_n (P := zP25) C 3 dX7_init_66 rfl rfl rfl ?_
  refine p_new (P := zP25) (q := 34) (ci := 6) C [.null, .null, .null, .null, .int 0, .int 0, .int 0, .null, .null, .null, .null, .null, .int 0, .int 0, .int 0, .int 0, .int 0, .int 0] zOK6 w225 w226 w85 hY rfl rfl (by decide) zdf6 (fun _ => rfl) (Nat.le_of_ble_eq_true rfl) (Nat.le_of_ble_eq_true rfl) dX7_init_67 rfl ?_
  refine p_dup (P := zP26) C dX7_init_70 rfl rfl ?_
  refine p_aload_n (P := zP26) C 2 dX7_init_71 rfl rfl rfl ?_
  refine p_aload_n (P := zP26) C 1 dX7_init_72 rfl rfl rfl ?_
  refine p_callIN (P := zP26) (c2 := cX6_init) (n2 := 3) C [.ref 1, .ref 11] (na := 2) rfl (mX6_init Y hY) (List.mem_of_getElem? (i := 5) rfl) w228 w85 w229 hdX6_init rfl ⟨Nat.le_of_ble_eq_true rfl, Nat.le_of_ble_eq_true rfl⟩ ⟨Nat.le_of_ble_eq_true rfl, Nat.le_of_ble_eq_true rfl⟩ (Nat.le_of_ble_eq_true rfl) rfl dX7_init_73 rfl ?_
  refine p_putF (P := zP39) (v := .ref 34) C hin 5 zOK7 hY rfl rfl (by decide) (by decide) w328 rfl rfl rfl (fun _ => rfl) (fun _ => rfl) (by decide) rfl dX7_init_76 rfl ?_
  refine p_aload_n (P := zP40) C 3 dX7_init_79 rfl rfl rfl ?_
  refine p_new (P := zP40) (q := 96) (ci := 0) C [.null, .null, .null, .null, .null, .int 0] zOK0 w293 w294 w86 hY rfl rfl (by decide) zdf0 (fun _ => rfl) (Nat.le_of_ble_eq_true rfl) (Nat.le_of_ble_eq_true rfl) dX7_init_80 rfl ?_
  refine p_dup (P := zP41) C dX7_init_83 rfl rfl ?_
  refine p_aload_n (P := zP41) C 0 dX7_init_84 rfl rfl rfl ?_
  refine p_aload_n (P := zP41) C 1 dX7_init_85 rfl rfl rfl ?_
  refine p_callIN (P := zP41) (c2 := cX0_init) (n2 := 3) C [.ref 15, .ref 11] (na := 2) rfl (mX0_init Y hY) (List.mem_of_getElem? (i := 6) rfl) w296 w86 w297 hdX0_init rfl ⟨Nat.le_of_ble_eq_true rfl, Nat.le_of_ble_eq_true rfl⟩ ⟨Nat.le_of_ble_eq_true rfl, Nat.le_of_ble_eq_true rfl⟩ (Nat.le_of_ble_eq_true rfl) rfl dX7_init_86 rfl ?_
  refine p_putF (P := zP47) (v := .ref 96) C hin 6 zOK7 hY rfl rfl (by decide) (by decide) w329 rfl rfl rfl (fun _ => rfl) (fun _ => rfl) (by decide) rfl dX7_init_89 rfl ?_
  exact p_vret (P := zP48) C dX7_init_92
set_option maxRecDepth 100000 in
set_option maxHeartbeats 4000000 in
theorem told_loop (Y : zY) (hY : zOf Y) {X : zX} {R : Room} (C : zC Y X RX8 cX8_init 2 R none) : ∀ (r i : Nat), i + r = 2401 → zGp Y X 2 18 101880 (MQ (xB X) (va_Qv (fun _ : Unit => True) (fun _ => zPq Y 119 zP69 (zfillM zM1 106 2401 (-9 : Int32))) (yF Y)) (xA X) (xS X) 18 101880 (yF Y)) 119 zP69 (zfillM zM1 106 i (-9)) 173 [(0, .ref 100), (1, .int (nI i))] [] := by
  intro r
  induction r with
  | zero =>
    intro i hi
    have hi : i = 2401 := by omega
    subst hi
    refine p_iload_n C 1 dX8_init_173 rfl rfl rfl ?_
    refine p_sipush C (2401 : Int32) dX8_init_174 rfl rfl ?_
    refine p_icmpge C dX8_init_177 rfl rfl (fun _ => ?_) (fun h => absurd (Int32.le_refl _) h)
    exact p_vret C dX8_init_194
  | succ r ih =>
    intro i hi
    refine p_iload_n C 1 dX8_init_173 rfl rfl rfl ?_
    refine p_sipush C (2401 : Int32) dX8_init_174 rfl rfl ?_
    refine p_icmpge C dX8_init_177 rfl rfl (fun h => absurd h (nI_ge (b := 2401) (by omega) (by decide))) (fun _ => ?_)
    refine p_aload_n C 0 dX8_init_180 rfl rfl rfl ?_
    refine p_getf (v := .ref 106) C 13 zOK8 hY rfl rfl (by decide) (by decide) w801 rfl rfl dX8_init_181 rfl ?_
    refine p_iload_n C 1 dX8_init_184 rfl rfl rfl ?_
    refine p_bipush C (-9 : Int32) dX8_init_185 rfl rfl ?_
    refine p_iastore (k := 2401) C hY (by decide) rfl rfl (vp_in_nI (by omega) (by decide)) dX8_init_187 rfl ?_
    rw [zfillM_S _ _ (by omega)]
    refine p_iinc (v := nI (i + 1)) (lo' := [(1, .int (nI (i + 1))), (0, .ref 100)]) C 1 dX8_init_188 rfl (nI_1 i) (by decide) rfl rfl ?_
    refine p_goto C dX8_init_191 rfl ?_
    exact p_perm [1, 0] rfl (ih (i + 1) (by omega))
set_option maxRecDepth 100000 in
set_option maxHeartbeats 4000000 in
theorem mX8_init (Y : zY) (hY : zOf Y) : zMp Y yX8_init cX8_init 2 1 12 18 101880 [.ref 100] 101 zP49 zM1 119 zP69 (zfillM zM1 106 2401 (-9 : Int32)) := by
  refine zMp_of (own := RX8) (by decide) rfl (Nat.le_of_ble_eq_true rfl) (fun X C hin => ?_)
  have hin : (xH X).name = "<init>" := hin.symm
  show zGp Y X 2 0 0 _ 101 zP49 zM1 0 [(0, .ref 100)] []
  refine p_aload_n (P := zP49) C 0 dX8_init_0 rfl rfl rfl ?_
  refine p_objInit (P := zP49) C w786 w98 w99 dX8_init_1 (by decide) (by decide) rfl ?_
  refine p_aload_n (P := zP49) C 0 dX8_init_4 rfl rfl rfl ?_
  refine p_bipush (P := zP49) C (96 : Int32) dX8_init_5 rfl rfl ?_
  refine p_newa (P := zP49) (q := 101) (k := 96) (t := 0) (ty := .int) C rfl rfl rfl (fun _ _ h => h) (zcell1 rfl rfl) w126 (by decide) rfl (Nat.le_of_ble_eq_true rfl) rfl (by decide) hY rfl (by funext j; rfl) (Nat.le_of_ble_eq_true rfl) (Nat.le_of_ble_eq_true rfl) dX8_init_7 rfl ?_
  refine p_putF (P := zP49) (v := .ref 101) C hin 0 zOK8 hY rfl rfl (by decide) (by decide) w788 rfl rfl rfl (fun _ => rfl) (fun _ => rfl) (by decide) rfl dX8_init_9 rfl ?_
  refine p_aload_n (P := zP50) C 0 dX8_init_12 rfl rfl rfl ?_
  refine p_sipush (P := zP50) C (200 : Int32) dX8_init_13 rfl rfl ?_
  refine p_newa (P := zP50) (q := 102) (k := 200) (t := 1) (ty := .byte) C rfl rfl rfl (fun _ _ h => h) (zcell2 rfl rfl) w891 (by decide) rfl (Nat.le_of_ble_eq_true rfl) rfl (by decide) hY rfl (by funext j; rfl) (Nat.le_of_ble_eq_true rfl) (Nat.le_of_ble_eq_true rfl) dX8_init_16 rfl ?_
  refine p_putF (P := zP50) (v := .ref 102) C hin 4 zOK8 hY rfl rfl (by decide) (by decide) w792 rfl rfl rfl (fun _ => rfl) (fun _ => rfl) (by decide) rfl dX8_init_18 rfl ?_
  refine p_aload_n (P := zP51) C 0 dX8_init_21 rfl rfl rfl ?_
  refine p_bipush (P := zP51) C (40 : Int32) dX8_init_22 rfl rfl ?_
  refine p_newa (P := zP51) (q := 103) (k := 40) (t := 0) (ty := .int) C rfl rfl rfl (fun _ _ h => h) (zcell1 rfl rfl) w126 (by decide) rfl (Nat.le_of_ble_eq_true rfl) rfl (by decide) hY rfl (by funext j; rfl) (Nat.le_of_ble_eq_true rfl) (Nat.le_of_ble_eq_true rfl) dX8_init_24 rfl ?_
  refine p_putF (P := zP51) (v := .ref 103) C hin 7 zOK8 hY rfl rfl (by decide) (by decide) w795 rfl rfl rfl (fun _ => rfl) (fun _ => rfl) (by decide) rfl dX8_init_26 rfl ?_
  refine p_aload_n (P := zP52) C 0 dX8_init_29 rfl rfl rfl ?_
  refine p_bipush (P := zP52) C (8 : Int32) dX8_init_30 rfl rfl ?_
  refine p_put (P := zP52) (v := .int (8 : Int32)) C 8 zOK8 hY rfl rfl (by decide) (by decide) w796 rfl rfl (fun _ => rfl) (fun _ => rfl) (by decide) rfl dX8_init_32 rfl ?_
  refine p_aload_n (P := zP53) C 0 dX8_init_35 rfl rfl rfl ?_
  refine p_iconst (P := zP53) C (5 : Int32) dX8_init_36 rfl rfl ?_
  refine p_put (P := zP53) (v := .int (5 : Int32)) C 9 zOK8 hY rfl rfl (by decide) (by decide) w797 rfl rfl (fun _ => rfl) (fun _ => rfl) (by decide) rfl dX8_init_37 rfl ?_
  refine p_aload_n (P := zP54) C 0 dX8_init_40 rfl rfl rfl ?_
  refine p_bipush (P := zP54) C (8 : Int32) dX8_init_41 rfl rfl ?_
  refine p_newa (P := zP54) (q := 104) (k := 8) (t := 0) (ty := .int) C rfl rfl rfl (fun _ _ h => h) (zcell1 rfl rfl) w126 (by decide) rfl (Nat.le_of_ble_eq_true rfl) rfl (by decide) hY rfl (by funext j; rfl) (Nat.le_of_ble_eq_true rfl) (Nat.le_of_ble_eq_true rfl) dX8_init_43 rfl ?_
  refine p_putF (P := zP54) (v := .ref 104) C hin 11 zOK8 hY rfl rfl (by decide) (by decide) w799 rfl rfl rfl (fun _ => rfl) (fun _ => rfl) (by decide) rfl dX8_init_45 rfl ?_
  refine p_aload_n (P := zP55) C 0 dX8_init_48 rfl rfl rfl ?_
  refine p_bipush (P := zP55) C (8 : Int32) dX8_init_49 rfl rfl ?_
  refine p_newa (P := zP55) (q := 105) (k := 8) (t := 0) (ty := .int) C rfl rfl rfl (fun _ _ h => h) (zcell1 rfl rfl) w126 (by decide) rfl (Nat.le_of_ble_eq_true rfl) rfl (by decide) hY rfl (by funext j; rfl) (Nat.le_of_ble_eq_true rfl) (Nat.le_of_ble_eq_true rfl) dX8_init_51 rfl ?_
  refine p_putF (P := zP55) (v := .ref 105) C hin 12 zOK8 hY rfl rfl (by decide) (by decide) w800 rfl rfl rfl (fun _ => rfl) (fun _ => rfl) (by decide) rfl dX8_init_53 rfl ?_
  refine p_aload_n (P := zP56) C 0 dX8_init_56 rfl rfl rfl ?_
  refine p_sipush (P := zP56) C (2401 : Int32) dX8_init_57 rfl rfl ?_
  refine p_newa (P := zP56) (q := 106) (k := 2401) (t := 0) (ty := .int) C rfl rfl rfl (fun _ _ h => h) (zcell1 rfl rfl) w126 (by decide) rfl (Nat.le_of_ble_eq_true rfl) rfl (by decide) hY rfl (by funext j; rfl) (Nat.le_of_ble_eq_true rfl) (Nat.le_of_ble_eq_true rfl) dX8_init_60 rfl ?_
  refine p_putF (P := zP56) (v := .ref 106) C hin 13 zOK8 hY rfl rfl (by decide) (by decide) w801 rfl rfl rfl (fun _ => rfl) (fun _ => rfl) (by decide) rfl dX8_init_62 rfl ?_
  refine p_aload_n (P := zP57) C 0 dX8_init_65 rfl rfl rfl ?_
  refine p_sipush (P := zP57) C (2601 : Int32) dX8_init_66 rfl rfl ?_
  refine p_newa (P := zP57) (q := 107) (k := 2601) (t := 0) (ty := .int) C rfl rfl rfl (fun _ _ h => h) (zcell1 rfl rfl) w126 (by decide) rfl (Nat.le_of_ble_eq_true rfl) rfl (by decide) hY rfl (by funext j; rfl) (Nat.le_of_ble_eq_true rfl) (Nat.le_of_ble_eq_true rfl) dX8_init_69 rfl ?_
  refine p_putF (P := zP57) (v := .ref 107) C hin 15 zOK8 hY rfl rfl (by decide) (by decide) w803 rfl rfl rfl (fun _ => rfl) (fun _ => rfl) (by decide) rfl dX8_init_71 rfl ?_
  refine p_aload_n (P := zP58) C 0 dX8_init_74 rfl rfl rfl ?_
  refine p_sipush (P := zP58) C (2601 : Int32) dX8_init_75 rfl rfl ?_
  refine p_newa (P := zP58) (q := 108) (k := 2601) (t := 0) (ty := .int) C rfl rfl rfl (fun _ _ h => h) (zcell1 rfl rfl) w126 (by decide) rfl (Nat.le_of_ble_eq_true rfl) rfl (by decide) hY rfl (by funext j; rfl) (Nat.le_of_ble_eq_true rfl) (Nat.le_of_ble_eq_true rfl) dX8_init_78 rfl ?_
  refine p_putF (P := zP58) (v := .ref 108) C hin 16 zOK8 hY rfl rfl (by decide) (by decide) w804 rfl rfl rfl (fun _ => rfl) (fun _ => rfl) (by decide) rfl dX8_init_80 rfl ?_
  refine p_aload_n (P := zP59) C 0 dX8_init_83 rfl rfl rfl ?_
  refine p_sipush (P := zP59) C (2401 : Int32) dX8_init_84 rfl rfl ?_
  refine p_newa (P := zP59) (q := 109) (k := 2401) (t := 2) (ty := .boolean) C rfl rfl rfl (fun _ _ h => h) (zcell3 rfl rfl) w201 (by decide) rfl (Nat.le_of_ble_eq_true rfl) rfl (by decide) hY rfl (by funext j; rfl) (Nat.le_of_ble_eq_true rfl) (Nat.le_of_ble_eq_true rfl) dX8_init_87 rfl ?_
  refine p_putF (P := zP59) (v := .ref 109) C hin 17 zOK8 hY rfl rfl (by decide) (by decide) w805 rfl rfl rfl (fun _ => rfl) (fun _ => rfl) (by decide) rfl dX8_init_89 rfl ?_
  refine p_aload_n (P := zP60) C 0 dX8_init_92 rfl rfl rfl ?_
  refine p_sipush (P := zP60) C (2401 : Int32) dX8_init_93 rfl rfl ?_
  refine p_newa (P := zP60) (q := 110) (k := 2401) (t := 0) (ty := .int) C rfl rfl rfl (fun _ _ h => h) (zcell1 rfl rfl) w126 (by decide) rfl (Nat.le_of_ble_eq_true rfl) rfl (by decide) hY rfl (by funext j; rfl) (Nat.le_of_ble_eq_true rfl) (Nat.le_of_ble_eq_true rfl) dX8_init_96 rfl ?_
  refine p_putF (P := zP60) (v := .ref 110) C hin 18 zOK8 hY rfl rfl (by decide) (by decide) w806 rfl rfl rfl (fun _ => rfl) (fun _ => rfl) (by decide) rfl dX8_init_98 rfl ?_
  refine p_aload_n (P := zP61) C 0 dX8_init_101 rfl rfl rfl ?_
  refine p_sipush (P := zP61) C (2401 : Int32) dX8_init_102 rfl rfl ?_
  refine p_newa (P := zP61) (q := 111) (k := 2401) (t := 0) (ty := .int) C rfl rfl rfl (fun _ _ h => h) (zcell1 rfl rfl) w126 (by decide) rfl (Nat.le_of_ble_eq_true rfl) rfl (by decide) hY rfl (by funext j; rfl) (Nat.le_of_ble_eq_true rfl) (Nat.le_of_ble_eq_true rfl) dX8_init_105 rfl ?_
  refine p_putF (P := zP61) (v := .ref 111) C hin 19 zOK8 hY rfl rfl (by decide) (by decide) w807 rfl rfl rfl (fun _ => rfl) (fun _ => rfl) (by decide) rfl dX8_init_107 rfl ?_
  refine p_aload_n (P := zP62) C 0 dX8_init_110 rfl rfl rfl ?_
  refine p_sipush (P := zP62) C (2401 : Int32) dX8_init_111 rfl rfl ?_
  refine p_newa (P := zP62) (q := 112) (k := 2401) (t := 0) (ty := .int) C rfl rfl rfl (fun _ _ h => h) (zcell1 rfl rfl) w126 (by decide) rfl (Nat.le_of_ble_eq_true rfl) rfl (by decide) hY rfl (by funext j; rfl) (Nat.le_of_ble_eq_true rfl) (Nat.le_of_ble_eq_true rfl) dX8_init_114 rfl ?_
  refine p_putF (P := zP62) (v := .ref 112) C hin 20 zOK8 hY rfl rfl (by decide) (by decide) w808 rfl rfl rfl (fun _ => rfl) (fun _ => rfl) (by decide) rfl dX8_init_116 rfl ?_
  refine p_aload_n (P := zP63) C 0 dX8_init_119 rfl rfl rfl ?_
  refine p_sipush (P := zP63) C (2401 : Int32) dX8_init_120 rfl rfl ?_
  refine p_newa (P := zP63) (q := 113) (k := 2401) (t := 0) (ty := .int) C rfl rfl rfl (fun _ _ h => h) (zcell1 rfl rfl) w126 (by decide) rfl (Nat.le_of_ble_eq_true rfl) rfl (by decide) hY rfl (by funext j; rfl) (Nat.le_of_ble_eq_true rfl) (Nat.le_of_ble_eq_true rfl) dX8_init_123 rfl ?_
  refine p_putF (P := zP63) (v := .ref 113) C hin 21 zOK8 hY rfl rfl (by decide) (by decide) w809 rfl rfl rfl (fun _ => rfl) (fun _ => rfl) (by decide) rfl dX8_init_125 rfl ?_
  refine p_aload_n (P := zP64) C 0 dX8_init_128 rfl rfl rfl ?_
  refine p_sipush (P := zP64) C (4096 : Int32) dX8_init_129 rfl rfl ?_
  refine p_newa (P := zP64) (q := 114) (k := 4096) (t := 0) (ty := .int) C rfl rfl rfl (fun _ _ h => h) (zcell1 rfl rfl) w126 (by decide) rfl (Nat.le_of_ble_eq_true rfl) rfl (by decide) hY rfl (by funext j; rfl) (Nat.le_of_ble_eq_true rfl) (Nat.le_of_ble_eq_true rfl) dX8_init_132 rfl ?_
  refine p_putF (P := zP64) (v := .ref 114) C hin 28 zOK8 hY rfl rfl (by decide) (by decide) w816 rfl rfl rfl (fun _ => rfl) (fun _ => rfl) (by decide) rfl dX8_init_134 rfl ?_
  refine p_aload_n (P := zP65) C 0 dX8_init_137 rfl rfl rfl ?_
  refine p_ldc (P := zP65) C w787 dX8_init_138 rfl ?_
  refine p_newa (P := zP65) (q := 115) (k := 32768) (t := 0) (ty := .int) C rfl rfl rfl (fun _ _ h => h) (zcell1 rfl rfl) w126 (by decide) rfl (Nat.le_of_ble_eq_true rfl) rfl (by decide) hY rfl (by funext j; rfl) (Nat.le_of_ble_eq_true rfl) (Nat.le_of_ble_eq_true rfl) dX8_init_140 rfl ?_
  refine p_putF (P := zP65) (v := .ref 115) C hin 29 zOK8 hY rfl rfl (by decide) (by decide) w817 rfl rfl rfl (fun _ => rfl) (fun _ => rfl) (by decide) rfl dX8_init_142 rfl ?_
  refine p_aload_n (P := zP66) C 0 dX8_init_145 rfl rfl rfl ?_
  refine p_ldc (P := zP66) C w787 dX8_init_146 rfl ?_
  refine p_newa (P := zP66) (q := 116) (k := 32768) (t := 0) (ty := .int) C rfl rfl rfl (fun _ _ h => h) (zcell1 rfl rfl) w126 (by decide) rfl (Nat.le_of_ble_eq_true rfl) rfl (by decide) hY rfl (by funext j; rfl) (Nat.le_of_ble_eq_true rfl) (Nat.le_of_ble_eq_true rfl) dX8_init_148 rfl ?_
  refine p_putF (P := zP66) (v := .ref 116) C hin 30 zOK8 hY rfl rfl (by decide) (by decide) w818 rfl rfl rfl (fun _ => rfl) (fun _ => rfl) (by decide) rfl dX8_init_150 rfl ?_
  refine p_aload_n (P := zP67) C 0 dX8_init_153 rfl rfl rfl ?_
  refine p_sipush (P := zP67) C (8192 : Int32) dX8_init_154 rfl rfl ?_
  refine p_newa (P := zP67) (q := 117) (k := 8192) (t := 0) (ty := .int) C rfl rfl rfl (fun _ _ h => h) (zcell1 rfl rfl) w126 (by decide) rfl (Nat.le_of_ble_eq_true rfl) rfl (by decide) hY rfl (by funext j; rfl) (Nat.le_of_ble_eq_true rfl) (Nat.le_of_ble_eq_true rfl) dX8_init_157 rfl ?_
  refine p_putF (P := zP67) (v := .ref 117) C hin 31 zOK8 hY rfl rfl (by decide) (by decide) w819 rfl rfl rfl (fun _ => rfl) (fun _ => rfl) (by decide) rfl dX8_init_159 rfl ?_
  refine p_aload_n (P := zP68) C 0 dX8_init_162 rfl rfl rfl ?_
  refine p_sipush (P := zP68) C (4096 : Int32) dX8_init_163 rfl rfl ?_
  refine p_newa (P := zP68) (q := 118) (k := 4096) (t := 0) (ty := .int) C rfl rfl rfl (fun _ _ h => h) (zcell1 rfl rfl) w126 (by decide) rfl (Nat.le_of_ble_eq_true rfl) rfl (by decide) hY rfl (by funext j; rfl) (Nat.le_of_ble_eq_true rfl) (Nat.le_of_ble_eq_true rfl) dX8_init_166 rfl ?_
  refine p_putF (P := zP68) (v := .ref 118) C hin 32 zOK8 hY rfl rfl (by decide) (by decide) w820 rfl rfl rfl (fun _ => rfl) (fun _ => rfl) (by decide) rfl dX8_init_168 rfl ?_
  refine p_iconst (P := zP69) C (0 : Int32) dX8_init_171 rfl rfl ?_
  refine p_istore_n (lo' := [(1, .int (0 : Int32)), (0, .ref 100)]) (P := zP69) C dX8_init_172 rfl (by decide) rfl rfl ?_
  refine p_perm (lo' := [(0, .ref 100), (1, .int (nI 0))]) [1, 0] rfl ?_
  have g := told_loop Y hY C 2401 0 rfl
  rw [zfillM_0] at g
  exact g
