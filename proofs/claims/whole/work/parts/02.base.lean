/-! ===== THE ABSTRACT MACHINE: a fixed table of cells, a memory of numbers, and the judgement zR ===== -/
/-- a memory: the int at a place of a cell; the long of a cell -/
abbrev zMem : Type := (Nat → Nat → Int32) × (Nat → Int64)
def zwr (M : zMem) (q i : Nat) (v : Int32) : zMem := (fun c j => if c = q ∧ j = i then v else M.1 c j, M.2)
def zwl (M : zMem) (q : Nat) (v : Int64) : zMem := (M.1, fun c => if c = q then v else M.2 c)
def zcl (x : Int32) : Nat := x.toNatClampNeg
/-- what an int array holds at an int -/
def zrd (M : zMem) (q : Nat) (i : Int32) : Int32 := M.1 q (zcl i)
def zin (i : Int32) (n : Nat) : Bool := !decide (i < 0) && decide (i.toNatClampNeg < n)
def zguard {ρ : Type} (b : Bool) (F : Option ρ) : Option ρ := if b = true then F else none
def zlet {α ρ : Type} (e : α) (f : α → ρ) : ρ := f e
def zj {α ρ : Type} (e : α) (f : α → ρ) : ρ := f e
def zisb (x : Int32) : Bool := decide (x = 0) || decide (x = 1)
def zloop {σ ρ : Type} (f : (σ → Option ρ) → σ → Option ρ) : Nat → σ → Option ρ
  | 0, _ => none
  | n + 1, s => f (zloop f n) s
def zrow (q : Nat) (i : Int32) : Nat := q + 1 + zcl i
def zLO (j : Nat) : Int32 := ([0, -40, -40, 0, 0, 0] : List Int32).getD j 0
def zMO (j : Nat) : Int32 := ([2, 40, 40, 400, 900, 90] : List Int32).getD j 0
def zrem (x y : Int32) : Int32 := x - x / y * y
def zreml (x y : Int64) : Int64 := x - x / y * y
def zushr (x y : Int32) : Int32 := (x.toUInt32 >>> (y.toUInt32 &&& Int32.toUInt32 31)).toInt32
def zlushr (x : Int64) (y : Int32) : Int64 := (x.toUInt64 >>> (y.toInt64.toUInt64 &&& Int64.toUInt64 63)).toInt64
def zFuel : Nat := 1000000
/-- the cells: kind and length (or class) of each: 1 ints, 2 bytes, 3 booleans, 4 rows of ints, 5 an object -/
def zKL : List (Nat × Nat) := [(5, 7), (5, 2), (4, 8), (1, 6), (1, 6), (1, 6), (1, 6), (1, 6), (1, 6), (1, 6), (1, 6), (5, 4), (1, 8192), (1, 4096), (1, 4096), (5, 3), (1, 2601), (1, 2601), (1, 2401), (1, 2401), (5, 1), (3, 2401), (1, 2401), (5, 5), (1, 200), (4, 8), (1, 6), (1, 6), (1, 6), (1, 6), (1, 6), (1, 6), (1, 6), (1, 6), (5, 6), (4, 10), (1, 4), (1, 4), (1, 4), (1, 4), (1, 4), (1, 4), (1, 4), (1, 4), (1, 4), (1, 4), (4, 8), (1, 2), (1, 2), (1, 2), (1, 2), (1, 2), (1, 2), (1, 2), (1, 2), (1, 36), (4, 36), (1, 48), (1, 48), (1, 48), (1, 48), (1, 48), (1, 48), (1, 48), (1, 48), (1, 48), (1, 48), (1, 48), (1, 48), (1, 48), (1, 48), (1, 48), (1, 48), (1, 48), (1, 48), (1, 48), (1, 48), (1, 48), (1, 48), (1, 48), (1, 48), (1, 48), (1, 48), (1, 48), (1, 48), (1, 48), (1, 48), (1, 48), (1, 48), (1, 48), (1, 48), (1, 48), (1, 48), (1, 3), (1, 4096), (1, 4096), (5, 0), (1, 2401), (1, 2401), (1, 2401), (5, 8), (1, 96), (2, 200), (1, 40), (1, 8), (1, 8), (1, 2401), (1, 2601), (1, 2601), (3, 2401), (1, 2401), (1, 2401), (1, 2401), (1, 2401), (1, 4096), (1, 32768), (1, 32768), (1, 8192), (1, 4096)]
def zkd (q : Nat) : Nat × Nat := zKL.getD q (0, 0)
/-- the fields of an object: 0 an int, 1 a long, 2 a reference that stays, 3 one that moves -/
def zfl (q : Nat) : List (Nat × Nat) := if q = 0 then [(2, 1), (2, 15), (2, 20), (2, 11), (2, 23), (2, 34), (2, 96), (1, 0)] else if q = 1 then [(3, 0), (0, 0), (0, 0), (0, 0)] else if q = 11 then [(2, 12), (2, 13), (2, 14), (0, 0)] else if q = 15 then [(2, 1), (2, 16), (2, 17), (2, 18), (2, 19), (0, 0)] else if q = 20 then [(2, 21), (2, 22), (0, 0), (0, 0)] else if q = 23 then [(2, 24), (3, 0), (0, 0), (0, 0)] else if q = 34 then [(2, 1), (2, 11), (2, 35), (2, 46), (0, 0), (0, 0), (0, 0), (2, 55), (2, 56), (2, 93), (2, 94), (2, 95), (0, 0), (0, 0), (0, 0), (0, 0), (0, 0), (0, 0)] else if q = 96 then [(2, 15), (2, 11), (2, 97), (2, 98), (2, 99), (0, 0)] else if q = 100 then [(2, 101), (0, 0), (0, 0), (0, 0), (2, 102), (0, 0), (0, 0), (2, 103), (0, 0), (0, 0), (0, 0), (2, 104), (2, 105), (2, 106), (1, 0), (2, 107), (2, 108), (2, 109), (2, 110), (2, 111), (2, 112), (2, 113), (0, 0), (0, 0), (0, 0), (0, 0), (0, 0), (0, 0), (2, 114), (2, 115), (2, 116), (2, 117), (2, 118), (0, 0)] else []
def zNF : List (String × Nat × String × String × String × String) := [("LensBench", 88, "LensBench$Lens", "bodies", "[[I", "LensBench"), ("LensBench$Trials", 89, "LensBench$Lens", "bodies", "[[I", "LensBench"), ("LensBench", 68, "LensBench$Lens", "bodyCount", "I", "LensBench"), ("LensBench", 92, "LensBench$Lens", "g", "I", "LensBench"), ("LensBench", 95, "LensBench$Lens", "h", "I", "LensBench"), ("LensBench", 174, "LensBench$Tally", "keys", "[I", "LensBench"), ("LensBench", 171, "LensBench$Tally", "counts", "[I", "LensBench"), ("LensBench$Trials", 127, "LensBench$Tally", "counts", "[I", "LensBench"), ("LensBench$Brightness", 53, "LensBench$Tally", "distinct", "I", "LensBench"), ("LensBench$Trials", 122, "LensBench$Tally", "distinct", "I", "LensBench"), ("LensBench$Brightness", 39, "LensBench$Plane", "cellKeys", "[I", "LensBench"), ("LensBench", 161, "LensBench$Plane", "cellKeys", "[I", "LensBench"), ("LensBench", 281, "LensBench$Plane", "stale", "Z", "LensBench"), ("LensBench", 282, "LensBench$Groups", "waiting", "[Z", "LensBench"), ("LensBench", 130, "LensBench$Groups", "wantedFirst", "I", "LensBench"), ("LensBench", 139, "LensBench$Groups", "wantedSize", "I", "LensBench"), ("LensBench", 200, "LensBench$Text", "bodies", "[[I", "LensBench"), ("LensBench", 186, "LensBench$Text", "length", "I", "LensBench"), ("LensBench", 197, "LensBench$Text", "at", "I", "LensBench"), ("LensBench", 201, "LensBench$Trials", "pairCount", "I", "LensBench"), ("LensBench", 248, "LensBench$Trials", "spotCount", "I", "LensBench"), ("LensBench", 211, "LensBench$Trials", "slack", "I", "LensBench"), ("LensBench", 224, "LensBench$Trials", "modelCount", "I", "LensBench"), ("LensBench", 233, "LensBench$Trials", "fitCount", "I", "LensBench"), ("LensBench", 207, "LensBench$Trials", "stale", "Z", "LensBench"), ("LensBench", 257, "LensBench$Brightness", "told", "[I", "LensBench"), ("LensBench", 214, "LensBench$Brightness", "noise", "I", "LensBench"), ("LensBench$Lens", 20, "LensBench", "MOST_OF", "[I", "LensBench"), ("LensBench$Text", 35, "LensBench", "MOST_OF", "[I", "LensBench"), ("LensBench$Text", 46, "LensBench", "LEAST_OF", "[I", "LensBench")]
def zNM : List (String × Nat × MethodName × String) := [("LensBench", 11, ⟨"LensBench$Lens", "<init>", "()V"⟩, "LensBench"), ("LensBench", 14, ⟨"LensBench$Tally", "<init>", "()V"⟩, "LensBench"), ("LensBench", 17, ⟨"LensBench$Plane", "<init>", "(LLensBench$Lens;)V"⟩, "LensBench"), ("LensBench", 34, ⟨"LensBench$Groups", "<init>", "()V"⟩, "LensBench"), ("LensBench", 41, ⟨"LensBench$Text", "<init>", "()V"⟩, "LensBench"), ("LensBench", 48, ⟨"LensBench$Trials", "<init>", "(LLensBench$Lens;LLensBench$Tally;)V"⟩, "LensBench"), ("LensBench", 57, ⟨"LensBench$Brightness", "<init>", "(LLensBench$Plane;LLensBench$Tally;)V"⟩, "LensBench"), ("LensBench", 75, ⟨"LensBench$Lens", "add", "(IIII)I"⟩, "LensBench"), ("LensBench", 105, ⟨"LensBench$Lens", "askedBy", "(I)I"⟩, "LensBench"), ("LensBench", 109, ⟨"LensBench$Lens", "bendBy", "(I[IIIII)I"⟩, "LensBench"), ("LensBench", 113, ⟨"LensBench$Lens", "lightAt", "(III)I"⟩, "LensBench"), ("LensBench", 145, ⟨"LensBench$Plane", "lookAnew", "()V"⟩, "LensBench"), ("LensBench$Plane", 36, ⟨"LensBench$Lens", "lightAt", "(III)I"⟩, "LensBench"), ("LensBench$Plane", 42, ⟨"LensBench", "xOf", "(I)I"⟩, "LensBench"), ("LensBench$Plane", 46, ⟨"LensBench", "yOf", "(I)I"⟩, "LensBench"), ("LensBench$Plane", 49, ⟨"LensBench", "cellOf", "(I)I"⟩, "LensBench"), ("LensBench$Plane", 52, ⟨"LensBench", "keyOf", "(II)I"⟩, "LensBench"), ("LensBench", 127, ⟨"LensBench$Groups", "split", "(I)I"⟩, "LensBench"), ("LensBench", 142, ⟨"LensBench$Plane", "parityAt", "(II)I"⟩, "LensBench"), ("LensBench$Plane", 71, ⟨"LensBench", "pixelAt", "(II)I"⟩, "LensBench"), ("LensBench", 148, ⟨"LensBench$Plane", "isCritical", "(II)Z"⟩, "LensBench"), ("LensBench", 151, ⟨"LensBench$Plane", "countOfParity", "(I)I"⟩, "LensBench"), ("LensBench", 158, ⟨"LensBench$Tally", "start", "()V"⟩, "LensBench"), ("LensBench", 165, ⟨"LensBench$Tally", "numberOf", "(I)I"⟩, "LensBench"), ("LensBench", 168, ⟨"LensBench$Tally", "greatest", "()I"⟩, "LensBench"), ("LensBench", 179, ⟨"LensBench$Plane", "delayOnWay", "(IIIIII)J"⟩, "LensBench"), ("LensBench", 183, ⟨"LensBench$Plane", "stretchOf", "(I)I"⟩, "LensBench"), ("LensBench", 191, ⟨"LensBench$Text", "add", "(I)V"⟩, "LensBench"), ("LensBench", 194, ⟨"LensBench$Text", "tellBodies", "()I"⟩, "LensBench"), ("LensBench$Text", 49, ⟨"LensBench", "within", "(III)Z"⟩, "LensBench"), ("LensBench", 204, ⟨"LensBench$Trials", "addPair", "(IIII)I"⟩, "LensBench"), ("LensBench", 220, ⟨"LensBench$Trials", "load", "(II)V"⟩, "LensBench"), ("LensBench$Trials", 83, ⟨"LensBench$Lens", "lightPast", "(IIII)I"⟩, "LensBench"), ("LensBench$Trials", 92, ⟨"LensBench$Lens", "bendBy", "(I[IIIII)I"⟩, "LensBench"), ("LensBench", 227, ⟨"LensBench$Trials", "holds", "(I)Z"⟩, "LensBench"), ("LensBench", 230, ⟨"LensBench$Trials", "gather", "()V"⟩, "LensBench"), ("LensBench", 236, ⟨"LensBench$Trials", "least", "()I"⟩, "LensBench"), ("LensBench", 239, ⟨"LensBench$Trials", "twins", "()I"⟩, "LensBench"), ("LensBench$Trials", 134, ⟨"LensBench$Tally", "start", "()V"⟩, "LensBench"), ("LensBench$Trials", 137, ⟨"LensBench", "cellOf", "(I)I"⟩, "LensBench"), ("LensBench$Trials", 140, ⟨"LensBench$Tally", "numberOf", "(I)I"⟩, "LensBench"), ("LensBench", 242, ⟨"LensBench$Trials", "nextLook", "()I"⟩, "LensBench"), ("LensBench$Trials", 130, ⟨"LensBench$Tally", "greatest", "()I"⟩, "LensBench"), ("LensBench", 245, ⟨"LensBench$Trials", "sureWeight", "(I)I"⟩, "LensBench"), ("LensBench", 251, ⟨"LensBench$Trials", "addSpot", "(II)I"⟩, "LensBench"), ("LensBench", 263, ⟨"LensBench$Brightness", "farOf", "(I)I"⟩, "LensBench"), ("LensBench", 266, ⟨"LensBench$Brightness", "contradictions", "()I"⟩, "LensBench"), ("LensBench$Brightness", 44, ⟨"LensBench$Tally", "start", "()V"⟩, "LensBench"), ("LensBench$Brightness", 56, ⟨"LensBench$Tally", "numberOf", "(I)I"⟩, "LensBench"), ("LensBench", 269, ⟨"LensBench$Brightness", "toldCount", "()I"⟩, "LensBench"), ("LensBench", 272, ⟨"LensBench$Lens", "weights", "()I"⟩, "LensBench")]
def zlenI (q : Nat) : Nat := if (zkd q).1 = 1 then (zkd q).2 else 0
def zlenB (q : Nat) : Nat := if (zkd q).1 = 2 then (zkd q).2 else 0
def zlenZ (q : Nat) : Nat := if (zkd q).1 = 3 then (zkd q).2 else 0
def zlenR (q : Nat) : Nat := if (zkd q).1 = 4 then (zkd q).2 else 0
def zfv (M : zMem) (q k : Nat) (d : Nat × Nat) : Value := if d.1 = 0 then .int (M.1 q k) else if d.1 = 1 then .long (M.2 q) else if d.1 = 2 then .ref d.2 else .ref (zcl (M.1 q k))
def zfsA (M : zMem) (q : Nat) : Nat → List (Nat × Nat) → List Value
  | _, [] => []
  | k, d :: l => zfv M q k d :: zfsA M q (k + 1) l
def zfs (M : zMem) (q : Nat) : List Value := zfsA M q 0 (zfl q)
theorem zfsA_congr {M M' : zMem} {q : Nat} (h : ∀ k d, zfv M' q k d = zfv M q k d) : ∀ (l : List (Nat × Nat)) (k : Nat), zfsA M' q k l = zfsA M q k l
  | [], _ => rfl
  | d :: l, k => by rw [zfsA, zfsA, h, zfsA_congr h l]
theorem zfsA_get (M : zMem) (q : Nat) : ∀ (l : List (Nat × Nat)) (k j : Nat), (zfsA M q k l)[j]? = (l[j]?).map (zfv M q (k + j))
  | [], _, _ => rfl
  | d :: l, k, 0 => rfl
  | d :: l, k, j + 1 => by
    rw [zfsA, List.getElem?_cons_succ, List.getElem?_cons_succ, zfsA_get M q l (k + 1) j, show k + 1 + j = k + (j + 1) by omega]
theorem zfsA_len (M : zMem) (q : Nat) : ∀ (l : List (Nat × Nat)) (k : Nat), (zfsA M q k l).length = l.length
  | [], _ => rfl
  | d :: l, k => by rw [zfsA, List.length_cons, List.length_cons, zfsA_len M q l]
def zcv (ad : Nat → Nat) (v : Value) : Value := match v with
  | .ref a => .ref (ad a)
  | w => w
def zcell (ad : Nat → Nat) (cy : Nat → ClassId) (M : zMem) (q : Nat) : va_E :=
  if (zkd q).1 = 1 then .inl (cy 0, (zkd q).2, .inl (M.1 q))
  else if (zkd q).1 = 2 then .inl (cy 1, (zkd q).2, .inl (M.1 q))
  else if (zkd q).1 = 3 then .inl (cy 2, (zkd q).2, .inl (M.1 q))
  else if (zkd q).1 = 4 then .inl (cy 3, (zkd q).2, .inr (.inr (.inr (.inr (fun i => if i < (zkd q).2 then some (ad (q + 1 + i)) else none)))))
  else .inr ((zkd q).2, (zfs M q).map (zcv ad))
def zws (ad : Nat → Nat) (cy : Nat → ClassId) (M : zMem) : va_W := (List.range 119).map (fun q => (ad q, zcell ad cy M q))
def ztys (cy : Nat → ClassId) : List (ClassId × FieldType) := [(cy 0, .int), (cy 1, .byte), (cy 2, .boolean), (cy 3, .array .int)]
theorem zKL_len : zKL.length = 119 := by decide +kernel
theorem zkd_lt {q : Nat} (h : (zkd q).1 ≠ 0) : q < 119 := by
  refine Classical.byContradiction fun hq => h ?_
  unfold zkd
  rw [List.getD_eq_getElem?_getD, List.getElem?_eq_none (by rw [zKL_len]; omega)]
  rfl
theorem zws_get {ad : Nat → Nat} {cy : Nat → ClassId} {M : zMem} {q : Nat} (hq : q < 119) : (zws ad cy M)[q]? = some (ad q, zcell ad cy M q) := by
  unfold zws
  rw [List.getElem?_map, List.getElem?_range hq]
  rfl
theorem zws_set {ad : Nat → Nat} {cy : Nat → ClassId} {M M' : zMem} {q : Nat} {e : va_E} (hq : q < 119) (h : ∀ c, c ≠ q → zcell ad cy M' c = zcell ad cy M c) (he : zcell ad cy M' q = e) : (zws ad cy M).set q (ad q, e) = zws ad cy M' := by
  apply List.ext_getElem?
  intro k
  by_cases hk : k = q
  · subst hk
    rw [List.getElem?_set_self (by unfold zws; simp; exact hq), zws_get hq, he]
  · rw [List.getElem?_set_ne (fun e => hk e.symm)]
    by_cases hl : k < 119
    · rw [zws_get hl, zws_get hl, h k hk]
    · rw [List.getElem?_eq_none (by unfold zws; simp; omega), List.getElem?_eq_none (by unfold zws; simp; omega)]
theorem zcell_congr {ad : Nat → Nat} {cy : Nat → ClassId} {M M' : zMem} {c : Nat} (h1 : M'.1 c = M.1 c) (h2 : M'.2 c = M.2 c) : zcell ad cy M' c = zcell ad cy M c := by
  have h : zfs M' c = zfs M c := zfsA_congr (fun k d => by unfold zfv; rw [h1, h2]) _ _
  unfold zcell
  rw [h1, h]
theorem zwr_ne {M : zMem} {q i c : Nat} {v : Int32} (h : c ≠ q) : (zwr M q i v).1 c = M.1 c := by
  funext j
  simp [zwr, h]
theorem zwr_row {M : zMem} {q i : Nat} {v : Int32} : (zwr M q i v).1 q = upd (M.1 q) i v := by
  funext j
  simp [zwr, upd]
theorem zcv_cat (ad : Nat → Nat) (v : Value) : (zcv ad v).category = v.category := by cases v <;> rfl
theorem zcv_sum (ad : Nat → Nat) (l : List Value) : ((l.map (zcv ad)).map fun v => v.category).sum = (l.map fun v => v.category).sum := by
  rw [List.map_map]
  congr 1
  exact List.map_congr_left fun v _ => zcv_cat ad v
theorem zcv_args (ad : Nat → Nat) : ∀ (l : List Value) (i : Nat), lv_args i (l.map (zcv ad)) = (lv_args i l).map (fun q => (q.1, zcv ad q.2))
  | [], _ => rfl
  | v :: l, i => by
    rw [List.map_cons, lv_args, lv_args, List.map_cons, zcv_cat, zcv_args ad l]
theorem zcv_sl (ad : Nat → Nat) : ∀ (l : List Value), (lg_sl (l.map (zcv ad))).length = (lg_sl l).length
  | [] => rfl
  | v :: l => by
    have ih := zcv_sl ad l
    unfold lg_sl at ih ⊢
    rw [List.map_cons, List.flatMap_cons, List.flatMap_cons, List.length_append, List.length_append, ih, zcv_cat]
    by_cases hc : v.category = 2
    · rw [if_pos hc, if_pos hc]; rfl
    · rw [if_neg hc, if_neg hc]; rfl
/-- the parts of the world: class table, addresses, array classes, the first own address -/
abbrev zY : Type := va_G × (Nat → Nat) × (Nat → ClassId) × Nat
abbrev yD (Y : zY) : va_G := Y.1
abbrev yA (Y : zY) : Nat → Nat := Y.2.1
abbrev yC (Y : zY) : Nat → ClassId := Y.2.2.1
abbrev yB (Y : zY) : Nat := Y.2.2.2
abbrev yF (Y : zY) : Nat → Prop := fun q => yB Y ≤ q
abbrev yW (Y : zY) (M : zMem) : va_W := zws (yA Y) (yC Y) M
/-- a walk's place: all that stays while a method runs -/
abbrev zX : Type := Program × Launch × Env × Room × State × MethodId × Array Value × List Frame × Method × Code × Nat × Nat
abbrev xP (X : zX) : Program := X.1
abbrev xL (X : zX) : Launch := X.2.1
abbrev xE (X : zX) : Env := X.2.2.1
abbrev xR (X : zX) : Room := X.2.2.2.1
abbrev xS (X : zX) : State := X.2.2.2.2.1
abbrev xM (X : zX) : MethodId := X.2.2.2.2.2.1
abbrev xA (X : zX) : Array Value := X.2.2.2.2.2.2.1
abbrev xB (X : zX) : List Frame := X.2.2.2.2.2.2.2.1
abbrev xH (X : zX) : Method := X.2.2.2.2.2.2.2.2.1
abbrev xC (X : zX) : Code := X.2.2.2.2.2.2.2.2.2.1
abbrev xK (X : zX) : Nat := X.2.2.2.2.2.2.2.2.2.2.1
abbrev xN (X : zX) : Nat := X.2.2.2.2.2.2.2.2.2.2.2
theorem zidx_bare (vm : Vm) (P : Kind → Bool) : (vm.bare.classes.findIdx? fun (x : Class) => P x.kind) = vm.classes.findIdx? fun (x : Class) => P x.kind := by
  simp only [Vm.bare, Array.findIdx?_map]
  rfl
theorem zidx_alike {u U : Vm} (hvm : u.Alike U) (P : Kind → Bool) : (U.classes.findIdx? fun (x : Class) => P x.kind) = u.classes.findIdx? fun (x : Class) => P x.kind := by
  rw [← zidx_bare U, ← zidx_bare u]
  first | rw [hvm.bare_eq] | rw [← hvm.bare_eq]
theorem va_AOA.moved {ty : FieldType} {u U : State} (hvm : u.vm.Alike U.vm) (h : va_AOA ty u) : va_AOA ty U := by
  have h0 := h
  unfold va_AOA Cond.before Cond.holds at h0
  simp only [Cond.value, beq_iff_eq] at h0
  cases hc : u.vm.findClass (FieldType.array ty).toString with
  | none => simp [hc] at h0
  | some comp =>
    simp only [hc, Option.bind_some, Option.bind_eq_some_iff, Option.map_eq_some_iff] at h0
    obtain ⟨c, hi, k, hk, hb⟩ := h0
    obtain ⟨k', hk', he⟩ := hvm.2.2 _ _ hk
    have hi' : (U.vm.classes.findIdx? fun (x : Class) => match x.kind with | .array component _ => component == comp | _ => false) = some c :=
      (zidx_alike hvm (fun kd => match kd with | .array component _ => component == comp | _ => false)).trans hi
    have f1 : U.vm.findClass (FieldType.array ty).toString = some comp := by rw [hvm.findClass]; exact hc
    have hkind : k'.kind = k.kind := by rw [he]
    unfold va_AOA Cond.before Cond.holds
    simp only [Cond.value]
    rw [f1, Option.bind_some]
    refine (congrArg (fun o : Option Nat => (o.bind (fun c => (U.vm.classes[c]?).map fun (k : Class) => match k.kind with | .array _ ty' => decide (ty' = FieldType.array ty) && decide (U.vm.findClass ("[" ++ (FieldType.array ty).toString) = some c) | _ => false) == some true)) hi').trans ?_
    simp only [hk', Option.bind_some, Option.map_some, hkind, hvm.findClass]
    exact (congrArg (fun b : Bool => (some b == some true)) hb).trans rfl
/-- the words among nest mates; the class of arrays over arrays of ints -/
def zNs (U : State) : Prop := (∀ q, q ∈ zNF → va_Nw (.fieldLinkNest q.1 q.2.1 q.2.2.1 q.2.2.2.1 q.2.2.2.2.1 q.2.2.2.2.2) U) ∧ (∀ q, q ∈ zNM → va_Nw (.methodLinkNest q.1 q.2.1 q.2.2.1 q.2.2.2) U) ∧ va_AOA .int U
/-- the two tables of the class, that nobody writes -/
def zSs (Y : zY) (U : State) (H : Heap) : Prop := va_Z "LensBench" "LEAST_OF" "[I" (.ref (yA Y 119)) (yF Y) U H ∧ va_Z "LensBench" "MOST_OF" "[I" (.ref (yA Y 120)) (yF Y) U H ∧ va_T .int (yA Y 119) 6 (fun j => .int (zLO j)) (yF Y) U H ∧ va_T .int (yA Y 120) 6 (fun j => .int (zMO j)) (yF Y) U H
theorem zNs.warm {s U : State} (hW : s.WarmedH U.vm) (h : zNs s) : zNs U := ⟨fun q hq => va_Nw.warmF hW (h.1 q hq), fun q hq => va_Nw.warmM hW (h.2.1 q hq), va_AOA.moved hW.alike h.2.2⟩
theorem zNs.same {u U : State} (hvm : u.vm = U.vm) (h : zNs u) : zNs U := ⟨fun q hq => va_Nw.same rfl hvm (h.1 q hq), fun q hq => va_Nw.same rfl hvm (h.2.1 q hq), va_AOA.moved (by rw [hvm]; exact Vm.Alike.refl _) h.2.2⟩
theorem zSs.moved {Y : zY} {u U : State} {H : Heap} (hvm : u.vm.Alike U.vm) (h : zSs Y u H) : zSs Y U H := ⟨h.1.moved hvm, h.2.1.moved hvm, h.2.2.1.moved hvm, h.2.2.2.moved hvm⟩
theorem zSs.kept {Y : zY} {U : State} {H H1 : Heap} (h : zSs Y U H) (hq : ∀ a : Nat, a < H.size → ¬ yF Y a → H1[a]? = H[a]?) : zSs Y U H1 := ⟨h.1.kept hq, h.2.1.kept hq, h.2.2.1.kept hq, h.2.2.2.kept hq⟩
/-- the world of a memory in a state -/
def zP (Y : zY) (M : zMem) (U : State) : Prop := yB Y ≤ U.heap.size ∧ va_P (yD Y) vwCl (yW Y M) U.heap ∧ va_K (yD Y) vwCl (ztys (yC Y)) U ∧ va_D (yF Y) (yW Y M) ∧ zNs U ∧ zSs Y U U.heap
def zTab : List Cond := lw_tbl.filter goodWord
def zrm (f k : Nat) : Room := { frames := f, cells := 0, slots := 0, locals := k }
def zQi (Y : zY) (r : Int32) (M : zMem) : Array Value → State → Outcome → State → Prop := va_Qi (fun (r' : Int32) (u : zMem) => r' = r ∧ u = M) (zP Y) (yF Y)
def zQl (Y : zY) (r : Int64) (M : zMem) : Array Value → State → Outcome → State → Prop := va_Ql (fun (r' : Int64) (u : zMem) => r' = r ∧ u = M) (zP Y) (yF Y)
def zQv (Y : zY) (M : zMem) : Array Value → State → Outcome → State → Prop := va_Qv (fun (u : zMem) => u = M) (zP Y) (yF Y)
/-- a method's contract: from the memory M with these arguments, what Q says -/
def zMt (Y : zY) (y : MethodName) (cc : ByteArray) (nL : Nat) (ret : Option FieldType) (f k : Nat) (as : List Value) (M : zMem) (Q : Array Value → State → Outcome → State → Prop) : Prop :=
  ∀ l : Launch, Met l y (Cond.code y cc nL ret :: zTab) (zrm f k) (va_Pc (as.map (zcv (yA Y))) (zP Y M)) Q 0 0 (yF Y)
/-- what holds while a method's body is walked -/
def zC (Y : zY) (X : zX) (own : String) (cc : ByteArray) (nL : Nat) (R : Room) (ret : Option FieldType) : Prop :=
  (xP X).tables.exec = Jvm.exec ∧ (xC X).code = cc ∧ (xC X).maxLocals = nL ∧ (xS X).vm.findClass own = some (xM X).cls ∧ (∀ w ∈ zTab, w.before (xA X) (xS X) = true) ∧ (xH X).locks = false ∧ (xH X).sig.returnType = ret ∧ xR X = R ∧ (xK X ≤ R.cells ∧ xN X ≤ R.slots) ∧ yB Y ≤ (xS X).heap.size ∧ va_K (yD Y) vwCl (ztys (yC Y)) (xS X) ∧ zNs (xS X) ∧ zSs Y (xS X) (xS X).heap
/-- from this place on the walk comes to Φ -/
def zG (Y : zY) (X : zX) (nL : Nat) (Φ : State → Prop) (pc : Nat) (lo : List (Nat × Value)) (st : List Value) (M : zMem) : Prop :=
  ∀ (H : Heap) (locs : List Loc) (ls : Array Slot), va_P (yD Y) vwCl (yW Y M) H → va_D (yF Y) (yW Y M) → va_S (yF Y) (xS X).heap H locs → lv_has ls nL (lo.map (fun q => (q.1, zcv (yA Y) q.2))) →
    W (xP X) (xL X) (xE X) (xR X) (xS X) (xM X) (xA X) (xB X) (xH X) (xC X) H locs (xK X) (xN X) Φ (F0 (xM X) pc ls (st.map (zcv (yA Y))))
/-- from this place on the machine does what F says, where F says something -/
def zR {ρ : Type} (Y : zY) (X : zX) (nL : Nat) (Φ : ρ → State → Prop) (F : Option ρ) (pc : Nat) (lo : List (Nat × Value)) (st : List Value) (M : zMem) : Prop :=
  ∀ a : ρ, F = some a → zG Y X nL (Φ a) pc lo st M
def zFi (Y : zY) (X : zX) {ρ : Type} (res : ρ → Int32) (mem : ρ → zMem) : ρ → State → Prop := fun a => MQ (xB X) (zQi Y (res a) (mem a)) (xA X) (xS X) (xK X) (xN X) (yF Y)
def zFl (Y : zY) (X : zX) {ρ : Type} (res : ρ → Int64) (mem : ρ → zMem) : ρ → State → Prop := fun a => MQ (xB X) (zQl Y (res a) (mem a)) (xA X) (xS X) (xK X) (xN X) (yF Y)
def zFv (Y : zY) (X : zX) {ρ : Type} (mem : ρ → zMem) : ρ → State → Prop := fun a => MQ (xB X) (zQv Y (mem a)) (xA X) (xS X) (xK X) (xN X) (yF Y)
theorem zg_none {ρ : Type} {b : Bool} {F : Option ρ} {a : ρ} (h : zguard b F = some a) : b = true ∧ F = some a := by
  unfold zguard at h
  by_cases hb : b = true
  · rw [if_pos hb] at h; exact ⟨hb, h⟩
  · rw [if_neg hb] at h; cases h
theorem zin_vp {i : Int32} {n : Nat} (h : zin i n = true) : vp_in i n := by
  simp only [zin, Bool.and_eq_true, Bool.not_eq_true', decide_eq_false_iff_not, decide_eq_true_eq] at h
  intro q
  rcases q with q | q
  · exact h.1 q
  · omega
theorem zin_lt {i : Int32} {n : Nat} (h : zin i n = true) : zcl i < n := by
  simp only [zin, Bool.and_eq_true, Bool.not_eq_true', decide_eq_false_iff_not, decide_eq_true_eq] at h
  exact h.2
section ZR
variable {ρ : Type} {Y : zY} {X : zX} {own : String} {cc : ByteArray} {nL : Nat} {R : Room} {ret : Option FieldType} {Φ : ρ → State → Prop} {F F1 F2 : Option ρ} {pc n : Nat} {lo lo' : List (Nat × Value)} {st : List Value} {M : zMem}
theorem zl_at {ls : Array Slot} {ad : Nat → Nat} (h : lv_has ls nL (lo.map (fun q => (q.1, zcv ad q.2)))) (k : Nat) {i : Nat} {v : Value} (hk : lo[k]? = some (i, v)) : ls[i]? = some (.val (zcv ad v)) :=
  lv_at h k (by rw [List.getElem?_map, hk]; rfl)
theorem zl_set1 (ad : Nat → Nat) (i : Nat) (v : Value) (lo : List (Nat × Value)) : (i, zcv ad v) :: (lo.map (fun q => (q.1, zcv ad q.2))).filter (fun q => !(q.1 == i) && !(q.1 + 1 == i && q.2.category == 2)) = ((i, v) :: lo.filter (fun q => !(q.1 == i) && !(q.1 + 1 == i && q.2.category == 2))).map (fun q => (q.1, zcv ad q.2)) := by
  rw [List.map_cons, List.filter_map]
  congr 2
  apply List.filter_congr
  intro q _
  simp only [Function.comp, zcv_cat]
theorem zl_set2 (ad : Nat → Nat) (i : Nat) (v : Value) (lo : List (Nat × Value)) : (i, zcv ad v) :: (lo.map (fun q => (q.1, zcv ad q.2))).filter (fun q => !(q.1 == i) && (!(q.1 == i + 1) && !(q.1 + 1 == i && q.2.category == 2))) = ((i, v) :: lo.filter (fun q => !(q.1 == i) && (!(q.1 == i + 1) && !(q.1 + 1 == i && q.2.category == 2)))).map (fun q => (q.1, zcv ad q.2)) := by
  rw [List.map_cons, List.filter_map]
  congr 2
  apply List.filter_congr
  intro q _
  simp only [Function.comp, zcv_cat]
theorem zl_sub {ls : Array Slot} {ad : Nat → Nat} (h : lv_has ls nL (lo.map (fun q => (q.1, zcv ad q.2)))) (ks : List Nat) (hl : lv_pick lo ks = lo') : lv_has ls nL (lo'.map (fun q => (q.1, zcv ad q.2))) := by
  refine lv_sub h ks ?_
  subst hl
  unfold lv_pick
  have e : (fun k : Nat => (lo.map (fun q => (q.1, zcv ad q.2)))[k]?) = fun k : Nat => (lo[k]?).map (fun q => (q.1, zcv ad q.2)) := funext fun k => List.getElem?_map
  rw [e, List.map_filterMap]
theorem z_perm (ks : List Nat) (hl : lv_pick lo ks = lo') (k : zR Y X nL Φ F pc lo' st M) : zR Y X nL Φ F pc lo st M := fun a hF H locs ls hP hD hS h => k a hF H locs ls hP hD hS (zl_sub h ks hl)
theorem z_none : zR Y X nL Φ (none : Option ρ) pc lo st M := fun a h => by cases h
theorem z_guard {b : Bool} (k : b = true → zR Y X nL Φ F pc lo st M) : zR Y X nL Φ (zguard b F) pc lo st M := fun a h => k (zg_none h).1 a (zg_none h).2
theorem z_ite {c : Prop} [Decidable c] (k1 : c → zR Y X nL Φ F1 pc lo st M) (k2 : ¬ c → zR Y X nL Φ F2 pc lo st M) : zR Y X nL Φ (if c then F1 else F2) pc lo st M := by
  by_cases h : c
  · rw [if_pos h]; exact k1 h
  · rw [if_neg h]; exact k2 h
theorem z_join {α : Type} {J : α} {f : α → Option ρ} (Q : α → Prop) (hJ : Q J) (k : ∀ j, Q j → zR Y X nL Φ (f j) pc lo st M) : zR Y X nL Φ (zj J f) pc lo st M := k J hJ
theorem z_loop {σ : Type} {f : (σ → Option ρ) → σ → Option ρ} {sM : σ → zMem} {sl : σ → List (Nat × Value)} {s0 : σ} {N : Nat} (ks : List Nat) (hM : sM s0 = M) (hl : lv_pick lo ks = sl s0) (k : ∀ rec : σ → Option ρ, (∀ s, zR Y X nL Φ (rec s) pc (sl s) st (sM s)) → ∀ s, zR Y X nL Φ (f rec s) pc (sl s) st (sM s)) : zR Y X nL Φ (zloop f N s0) pc lo st M := by
  have key : ∀ N s, zR Y X nL Φ (zloop f N s) pc (sl s) st (sM s) := by
    intro N
    induction N with
    | zero => exact fun s => z_none
    | succ N ih => exact fun s => k _ ih s
  subst hM
  exact z_perm ks hl (key N s0)
theorem z_iconst (C : zC Y X own cc nL R ret) {k : Int} (v : Int32) (d : decode cc pc = .ok (.iconst k, 1)) (hv : Int32.ofInt k = v) (hn : pc + 1 = n) (kk : zR Y X nL Φ F n lo (.int v :: st) M) : zR Y X nL Φ F pc lo st M := by
  subst hn; intro a hF H locs ls hP hD hS hl
  exact lv_iconst C.1 C.2.1 d hv (kk a hF H locs ls hP hD hS hl)
theorem z_bipush (C : zC Y X own cc nL R ret) {k : Int} (v : Int32) (d : decode cc pc = .ok (.bipush k, 2)) (hv : (Int8.ofInt k).toInt32 = v) (hn : pc + 2 = n) (kk : zR Y X nL Φ F n lo (.int v :: st) M) : zR Y X nL Φ F pc lo st M := by
  subst hn; intro a hF H locs ls hP hD hS hl
  exact lv_bipush C.1 C.2.1 d hv (kk a hF H locs ls hP hD hS hl)
theorem z_sipush (C : zC Y X own cc nL R ret) {k : Int} (v : Int32) (d : decode cc pc = .ok (.sipush k, 3)) (hv : (Int16.ofInt k).toInt32 = v) (hn : pc + 3 = n) (kk : zR Y X nL Φ F n lo (.int v :: st) M) : zR Y X nL Φ F pc lo st M := by
  subst hn; intro a hF H locs ls hP hD hS hl
  exact lv_sipush C.1 C.2.1 d hv (kk a hF H locs ls hP hD hS hl)
theorem z_lconst (C : zC Y X own cc nL R ret) {k : Fin 2} (v : Int64) (d : decode cc pc = .ok (.lconst k, 1)) (hv : Int64.ofNat (k : Nat) = v) (hn : pc + 1 = n) (kk : zR Y X nL Φ F n lo (.long v :: st) M) : zR Y X nL Φ F pc lo st M := by
  subst hn; intro a hF H locs ls hP hD hS hl
  exact lv_lconst C.1 C.2.1 d hv (kk a hF H locs ls hP hD hS hl)
theorem z_ldc (C : zC Y X own cc nL R ret) {ix : Nat} {v : Int32} (hw : Cond.constant own ix v ∈ zTab) (d : decode cc pc = .ok (.ldc ix, 2)) (hn : pc + 2 = n) (kk : zR Y X nL Φ F n lo (.int v :: st) M) : zR Y X nL Φ F pc lo st M := by
  subst hn; intro a hF H locs ls hP hD hS hl
  exact lv_ldc C.1 C.2.1 C.2.2.2.1 (C.2.2.2.2.1 _ hw) d (kk a hF H locs ls hP hD hS hl)
theorem z_ldc2 (C : zC Y X own cc nL R ret) {ix : Nat} {v : Int64} (hw : Cond.constantLong own ix v ∈ zTab) (d : decode cc pc = .ok (.ldc2_w ix, 3)) (hn : pc + 3 = n) (kk : zR Y X nL Φ F n lo (.long v :: st) M) : zR Y X nL Φ F pc lo st M := by
  subst hn; intro a hF H locs ls hP hD hS hl
  exact lv_ldc2 C.1 C.2.1 C.2.2.2.1 (C.2.2.2.2.1 _ hw) d (kk a hF H locs ls hP hD hS hl)
theorem z_iload_n (C : zC Y X own cc nL R ret) {k : Fin 4} {i : Nat} {x : Int32} (pl : Nat) (d : decode cc pc = .ok (.iload_n k, 1)) (hi : (k : Nat) = i) (hk : lo[pl]? = some (i, .int x)) (hn : pc + 1 = n) (kk : zR Y X nL Φ F n lo (.int x :: st) M) : zR Y X nL Φ F pc lo st M := by
  subst hn; intro a hF H locs ls hP hD hS hl
  exact lv_iload_n C.1 C.2.1 d hi (zl_at hl pl hk) (kk a hF H locs ls hP hD hS hl)
theorem z_iload (C : zC Y X own cc nL R ret) {i : Nat} {x : Int32} (pl : Nat) (d : decode cc pc = .ok (.iload i, 2)) (hk : lo[pl]? = some (i, .int x)) (hn : pc + 2 = n) (kk : zR Y X nL Φ F n lo (.int x :: st) M) : zR Y X nL Φ F pc lo st M := by
  subst hn; intro a hF H locs ls hP hD hS hl
  exact lv_iload C.1 C.2.1 d (zl_at hl pl hk) (kk a hF H locs ls hP hD hS hl)
theorem z_lload_n (C : zC Y X own cc nL R ret) {k : Fin 4} {i : Nat} {x : Int64} (pl : Nat) (d : decode cc pc = .ok (.lload_n k, 1)) (hi : (k : Nat) = i) (hk : lo[pl]? = some (i, .long x)) (hn : pc + 1 = n) (kk : zR Y X nL Φ F n lo (.long x :: st) M) : zR Y X nL Φ F pc lo st M := by
  subst hn; intro a hF H locs ls hP hD hS hl
  exact lv_lload_n C.1 C.2.1 d hi (zl_at hl pl hk) (kk a hF H locs ls hP hD hS hl)
theorem z_lload (C : zC Y X own cc nL R ret) {i : Nat} {x : Int64} (pl : Nat) (d : decode cc pc = .ok (.lload i, 2)) (hk : lo[pl]? = some (i, .long x)) (hn : pc + 2 = n) (kk : zR Y X nL Φ F n lo (.long x :: st) M) : zR Y X nL Φ F pc lo st M := by
  subst hn; intro a hF H locs ls hP hD hS hl
  exact lv_lload C.1 C.2.1 d (zl_at hl pl hk) (kk a hF H locs ls hP hD hS hl)
theorem z_aload_n (C : zC Y X own cc nL R ret) {k : Fin 4} {i q : Nat} (pl : Nat) (d : decode cc pc = .ok (.aload_n k, 1)) (hi : (k : Nat) = i) (hk : lo[pl]? = some (i, .ref q)) (hn : pc + 1 = n) (kk : zR Y X nL Φ F n lo (.ref q :: st) M) : zR Y X nL Φ F pc lo st M := by
  subst hn; intro a hF H locs ls hP hD hS hl
  exact lv_aload_n C.1 C.2.1 d hi (zl_at hl pl hk) (kk a hF H locs ls hP hD hS hl)
theorem z_aload (C : zC Y X own cc nL R ret) {i q : Nat} (pl : Nat) (d : decode cc pc = .ok (.aload i, 2)) (hk : lo[pl]? = some (i, .ref q)) (hn : pc + 2 = n) (kk : zR Y X nL Φ F n lo (.ref q :: st) M) : zR Y X nL Φ F pc lo st M := by
  subst hn; intro a hF H locs ls hP hD hS hl
  exact lv_aload C.1 C.2.1 d (zl_at hl pl hk) (kk a hF H locs ls hP hD hS hl)
theorem z_istore_n (C : zC Y X own cc nL R ret) {k : Fin 4} {i : Nat} {x : Int32} {f : Int32 → Option ρ} (lo' : Int32 → List (Nat × Value)) (d : decode cc pc = .ok (.istore_n k, 1)) (hi : (k : Nat) = i) (hin : i < nL) (hl' : ∀ z : Int32, (i, Value.int z) :: lo.filter (fun q => !(q.1 == i) && !(q.1 + 1 == i && q.2.category == 2)) = lo' z) (hn : pc + 1 = n) (kk : ∀ z : Int32, zR Y X nL Φ (f z) n (lo' z) st M) : zR Y X nL Φ (zlet x f) pc lo (.int x :: st) M := by
  subst hn; intro a hF H locs ls hP hD hS hl
  exact lv_istore_n C.1 C.2.1 d hi hl hin ((zl_set1 _ i (.int x) lo).trans (by rw [hl' x])) (fun ls' hl2 => kk x a hF H locs ls' hP hD hS hl2)
theorem z_istore (C : zC Y X own cc nL R ret) {i : Nat} {x : Int32} {f : Int32 → Option ρ} (lo' : Int32 → List (Nat × Value)) (d : decode cc pc = .ok (.istore i, 2)) (hin : i < nL) (hl' : ∀ z : Int32, (i, Value.int z) :: lo.filter (fun q => !(q.1 == i) && !(q.1 + 1 == i && q.2.category == 2)) = lo' z) (hn : pc + 2 = n) (kk : ∀ z : Int32, zR Y X nL Φ (f z) n (lo' z) st M) : zR Y X nL Φ (zlet x f) pc lo (.int x :: st) M := by
  subst hn; intro a hF H locs ls hP hD hS hl
  exact lv_istore C.1 C.2.1 d hl hin ((zl_set1 _ i (.int x) lo).trans (by rw [hl' x])) (fun ls' hl2 => kk x a hF H locs ls' hP hD hS hl2)
theorem z_istoreP_n (C : zC Y X own cc nL R ret) {k : Fin 4} {i : Nat} {x : Int32} (d : decode cc pc = .ok (.istore_n k, 1)) (hi : (k : Nat) = i) (hin : i < nL) (hl' : (i, Value.int x) :: lo.filter (fun q => !(q.1 == i) && !(q.1 + 1 == i && q.2.category == 2)) = lo') (hn : pc + 1 = n) (kk : zR Y X nL Φ F n lo' st M) : zR Y X nL Φ F pc lo (.int x :: st) M := by
  subst hn; intro a hF H locs ls hP hD hS hl
  exact lv_istore_n C.1 C.2.1 d hi hl hin ((zl_set1 _ i (.int x) lo).trans (by rw [hl'])) (fun ls' hl2 => kk a hF H locs ls' hP hD hS hl2)
theorem z_istoreP (C : zC Y X own cc nL R ret) {i : Nat} {x : Int32} (d : decode cc pc = .ok (.istore i, 2)) (hin : i < nL) (hl' : (i, Value.int x) :: lo.filter (fun q => !(q.1 == i) && !(q.1 + 1 == i && q.2.category == 2)) = lo') (hn : pc + 2 = n) (kk : zR Y X nL Φ F n lo' st M) : zR Y X nL Φ F pc lo (.int x :: st) M := by
  subst hn; intro a hF H locs ls hP hD hS hl
  exact lv_istore C.1 C.2.1 d hl hin ((zl_set1 _ i (.int x) lo).trans (by rw [hl'])) (fun ls' hl2 => kk a hF H locs ls' hP hD hS hl2)
theorem z_iinc (C : zC Y X own cc nL R ret) {i : Nat} {k : Int} {x v : Int32} {f : Int32 → Option ρ} (pl : Nat) (lo' : Int32 → List (Nat × Value)) (d : decode cc pc = .ok (.iinc i k, 3)) (hk : lo[pl]? = some (i, .int x)) (hv : x + Int32.ofInt k = v) (hin : i < nL) (hl' : ∀ z : Int32, (i, Value.int z) :: lo.filter (fun q => !(q.1 == i) && !(q.1 + 1 == i && q.2.category == 2)) = lo' z) (hn : pc + 3 = n) (kk : ∀ z : Int32, zR Y X nL Φ (f z) n (lo' z) st M) : zR Y X nL Φ (zlet v f) pc lo st M := by
  subst hn; intro a hF H locs ls hP hD hS hl
  exact lv_iinc C.1 C.2.1 d hl (k := pl) (by rw [List.getElem?_map, hk]; rfl) hv hin ((zl_set1 _ i (.int v) lo).trans (by rw [hl' v])) (fun ls' hl2 => kk v a hF H locs ls' hP hD hS hl2)
theorem z_lstore (C : zC Y X own cc nL R ret) {i : Nat} {x : Int64} {f : Int64 → Option ρ} (lo' : Int64 → List (Nat × Value)) (d : decode cc pc = .ok (.lstore i, 2)) (hin : i + 1 < nL) (hl' : ∀ z : Int64, (i, Value.long z) :: lo.filter (fun q => !(q.1 == i) && (!(q.1 == i + 1) && !(q.1 + 1 == i && q.2.category == 2))) = lo' z) (hn : pc + 2 = n) (kk : ∀ z : Int64, zR Y X nL Φ (f z) n (lo' z) st M) : zR Y X nL Φ (zlet x f) pc lo (.long x :: st) M := by
  subst hn; intro a hF H locs ls hP hD hS hl
  exact lv_lstore C.1 C.2.1 d hl hin ((zl_set2 _ i (.long x) lo).trans (by rw [hl' x])) (fun ls' hl2 => kk x a hF H locs ls' hP hD hS hl2)
theorem z_lstore_n (C : zC Y X own cc nL R ret) {k : Fin 4} {i : Nat} {x : Int64} {f : Int64 → Option ρ} (lo' : Int64 → List (Nat × Value)) (d : decode cc pc = .ok (.lstore_n k, 1)) (hi : (k : Nat) = i) (hin : i + 1 < nL) (hl' : ∀ z : Int64, (i, Value.long z) :: lo.filter (fun q => !(q.1 == i) && (!(q.1 == i + 1) && !(q.1 + 1 == i && q.2.category == 2))) = lo' z) (hn : pc + 1 = n) (kk : ∀ z : Int64, zR Y X nL Φ (f z) n (lo' z) st M) : zR Y X nL Φ (zlet x f) pc lo (.long x :: st) M := by
  subst hn; intro a hF H locs ls hP hD hS hl
  exact lv_lstore_n C.1 C.2.1 d hi hl hin ((zl_set2 _ i (.long x) lo).trans (by rw [hl' x])) (fun ls' hl2 => kk x a hF H locs ls' hP hD hS hl2)
theorem z_astore (C : zC Y X own cc nL R ret) {i q : Nat} (d : decode cc pc = .ok (.astore i, 2)) (hin : i < nL) (hl' : (i, Value.ref q) :: lo.filter (fun q => !(q.1 == i) && !(q.1 + 1 == i && q.2.category == 2)) = lo') (hn : pc + 2 = n) (kk : zR Y X nL Φ F n lo' st M) : zR Y X nL Φ F pc lo (.ref q :: st) M := by
  subst hn; intro a hF H locs ls hP hD hS hl
  exact lv_astore C.1 C.2.1 d hl hin ((zl_set1 _ i (.ref q) lo).trans (by rw [hl'])) (fun ls' hl2 => kk a hF H locs ls' hP hD hS hl2)
theorem z_astore_n (C : zC Y X own cc nL R ret) {k : Fin 4} {i q : Nat} (d : decode cc pc = .ok (.astore_n k, 1)) (hi : (k : Nat) = i) (hin : i < nL) (hl' : (i, Value.ref q) :: lo.filter (fun q => !(q.1 == i) && !(q.1 + 1 == i && q.2.category == 2)) = lo') (hn : pc + 1 = n) (kk : zR Y X nL Φ F n lo' st M) : zR Y X nL Φ F pc lo (.ref q :: st) M := by
  subst hn; intro a hF H locs ls hP hD hS hl
  exact lv_astore_n C.1 C.2.1 d hi hl hin ((zl_set1 _ i (.ref q) lo).trans (by rw [hl'])) (fun ls' hl2 => kk a hF H locs ls' hP hD hS hl2)
theorem z_iadd (C : zC Y X own cc nL R ret) {x y : Int32} (d : decode cc pc = .ok (.iadd, 1)) (hn : pc + 1 = n) (kk : zR Y X nL Φ F n lo (.int (x + y) :: st) M) : zR Y X nL Φ F pc lo (.int y :: .int x :: st) M := by
  subst hn; intro a hF H locs ls hP hD hS hl
  exact lv_iadd C.1 C.2.1 d (kk a hF H locs ls hP hD hS hl)
theorem z_isub (C : zC Y X own cc nL R ret) {x y : Int32} (d : decode cc pc = .ok (.isub, 1)) (hn : pc + 1 = n) (kk : zR Y X nL Φ F n lo (.int (x - y) :: st) M) : zR Y X nL Φ F pc lo (.int y :: .int x :: st) M := by
  subst hn; intro a hF H locs ls hP hD hS hl
  exact lv_isub C.1 C.2.1 d (kk a hF H locs ls hP hD hS hl)
theorem z_imul (C : zC Y X own cc nL R ret) {x y : Int32} (d : decode cc pc = .ok (.imul, 1)) (hn : pc + 1 = n) (kk : zR Y X nL Φ F n lo (.int (x * y) :: st) M) : zR Y X nL Φ F pc lo (.int y :: .int x :: st) M := by
  subst hn; intro a hF H locs ls hP hD hS hl
  exact lv_imul C.1 C.2.1 d (kk a hF H locs ls hP hD hS hl)
theorem z_iand (C : zC Y X own cc nL R ret) {x y : Int32} (d : decode cc pc = .ok (.iand, 1)) (hn : pc + 1 = n) (kk : zR Y X nL Φ F n lo (.int (x &&& y) :: st) M) : zR Y X nL Φ F pc lo (.int y :: .int x :: st) M := by
  subst hn; intro a hF H locs ls hP hD hS hl
  exact lv_iand C.1 C.2.1 d (kk a hF H locs ls hP hD hS hl)
theorem z_ior (C : zC Y X own cc nL R ret) {x y : Int32} (d : decode cc pc = .ok (.ior, 1)) (hn : pc + 1 = n) (kk : zR Y X nL Φ F n lo (.int (x ||| y) :: st) M) : zR Y X nL Φ F pc lo (.int y :: .int x :: st) M := by
  subst hn; intro a hF H locs ls hP hD hS hl
  exact lv_ior C.1 C.2.1 d (kk a hF H locs ls hP hD hS hl)
theorem z_ixor (C : zC Y X own cc nL R ret) {x y : Int32} (d : decode cc pc = .ok (.ixor, 1)) (hn : pc + 1 = n) (kk : zR Y X nL Φ F n lo (.int (x ^^^ y) :: st) M) : zR Y X nL Φ F pc lo (.int y :: .int x :: st) M := by
  subst hn; intro a hF H locs ls hP hD hS hl
  exact lv_ixor C.1 C.2.1 d (kk a hF H locs ls hP hD hS hl)
theorem z_ishl (C : zC Y X own cc nL R ret) {x y : Int32} (d : decode cc pc = .ok (.ishl, 1)) (hn : pc + 1 = n) (kk : zR Y X nL Φ F n lo (.int (x <<< (y &&& 31)) :: st) M) : zR Y X nL Φ F pc lo (.int y :: .int x :: st) M := by
  subst hn; intro a hF H locs ls hP hD hS hl
  exact lv_ishl C.1 C.2.1 d (kk a hF H locs ls hP hD hS hl)
theorem z_ishr (C : zC Y X own cc nL R ret) {x y : Int32} (d : decode cc pc = .ok (.ishr, 1)) (hn : pc + 1 = n) (kk : zR Y X nL Φ F n lo (.int (x >>> (y &&& 31)) :: st) M) : zR Y X nL Φ F pc lo (.int y :: .int x :: st) M := by
  subst hn; intro a hF H locs ls hP hD hS hl
  exact lv_ishr C.1 C.2.1 d (kk a hF H locs ls hP hD hS hl)
theorem z_ladd (C : zC Y X own cc nL R ret) {x y : Int64} (d : decode cc pc = .ok (.ladd, 1)) (hn : pc + 1 = n) (kk : zR Y X nL Φ F n lo (.long (x + y) :: st) M) : zR Y X nL Φ F pc lo (.long y :: .long x :: st) M := by
  subst hn; intro a hF H locs ls hP hD hS hl
  exact lv_ladd C.1 C.2.1 d (kk a hF H locs ls hP hD hS hl)
theorem z_lsub (C : zC Y X own cc nL R ret) {x y : Int64} (d : decode cc pc = .ok (.lsub, 1)) (hn : pc + 1 = n) (kk : zR Y X nL Φ F n lo (.long (x - y) :: st) M) : zR Y X nL Φ F pc lo (.long y :: .long x :: st) M := by
  subst hn; intro a hF H locs ls hP hD hS hl
  exact lv_lsub C.1 C.2.1 d (kk a hF H locs ls hP hD hS hl)
theorem z_lmul (C : zC Y X own cc nL R ret) {x y : Int64} (d : decode cc pc = .ok (.lmul, 1)) (hn : pc + 1 = n) (kk : zR Y X nL Φ F n lo (.long (x * y) :: st) M) : zR Y X nL Φ F pc lo (.long y :: .long x :: st) M := by
  subst hn; intro a hF H locs ls hP hD hS hl
  exact lv_lmul C.1 C.2.1 d (kk a hF H locs ls hP hD hS hl)
theorem z_land (C : zC Y X own cc nL R ret) {x y : Int64} (d : decode cc pc = .ok (.land, 1)) (hn : pc + 1 = n) (kk : zR Y X nL Φ F n lo (.long (x &&& y) :: st) M) : zR Y X nL Φ F pc lo (.long y :: .long x :: st) M := by
  subst hn; intro a hF H locs ls hP hD hS hl
  exact lv_land C.1 C.2.1 d (kk a hF H locs ls hP hD hS hl)
theorem z_lor (C : zC Y X own cc nL R ret) {x y : Int64} (d : decode cc pc = .ok (.lor, 1)) (hn : pc + 1 = n) (kk : zR Y X nL Φ F n lo (.long (x ||| y) :: st) M) : zR Y X nL Φ F pc lo (.long y :: .long x :: st) M := by
  subst hn; intro a hF H locs ls hP hD hS hl
  exact lv_lor C.1 C.2.1 d (kk a hF H locs ls hP hD hS hl)
theorem z_lxor (C : zC Y X own cc nL R ret) {x y : Int64} (d : decode cc pc = .ok (.lxor, 1)) (hn : pc + 1 = n) (kk : zR Y X nL Φ F n lo (.long (x ^^^ y) :: st) M) : zR Y X nL Φ F pc lo (.long y :: .long x :: st) M := by
  subst hn; intro a hF H locs ls hP hD hS hl
  exact lv_lxor C.1 C.2.1 d (kk a hF H locs ls hP hD hS hl)
theorem z_idiv (C : zC Y X own cc nL R ret) {x y : Int32} (d : decode cc pc = .ok (.idiv, 1)) (hn : pc + 1 = n) (kk : zR Y X nL Φ F n lo (.int (x / y) :: st) M) : zR Y X nL Φ (if y = 0 then none else F) pc lo (.int y :: .int x :: st) M := by
  subst hn
  refine z_ite (fun _ => z_none) (fun hne => ?_)
  intro a hF H locs ls hP hD hS hl
  exact lv_idiv C.1 C.2.1 d hne (kk a hF H locs ls hP hD hS hl)
theorem z_irem (C : zC Y X own cc nL R ret) {x y : Int32} (d : decode cc pc = .ok (.irem, 1)) (hn : pc + 1 = n) (kk : zR Y X nL Φ F n lo (.int (zrem x y) :: st) M) : zR Y X nL Φ (if y = 0 then none else F) pc lo (.int y :: .int x :: st) M := by
  subst hn
  refine z_ite (fun _ => z_none) (fun hne => ?_)
  intro a hF H locs ls hP hD hS hl
  exact lv_irem C.1 C.2.1 d hne (kk a hF H locs ls hP hD hS hl)
theorem z_idivK (C : zC Y X own cc nL R ret) {x y : Int32} (d : decode cc pc = .ok (.idiv, 1)) (hne : ¬ y = 0) (hn : pc + 1 = n) (kk : zR Y X nL Φ F n lo (.int (x / y) :: st) M) : zR Y X nL Φ F pc lo (.int y :: .int x :: st) M := by
  subst hn
  intro a hF H locs ls hP hD hS hl
  exact lv_idiv C.1 C.2.1 d hne (kk a hF H locs ls hP hD hS hl)
theorem z_iremK (C : zC Y X own cc nL R ret) {x y : Int32} (d : decode cc pc = .ok (.irem, 1)) (hne : ¬ y = 0) (hn : pc + 1 = n) (kk : zR Y X nL Φ F n lo (.int (zrem x y) :: st) M) : zR Y X nL Φ F pc lo (.int y :: .int x :: st) M := by
  subst hn
  intro a hF H locs ls hP hD hS hl
  exact lv_irem C.1 C.2.1 d hne (kk a hF H locs ls hP hD hS hl)
theorem z_ldiv (C : zC Y X own cc nL R ret) {x y : Int64} (d : decode cc pc = .ok (.ldiv, 1)) (hn : pc + 1 = n) (kk : zR Y X nL Φ F n lo (.long (x / y) :: st) M) : zR Y X nL Φ (if y = 0 then none else F) pc lo (.long y :: .long x :: st) M := by
  subst hn
  refine z_ite (fun _ => z_none) (fun hne => ?_)
  intro a hF H locs ls hP hD hS hl
  exact lv_ldiv C.1 C.2.1 d hne (kk a hF H locs ls hP hD hS hl)
theorem z_lrem (C : zC Y X own cc nL R ret) {x y : Int64} (d : decode cc pc = .ok (.lrem, 1)) (hn : pc + 1 = n) (kk : zR Y X nL Φ F n lo (.long (zreml x y) :: st) M) : zR Y X nL Φ (if y = 0 then none else F) pc lo (.long y :: .long x :: st) M := by
  subst hn
  refine z_ite (fun _ => z_none) (fun hne => ?_)
  intro a hF H locs ls hP hD hS hl
  exact lv_lrem C.1 C.2.1 d hne (kk a hF H locs ls hP hD hS hl)
theorem z_ineg (C : zC Y X own cc nL R ret) {x : Int32} (d : decode cc pc = .ok (.ineg, 1)) (hn : pc + 1 = n) (kk : zR Y X nL Φ F n lo (.int (-x) :: st) M) : zR Y X nL Φ F pc lo (.int x :: st) M := by
  subst hn; intro a hF H locs ls hP hD hS hl
  exact lv_ineg C.1 C.2.1 d (kk a hF H locs ls hP hD hS hl)
theorem z_iushr (C : zC Y X own cc nL R ret) {x y : Int32} (d : decode cc pc = .ok (.iushr, 1)) (hn : pc + 1 = n) (kk : zR Y X nL Φ F n lo (.int (zushr x y) :: st) M) : zR Y X nL Φ F pc lo (.int y :: .int x :: st) M := by
  subst hn; intro a hF H locs ls hP hD hS hl
  exact lv_iushr C.1 C.2.1 d rfl (kk a hF H locs ls hP hD hS hl)
theorem z_lushr (C : zC Y X own cc nL R ret) {x : Int64} {y : Int32} (d : decode cc pc = .ok (.lushr, 1)) (hn : pc + 1 = n) (kk : zR Y X nL Φ F n lo (.long (zlushr x y) :: st) M) : zR Y X nL Φ F pc lo (.int y :: .long x :: st) M := by
  subst hn; intro a hF H locs ls hP hD hS hl
  exact lv_lushr C.1 C.2.1 d rfl (kk a hF H locs ls hP hD hS hl)
theorem z_lshr (C : zC Y X own cc nL R ret) {x : Int64} {y : Int32} (d : decode cc pc = .ok (.lshr, 1)) (hn : pc + 1 = n) (kk : zR Y X nL Φ F n lo (.long (x >>> (y.toInt64 &&& 63)) :: st) M) : zR Y X nL Φ F pc lo (.int y :: .long x :: st) M := by
  subst hn; intro a hF H locs ls hP hD hS hl
  exact lv_lshr C.1 C.2.1 d rfl (kk a hF H locs ls hP hD hS hl)
theorem z_lshl (C : zC Y X own cc nL R ret) {x : Int64} {y : Int32} (d : decode cc pc = .ok (.lshl, 1)) (hn : pc + 1 = n) (kk : zR Y X nL Φ F n lo (.long (x <<< (y.toInt64 &&& 63)) :: st) M) : zR Y X nL Φ F pc lo (.int y :: .long x :: st) M := by
  subst hn; intro a hF H locs ls hP hD hS hl
  exact lv_lshl C.1 C.2.1 d rfl (kk a hF H locs ls hP hD hS hl)
theorem z_i2l (C : zC Y X own cc nL R ret) {x : Int32} (d : decode cc pc = .ok (.i2l, 1)) (hn : pc + 1 = n) (kk : zR Y X nL Φ F n lo (.long x.toInt64 :: st) M) : zR Y X nL Φ F pc lo (.int x :: st) M := by
  subst hn; intro a hF H locs ls hP hD hS hl
  exact lv_i2l C.1 C.2.1 d rfl (kk a hF H locs ls hP hD hS hl)
theorem z_l2i (C : zC Y X own cc nL R ret) {x : Int64} (d : decode cc pc = .ok (.l2i, 1)) (hn : pc + 1 = n) (kk : zR Y X nL Φ F n lo (.int x.toInt32 :: st) M) : zR Y X nL Φ F pc lo (.long x :: st) M := by
  subst hn; intro a hF H locs ls hP hD hS hl
  exact lv_l2i C.1 C.2.1 d rfl (kk a hF H locs ls hP hD hS hl)
theorem z_i2b (C : zC Y X own cc nL R ret) {x : Int32} (d : decode cc pc = .ok (.i2b, 1)) (hn : pc + 1 = n) (kk : zR Y X nL Φ F n lo (.int x.toInt8.toInt32 :: st) M) : zR Y X nL Φ F pc lo (.int x :: st) M := by
  subst hn; intro a hF H locs ls hP hD hS hl
  exact lv_i2b C.1 C.2.1 d rfl (kk a hF H locs ls hP hD hS hl)
theorem z_lcmp (C : zC Y X own cc nL R ret) {x y : Int64} (d : decode cc pc = .ok (.lcmp, 1)) (hn : pc + 1 = n) (kk : zR Y X nL Φ F n lo (.int (lg_cmp x y) :: st) M) : zR Y X nL Φ F pc lo (.long y :: .long x :: st) M := by
  subst hn; intro a hF H locs ls hP hD hS hl
  exact W.lcmp C.1 C.2.1 d (kk a hF H locs ls hP hD hS hl)
theorem z_dup (C : zC Y X own cc nL R ret) {v : Value} (d : decode cc pc = .ok (.dup, 1)) (hv : v.category = 1) (hn : pc + 1 = n) (kk : zR Y X nL Φ F n lo (v :: v :: st) M) : zR Y X nL Φ F pc lo (v :: st) M := by
  subst hn; intro a hF H locs ls hP hD hS hl
  exact lv_dup C.1 C.2.1 d (by rw [zcv_cat]; exact hv) (kk a hF H locs ls hP hD hS hl)
theorem z_dup2 (C : zC Y X own cc nL R ret) {v w : Value} (d : decode cc pc = .ok (.dup2, 1)) (hv : v.category = 1) (hw : w.category = 1) (hn : pc + 1 = n) (kk : zR Y X nL Φ F n lo (v :: w :: v :: w :: st) M) : zR Y X nL Φ F pc lo (v :: w :: st) M := by
  subst hn; intro a hF H locs ls hP hD hS hl
  exact lv_dup2_11 C.1 C.2.1 d (by rw [zcv_cat]; exact hv) (by rw [zcv_cat]; exact hw) (kk a hF H locs ls hP hD hS hl)
theorem z_pop (C : zC Y X own cc nL R ret) {v : Value} (d : decode cc pc = .ok (.pop, 1)) (hv : v.category = 1) (hn : pc + 1 = n) (kk : zR Y X nL Φ F n lo st M) : zR Y X nL Φ F pc lo (v :: st) M := by
  subst hn; intro a hF H locs ls hP hD hS hl
  exact lv_pop C.1 C.2.1 d (by rw [zcv_cat]; exact hv) (kk a hF H locs ls hP hD hS hl)
theorem z_goto (C : zC Y X own cc nL R ret) {off : Int} (d : decode cc pc = .ok (.goto off, 3)) (ht : (pc : Int) + off = (n : Int)) (kk : zR Y X nL Φ F n lo st M) : zR Y X nL Φ F pc lo st M := by
  intro a hF H locs ls hP hD hS hl
  exact lv_goto C.1 C.2.1 d ht (kk a hF H locs ls hP hD hS hl)
theorem z_ifeq (C : zC Y X own cc nL R ret) {x : Int32} {off : Int} {t : Nat} (d : decode cc pc = .ok (.ifCond .eq off, 3)) (ht : (pc : Int) + off = (t : Int)) (hn : pc + 3 = n) (kt : zR Y X nL Φ F1 t lo st M) (kf : zR Y X nL Φ F2 n lo st M) : zR Y X nL Φ (if x = 0 then F1 else F2) pc lo (.int x :: st) M := by
  subst hn; intro a hF H locs ls hP hD hS hl
  exact lv_if_eq C.1 C.2.1 d ht (fun h => kt a (by rw [if_pos h] at hF; exact hF) H locs ls hP hD hS hl) (fun h => kf a (by rw [if_neg h] at hF; exact hF) H locs ls hP hD hS hl)
theorem z_ifne (C : zC Y X own cc nL R ret) {x : Int32} {off : Int} {t : Nat} (d : decode cc pc = .ok (.ifCond .ne off, 3)) (ht : (pc : Int) + off = (t : Int)) (hn : pc + 3 = n) (kt : zR Y X nL Φ F1 t lo st M) (kf : zR Y X nL Φ F2 n lo st M) : zR Y X nL Φ (if x = 0 then F2 else F1) pc lo (.int x :: st) M := by
  subst hn; intro a hF H locs ls hP hD hS hl
  exact lv_if_ne C.1 C.2.1 d ht (fun h => kt a (by rw [if_neg h] at hF; exact hF) H locs ls hP hD hS hl) (fun h => kf a (by rw [if_pos h] at hF; exact hF) H locs ls hP hD hS hl)
theorem z_iflt (C : zC Y X own cc nL R ret) {x : Int32} {off : Int} {t : Nat} (d : decode cc pc = .ok (.ifCond .lt off, 3)) (ht : (pc : Int) + off = (t : Int)) (hn : pc + 3 = n) (kt : zR Y X nL Φ F1 t lo st M) (kf : zR Y X nL Φ F2 n lo st M) : zR Y X nL Φ (if x < 0 then F1 else F2) pc lo (.int x :: st) M := by
  subst hn; intro a hF H locs ls hP hD hS hl
  exact lv_if_lt C.1 C.2.1 d ht (fun h => kt a (by rw [if_pos h] at hF; exact hF) H locs ls hP hD hS hl) (fun h => kf a (by rw [if_neg h] at hF; exact hF) H locs ls hP hD hS hl)
theorem z_ifge (C : zC Y X own cc nL R ret) {x : Int32} {off : Int} {t : Nat} (d : decode cc pc = .ok (.ifCond .ge off, 3)) (ht : (pc : Int) + off = (t : Int)) (hn : pc + 3 = n) (kt : zR Y X nL Φ F1 t lo st M) (kf : zR Y X nL Φ F2 n lo st M) : zR Y X nL Φ (if x < 0 then F2 else F1) pc lo (.int x :: st) M := by
  subst hn; intro a hF H locs ls hP hD hS hl
  exact lv_if_ge C.1 C.2.1 d ht (fun h => kt a (by rw [if_neg (Int32.not_lt.mpr h)] at hF; exact hF) H locs ls hP hD hS hl) (fun h => kf a (by rw [if_pos (Int32.not_le.mp h)] at hF; exact hF) H locs ls hP hD hS hl)
theorem z_ifgt (C : zC Y X own cc nL R ret) {x : Int32} {off : Int} {t : Nat} (d : decode cc pc = .ok (.ifCond .gt off, 3)) (ht : (pc : Int) + off = (t : Int)) (hn : pc + 3 = n) (kt : zR Y X nL Φ F1 t lo st M) (kf : zR Y X nL Φ F2 n lo st M) : zR Y X nL Φ (if 0 < x then F1 else F2) pc lo (.int x :: st) M := by
  subst hn; intro a hF H locs ls hP hD hS hl
  exact lv_if_gt C.1 C.2.1 d ht (fun h => kt a (by rw [if_pos h] at hF; exact hF) H locs ls hP hD hS hl) (fun h => kf a (by rw [if_neg h] at hF; exact hF) H locs ls hP hD hS hl)
theorem z_ifle (C : zC Y X own cc nL R ret) {x : Int32} {off : Int} {t : Nat} (d : decode cc pc = .ok (.ifCond .le off, 3)) (ht : (pc : Int) + off = (t : Int)) (hn : pc + 3 = n) (kt : zR Y X nL Φ F1 t lo st M) (kf : zR Y X nL Φ F2 n lo st M) : zR Y X nL Φ (if 0 < x then F2 else F1) pc lo (.int x :: st) M := by
  subst hn; intro a hF H locs ls hP hD hS hl
  exact lv_if_le C.1 C.2.1 d ht (fun h => kt a (by rw [if_neg (Int32.not_lt.mpr h)] at hF; exact hF) H locs ls hP hD hS hl) (fun h => kf a (by rw [if_pos (Int32.not_le.mp h)] at hF; exact hF) H locs ls hP hD hS hl)
theorem z_icmpeq (C : zC Y X own cc nL R ret) {x y : Int32} {off : Int} {t : Nat} (d : decode cc pc = .ok (.if_icmp .eq off, 3)) (ht : (pc : Int) + off = (t : Int)) (hn : pc + 3 = n) (kt : zR Y X nL Φ F1 t lo st M) (kf : zR Y X nL Φ F2 n lo st M) : zR Y X nL Φ (if x = y then F1 else F2) pc lo (.int y :: .int x :: st) M := by
  subst hn; intro a hF H locs ls hP hD hS hl
  exact lv_icmp_eq C.1 C.2.1 d ht (fun h => kt a (by rw [if_pos h] at hF; exact hF) H locs ls hP hD hS hl) (fun h => kf a (by rw [if_neg h] at hF; exact hF) H locs ls hP hD hS hl)
theorem z_icmpne (C : zC Y X own cc nL R ret) {x y : Int32} {off : Int} {t : Nat} (d : decode cc pc = .ok (.if_icmp .ne off, 3)) (ht : (pc : Int) + off = (t : Int)) (hn : pc + 3 = n) (kt : zR Y X nL Φ F1 t lo st M) (kf : zR Y X nL Φ F2 n lo st M) : zR Y X nL Φ (if x = y then F2 else F1) pc lo (.int y :: .int x :: st) M := by
  subst hn; intro a hF H locs ls hP hD hS hl
  exact lv_icmp_ne C.1 C.2.1 d ht (fun h => kt a (by rw [if_neg h] at hF; exact hF) H locs ls hP hD hS hl) (fun h => kf a (by rw [if_pos h] at hF; exact hF) H locs ls hP hD hS hl)
theorem z_icmplt (C : zC Y X own cc nL R ret) {x y : Int32} {off : Int} {t : Nat} (d : decode cc pc = .ok (.if_icmp .lt off, 3)) (ht : (pc : Int) + off = (t : Int)) (hn : pc + 3 = n) (kt : zR Y X nL Φ F1 t lo st M) (kf : zR Y X nL Φ F2 n lo st M) : zR Y X nL Φ (if x < y then F1 else F2) pc lo (.int y :: .int x :: st) M := by
  subst hn; intro a hF H locs ls hP hD hS hl
  exact lv_icmp_lt C.1 C.2.1 d ht (fun h => kt a (by rw [if_pos h] at hF; exact hF) H locs ls hP hD hS hl) (fun h => kf a (by rw [if_neg h] at hF; exact hF) H locs ls hP hD hS hl)
theorem z_icmpge (C : zC Y X own cc nL R ret) {x y : Int32} {off : Int} {t : Nat} (d : decode cc pc = .ok (.if_icmp .ge off, 3)) (ht : (pc : Int) + off = (t : Int)) (hn : pc + 3 = n) (kt : zR Y X nL Φ F1 t lo st M) (kf : zR Y X nL Φ F2 n lo st M) : zR Y X nL Φ (if x < y then F2 else F1) pc lo (.int y :: .int x :: st) M := by
  subst hn; intro a hF H locs ls hP hD hS hl
  exact lv_icmp_ge C.1 C.2.1 d ht (fun h => kt a (by rw [if_neg (Int32.not_lt.mpr h)] at hF; exact hF) H locs ls hP hD hS hl) (fun h => kf a (by rw [if_pos (Int32.not_le.mp h)] at hF; exact hF) H locs ls hP hD hS hl)
theorem z_icmpgt (C : zC Y X own cc nL R ret) {x y : Int32} {off : Int} {t : Nat} (d : decode cc pc = .ok (.if_icmp .gt off, 3)) (ht : (pc : Int) + off = (t : Int)) (hn : pc + 3 = n) (kt : zR Y X nL Φ F1 t lo st M) (kf : zR Y X nL Φ F2 n lo st M) : zR Y X nL Φ (if y < x then F1 else F2) pc lo (.int y :: .int x :: st) M := by
  subst hn; intro a hF H locs ls hP hD hS hl
  exact lv_icmp_gt C.1 C.2.1 d ht (fun h => kt a (by rw [if_pos h] at hF; exact hF) H locs ls hP hD hS hl) (fun h => kf a (by rw [if_neg h] at hF; exact hF) H locs ls hP hD hS hl)
theorem z_icmple (C : zC Y X own cc nL R ret) {x y : Int32} {off : Int} {t : Nat} (d : decode cc pc = .ok (.if_icmp .le off, 3)) (ht : (pc : Int) + off = (t : Int)) (hn : pc + 3 = n) (kt : zR Y X nL Φ F1 t lo st M) (kf : zR Y X nL Φ F2 n lo st M) : zR Y X nL Φ (if y < x then F2 else F1) pc lo (.int y :: .int x :: st) M := by
  subst hn; intro a hF H locs ls hP hD hS hl
  exact lv_icmp_le C.1 C.2.1 d ht (fun h => kt a (by rw [if_neg (Int32.not_lt.mpr h)] at hF; exact hF) H locs ls hP hD hS hl) (fun h => kf a (by rw [if_pos (Int32.not_le.mp h)] at hF; exact hF) H locs ls hP hD hS hl)
theorem z_tswIn (C : zC Y X own cc nL R ret) {dflt l1 h1 : Int} {offs : Array Int} {len : Nat} {x v : Int32} {off : Int} (hx : x = v) (d : decode cc pc = .ok (.tableswitch dflt l1 h1 offs, len)) (g1 : ¬ v.toInt < l1) (g2 : ¬ h1 < v.toInt) (ho : offs[(v.toInt - l1).toNat]? = some off) (ht : (pc : Int) + off = (n : Int)) (kk : zR Y X nL Φ F n lo st M) : zR Y X nL Φ F pc lo (.int x :: st) M := by
  subst hx; intro a hF H locs ls hP hD hS hl
  exact lv_tableIn C.1 C.2.1 d g1 g2 ho ht (kk a hF H locs ls hP hD hS hl)
theorem z_tswOut (C : zC Y X own cc nL R ret) {dflt l1 h1 : Int} {offs : Array Int} {len : Nat} {x : Int32} (g : x.toInt < l1 ∨ h1 < x.toInt) (d : decode cc pc = .ok (.tableswitch dflt l1 h1 offs, len)) (ht : (pc : Int) + dflt = (n : Int)) (kk : zR Y X nL Φ F n lo st M) : zR Y X nL Φ F pc lo (.int x :: st) M := by
  intro a hF H locs ls hP hD hS hl
  exact lv_tableOut C.1 C.2.1 d g ht (kk a hF H locs ls hP hD hS hl)
theorem z_lsw (C : zC Y X own cc nL R ret) {dflt : Int} {ps : Array (Int × Int)} {len : Nat} {x : Int32} {off : Int} (d : decode cc pc = .ok (.lookupswitch dflt ps, len)) (hp : (ps.toList.zip (ps.toList.drop 1)).all (fun (a, next) => a.1 < next.1) = true) (ho : Op.lookupswitch.offset ps.toList dflt x.toInt = off) (ht : (pc : Int) + off = (n : Int)) (kk : zR Y X nL Φ F n lo st M) : zR Y X nL Φ F pc lo (.int x :: st) M := by
  intro a hF H locs ls hP hD hS hl
  exact lv_lookup C.1 C.2.1 d hp ho ht (kk a hF H locs ls hP hD hS hl)
theorem zC.words (C : zC Y X own cc nL R ret) : ∀ w ∈ zTab, w.before (xA X) (xS X) = true := C.2.2.2.2.1
theorem zC.locks (C : zC Y X own cc nL R ret) : (xH X).locks = false := C.2.2.2.2.2.1
theorem zC.rets (C : zC Y X own cc nL R ret) : (xH X).sig.returnType = ret := C.2.2.2.2.2.2.1
theorem zC.room (C : zC Y X own cc nL R ret) : xR X = R := C.2.2.2.2.2.2.2.1
theorem zC.low (C : zC Y X own cc nL R ret) : yB Y ≤ (xS X).heap.size := C.2.2.2.2.2.2.2.2.2.1
theorem zC.K (C : zC Y X own cc nL R ret) : va_K (yD Y) vwCl (ztys (yC Y)) (xS X) := C.2.2.2.2.2.2.2.2.2.2.1
theorem zC.N (C : zC Y X own cc nL R ret) : zNs (xS X) := C.2.2.2.2.2.2.2.2.2.2.2.1
theorem zC.S (C : zC Y X own cc nL R ret) : zSs Y (xS X) (xS X).heap := C.2.2.2.2.2.2.2.2.2.2.2.2
theorem zC.P (C : zC Y X own cc nL R ret) {H : Heap} {locs : List Loc} (hP : va_P (yD Y) vwCl (yW Y M) H) (hD : va_D (yF Y) (yW Y M)) (hS : va_S (yF Y) (xS X).heap H locs) : ∀ U : State, U.heap = H → (xS X).WarmedH U.vm → zP Y M U := by
  intro U hU hW
  subst hU
  exact ⟨Nat.le_trans C.low hS.1, hP, va_K.moved hW.alike C.K, hD, C.N.warm hW, (C.S.kept (fun a h1 h2 => hS.2.1 a h1 h2)).moved hW.alike⟩
theorem zlI {q k j : Nat} (h : zlenI q = k) (hj : j < k) : q < 119 ∧ (zkd q).1 = 1 ∧ (zkd q).2 = k := by
  unfold zlenI at h
  by_cases h1 : (zkd q).1 = 1
  · rw [if_pos h1] at h; exact ⟨zkd_lt (by omega), h1, h⟩
  · rw [if_neg h1] at h; omega
theorem zlB {q k j : Nat} (h : zlenB q = k) (hj : j < k) : q < 119 ∧ (zkd q).1 = 2 ∧ (zkd q).2 = k := by
  unfold zlenB at h
  by_cases h1 : (zkd q).1 = 2
  · rw [if_pos h1] at h; exact ⟨zkd_lt (by omega), h1, h⟩
  · rw [if_neg h1] at h; omega
theorem zlZ {q k j : Nat} (h : zlenZ q = k) (hj : j < k) : q < 119 ∧ (zkd q).1 = 3 ∧ (zkd q).2 = k := by
  unfold zlenZ at h
  by_cases h1 : (zkd q).1 = 3
  · rw [if_pos h1] at h; exact ⟨zkd_lt (by omega), h1, h⟩
  · rw [if_neg h1] at h; omega
theorem zlR {q k j : Nat} (h : zlenR q = k) (hj : j < k) : q < 119 ∧ (zkd q).1 = 4 ∧ (zkd q).2 = k := by
  unfold zlenR at h
  by_cases h1 : (zkd q).1 = 4
  · rw [if_pos h1] at h; exact ⟨zkd_lt (by omega), h1, h⟩
  · rw [if_neg h1] at h; omega
theorem zcell1 {ad : Nat → Nat} {cy : Nat → ClassId} {q k : Nat} (h1 : (zkd q).1 = 1) (h2 : (zkd q).2 = k) : zcell ad cy M q = .inl (cy 0, k, .inl (M.1 q)) := by
  unfold zcell; rw [if_pos h1, h2]
theorem zcell2 {ad : Nat → Nat} {cy : Nat → ClassId} {q k : Nat} (h1 : (zkd q).1 = 2) (h2 : (zkd q).2 = k) : zcell ad cy M q = .inl (cy 1, k, .inl (M.1 q)) := by
  unfold zcell; rw [if_neg (by omega), if_pos h1, h2]
theorem zcell3 {ad : Nat → Nat} {cy : Nat → ClassId} {q k : Nat} (h1 : (zkd q).1 = 3) (h2 : (zkd q).2 = k) : zcell ad cy M q = .inl (cy 2, k, .inl (M.1 q)) := by
  unfold zcell; rw [if_neg (by omega), if_neg (by omega), if_pos h1, h2]
theorem zcell4 {ad : Nat → Nat} {cy : Nat → ClassId} {q k : Nat} (h1 : (zkd q).1 = 4) (h2 : (zkd q).2 = k) : zcell ad cy M q = .inl (cy 3, k, .inr (.inr (.inr (.inr (fun i => if i < k then some (ad (q + 1 + i)) else none))))) := by
  unfold zcell; rw [if_neg (by omega), if_neg (by omega), if_neg (by omega), if_pos h1, h2]
theorem zcell5 {ad : Nat → Nat} {cy : Nat → ClassId} {q k : Nat} (h : zkd q = (5, k)) : zcell ad cy M q = .inr (k, (zfs M q).map (zcv ad)) := by
  unfold zcell; rw [h]; rfl
theorem z_iaload (C : zC Y X own cc nL R ret) {q : Nat} {i : Int32} (k : Nat) (hq : zlenI q = k) (d : decode cc pc = .ok (.iaload, 1)) (hn : pc + 1 = n) (kk : zR Y X nL Φ F n lo (.int (zrd M q i) :: st) M) : zR Y X nL Φ (zguard (zin i k) F) pc lo (.int i :: .ref q :: st) M := by
  subst hn
  refine z_guard fun hg => ?_
  obtain ⟨h1, h2, h3⟩ := zlI hq (zin_lt hg)
  intro a hF H locs ls hP hD hS hl
  exact va_iald C.1 C.2.1 C.K hP q 0 ((zws_get h1).trans (by rw [zcell1 h2 h3])) rfl (zin_vp hg) d (kk a hF H locs ls hP hD hS hl)
theorem z_baload (C : zC Y X own cc nL R ret) {q : Nat} {i : Int32} (k : Nat) (hq : zlenB q = k) (d : decode cc pc = .ok (.baload, 1)) (hn : pc + 1 = n) (kk : zR Y X nL Φ F n lo (.int (zrd M q i) :: st) M) : zR Y X nL Φ (zguard (zin i k) F) pc lo (.int i :: .ref q :: st) M := by
  subst hn
  refine z_guard fun hg => ?_
  obtain ⟨h1, h2, h3⟩ := zlB hq (zin_lt hg)
  intro a hF H locs ls hP hD hS hl
  exact va_bald C.1 C.2.1 C.K hP q 1 ((zws_get h1).trans (by rw [zcell2 h2 h3])) rfl (zin_vp hg) d (kk a hF H locs ls hP hD hS hl)
theorem z_zaload (C : zC Y X own cc nL R ret) {q : Nat} {i : Int32} (k : Nat) (hq : zlenZ q = k) (d : decode cc pc = .ok (.baload, 1)) (hn : pc + 1 = n) (kk : zR Y X nL Φ F n lo (.int (zrd M q i) :: st) M) : zR Y X nL Φ (zguard (zin i k) F) pc lo (.int i :: .ref q :: st) M := by
  subst hn
  refine z_guard fun hg => ?_
  obtain ⟨h1, h2, h3⟩ := zlZ hq (zin_lt hg)
  intro a hF H locs ls hP hD hS hl
  exact va_zald C.1 C.2.1 C.K hP q 2 ((zws_get h1).trans (by rw [zcell3 h2 h3])) rfl (zin_vp hg) d (kk a hF H locs ls hP hD hS hl)
theorem z_ialoadL (C : zC Y X own cc nL R ret) {i : Int32} (d : decode cc pc = .ok (.iaload, 1)) (hn : pc + 1 = n) (kk : zR Y X nL Φ F n lo (.int (zLO (zcl i)) :: st) M) : zR Y X nL Φ (zguard (zin i 6) F) pc lo (.int i :: .ref 119 :: st) M := by
  subst hn
  refine z_guard fun hg => ?_
  intro a hF H locs ls hP hD hS hl
  exact va_ti C.1 C.2.1 C.S.2.2.1 hS (zin_vp hg) rfl d (kk a hF H locs ls hP hD hS hl)
theorem z_ialoadM (C : zC Y X own cc nL R ret) {i : Int32} (d : decode cc pc = .ok (.iaload, 1)) (hn : pc + 1 = n) (kk : zR Y X nL Φ F n lo (.int (zMO (zcl i)) :: st) M) : zR Y X nL Φ (zguard (zin i 6) F) pc lo (.int i :: .ref 120 :: st) M := by
  subst hn
  refine z_guard fun hg => ?_
  intro a hF H locs ls hP hD hS hl
  exact va_ti C.1 C.2.1 C.S.2.2.2 hS (zin_vp hg) rfl d (kk a hF H locs ls hP hD hS hl)
theorem z_aaload (C : zC Y X own cc nL R ret) {q : Nat} {i : Int32} (k : Nat) (hq : zlenR q = k) (d : decode cc pc = .ok (.aaload, 1)) (hn : pc + 1 = n) (kk : zR Y X nL Φ F n lo (.ref (zrow q i) :: st) M) : zR Y X nL Φ (zguard (zin i k) F) pc lo (.int i :: .ref q :: st) M := by
  subst hn
  refine z_guard fun hg => ?_
  obtain ⟨h1, h2, h3⟩ := zlR hq (zin_lt hg)
  intro a hF H locs ls hP hD hS hl
  have hlt : i.toNatClampNeg < k := zin_lt hg
  have hv : va_rf (if i.toNatClampNeg < k then some (yA Y (q + 1 + i.toNatClampNeg)) else none) = .ref (yA Y (q + 1 + i.toNatClampNeg)) := by rw [if_pos hlt]; rfl
  have hc := hP q _ ((zws_get h1).trans (by rw [zcell4 h2 h3]))
  refine W.aald (v := .ref (yA Y (q + 1 + i.toNatClampNeg))) (ty := .array .int) C.1 C.2.1 hc ((C.K.2 3 _ rfl).1 k (fun j => va_rf (if j < k then some (yA Y (q + 1 + j)) else none))) rfl (fun q => by cases q) (by show ¬ (i < 0 ∨ (arrV _ _ _).slots.size ≤ _); rw [arrV_size]; exact zin_vp hg) (by show (arrV _ _ _).slots[_]? = _; rw [arrV_read _ _ hlt, hv]) rfl rfl d ?_
  exact kk a hF H locs ls hP hD hS hl
theorem z_alen (C : zC Y X own cc nL R ret) {q : Nat} (d : decode cc pc = .ok (.arraylength, 1)) (hn : pc + 1 = n) (kk : zR Y X nL Φ F n lo (.int (Int32.ofNat (zlenI q)) :: st) M) : zR Y X nL Φ (zguard (decide ((zkd q).1 = 1)) F) pc lo (.ref q :: st) M := by
  subst hn
  refine z_guard fun hg => ?_
  have hg : (zkd q).1 = 1 := of_decide_eq_true hg
  intro a hF H locs ls hP hD hS hl
  exact va_alen C.1 C.2.1 C.K hP q 0 ((zws_get (zkd_lt (by omega))).trans (by rw [zcell1 hg rfl])) rfl (by unfold zlenI; rw [if_pos hg]) d (kk a hF H locs ls hP hD hS hl)
theorem zwr_cell {ad : Nat → Nat} {cy : Nat → ClassId} {q i : Nat} {v : Int32} : ∀ c, c ≠ q → zcell ad cy (zwr M q i v) c = zcell ad cy M c := fun _ h => zcell_congr (zwr_ne h) rfl
theorem z_iastore (C : zC Y X own cc nL R ret) {q : Nat} {i x : Int32} {f : zMem → Option ρ} (k : Nat) (hq : zlenI q = k) (d : decode cc pc = .ok (.iastore, 1)) (hn : pc + 1 = n) (kk : ∀ M', zR Y X nL Φ (f M') n lo st M') : zR Y X nL Φ (zguard (zin i k) (zlet (zwr M q (zcl i) x) f)) pc lo (.int x :: .int i :: .ref q :: st) M := by
  subst hn
  refine z_guard fun hg => ?_
  obtain ⟨h1, h2, h3⟩ := zlI hq (zin_lt hg)
  intro a hF H locs ls hP hD hS hl
  refine va_iast C.1 C.2.1 C.K hP hD hS q 0 ((zws_get h1).trans (by rw [zcell1 h2 h3])) rfl (zin_vp hg) d (fun H1 locs1 hP1 hD1 hS1 => ?_)
  have e : (yW Y M).set q (yA Y q, .inl (yC Y 0, k, .inl (upd (M.1 q) i.toNatClampNeg x))) = yW Y (zwr M q (zcl i) x) := zws_set h1 zwr_cell (by rw [zcell1 h2 h3, zwr_row]; rfl)
  rw [e] at hP1 hD1
  exact kk _ a hF H1 locs1 ls hP1 hD1 hS1 hl
theorem z_bastore (C : zC Y X own cc nL R ret) {q : Nat} {i x : Int32} {f : zMem → Option ρ} (k : Nat) (hq : zlenB q = k) (d : decode cc pc = .ok (.bastore, 1)) (hn : pc + 1 = n) (kk : ∀ M', zR Y X nL Φ (f M') n lo st M') : zR Y X nL Φ (zguard (zin i k) (zlet (zwr M q (zcl i) x.toInt8.toInt32) f)) pc lo (.int x :: .int i :: .ref q :: st) M := by
  subst hn
  refine z_guard fun hg => ?_
  obtain ⟨h1, h2, h3⟩ := zlB hq (zin_lt hg)
  intro a hF H locs ls hP hD hS hl
  refine va_bast C.1 C.2.1 C.K hP hD hS q 1 ((zws_get h1).trans (by rw [zcell2 h2 h3])) rfl (zin_vp hg) d (fun H1 locs1 hP1 hD1 hS1 => ?_)
  have e : (yW Y M).set q (yA Y q, .inl (yC Y 1, k, .inl (upd (M.1 q) i.toNatClampNeg (vp_nar .byte x)))) = yW Y (zwr M q (zcl i) x.toInt8.toInt32) := zws_set h1 zwr_cell (by rw [zcell2 h2 h3, zwr_row]; rfl)
  rw [e] at hP1 hD1
  exact kk _ a hF H1 locs1 ls hP1 hD1 hS1 hl
theorem z_zastore (C : zC Y X own cc nL R ret) {q : Nat} {i x : Int32} {f : zMem → Option ρ} (k : Nat) (hq : zlenZ q = k) (d : decode cc pc = .ok (.bastore, 1)) (hn : pc + 1 = n) (kk : ∀ M', zR Y X nL Φ (f M') n lo st M') : zR Y X nL Φ (zguard (zin i k) (zlet (zwr M q (zcl i) (x &&& 1)) f)) pc lo (.int x :: .int i :: .ref q :: st) M := by
  subst hn
  refine z_guard fun hg => ?_
  obtain ⟨h1, h2, h3⟩ := zlZ hq (zin_lt hg)
  intro a hF H locs ls hP hD hS hl
  refine va_zast C.1 C.2.1 C.K hP hD hS q 2 ((zws_get h1).trans (by rw [zcell3 h2 h3])) rfl (zin_vp hg) d (fun H1 locs1 hP1 hD1 hS1 => ?_)
  have e : (yW Y M).set q (yA Y q, .inl (yC Y 2, k, .inl (upd (M.1 q) i.toNatClampNeg (vp_nar .boolean x)))) = yW Y (zwr M q (zcl i) (x &&& 1)) := zws_set h1 zwr_cell (by rw [zcell3 h2 h3, zwr_row]; rfl)
  rw [e] at hP1 hD1
  exact kk _ a hF H1 locs1 ls hP1 hD1 hS1 hl
theorem z5lt {q ci : Nat} (h : zkd q = (5, ci)) : q < 119 := zkd_lt (by rw [h]; show (5 : Nat) ≠ 0; decide)
/-- what the tables say of a class -/
def zOK (ci : Nat) (Cn : String) (T : u_T) (N : Nat) (ty0 : Nat → FieldType) : Prop := vwCl[ci]? = some (Cn, T, N) ∧ (∀ w ∈ u_ws Cn T N, w ∈ zTab) ∧ (∀ k, k < N → parseFieldDescriptor (T k).2.2.1 = some (ty0 k)) ∧ ∀ a, a < N → ∀ b, b < N → a ≠ b → (T a).2.1 ≠ (T b).2.1
theorem z_get (C : zC Y X own cc nL R ret) {ci N ix q : Nat} {Cn ref : String} {T : u_T} {ty0 : Nat → FieldType} (k : Nat) {v : Value} (hO : zOK ci Cn T N ty0) (hq : zkd q = (5, ci)) (hk : k < N) (hw : Cond.fieldLink own ix ref (T k).2.1 (T k).2.2.1 ∈ zTab) (hs : ref = (T k).1) (hv : (zfs M q)[k]? = some v) (d : decode cc pc = .ok (.getfield ix, 3)) (hn : pc + 3 = n) (kk : zR Y X nL Φ F n lo (v :: st) M) : zR Y X nL Φ F pc lo (.ref q :: st) M := by
  subst hn
  intro a hF H locs ls hP hD hS hl
  exact va_get C.1 C.2.1 C.words hO.2.1 C.2.2.2.1 C.K hP q ((zws_get (z5lt hq)).trans (by rw [zcell5 hq])) hO.1 k hk (C.words _ hw) (fun x h => by rw [hs]; exact h) (v := zcv (yA Y) v) (by rw [List.getElem?_map, hv]; rfl) d (kk a hF H locs ls hP hD hS hl)
theorem z_getN (C : zC Y X own cc nL R ret) {ci N ix q : Nat} {Cn ref host : String} {T : u_T} {ty0 : Nat → FieldType} (k : Nat) {v : Value} (hO : zOK ci Cn T N ty0) (hq : zkd q = (5, ci)) (hk : k < N) (hw : (own, ix, ref, (T k).2.1, (T k).2.2.1, host) ∈ zNF) (hs : ref = (T k).1) (hv : (zfs M q)[k]? = some v) (d : decode cc pc = .ok (.getfield ix, 3)) (hn : pc + 3 = n) (kk : zR Y X nL Φ F n lo (v :: st) M) : zR Y X nL Φ F pc lo (.ref q :: st) M := by
  subst hn
  intro a hF H locs ls hP hD hS hl
  exact va_getN C.1 C.2.1 C.words hO.2.1 C.2.2.2.1 C.K hP q ((zws_get (z5lt hq)).trans (by rw [zcell5 hq])) hO.1 k hk (va_Nw.use rfl (C.N.1 _ hw)) (fun x h => by rw [hs]; exact h) (v := zcv (yA Y) v) (by rw [List.getElem?_map, hv]; rfl) d (kk a hF H locs ls hP hD hS hl)
theorem zfs_get (q j : Nat) : (zfs M q)[j]? = ((zfl q)[j]?).map (zfv M q j) := by
  unfold zfs
  rw [zfsA_get, Nat.zero_add]
theorem zfs_len (q : Nat) : (zfs M q).length = (zfl q).length := by
  unfold zfs
  rw [zfsA_len]
theorem zfs_wr {q k : Nat} {x : Int32} {v : Value} {dd : Nat × Nat} (hd : (zfl q)[k]? = some dd) (hv : zfv (zwr M q k x) q k dd = v) : zfs (zwr M q k x) q = (zfs M q).set k v := by
  apply List.ext_getElem?
  intro j
  have hk : k < (zfl q).length := (List.getElem?_eq_some_iff.mp hd).1
  by_cases hj : j = k
  · subst hj
    rw [List.getElem?_set_self (by rw [zfs_len]; exact hk), zfs_get, hd, Option.map_some, hv]
  · rw [List.getElem?_set_ne (fun e => hj e.symm), zfs_get, zfs_get]
    have e : (zwr M q k x).1 q j = M.1 q j := by simp [zwr, hj]
    unfold zfv
    rw [e]
    rfl
theorem z_set5 {q ci k : Nat} {M' : zMem} {v : Value} (hq : zkd q = (5, ci)) (hc : ∀ c, c ≠ q → zcell (yA Y) (yC Y) M' c = zcell (yA Y) (yC Y) M c) (hv : zfs M' q = (zfs M q).set k v) : (yW Y M).set q (yA Y q, .inr (ci, ((zfs M q).map (zcv (yA Y))).set k (zcv (yA Y) v))) = yW Y M' :=
  zws_set (z5lt hq) hc (by rw [zcell5 hq, hv, List.map_set])
theorem z_puti (C : zC Y X own cc nL R ret) {ci N ix q : Nat} {Cn ref : String} {T : u_T} {ty0 : Nat → FieldType} (k : Nat) {x : Int32} {f : zMem → Option ρ} (hO : zOK ci Cn T N ty0) (hq : zkd q = (5, ci)) (hk : k < N) (hw : Cond.fieldLink own ix ref (T k).2.1 (T k).2.2.1 ∈ zTab) (hs : ref = (T k).1) (hfin : (T k).2.2.2 = false) (hd : (zfl q)[k]? = some (0, 0)) (hn2 : narrow (ty0 k) (.int x) = .int x) (hfit : fits (ty0 k) (.int x) = true) (d : decode cc pc = .ok (.putfield ix, 3)) (hn : pc + 3 = n) (kk : ∀ M', zR Y X nL Φ (f M') n lo st M') : zR Y X nL Φ (zlet (zwr M q k x) f) pc lo (.int x :: .ref q :: st) M := by
  subst hn
  intro a hF H locs ls hP hD hS hl
  refine va_put C.1 C.2.1 C.words hO.2.1 ty0 hO.2.2.1 hO.2.2.2 C.2.2.2.1 C.K hP hD hS q ((zws_get (z5lt hq)).trans (by rw [zcell5 hq])) hO.1 k hk (C.words _ hw) (fun x h => by rw [hs]; exact h) hfin (hO.2.2.1 k hk) hn2 hfit (by rw [List.length_map, zfs_len]; exact (List.getElem?_eq_some_iff.mp hd).1) d (fun H1 locs1 hP1 hD1 hS1 => ?_)
  have e : (yW Y M).set q (yA Y q, .inr (ci, ((zfs M q).map (zcv (yA Y))).set k (zcv (yA Y) (.int x)))) = yW Y (zwr M q k x) := z_set5 (v := .int x) hq zwr_cell (zfs_wr hd (by simp [zfv, zwr]))
  rw [e] at hP1 hD1
  exact kk _ a hF H1 locs1 ls hP1 hD1 hS1 hl
theorem z_putiN (C : zC Y X own cc nL R ret) {ci N ix q : Nat} {Cn ref host : String} {T : u_T} {ty0 : Nat → FieldType} (k : Nat) {x : Int32} {f : zMem → Option ρ} (hO : zOK ci Cn T N ty0) (hq : zkd q = (5, ci)) (hk : k < N) (hw : (own, ix, ref, (T k).2.1, (T k).2.2.1, host) ∈ zNF) (hs : ref = (T k).1) (hfin : (T k).2.2.2 = false) (hd : (zfl q)[k]? = some (0, 0)) (hn2 : narrow (ty0 k) (.int x) = .int x) (hfit : fits (ty0 k) (.int x) = true) (d : decode cc pc = .ok (.putfield ix, 3)) (hn : pc + 3 = n) (kk : ∀ M', zR Y X nL Φ (f M') n lo st M') : zR Y X nL Φ (zlet (zwr M q k x) f) pc lo (.int x :: .ref q :: st) M := by
  subst hn
  intro a hF H locs ls hP hD hS hl
  refine va_putN C.1 C.2.1 C.words hO.2.1 ty0 hO.2.2.1 hO.2.2.2 C.2.2.2.1 C.K hP hD hS q ((zws_get (z5lt hq)).trans (by rw [zcell5 hq])) hO.1 k hk (va_Nw.use rfl (C.N.1 _ hw)) (fun x h => by rw [hs]; exact h) hfin (hO.2.2.1 k hk) hn2 hfit (by rw [List.length_map, zfs_len]; exact (List.getElem?_eq_some_iff.mp hd).1) d (fun H1 locs1 hP1 hD1 hS1 => ?_)
  have e : (yW Y M).set q (yA Y q, .inr (ci, ((zfs M q).map (zcv (yA Y))).set k (zcv (yA Y) (.int x)))) = yW Y (zwr M q k x) := z_set5 (v := .int x) hq zwr_cell (zfs_wr hd (by simp [zfv, zwr]))
  rw [e] at hP1 hD1
  exact kk _ a hF H1 locs1 ls hP1 hD1 hS1 hl
theorem z_putrN (C : zC Y X own cc nL R ret) {ci N ix q r : Nat} {Cn ref host : String} {T : u_T} {ty0 : Nat → FieldType} (k : Nat) {f : zMem → Option ρ} (hO : zOK ci Cn T N ty0) (hq : zkd q = (5, ci)) (hk : k < N) (hw : (own, ix, ref, (T k).2.1, (T k).2.2.1, host) ∈ zNF) (hs : ref = (T k).1) (hfin : (T k).2.2.2 = false) (hd : (zfl q)[k]? = some (3, 0)) (hn2 : ∀ z : Nat, narrow (ty0 k) (.ref z) = .ref z) (hfit : ∀ z : Nat, fits (ty0 k) (.ref z) = true) (d : decode cc pc = .ok (.putfield ix, 3)) (hn : pc + 3 = n) (kk : ∀ M', zR Y X nL Φ (f M') n lo st M') : zR Y X nL Φ (zguard (decide (r < 119)) (zlet (zwr M q k (nI r)) f)) pc lo (.ref r :: .ref q :: st) M := by
  subst hn
  refine z_guard fun hg => ?_
  have hg : r < 119 := of_decide_eq_true hg
  intro a hF H locs ls hP hD hS hl
  refine va_putN C.1 C.2.1 C.words hO.2.1 ty0 hO.2.2.1 hO.2.2.2 C.2.2.2.1 C.K hP hD hS q ((zws_get (z5lt hq)).trans (by rw [zcell5 hq])) hO.1 k hk (va_Nw.use rfl (C.N.1 _ hw)) (fun x h => by rw [hs]; exact h) hfin (hO.2.2.1 k hk) (hn2 _) (hfit _) (by rw [List.length_map, zfs_len]; exact (List.getElem?_eq_some_iff.mp hd).1) d (fun H1 locs1 hP1 hD1 hS1 => ?_)
  have e : (yW Y M).set q (yA Y q, .inr (ci, ((zfs M q).map (zcv (yA Y))).set k (zcv (yA Y) (.ref r)))) = yW Y (zwr M q k (nI r)) := z_set5 (v := .ref r) hq zwr_cell (zfs_wr hd (by
    have h1 : (zwr M q k (nI r)).1 q k = nI r := by simp [zwr]
    unfold zfv
    rw [h1]
    show Value.ref (zcl (nI r)) = _
    unfold zcl
    rw [nI_clamp (by omega)]))
  rw [e] at hP1 hD1
  exact kk _ a hF H1 locs1 ls hP1 hD1 hS1 hl
theorem z_putl (C : zC Y X own cc nL R ret) {ci N ix q : Nat} {Cn ref : String} {T : u_T} {ty0 : Nat → FieldType} (k : Nat) {x : Int64} {f : zMem → Option ρ} (hO : zOK ci Cn T N ty0) (hq : zkd q = (5, ci)) (hk : k < N) (hw : Cond.fieldLink own ix ref (T k).2.1 (T k).2.2.1 ∈ zTab) (hs : ref = (T k).1) (hfin : (T k).2.2.2 = false) (hd : (zfl q)[k]? = some (1, 0)) (ho : ∀ j : Nat, j < (zfl q).length → j ≠ k → ((zfl q).getD j (0, 0)).1 ≠ 1) (hn2 : narrow (ty0 k) (.long x) = .long x) (hfit : fits (ty0 k) (.long x) = true) (d : decode cc pc = .ok (.putfield ix, 3)) (hn : pc + 3 = n) (kk : ∀ M', zR Y X nL Φ (f M') n lo st M') : zR Y X nL Φ (zlet (zwl M q x) f) pc lo (.long x :: .ref q :: st) M := by
  subst hn
  intro a hF H locs ls hP hD hS hl
  refine va_put C.1 C.2.1 C.words hO.2.1 ty0 hO.2.2.1 hO.2.2.2 C.2.2.2.1 C.K hP hD hS q ((zws_get (z5lt hq)).trans (by rw [zcell5 hq])) hO.1 k hk (C.words _ hw) (fun x h => by rw [hs]; exact h) hfin (hO.2.2.1 k hk) hn2 hfit (by rw [List.length_map, zfs_len]; exact (List.getElem?_eq_some_iff.mp hd).1) d (fun H1 locs1 hP1 hD1 hS1 => ?_)
  have e : (yW Y M).set q (yA Y q, .inr (ci, ((zfs M q).map (zcv (yA Y))).set k (zcv (yA Y) (.long x)))) = yW Y (zwl M q x) := by
    refine z_set5 (v := .long x) hq (fun c hc => zcell_congr rfl (by simp [zwl, hc])) ?_
    apply List.ext_getElem?
    intro j
    have hkl : k < (zfl q).length := (List.getElem?_eq_some_iff.mp hd).1
    by_cases hj : j = k
    · subst hj
      rw [List.getElem?_set_self (by rw [zfs_len]; exact hkl), zfs_get, hd, Option.map_some]
      simp [zfv, zwl]
    · rw [List.getElem?_set_ne (fun e => hj e.symm), zfs_get, zfs_get]
      cases hz : (zfl q)[j]? with
      | none => rfl
      | some dd =>
        have h1 := ho j (List.getElem?_eq_some_iff.mp hz).1 hj
        rw [List.getD_eq_getElem?_getD, hz] at h1
        have h1 : dd.1 ≠ 1 := h1
        simp [zfv, zwl, h1]
  rw [e] at hP1 hD1
  exact kk _ a hF H1 locs1 ls hP1 hD1 hS1 hl
theorem z_getsL (C : zC Y X own cc nL R ret) {ix : Nat} (hw : Cond.fieldLink own ix "LensBench" "LEAST_OF" "[I" ∈ zTab) (d : decode cc pc = .ok (.getstatic ix, 3)) (hn : pc + 3 = n) (kk : zR Y X nL Φ F n lo (.ref 119 :: st) M) : zR Y X nL Φ F pc lo st M := by
  subst hn
  intro a hF H locs ls hP hD hS hl
  exact va_gets C.1 C.2.1 C.S.1 hS C.2.2.2.1 (C.words _ hw) (fun _ h => h) d (kk a hF H locs ls hP hD hS hl)
theorem z_getsM (C : zC Y X own cc nL R ret) {ix : Nat} (hw : Cond.fieldLink own ix "LensBench" "MOST_OF" "[I" ∈ zTab) (d : decode cc pc = .ok (.getstatic ix, 3)) (hn : pc + 3 = n) (kk : zR Y X nL Φ F n lo (.ref 120 :: st) M) : zR Y X nL Φ F pc lo st M := by
  subst hn
  intro a hF H locs ls hP hD hS hl
  exact va_gets C.1 C.2.1 C.S.2.1 hS C.2.2.2.1 (C.words _ hw) (fun _ h => h) d (kk a hF H locs ls hP hD hS hl)
theorem z_getsLN (C : zC Y X own cc nL R ret) {ix : Nat} {host : String} (hw : (own, ix, "LensBench", "LEAST_OF", "[I", host) ∈ zNF) (d : decode cc pc = .ok (.getstatic ix, 3)) (hn : pc + 3 = n) (kk : zR Y X nL Φ F n lo (.ref 119 :: st) M) : zR Y X nL Φ F pc lo st M := by
  subst hn
  intro a hF H locs ls hP hD hS hl
  exact va_getsN C.1 C.2.1 C.S.1 hS C.2.2.2.1 (va_Nw.use rfl (C.N.1 _ hw)) (fun _ h => h) d (kk a hF H locs ls hP hD hS hl)
theorem z_getsMN (C : zC Y X own cc nL R ret) {ix : Nat} {host : String} (hw : (own, ix, "LensBench", "MOST_OF", "[I", host) ∈ zNF) (d : decode cc pc = .ok (.getstatic ix, 3)) (hn : pc + 3 = n) (kk : zR Y X nL Φ F n lo (.ref 120 :: st) M) : zR Y X nL Φ F pc lo st M := by
  subst hn
  intro a hF H locs ls hP hD hS hl
  exact va_getsN C.1 C.2.1 C.S.2.1 hS C.2.2.2.1 (va_Nw.use rfl (C.N.1 _ hw)) (fun _ h => h) d (kk a hF H locs ls hP hD hS hl)
theorem z_iret (C : zC Y X own cc nL R (some .int)) {res : ρ → Int32} {mem : ρ → zMem} {a : ρ} {x : Int32} (hr : res a = x) (hm : mem a = M) (d : decode cc pc = .ok (.ireturn, 1)) : zR Y X nL (zFi Y X res mem) (some a) pc lo [.int x] M := by
  intro b hb H locs ls hP hD hS hl
  cases hb
  subst hr
  subst hm
  exact W.iret C.1 C.2.1 C.rets (fun t ht hW => ⟨⟨res a, mem a, rfl, ⟨rfl, rfl⟩, C.P hP hD hS t ht hW⟩, hS.F ht⟩) hS.2.2 d C.locks
theorem z_zret (C : zC Y X own cc nL R (some .boolean)) {res : ρ → Int32} {mem : ρ → zMem} {a : ρ} {x : Int32} (hr : res a = x) (hm : mem a = M) (d : decode cc pc = .ok (.ireturn, 1)) : zR Y X nL (zFi Y X res mem) (zguard (zisb x) (some a)) pc lo [.int x] M := by
  refine z_guard fun hg => ?_
  intro b hb H locs ls hP hD hS hl
  cases hb
  subst hr
  subst hm
  have hx : narrow .boolean (.int (res a)) = .int (res a) := by
    simp only [zisb, Bool.or_eq_true, decide_eq_true_eq] at hg
    rcases hg with h | h <;> rw [h] <;> rfl
  exact W.zret C.1 C.2.1 C.rets hx (fun t ht hW => ⟨⟨res a, mem a, rfl, ⟨rfl, rfl⟩, C.P hP hD hS t ht hW⟩, hS.F ht⟩) hS.2.2 d C.locks
theorem z_zretK (C : zC Y X own cc nL R (some .boolean)) {res : ρ → Int32} {mem : ρ → zMem} {a : ρ} {x : Int32} (hx : zisb x = true) (hr : res a = x) (hm : mem a = M) (d : decode cc pc = .ok (.ireturn, 1)) : zR Y X nL (zFi Y X res mem) (some a) pc lo [.int x] M := by
  have h := z_zret (lo := lo) C hr hm d
  unfold zguard at h
  rw [if_pos hx] at h
  exact h
theorem z_lret (C : zC Y X own cc nL R (some .long)) {res : ρ → Int64} {mem : ρ → zMem} {a : ρ} {x : Int64} (hr : res a = x) (hm : mem a = M) (d : decode cc pc = .ok (.lreturn, 1)) : zR Y X nL (zFl Y X res mem) (some a) pc lo [.long x] M := by
  intro b hb H locs ls hP hD hS hl
  cases hb
  subst hr
  subst hm
  exact W.lret C.1 C.2.1 C.rets (fun t ht hW => ⟨⟨res a, mem a, rfl, ⟨rfl, rfl⟩, C.P hP hD hS t ht hW⟩, hS.F ht⟩) hS.2.2 d C.locks
theorem z_vret (C : zC Y X own cc nL R none) {mem : ρ → zMem} {a : ρ} (hm : mem a = M) (d : decode cc pc = .ok (.return_, 1)) : zR Y X nL (zFv Y X mem) (some a) pc lo [] M := by
  intro b hb H locs ls hP hD hS hl
  cases hb
  subst hm
  exact W.vret C.1 C.2.1 C.rets (fun t ht hW => ⟨⟨mem a, rfl, rfl, C.P hP hD hS t ht hW⟩, hS.F ht⟩) hS.2.2 d C.locks
theorem zgood {ws : List Cond} (h : ∀ w ∈ ws, w ∈ zTab) : GoodIn zTab ws := fun w hw => ⟨h w hw, good_of_word (List.mem_filter.mp (h w hw)).2⟩
theorem z_in {w : Cond} (i : Nat) (h : lw_tbl[i]? = some w) (g : goodWord w = true) : w ∈ zTab := List.mem_filter.mpr ⟨List.mem_of_getElem? h, g⟩
theorem zgoodC {y : MethodName} {c2 : ByteArray} {n2 : Nat} {rt : Option FieldType} (h : Cond.code y c2 n2 rt ∈ zTab) : ∀ w ∈ (Cond.code y c2 n2 rt :: zTab), w ∈ zTab := fun w hw => (List.mem_cons.mp hw).elim (fun e => e ▸ h) id
theorem zblind {as : List Value} : FrameBlind (va_Pc (as.map (zcv (yA Y))) (zP Y M)) := by
  intro a U g mk h
  obtain ⟨h0, h1, h2, h3, h4, h5, h6⟩ := h
  exact ⟨h0, h1, h2, va_K.moved (u := U) (U := U.calling g mk a) (Vm.Alike.refl U.vm) h3, h4, zNs.same (u := U) (U := U.calling g mk a) rfl h5, zSs.moved (u := U) (U := U.calling g mk a) (Vm.Alike.refl U.vm) h6⟩
/-- a call from here runs, and ends as Q says -/
def zRn (Y : zY) (X : zX) (nL : Nat) (pc : Nat) (lo : List (Nat × Value)) (st0 st : List Value) (M : zMem) (Q : Array Value → State → Outcome → State → Prop) : Prop :=
  ∀ (H : Heap) (locs : List Loc) (ls : Array Slot), va_P (yD Y) vwCl (yW Y M) H → va_D (yF Y) (yW Y M) → va_S (yF Y) (xS X).heap H locs → lv_has ls nL (lo.map (fun q => (q.1, zcv (yA Y) q.2))) →
    ∃ av : Array Value, va_Run (xP X) (xL X) (xE X) (xR X) (xS X) (xM X) (xA X) (xB X) (xH X) (xC X) H locs (xK X) (xN X) 0 0 (F0 (xM X) pc ls (st0.map (zcv (yA Y)))) (st.map (zcv (yA Y))) (Q av) (yF Y)
theorem z_ci {β : Type} {f : Option β} {g : β → Option ρ} {st0 : List Value} (res : β → Int32) (mem : β → zMem) (hr : ∀ b, f = some b → zRn Y X nL pc lo st0 st M (zQi Y (res b) (mem b))) (hn : pc + 3 = n) (kk : ∀ b, zR Y X nL Φ (g b) n lo (.int (res b) :: st) (mem b)) : zR Y X nL Φ (f.bind g) pc lo st0 M := by
  subst hn
  intro a hF H locs ls hP hD hS hl
  cases hf : f with
  | none => rw [hf] at hF; cases hF
  | some b =>
    rw [hf] at hF
    obtain ⟨av, hrun⟩ := hr b hf H locs ls hP hD hS hl
    refine va_calli hrun hS (fun _ _ h => h) (fun _ h => h) (fun r u t H1 locs1 ht hvm hw hB hz1 hk1 hS1 => ?_)
    obtain ⟨rfl, rfl⟩ := hw
    subst ht
    exact kk b a hF t.heap locs1 ls hB.2.1 hB.2.2.2.1 hS1 hl
theorem z_cl {β : Type} {f : Option β} {g : β → Option ρ} {st0 : List Value} (res : β → Int64) (mem : β → zMem) (hr : ∀ b, f = some b → zRn Y X nL pc lo st0 st M (zQl Y (res b) (mem b))) (hn : pc + 3 = n) (kk : ∀ b, zR Y X nL Φ (g b) n lo (.long (res b) :: st) (mem b)) : zR Y X nL Φ (f.bind g) pc lo st0 M := by
  subst hn
  intro a hF H locs ls hP hD hS hl
  cases hf : f with
  | none => rw [hf] at hF; cases hF
  | some b =>
    rw [hf] at hF
    obtain ⟨av, hrun⟩ := hr b hf H locs ls hP hD hS hl
    refine va_calll hrun hS (fun _ _ h => h) (fun _ h => h) (fun r u t H1 locs1 ht hvm hw hB hz1 hk1 hS1 => ?_)
    obtain ⟨rfl, rfl⟩ := hw
    subst ht
    exact kk b a hF t.heap locs1 ls hB.2.1 hB.2.2.2.1 hS1 hl
theorem z_cv {β : Type} {f : Option β} {g : β → Option ρ} {st0 : List Value} (mem : β → zMem) (hr : ∀ b, f = some b → zRn Y X nL pc lo st0 st M (zQv Y (mem b))) (hn : pc + 3 = n) (kk : ∀ b, zR Y X nL Φ (g b) n lo st (mem b)) : zR Y X nL Φ (f.bind g) pc lo st0 M := by
  subst hn
  intro a hF H locs ls hP hD hS hl
  cases hf : f with
  | none => rw [hf] at hF; cases hF
  | some b =>
    rw [hf] at hF
    obtain ⟨av, hrun⟩ := hr b hf H locs ls hP hD hS hl
    refine va_callv hrun hS (fun _ _ h => h) (fun _ h => h) (fun u t H1 locs1 ht hvm hw hB hz1 hk1 hS1 => ?_)
    obtain rfl := hw
    subst ht
    exact kk b a hF t.heap locs1 ls hB.2.1 hB.2.2.2.1 hS1 hl
theorem z_S (C : zC Y X own cc nL R ret) {y : MethodName} {c2 : ByteArray} {n2 : Nat} {rt : Option FieldType} {fr k ix : Nat} {Q : Array Value → State → Outcome → State → Prop} {st0 : List Value} (as : List Value) {na : Nat} (hna : as.length = na) (hM : zMt Y y c2 n2 rt fr k as M Q) (hw1 : Cond.methodLink own ix y ∈ zTab) (hw2 : Cond.static y ∈ zTab) (hw3 : Cond.initialized y.cls ∈ zTab) (hw4 : Cond.code y c2 n2 rt ∈ zTab)
    (hd : y.cls ≠ "java/lang/invoke/MethodHandle" ∧ y.cls ≠ "java/lang/invoke/VarHandle" ∧ (parseMethodDescriptor y.desc).map (fun d => d.parameters.length) = some na) (hR : fr + 1 ≤ R.frames ∧ 8 + (n2 + 11) + k ≤ R.locals) (hcat : (st.map fun v => v.category).sum ≤ 8) (hst : st0 = as.reverse ++ st) (d : decode cc pc = .ok (.invokestatic ix, 3)) : zRn Y X nL pc lo st0 st M Q := by
  intro H locs ls hP hD hS hl
  subst hst
  refine ⟨_, va_runS (As := as.map (zcv (yA Y))) ⟨C.1, C.2.1, C.2.2.1, C.2.2.2.1, C.words⟩ (hM (xL X)) (va_cwS na C.words (zgood ?_) rfl rfl rfl hd (by rw [C.room]; exact hR)) ⟨zblind, fun U hU hW => ⟨rfl, C.P hP hD hS U hU hW⟩⟩ rfl (by rw [List.length_map]; exact hna) hl.1 (by show List.map _ _ = _; rw [List.map_append, List.map_reverse]) (lv_room (by rw [zcv_sum]; exact hcat)) d (by rw [C.room]; exact C.2.2.2.2.2.2.2.2.1)⟩
  intro w hw
  rcases List.mem_append.mp hw with h | h
  · simp only [List.mem_cons, List.not_mem_nil, or_false] at h
    rcases h with rfl | rfl | rfl
    · exact hw1
    · exact hw2
    · exact hw3
  · exact zgoodC hw4 w h
theorem z_SN (C : zC Y X own cc nL R ret) {y : MethodName} {c2 : ByteArray} {n2 : Nat} {rt : Option FieldType} {fr k ix : Nat} {host : String} {Q : Array Value → State → Outcome → State → Prop} {st0 : List Value} (as : List Value) {na : Nat} (hna : as.length = na) (hM : zMt Y y c2 n2 rt fr k as M Q) (hw1 : (own, ix, y, host) ∈ zNM) (hw2 : Cond.static y ∈ zTab) (hw3 : Cond.initialized y.cls ∈ zTab) (hw4 : Cond.code y c2 n2 rt ∈ zTab)
    (hd : y.cls ≠ "java/lang/invoke/MethodHandle" ∧ y.cls ≠ "java/lang/invoke/VarHandle" ∧ (parseMethodDescriptor y.desc).map (fun d => d.parameters.length) = some na) (hR : fr + 1 ≤ R.frames ∧ 8 + (n2 + 11) + k ≤ R.locals) (hcat : (st.map fun v => v.category).sum ≤ 8) (hst : st0 = as.reverse ++ st) (d : decode cc pc = .ok (.invokestatic ix, 3)) : zRn Y X nL pc lo st0 st M Q := by
  intro H locs ls hP hD hS hl
  subst hst
  exact ⟨_, va_runSN (As := as.map (zcv (yA Y))) ⟨C.1, C.2.1, C.2.2.1, C.2.2.2.1, C.words⟩ (hM (xL X)) ⟨va_cnB na C.words (zgood (zgoodC hw4)) rfl rfl rfl (C.N.2.1 _ hw1) (C.words _ hw3) hd (by rw [C.room]; exact hR), C.words _ hw2, trivial⟩ ⟨zblind, fun U hU hW => ⟨rfl, C.P hP hD hS U hU hW⟩⟩ rfl (by rw [List.length_map]; exact hna) hl.1 (by show List.map _ _ = _; rw [List.map_append, List.map_reverse]) (lv_room (by rw [zcv_sum]; exact hcat)) d (by rw [C.room]; exact C.2.2.2.2.2.2.2.2.1)⟩
theorem z_recv (C : zC Y X own cc nL R ret) {q ci : Nat} {r : vw_C} (hq : zkd q = (5, ci)) (hc : vwCl[ci]? = some r) {H : Heap} (hP : va_P (yD Y) vwCl (yW Y M) H) : ∃ cell : Cell, H[yA Y q]? = some cell ∧ cell.vm.isStatics = false ∧ (xS X).vm.findClass r.1 = some cell.cls :=
  va_recv C.K hP hc ((zws_get (z5lt hq)).trans (by rw [zcell5 hq]))
theorem z_V (C : zC Y X own cc nL R ret) {y : MethodName} {c2 : ByteArray} {n2 : Nat} {rt : Option FieldType} {fr k ix q ci : Nat} {r : vw_C} {Q : Array Value → State → Outcome → State → Prop} {st0 : List Value} (as : List Value) {na : Nat} (hna : as.length = na) (hM : zMt Y y c2 n2 rt fr k (.ref q :: as) M Q) (hq : zkd q = (5, ci)) (hc : vwCl[ci]? = some r) (hw1 : Cond.methodLink own ix y ∈ zTab) (hw2 : Cond.instanceMethod y ∈ zTab) (hw5 : Cond.selects r.1 y y ∈ zTab) (hw3 : Cond.initialized r.1 ∈ zTab) (hw4 : Cond.code y c2 n2 rt ∈ zTab)
    (hd : y.cls = r.1 ∧ y.cls ≠ "java/lang/invoke/MethodHandle" ∧ y.cls ≠ "java/lang/invoke/VarHandle" ∧ (parseMethodDescriptor y.desc).map (fun d => d.parameters.length) = some na) (hR : fr + 1 ≤ R.frames ∧ 8 + (n2 + 11) + k ≤ R.locals) (hcat : (st.map fun v => v.category).sum ≤ 8) (hst : st0 = as.reverse ++ .ref q :: st) (d : decode cc pc = .ok (.invokevirtual ix, 3)) : zRn Y X nL pc lo st0 st M Q := by
  intro H locs ls hP hD hS hl
  subst hst
  refine ⟨_, va_runV (As := as.map (zcv (yA Y))) (C := r.1) ⟨C.1, C.2.1, C.2.2.1, C.2.2.2.1, C.words⟩ (hM (xL X)) (cwV na C.words (zgood ?_) rfl rfl rfl hd (by rw [C.room]; exact hR)) ⟨zblind, z_recv C hq hc hP, fun U hU hW => ⟨rfl, C.P hP hD hS U hU hW⟩⟩ rfl (by rw [List.length_map]; exact hna) hl.1 (by show List.map _ _ = _; rw [List.map_append, List.map_reverse]; rfl) (lv_room (by rw [zcv_sum]; exact hcat)) d (by rw [C.room]; exact C.2.2.2.2.2.2.2.2.1)⟩
  intro w hw
  rcases List.mem_append.mp hw with h | h
  · simp only [List.mem_cons, List.not_mem_nil, or_false] at h
    rcases h with rfl | rfl | rfl | rfl
    · exact hw1
    · exact hw2
    · exact hw5
    · exact hw3
  · exact zgoodC hw4 w h
theorem z_VN (C : zC Y X own cc nL R ret) {y : MethodName} {c2 : ByteArray} {n2 : Nat} {rt : Option FieldType} {fr k ix q ci : Nat} {r : vw_C} {host : String} {Q : Array Value → State → Outcome → State → Prop} {st0 : List Value} (as : List Value) {na : Nat} (hna : as.length = na) (hM : zMt Y y c2 n2 rt fr k (.ref q :: as) M Q) (hq : zkd q = (5, ci)) (hc : vwCl[ci]? = some r) (hw1 : (own, ix, y, host) ∈ zNM) (hw2 : Cond.instanceMethod y ∈ zTab) (hw5 : Cond.selects r.1 y y ∈ zTab) (hw3 : Cond.initialized y.cls ∈ zTab) (hw4 : Cond.code y c2 n2 rt ∈ zTab)
    (hd : y.cls ≠ "java/lang/invoke/MethodHandle" ∧ y.cls ≠ "java/lang/invoke/VarHandle" ∧ (parseMethodDescriptor y.desc).map (fun d => d.parameters.length) = some na) (hR : fr + 1 ≤ R.frames ∧ 8 + (n2 + 11) + k ≤ R.locals) (hcat : (st.map fun v => v.category).sum ≤ 8) (hst : st0 = as.reverse ++ .ref q :: st) (d : decode cc pc = .ok (.invokevirtual ix, 3)) : zRn Y X nL pc lo st0 st M Q := by
  intro H locs ls hP hD hS hl
  subst hst
  exact ⟨_, va_runVN (As := as.map (zcv (yA Y))) (C := r.1) ⟨C.1, C.2.1, C.2.2.1, C.2.2.2.1, C.words⟩ (hM (xL X)) ⟨va_cnB na C.words (zgood (zgoodC hw4)) rfl rfl rfl (C.N.2.1 _ hw1) (C.words _ hw3) hd (by rw [C.room]; exact hR), C.words _ hw2, C.words _ hw5⟩ ⟨zblind, z_recv C hq hc hP, fun U hU hW => ⟨rfl, C.P hP hD hS U hU hW⟩⟩ rfl (by rw [List.length_map]; exact hna) hl.1 (by show List.map _ _ = _; rw [List.map_append, List.map_reverse]; rfl) (lv_room (by rw [zcv_sum]; exact hcat)) d (by rw [C.room]; exact C.2.2.2.2.2.2.2.2.1)⟩
end ZR
/-- a contract out of a walk of the body -/
theorem zMt_of {Y : zY} {y : MethodName} {own : String} {cc : ByteArray} {nL fr k : Nat} {ret : Option FieldType} {as : List Value} {M : zMem} {Q : Array Value → State → Outcome → State → Prop} (hy : plainName y.cls = true) (ho : y.cls = own) (hlen : (lg_sl as).length ≤ nL)
    (body : ∀ X : zX, zC Y X own cc nL (zrm fr k) ret → zG Y X nL (MQ (xB X) Q (xA X) (xS X) (xK X) (xN X) (yF Y)) 0 (lv_args 0 as) [] M) : zMt Y y cc nL ret fr k as M Q := by
  intro l
  subst ho
  refine Met.ofW (cc := cc) (maxL := nL) (ret := ret) hy rfl ?_
  intro p e s m args below meth c s₁ B hml hv
  obtain ⟨rfl, hb0, hP, hK, hD, hN, hSs⟩ := hv
  rw [lg_entry_eq]
  have hl := lv_entry (as.map (zcv (yA Y))) (n := nL) (by rw [zcv_sl]; exact hlen)
  rw [zcv_args] at hl
  exact body (p, l, e, zrm fr k, s, m, (as.map (zcv (yA Y))).toArray, below, meth, c, 0, 0) ⟨B.exec, B.bytes, hml, findClass_of_methodNamed B.named, fun w hw => atoms_spec (ws := Cond.code y cc nL ret :: zTab) B.pre w (List.mem_cons_of_mem _ hw), B.notSynchronized, B.returns, rfl, ⟨Nat.zero_le _, Nat.zero_le _⟩, hb0, hK, hN, hSs⟩ s.heap [] _ hP hD va_S.rf hl
/-- the same for a member that the machine has no entry for, of a class that has entries -/
theorem zMt_ofF {Y : zY} {y : MethodName} {own : String} {cc : ByteArray} {nL fr k : Nat} {ret : Option FieldType} {as : List Value} {M : zMem} {Q : Array Value → State → Outcome → State → Prop} (hy : plainFor y = true) (ho : y.cls = own) (hlen : (lg_sl as).length ≤ nL)
    (body : ∀ X : zX, zC Y X own cc nL (zrm fr k) ret → zG Y X nL (MQ (xB X) Q (xA X) (xS X) (xK X) (xN X) (yF Y)) 0 (lv_args 0 as) [] M) : zMt Y y cc nL ret fr k as M Q := by
  intro l
  subst ho
  refine va_MetF (cc := cc) (maxL := nL) (ret := ret) hy rfl ?_
  intro p e s m args below meth c s₁ B hml hv
  obtain ⟨rfl, hb0, hP, hK, hD, hN, hSs⟩ := hv
  rw [lg_entry_eq]
  have hl := lv_entry (as.map (zcv (yA Y))) (n := nL) (by rw [zcv_sl]; exact hlen)
  rw [zcv_args] at hl
  exact body (p, l, e, zrm fr k, s, m, (as.map (zcv (yA Y))).toArray, below, meth, c, 0, 0) ⟨B.exec, B.bytes, hml, findClass_of_methodNamed B.named, fun w hw => atoms_spec (ws := Cond.code y cc nL ret :: zTab) B.pre w (List.mem_cons_of_mem _ hw), B.notSynchronized, B.returns, rfl, ⟨Nat.zero_le _, Nat.zero_le _⟩, hb0, hK, hN, hSs⟩ s.heap [] _ hP hD va_S.rf hl
