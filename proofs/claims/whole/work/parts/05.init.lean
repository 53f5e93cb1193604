/-! ===== CONSTRUCTORS: a world that grows: the first n cells are there, objects under construction hold what the list P says ===== -/
def zPl (P : List (Nat × List Value)) (q : Nat) : Option (List Value) := (P.find? (fun x => x.1 == q)).map (fun x => x.2)
def zcellP (ad : Nat → Nat) (cy : Nat → ClassId) (P : List (Nat × List Value)) (M : zMem) (q : Nat) : va_E := match zPl P q with
  | some fs => .inr ((zkd q).2, fs.map (zcv ad))
  | none => zcell ad cy M q
def zOf (Y : zY) : Prop := ∀ q, q < 119 → yA Y q = yB Y + q
def zPw (Y : zY) (n : Nat) (P : List (Nat × List Value)) (M : zMem) (H : Heap) : Prop := H.size = yB Y + n ∧ n ≤ 119 ∧ ∀ q, q < n → va_at (yD Y) vwCl (yB Y + q, zcellP (yA Y) (yC Y) P M q) H
def zPq (Y : zY) (n : Nat) (P : List (Nat × List Value)) (M : zMem) (U : State) : Prop := zPw Y n P M U.heap ∧ va_K (yD Y) vwCl (ztys (yC Y)) U ∧ zNs U ∧ zSs Y U U.heap
def zrm4 (f c s k : Nat) : Room := { frames := f, cells := c, slots := s, locals := k }
def zMp (Y : zY) (y : MethodName) (cc : ByteArray) (nL : Nat) (f k mc ms : Nat) (as : List Value) (n : Nat) (P : List (Nat × List Value)) (M : zMem) (n' : Nat) (P' : List (Nat × List Value)) (M' : zMem) : Prop :=
  ∀ l : Launch, Met l y (Cond.code y cc nL none :: zTab) (zrm4 f mc ms k) (va_Pc (as.map (zcv (yA Y))) (zPq Y n P M)) (va_Qv (fun _ : Unit => True) (fun _ => zPq Y n' P' M') (yF Y)) mc ms (yF Y)
def zGp (Y : zY) (X : zX) (nL : Nat) (c sl : Nat) (Φ : State → Prop) (n : Nat) (P : List (Nat × List Value)) (M : zMem) (pc : Nat) (lo : List (Nat × Value)) (st : List Value) : Prop :=
  ∀ (H : Heap) (locs : List Loc) (ls : Array Slot), zPw Y n P M H → va_S (yF Y) (xS X).heap H locs → lv_has ls nL (lo.map (fun q => (q.1, zcv (yA Y) q.2))) →
    W (xP X) (xL X) (xE X) (xR X) (xS X) (xM X) (xA X) (xB X) (xH X) (xC X) H locs c sl Φ (F0 (xM X) pc ls (st.map (zcv (yA Y))))
section ZP
variable {Y : zY} {X : zX} {own : String} {cc : ByteArray} {nL : Nat} {R : Room} {ret : Option FieldType} {Φ : State → Prop} {pc n m c sl : Nat} {P : List (Nat × List Value)} {M : zMem} {lo lo' : List (Nat × Value)} {st : List Value}
theorem zPq_of (C : zC Y X own cc nL R ret) {H : Heap} {locs : List Loc} (hw : zPw Y n P M H) (hS : va_S (yF Y) (xS X).heap H locs) : ∀ U : State, U.heap = H → (xS X).WarmedH U.vm → zPq Y n P M U := by
  intro U hU hW
  subst hU
  exact ⟨hw, va_K.moved hW.alike C.K, C.N.warm hW, (C.S.kept (fun a h1 h2 => hS.2.1 a h1 h2)).moved hW.alike⟩
theorem p_iconst (C : zC Y X own cc nL R ret) {k : Int} (v : Int32) (d : decode cc pc = .ok (.iconst k, 1)) (hv : Int32.ofInt k = v) (hn : pc + 1 = m) (kk : zGp Y X nL c sl Φ n P M m lo (.int v :: st)) : zGp Y X nL c sl Φ n P M pc lo st := by
  subst hn; intro H locs ls hw hS hl
  exact lv_iconst C.1 C.2.1 d hv (kk H locs ls hw hS hl)
theorem p_bipush (C : zC Y X own cc nL R ret) {k : Int} (v : Int32) (d : decode cc pc = .ok (.bipush k, 2)) (hv : (Int8.ofInt k).toInt32 = v) (hn : pc + 2 = m) (kk : zGp Y X nL c sl Φ n P M m lo (.int v :: st)) : zGp Y X nL c sl Φ n P M pc lo st := by
  subst hn; intro H locs ls hw hS hl
  exact lv_bipush C.1 C.2.1 d hv (kk H locs ls hw hS hl)
theorem p_sipush (C : zC Y X own cc nL R ret) {k : Int} (v : Int32) (d : decode cc pc = .ok (.sipush k, 3)) (hv : (Int16.ofInt k).toInt32 = v) (hn : pc + 3 = m) (kk : zGp Y X nL c sl Φ n P M m lo (.int v :: st)) : zGp Y X nL c sl Φ n P M pc lo st := by
  subst hn; intro H locs ls hw hS hl
  exact lv_sipush C.1 C.2.1 d hv (kk H locs ls hw hS hl)
theorem p_ldc (C : zC Y X own cc nL R ret) {ix : Nat} {v : Int32} (hw : Cond.constant own ix v ∈ zTab) (d : decode cc pc = .ok (.ldc ix, 2)) (hn : pc + 2 = m) (kk : zGp Y X nL c sl Φ n P M m lo (.int v :: st)) : zGp Y X nL c sl Φ n P M pc lo st := by
  subst hn; intro H locs ls hp hS hl
  exact lv_ldc C.1 C.2.1 C.2.2.2.1 (C.words _ hw) d (kk H locs ls hp hS hl)
theorem p_iload_n (C : zC Y X own cc nL R ret) {k : Fin 4} {i : Nat} {x : Int32} (pl : Nat) (d : decode cc pc = .ok (.iload_n k, 1)) (hi : (k : Nat) = i) (hk : lo[pl]? = some (i, .int x)) (hn : pc + 1 = m) (kk : zGp Y X nL c sl Φ n P M m lo (.int x :: st)) : zGp Y X nL c sl Φ n P M pc lo st := by
  subst hn; intro H locs ls hw hS hl
  exact lv_iload_n C.1 C.2.1 d hi (zl_at hl pl hk) (kk H locs ls hw hS hl)
theorem p_aload_n (C : zC Y X own cc nL R ret) {k : Fin 4} {i q : Nat} (pl : Nat) (d : decode cc pc = .ok (.aload_n k, 1)) (hi : (k : Nat) = i) (hk : lo[pl]? = some (i, .ref q)) (hn : pc + 1 = m) (kk : zGp Y X nL c sl Φ n P M m lo (.ref q :: st)) : zGp Y X nL c sl Φ n P M pc lo st := by
  subst hn; intro H locs ls hw hS hl
  exact lv_aload_n C.1 C.2.1 d hi (zl_at hl pl hk) (kk H locs ls hw hS hl)
theorem p_istore_n (C : zC Y X own cc nL R ret) {k : Fin 4} {i : Nat} {x : Int32} (d : decode cc pc = .ok (.istore_n k, 1)) (hi : (k : Nat) = i) (hin : i < nL) (hl' : (i, Value.int x) :: lo.filter (fun q => !(q.1 == i) && !(q.1 + 1 == i && q.2.category == 2)) = lo') (hn : pc + 1 = m) (kk : zGp Y X nL c sl Φ n P M m lo' st) : zGp Y X nL c sl Φ n P M pc lo (.int x :: st) := by
  subst hn; intro H locs ls hw hS hl
  exact lv_istore_n C.1 C.2.1 d hi hl hin ((zl_set1 _ i (.int x) lo).trans (by rw [hl'])) (fun ls' hl2 => kk H locs ls' hw hS hl2)
theorem p_astore_n (C : zC Y X own cc nL R ret) {k : Fin 4} {i q : Nat} (d : decode cc pc = .ok (.astore_n k, 1)) (hi : (k : Nat) = i) (hin : i < nL) (hl' : (i, Value.ref q) :: lo.filter (fun q => !(q.1 == i) && !(q.1 + 1 == i && q.2.category == 2)) = lo') (hn : pc + 1 = m) (kk : zGp Y X nL c sl Φ n P M m lo' st) : zGp Y X nL c sl Φ n P M pc lo (.ref q :: st) := by
  subst hn; intro H locs ls hw hS hl
  exact lv_astore_n C.1 C.2.1 d hi hl hin ((zl_set1 _ i (.ref q) lo).trans (by rw [hl'])) (fun ls' hl2 => kk H locs ls' hw hS hl2)
theorem p_iinc (C : zC Y X own cc nL R ret) {i : Nat} {k : Int} {x v : Int32} (pl : Nat) (d : decode cc pc = .ok (.iinc i k, 3)) (hk : lo[pl]? = some (i, .int x)) (hv : x + Int32.ofInt k = v) (hin : i < nL) (hl' : (i, Value.int v) :: lo.filter (fun q => !(q.1 == i) && !(q.1 + 1 == i && q.2.category == 2)) = lo') (hn : pc + 3 = m) (kk : zGp Y X nL c sl Φ n P M m lo' st) : zGp Y X nL c sl Φ n P M pc lo st := by
  subst hn; intro H locs ls hw hS hl
  exact lv_iinc C.1 C.2.1 d hl (k := pl) (by rw [List.getElem?_map, hk]; rfl) hv hin ((zl_set1 _ i (.int v) lo).trans (by rw [hl'])) (fun ls' hl2 => kk H locs ls' hw hS hl2)
theorem p_perm (ks : List Nat) (hl : lv_pick lo ks = lo') (k : zGp Y X nL c sl Φ n P M pc lo' st) : zGp Y X nL c sl Φ n P M pc lo st := fun H locs ls hw hS h => k H locs ls hw hS (zl_sub h ks hl)
theorem p_dup (C : zC Y X own cc nL R ret) {v : Value} (d : decode cc pc = .ok (.dup, 1)) (hv : v.category = 1) (hn : pc + 1 = m) (kk : zGp Y X nL c sl Φ n P M m lo (v :: v :: st)) : zGp Y X nL c sl Φ n P M pc lo (v :: st) := by
  subst hn; intro H locs ls hw hS hl
  exact lv_dup C.1 C.2.1 d (by rw [zcv_cat]; exact hv) (kk H locs ls hw hS hl)
theorem p_goto (C : zC Y X own cc nL R ret) {off : Int} (d : decode cc pc = .ok (.goto off, 3)) (ht : (pc : Int) + off = (m : Int)) (kk : zGp Y X nL c sl Φ n P M m lo st) : zGp Y X nL c sl Φ n P M pc lo st := by
  intro H locs ls hw hS hl
  exact lv_goto C.1 C.2.1 d ht (kk H locs ls hw hS hl)
theorem p_icmpge (C : zC Y X own cc nL R ret) {x y : Int32} {off : Int} {t : Nat} (d : decode cc pc = .ok (.if_icmp .ge off, 3)) (ht : (pc : Int) + off = (t : Int)) (hn : pc + 3 = m) (kt : y ≤ x → zGp Y X nL c sl Φ n P M t lo st) (kf : ¬ y ≤ x → zGp Y X nL c sl Φ n P M m lo st) : zGp Y X nL c sl Φ n P M pc lo (.int y :: .int x :: st) := by
  subst hn; intro H locs ls hw hS hl
  exact lv_icmp_ge C.1 C.2.1 d ht (fun h => kt h H locs ls hw hS hl) (fun h => kf h H locs ls hw hS hl)
theorem p_widen {c' sl' : Nat} (h1 : c ≤ c') (h2 : sl ≤ sl') (kk : zGp Y X nL c' sl' Φ n P M pc lo st) : zGp Y X nL c sl Φ n P M pc lo st := fun H locs ls hw hS hl => W.widen h1 h2 (kk H locs ls hw hS hl)
theorem p_objInit (C : zC Y X own cc nL R ret) {q ix : Nat} (h1 : Cond.methodLink own ix objectInit ∈ zTab) (h2 : Cond.instanceMethod objectInit ∈ zTab) (h3 : Cond.code objectInit ⟨#[0xb1]⟩ 1 none ∈ zTab) (d : decode cc pc = .ok (.invokespecial ix, 3)) (hR1 : 1 ≤ R.frames) (hR2 : (st.map fun v => v.category).sum + 12 ≤ R.locals) (hn : pc + 3 = m) (kk : zGp Y X nL c sl Φ n P M m lo st) : zGp Y X nL c sl Φ n P M pc lo (.ref q :: st) := by
  subst hn; intro H locs ls hw hS hl
  exact W.objInit C.1 C.2.1 C.2.2.2.1 (C.words _ h1) (C.words _ h2) (C.words _ h3) rfl (by rw [C.2.2.1]; exact hl.1) rfl d (by rw [C.room]; exact hR1) (by rw [zcv_sum, C.room]; show 2 * 0 + _ + 12 ≤ _; omega) (kk H locs ls hw hS hl)
theorem zPl_cons_self {q : Nat} {fs : List Value} : zPl ((q, fs) :: P) q = some fs := by simp [zPl]
theorem zPl_cons_ne {q k : Nat} {fs : List Value} (h : k ≠ q) : zPl ((q, fs) :: P) k = zPl P k := by
  have h' : (q == k) = false := by simp; exact fun e => h e.symm
  simp [zPl, List.find?, h']
theorem zcellP_cons_ne {ad : Nat → Nat} {cy : Nat → ClassId} {q k : Nat} {fs : List Value} (h : k ≠ q) : zcellP ad cy ((q, fs) :: P) M k = zcellP ad cy P M k := by
  unfold zcellP; rw [zPl_cons_ne h]
theorem zcellP_some {ad : Nat → Nat} {cy : Nat → ClassId} {q : Nat} {fs : List Value} (h : zPl P q = some fs) : zcellP ad cy P M q = .inr ((zkd q).2, fs.map (zcv ad)) := by
  unfold zcellP; rw [h]
theorem zcellP_none {ad : Nat → Nat} {cy : Nat → ClassId} {q : Nat} (h : zPl P q = none) : zcellP ad cy P M q = zcell ad cy M q := by
  unfold zcellP; rw [h]
theorem zPS {H H1 : Heap} {locs : List Loc} (hS : va_S (yF Y) (xS X).heap H locs) (hz : H.size ≤ H1.size) (ho : ∀ x : Nat, x < H.size → H1[x]? = H[x]?) : va_S (yF Y) (xS X).heap H1 locs :=
  ⟨Nat.le_trans hS.1 hz, fun x h1 h2 => (ho x (Nat.lt_of_lt_of_le h1 hS.1)).trans (hS.2.1 x h1 h2), hS.2.2⟩
theorem p_new (C : zC Y X own cc nL R ret) {q ci N ix : Nat} {Cn : String} {T : u_T} {ty0 : Nat → FieldType} (fs : List Value) (hO : zOK ci Cn T N ty0) (hw1 : Cond.classLink own ix Cn ∈ zTab) (hw2 : Cond.instantiable Cn N ∈ zTab) (hw3 : Cond.initialized Cn ∈ zTab) (hY : zOf Y) (hq : q = n) (hkd : (zkd q).2 = ci) (h119 : n < 119) (hfs : ∀ j, j < N → defaultValue (ty0 j) = vp_V fs j) (hnr : ∀ ad, fs.map (zcv ad) = fs) (hc : c + 1 ≤ R.cells) (hs : sl + N ≤ R.slots) (d : decode cc pc = .ok (.new ix, 3)) (hn : pc + 3 = m) (kk : zGp Y X nL (c + 1) (sl + N) Φ (n + 1) ((q, fs) :: P) M m lo (.ref q :: st)) : zGp Y X nL c sl Φ n P M pc lo st := by
  subst hn; intro H locs ls hw hS hl
  obtain ⟨hz, h9, hat⟩ := hw
  have hKn := C.K.1 ci _ hO.1
  refine W.newcK C.1 C.2.1 C.2.2.2.1 (C.words _ hw1) (C.words _ hw2) (C.words _ hw3) rfl d (by rw [C.room]; exact hc) (by rw [C.room]; exact hs) hKn.2.1 hz (fun H1 kC hkC e1 z1 o1 => ?_)
  have hr : zcv (yA Y) (.ref q) = Value.ref (yB Y + n) := by subst hq; show Value.ref (yA Y q) = _; rw [hY q h119]
  have hk : zPw Y (n + 1) ((q, fs) :: P) M H1 := by
    refine ⟨by omega, by omega, fun k hk => ?_⟩
    by_cases e : k = n
    · subst e
      subst hq
      rw [zcellP_some zPl_cons_self, hnr, hkd]
      exact ⟨_, hO.1, (u_born ty0 C.words hO.2.1 hKn hkC e1 hO.2.2.1).to hfs⟩
    · rw [zcellP_cons_ne (by omega)]
      exact (hat k (by omega)).kept (o1 _ (by show yB Y + k < _; omega))
  have g := kk H1 locs ls hk (zPS hS (by omega) (fun x hx => o1 x (by omega))) hl
  rw [List.map_cons, hr] at g
  exact g
theorem p_newa (C : zC Y X own cc nL R ret) {q k t : Nat} {atype : ArrayType} {x : Int32} {ty : FieldType} (hty : newarray.typeOf atype = ty) (hdv : defaultValue ty = .int 0) (ht : (ztys (yC Y))[t]? = some (yC Y t, ty)) (hra : ∀ (U : State) (cA : ClassId), va_RA U cA ty → U.vm.findClass ("[" ++ ty.toString) = some cA) (hcell : zcell (yA Y) (yC Y) M q = .inl (yC Y t, k, .inl (M.1 q))) (hw : Cond.arrayClass ty ∈ zTab) (hx0 : ¬ x < 0) (hx : x.toNatClampNeg = k) (hbt : k * componentBytes ty ≤ 536870912) (hq : q = n) (h119 : n < 119) (hY : zOf Y) (hP : zPl P q = none) (hM : M.1 q = fun _ => 0) (hc : c + 1 ≤ R.cells) (hs : sl + k ≤ R.slots) (d : decode cc pc = .ok (.newarray atype, 2)) (hn : pc + 2 = m) (kk : zGp Y X nL (c + 1) (sl + k) Φ (n + 1) P M m lo (.ref q :: st)) : zGp Y X nL c sl Φ n P M pc lo (.int x :: st) := by
  subst hn; subst hty; intro H locs ls hw1 hS hl
  obtain ⟨hz, h9, hat⟩ := hw1
  refine va_newaK C.1 C.2.1 (C.words _ hw) rfl d rfl hx0 hx hbt (by rw [C.room]; exact hc) (by rw [C.room]; exact hs) hz (fun H1 cA e1 z1 o1 hAr hNm => ?_)
  have hcA : cA = yC Y t := Option.some.inj (hNm.symm.trans (hra _ _ (C.K.2 t _ ht).2))
  have hr : zcv (yA Y) (.ref q) = Value.ref (yB Y + n) := by subst hq; show Value.ref (yA Y q) = _; rw [hY q h119]
  have hk : zPw Y (n + 1) P M H1 := by
    refine ⟨by omega, by omega, fun j hj => ?_⟩
    by_cases e : j = n
    · subst e
      subst hq
      rw [zcellP_none hP, hcell]
      show H1[_]? = some (vp_cell _ _)
      rw [vp_cell_i, hM, e1, hcA, hdv]
    · exact (hat j (by omega)).kept (o1 _ (by show yB Y + j < _; omega))
  have g := kk H1 locs ls hk (zPS hS (by omega) (fun x hx => o1 x (by omega))) hl
  rw [List.map_cons, hr] at g
  exact g
theorem p_mna (C : zC Y X own cc nL R ret) {q a b ix : Nat} {x y : Int32} (hcl : Cond.classLink own ix "[[I" ∈ zTab) (hac : Cond.arrayClass .int ∈ zTab) (hx0 : ¬ x < 0) (hy0 : ¬ y < 0) (hx : x.toNatClampNeg = a) (hy : y.toNatClampNeg = b) (h4a : a ≤ 1000) (h4b : b ≤ 1000) (hq : q = n) (h119 : n + 1 + a ≤ 119) (hY : zOf Y) (hP : ∀ j, j ≤ a → zPl P (q + j) = none) (hM : ∀ j, j ≤ a → M.1 (q + j) = fun _ => 0) (hk4 : zkd q = (4, a)) (hk1 : ∀ j, j < a → zkd (q + 1 + j) = (1, b)) (hc : c + (1 + a) ≤ R.cells) (hs : sl + (a + a * b) ≤ R.slots) (d : decode cc pc = .ok (.multianewarray ix 2, 4)) (hn : pc + 4 = m) (kk : zGp Y X nL (c + 1 + a) (sl + a + a * b) Φ (n + 1 + a) P M m lo (.ref q :: st)) : zGp Y X nL c sl Φ n P M pc lo (.int y :: .int x :: st) := by
  subst hn; subst hx; subst hy
  intro H locs ls hw1 hS hl
  obtain ⟨hz, h9, hat⟩ := hw1
  intro T hT Xs
  have hcy : (xS X).vm.findClass (FieldType.array .int).toString = some (yC Y 0) := (C.K.2 0 _ rfl).2
  obtain ⟨vm₁, cA, comp, -, fA, fC, hO, -, X', step⟩ := Xs.multianewarray2F C.1 C.2.2.2.1 (C.words _ hcl) (ty := .int) (va_AOA.use C.N.2.2) (C.words _ hac) (g := F0 (xM X) pc ls (.int y :: .int x :: st.map (zcv (yA Y)))) rfl (by rw [C.2.1]; exact d) rfl hx0 hy0 (by omega) (by show _ * 4 ≤ _; omega) (by omega) rfl rfl (by rw [C.room]; exact hc) (by rw [C.room]; exact hs)
  have ec : some (yC Y 0) = some comp := hcy.symm.trans fC
  cases ec
  have hA3 : cA = yC Y 3 := Option.some.inj (fA.symm.trans (C.K.2 3 _ rfl).2)
  subst hA3
  generalize hF : Jvm.Free.Multi.fill (T.setVm vm₁) (yC Y 3) (yC Y 0) x.toNatClampNeg y.toNatClampNeg (defaultValue .int) x.toNatClampNeg = F at X' step
  have hTh : (T.setVm vm₁).heap = H := hT
  obtain ⟨f1, f2, -, -⟩ := Jvm.Free.Multi.fill_facts (T.setVm vm₁) (yC Y 3) (yC Y 0) x.toNatClampNeg y.toNatClampNeg (defaultValue .int) x.toNatClampNeg
  rw [hF, hTh] at f1 f2
  have hold : ∀ z : Nat, z < H.size → F.heap[z]? = H[z]? := fun z hz => by
    have := Jvm.Free.Multi.fill_old (T.setVm vm₁) (yC Y 3) (yC Y 0) x.toNatClampNeg y.toNatClampNeg (defaultValue .int) (a := z) (by rw [hTh]; exact hz) x.toNatClampNeg
    rw [hF, hTh] at this
    exact this
  have hinn : ∀ q : Nat, M.1 q = (fun _ => 0) → Jvm.Free.Multi.innerC (yC Y 0) y.toNatClampNeg (defaultValue .int) = vp_cell (yC Y 0) (y.toNatClampNeg, .inl (M.1 q)) := fun q h => by
    rw [vp_cell_i, h]
    exact arrV_new _ _ _
  have hrow : ∀ j : Nat, j < x.toNatClampNeg → F.heap[H.size + 1 + j]? = some (vp_cell (yC Y 0) (y.toNatClampNeg, .inl (M.1 (q + 1 + j)))) := fun j hj => by
    have := Jvm.Free.Multi.fill_inner (T.setVm vm₁) (yC Y 3) (yC Y 0) x.toNatClampNeg y.toNatClampNeg (defaultValue .int) x.toNatClampNeg j hj
    rw [hF, hTh, hinn (q + 1 + j) (by have := hM (1 + j) (by omega); rw [show q + (1 + j) = q + 1 + j by omega] at this; exact this)] at this
    exact this
  have hout : Jvm.Free.Multi.outerC (yC Y 3) x.toNatClampNeg H.size x.toNatClampNeg = vp_cell (yC Y 3) (x.toNatClampNeg, .inr (.inr (.inr (.inr (fun i => if i < x.toNatClampNeg then some (H.size + 1 + i) else none))))) := by
    rw [vp_cell_q]
    exact vr_outer (yC Y 3) x.toNatClampNeg H.size x.toNatClampNeg
  rw [hout] at f2
  have hr : zcv (yA Y) (.ref q) = Value.ref (yB Y + n) := by subst hq; show Value.ref (yA Y q) = _; rw [hY q (by omega)]
  have hk : zPw Y (n + 1 + x.toNatClampNeg) P M F.heap := by
    refine ⟨by omega, by omega, fun j hj => ?_⟩
    by_cases e : j < n
    · exact (hat j e).kept (hold _ (by show yB Y + j < _; omega))
    · by_cases e2 : j = n
      · subst e2
        subst hq
        have hp0 := hP 0 (Nat.zero_le _)
        rw [Nat.add_zero] at hp0
        rw [zcellP_none hp0, zcell4 (by rw [hk4]) (by rw [hk4])]
        show F.heap[_]? = some (vp_cell _ _)
        rw [← hz, f2]
        congr 2
        refine congrArg (fun g => (x.toNatClampNeg, Sum.inr (Sum.inr (Sum.inr (Sum.inr g))))) (funext fun i => ?_)
        by_cases hi : i < x.toNatClampNeg
        · rw [if_pos hi, if_pos hi, hY _ (by omega)]
          exact congrArg some (by omega)
        · rw [if_neg hi, if_neg hi]
      · obtain ⟨i, rfl⟩ : ∃ i, j = n + 1 + i := ⟨j - (n + 1), by omega⟩
        have hi : i < x.toNatClampNeg := by omega
        subst hq
        have hpn : zPl P (q + 1 + i) = none := by have := hP (1 + i) (by omega); rw [show q + (1 + i) = q + 1 + i by omega] at this; exact this
        rw [zcellP_none hpn, zcell1 (by rw [hk1 i hi]) (by rw [hk1 i hi])]
        have := hrow i hi
        show F.heap[_]? = some (vp_cell _ _)
        rw [show yB Y + (q + 1 + i) = H.size + 1 + i by omega]
        exact this
  obtain ⟨t, a1, b1⟩ := kk F.heap locs ls hk (zPS hS (by omega) hold) hl F rfl X'
  refine ⟨t, step t ?_, b1⟩
  have e : T.heap.size = H.size := by rw [hT]
  rw [e, hz]
  rw [List.map_cons, hr] at a1
  exact a1
theorem zPw_put {q k ci : Nat} {fs : List Value} {v : Value} {H H1 : Heap} {r : vw_C} (hw : zPw Y n P M H) (hqn : q < n) (hY : zOf Y) (e : va_at (yD Y) vwCl (yA Y q, .inr (ci, ((fs.set k v).map (zcv (yA Y))))) H1) (hkd : (zkd q).2 = ci) (e2 : H1.size = H.size) (e3 : ∀ x, x ≠ yA Y q → H1[x]? = H[x]?) : zPw Y n ((q, fs.set k v) :: P) M H1 := by
  obtain ⟨hz, h9, hat⟩ := hw
  have hq : yA Y q = yB Y + q := hY q (by omega)
  refine ⟨by omega, h9, fun j hj => ?_⟩
  by_cases ej : j = q
  · subst ej
    rw [zcellP_some zPl_cons_self, hkd, ← hq]
    exact e
  · rw [zcellP_cons_ne ej]
    exact (hat j hj).kept (e3 _ (by show yB Y + j ≠ _; omega))
theorem p_put (C : zC Y X own cc nL R ret) {ci N ix q : Nat} {Cn ref : String} {T : u_T} {ty0 : Nat → FieldType} (k : Nat) {v : Value} {fs fs' : List Value} (hO : zOK ci Cn T N ty0) (hY : zOf Y) (hkd : (zkd q).2 = ci) (hP : zPl P q = some fs) (hqn : q < n) (hk : k < N) (hw : Cond.fieldLink own ix ref (T k).2.1 (T k).2.2.1 ∈ zTab) (hs : ref = (T k).1) (hfin : (T k).2.2.2 = false) (hn2 : ∀ ad, narrow (ty0 k) (zcv ad v) = zcv ad v) (hfit : ∀ ad, fits (ty0 k) (zcv ad v) = true) (hl9 : k < fs.length) (hfs : fs.set k v = fs') (d : decode cc pc = .ok (.putfield ix, 3)) (hn : pc + 3 = m) (kk : zGp Y X nL c sl Φ n ((q, fs') :: P) M m lo st) : zGp Y X nL c sl Φ n P M pc lo (v :: .ref q :: st) := by
  subst hn; subst hfs
  intro H locs ls hw1 hS hl
  have hat := hw1.2.2 q hqn
  have h119 : q < 119 := by have := hw1.2.1; omega
  rw [zcellP_some hP, hkd, ← hY q h119] at hat
  have hap := va_apart (own := own) C.words hO.2.1 ty0 hO.2.2.1 hO.2.2.2 C.K hO.1
  obtain ⟨r, h1, cell, q1, q2, q3, q4⟩ := hat
  have hr : r = (Cn, T, N) := Option.some.inj (h1.symm.trans hO.1)
  subst hr
  obtain ⟨hSl, hfc, kC, hkC, hkind⟩ := C.K.1 ci _ hO.1
  obtain ⟨cf, kf, fi, f, hi, hsl⟩ := hSl k hk
  have hlay := C.words _ (hO.2.1 _ (u_in_lay hk))
  unfold u_lay at hlay
  rw [if_neg (by rw [hfin]; decide)] at hlay
  have hst := (u_facts hfc hkC (u_lays C.words hO.2.1 hk) hi).1
  have h6 := u_store hfc hkC hkind hlay hi (hO.2.2.1 k hk) (hn2 (yA Y)) (hfit (yA Y))
  refine W.putK C.1 C.2.1 (f := f) ⟨C.2.2.2.1, C.words _ hw, ⟨_, _, _, by rw [hs]; exact hi⟩, hst⟩ (by rw [q2]; exact h6) q1 q3 (by rw [hsl]; exact k2_hasslot (q4 k hk)) rfl rfl d fun H' e1 e2 e3 => ?_
  rw [hsl] at e1 ⊢
  have hlm : k < (fs.map (zcv (yA Y))).length := by rw [List.length_map]; exact hl9
  refine kk H' _ ls (zPw_put (r := (Cn, T, N)) hw1 hqn hY ⟨_, hO.1, t_OB.to (V := updV (vp_V (fs.map (zcv (yA Y)))) k (zcv (yA Y) v)) ⟨_, e1, q2, q3, t_set q4 hap hk _⟩ (fun j _ => by rw [List.map_set]; exact vp_updV_set hlm _ j)⟩ hkd e2 e3) (hS.put e2 e3 (by show yB Y ≤ yA Y q; rw [hY q h119]; omega)) hl
theorem p_putF (C : zC Y X own cc nL R ret) (hin : (xH X).name = "<init>") {ci N ix q : Nat} {Cn ref : String} {T : u_T} {ty0 : Nat → FieldType} (k : Nat) {v : Value} {fs fs' : List Value} (hO : zOK ci Cn T N ty0) (hY : zOf Y) (hkd : (zkd q).2 = ci) (hP : zPl P q = some fs) (hqn : q < n) (hk : k < N) (hw : Cond.fieldLink own ix ref (T k).2.1 (T k).2.2.1 ∈ zTab) (hs : ref = (T k).1) (hfin : (T k).2.2.2 = true) (hdecl : (T k).1 = own) (hn2 : ∀ ad, narrow (ty0 k) (zcv ad v) = zcv ad v) (hfit : ∀ ad, fits (ty0 k) (zcv ad v) = true) (hl9 : k < fs.length) (hfs : fs.set k v = fs') (d : decode cc pc = .ok (.putfield ix, 3)) (hn : pc + 3 = m) (kk : zGp Y X nL c sl Φ n ((q, fs') :: P) M m lo st) : zGp Y X nL c sl Φ n P M pc lo (v :: .ref q :: st) := by
  subst hn; subst hfs
  intro H locs ls hw1 hS hl
  have hat := hw1.2.2 q hqn
  have h119 : q < 119 := by have := hw1.2.1; omega
  rw [zcellP_some hP, hkd, ← hY q h119] at hat
  have hap := va_apart (own := own) C.words hO.2.1 ty0 hO.2.2.1 hO.2.2.2 C.K hO.1
  obtain ⟨r, h1, cell, q1, q2, q3, q4⟩ := hat
  have hr : r = (Cn, T, N) := Option.some.inj (h1.symm.trans hO.1)
  subst hr
  obtain ⟨hSl, hfc, kC, hkC, hkind⟩ := C.K.1 ci _ hO.1
  obtain ⟨cf, kf, fi, f, hi, hsl⟩ := hSl k hk
  have hlay := C.words _ (hO.2.1 _ (u_in_lay hk))
  unfold u_lay at hlay
  rw [if_pos hfin] at hlay
  have hst := (u_facts hfc hkC (u_lays C.words hO.2.1 hk) hi).1
  have hcf : (xM X).cls = cf := by
    obtain ⟨_, _, c', _, _, _, -, -, hf', -, -, -, hown2, -⟩ := Cond.laysFinal_spec hlay
    have e1 : c' = cf := by have := hi.symm.trans hf'; simp at this; exact this.1.symm
    rw [hdecl] at hown2
    rw [← e1]; exact Option.some.inj (C.2.2.2.1.symm.trans hown2)
  have h6 := u_fits hfc hkC hkind (Or.inr hlay) hi (hO.2.2.1 k hk) (hn2 (yA Y)) (hfit (yA Y))
  refine W.putFinK C.1 C.2.1 C.2.2.2.1 (C.words _ hw) (by rw [hs]; exact hi) hst hcf hin (by rw [q2]; exact h6) q1 q3 (by rw [hsl]; exact k2_hasslot (q4 k hk)) rfl rfl d fun H' e1 e2 e3 => ?_
  rw [hsl] at e1 ⊢
  have hlm : k < (fs.map (zcv (yA Y))).length := by rw [List.length_map]; exact hl9
  refine kk H' _ ls (zPw_put (r := (Cn, T, N)) hw1 hqn hY ⟨_, hO.1, t_OB.to (V := updV (vp_V (fs.map (zcv (yA Y)))) k (zcv (yA Y) v)) ⟨_, e1, q2, q3, t_set q4 hap hk _⟩ (fun j _ => by rw [List.map_set]; exact vp_updV_set hlm _ j)⟩ hkd e2 e3) (hS.put e2 e3 (by show yB Y ≤ yA Y q; rw [hY q h119]; omega)) hl
theorem p_getf (C : zC Y X own cc nL R ret) {ci N ix q : Nat} {Cn ref : String} {T : u_T} {ty0 : Nat → FieldType} (k : Nat) {v : Value} {fs : List Value} (hO : zOK ci Cn T N ty0) (hY : zOf Y) (hkd : (zkd q).2 = ci) (hP : zPl P q = some fs) (hqn : q < n) (hk : k < N) (hw : Cond.fieldLink own ix ref (T k).2.1 (T k).2.2.1 ∈ zTab) (hs : ref = (T k).1) (hv : fs[k]? = some v) (d : decode cc pc = .ok (.getfield ix, 3)) (hn : pc + 3 = m) (kk : zGp Y X nL c sl Φ n P M m lo (v :: st)) : zGp Y X nL c sl Φ n P M pc lo (.ref q :: st) := by
  subst hn
  intro H locs ls hw1 hS hl
  have hat := hw1.2.2 q hqn
  have h119 : q < 119 := by have := hw1.2.1; omega
  rw [zcellP_some hP, hkd, ← hY q h119] at hat
  obtain ⟨r, h1, cell, q1, q2, q3, q4⟩ := hat
  have hr : r = (Cn, T, N) := Option.some.inj (h1.symm.trans hO.1)
  subst hr
  obtain ⟨hSl, hfc, kC, hkC, hkind⟩ := C.K.1 ci _ hO.1
  obtain ⟨cf, kf, fi, f, hi, hsl⟩ := hSl k hk
  refine W.getf C.1 C.2.1 C.2.2.2.1 (C.words _ hw) (by rw [hs]; exact hi) (u_facts hfc hkC (u_lays C.words hO.2.1 hk) hi).1 q1 (by rw [q3]; exact fun h => by cases h) (v := zcv (yA Y) v) ?_ rfl rfl d (kk H locs ls hw1 hS hl)
  rw [hsl, q4 k hk]
  simp [vp_V, hv]
theorem p_iastore (C : zC Y X own cc nL R ret) {q k : Nat} {i x : Int32} (hY : zOf Y) (hqn : q < n) (hP : zPl P q = none) (h1 : zkd q = (1, k)) (hin : vp_in i k) (d : decode cc pc = .ok (.iastore, 1)) (hn : pc + 1 = m) (kk : zGp Y X nL c sl Φ n P (zwr M q (zcl i) x) m lo st) : zGp Y X nL c sl Φ n P M pc lo (.int x :: .int i :: .ref q :: st) := by
  subst hn
  intro H locs ls hw1 hS hl
  have hat := hw1.2.2 q hqn
  have h119 : q < 119 := by have := hw1.2.1; omega
  have hc1 : ∀ M : zMem, zcell (yA Y) (yC Y) M q = .inl (yC Y 0, k, .inl (M.1 q)) := fun M => zcell1 (by rw [h1]) (by rw [h1])
  rw [zcellP_none hP, hc1] at hat
  have hat : H[yB Y + q]? = some (vp_cell (yC Y 0) (k, .inl (M.1 q))) := hat
  rw [← hY q h119] at hat
  refine W.iast C.1 C.2.1 hat ((C.K.2 0 _ rfl).1 k (fun j => .int (M.1 q j))) (fun q => by cases q) (by show ¬ (i < 0 ∨ (arrV _ _ _).slots.size ≤ _); rw [arrV_size]; exact hin) rfl rfl d fun H1 e z oq => ?_
  refine kk H1 _ ls ⟨by rw [z]; exact hw1.1, hw1.2.1, fun j hj => ?_⟩ (hS.put z oq (by show yB Y ≤ yA Y q; rw [hY q h119]; omega)) hl
  by_cases ej : j = q
  · subst ej
    rw [zcellP_none hP, hc1]
    show H1[yB Y + j]? = some (vp_cell _ _)
    rw [← hY j h119, e, zwr_row, vp_cell_i, vp_cell_i, arrV_store]
    congr 2
    funext b
    by_cases hb : b = i.toNatClampNeg
    · subst hb
      simp [updV, upd, zcl]
    · simp [updV, upd, zcl, hb]
  · have e9 : zcellP (yA Y) (yC Y) P (zwr M q (zcl i) x) j = zcellP (yA Y) (yC Y) P M j := by
      unfold zcellP
      cases zPl P j with
      | none => exact zwr_cell j ej
      | some fs => rfl
    rw [e9]
    exact (hw1.2.2 j hj).kept (oq _ (by show yB Y + j ≠ yA Y q; rw [hY q h119]; omega))
theorem p_alen (C : zC Y X own cc nL R ret) {q k : Nat} (hY : zOf Y) (hqn : q < n) (hP : zPl P q = none) (h1 : zkd q = (1, k)) (d : decode cc pc = .ok (.arraylength, 1)) (hn : pc + 1 = m) (kk : zGp Y X nL c sl Φ n P M m lo (.int (nI k) :: st)) : zGp Y X nL c sl Φ n P M pc lo (.ref q :: st) := by
  subst hn
  intro H locs ls hw1 hS hl
  have hat := hw1.2.2 q hqn
  have h119 : q < 119 := by have := hw1.2.1; omega
  rw [zcellP_none hP, zcell1 (k := k) (by rw [h1]) (by rw [h1])] at hat
  have hat : H[yB Y + q]? = some (vp_cell (yC Y 0) (k, .inl (M.1 q))) := hat
  rw [← hY q h119] at hat
  exact W.alen (n := Int32.ofNat k) C.1 C.2.1 hat ((C.K.2 0 _ rfl).1 k (fun j => .int (M.1 q j))) (by rw [vp_cell_i, arrV_size] <;> rfl) rfl rfl d (kk H locs ls hw1 hS hl)
theorem p_vret (C : zC Y X own cc nL R none) (d : decode cc pc = .ok (.return_, 1)) : zGp Y X nL c sl (MQ (xB X) (va_Qv (fun _ : Unit => True) (fun _ => zPq Y n P M) (yF Y)) (xA X) (xS X) c sl (yF Y)) n P M pc lo [] := by
  intro H locs ls hw hS hl
  exact W.vret C.1 C.2.1 C.rets (fun t ht hW => ⟨⟨(), rfl, trivial, zPq_of C hw hS t ht hW⟩, hS.F ht⟩) hS.2.2 d C.locks
theorem pblind {as : List Value} : FrameBlind (va_Pc (as.map (zcv (yA Y))) (zPq Y n P M)) := by
  intro a U g mk h
  obtain ⟨h0, h1, h2, h3, h4⟩ := h
  exact ⟨h0, h1, va_K.moved (u := U) (U := U.calling g mk a) (Vm.Alike.refl U.vm) h2, zNs.same (u := U) (U := U.calling g mk a) rfl h3, zSs.moved (u := U) (U := U.calling g mk a) (Vm.Alike.refl U.vm) h4⟩
theorem p_after {y : Nat} {st0 : List Value} {n' mc ms : Nat} {P' : List (Nat × List Value)} {M' : zMem} {H : Heap} {locs : List Loc} {ls : Array Slot} {av : Array Value} (hS : va_S (yF Y) (xS X).heap H locs) (hl : lv_has ls nL (lo.map (fun q => (q.1, zcv (yA Y) q.2)))) (hrun : va_Run (xP X) (xL X) (xE X) (xR X) (xS X) (xM X) (xA X) (xB X) (xH X) (xC X) H locs c sl mc ms (F0 (xM X) pc ls (st0.map (zcv (yA Y)))) (st.map (zcv (yA Y))) (va_Qv (fun _ : Unit => True) (fun _ => zPq Y n' P' M') (yF Y) av) (yF Y)) (kk : zGp Y X nL (c + mc) (sl + ms) Φ n' P' M' (pc + 3) lo st) : W (xP X) (xL X) (xE X) (xR X) (xS X) (xM X) (xA X) (xB X) (xH X) (xC X) H locs c sl Φ (F0 (xM X) pc ls (st0.map (zcv (yA Y)))) := by
  refine va_callv hrun hS (fun _ _ h => h) (fun _ h => h) (fun u t H1 locs1 ht hvm hw hB hz1 hk1 hS1 => ?_)
  subst ht
  exact kk t.heap locs1 ls hB.1 hS1 hl
theorem p_callIN (C : zC Y X own cc nL R ret) {y : MethodName} {c2 : ByteArray} {n2 fr k mc ms ix q n' : Nat} {host : String} {P' : List (Nat × List Value)} {M' : zMem} {st0 : List Value} (as : List Value) {na : Nat} (hna : as.length = na) (hM : zMp Y y c2 n2 fr k mc ms (.ref q :: as) n P M n' P' M') (hw1 : (own, ix, y, host) ∈ zNM) (hw2 : Cond.instanceMethod y ∈ zTab) (hw3 : Cond.initialized y.cls ∈ zTab) (hw4 : Cond.code y c2 n2 none ∈ zTab)
    (hd : y.cls ≠ "java/lang/invoke/MethodHandle" ∧ y.cls ≠ "java/lang/invoke/VarHandle" ∧ (parseMethodDescriptor y.desc).map (fun d => d.parameters.length) = some na) (hy1 : y.name = "<init>") (hR : fr + 1 ≤ R.frames ∧ 8 + (n2 + 11) + k ≤ R.locals) (hf : c + mc ≤ R.cells ∧ sl + ms ≤ R.slots) (hcat : (st.map fun v => v.category).sum ≤ 8) (hst : st0 = as.reverse ++ .ref q :: st) (d : decode cc pc = .ok (.invokespecial ix, 3)) (hn : pc + 3 = m) (kk : zGp Y X nL (c + mc) (sl + ms) Φ n' P' M' m lo st) : zGp Y X nL c sl Φ n P M pc lo st0 := by
  subst hn; subst hst
  intro H locs ls hw hS hl
  exact p_after (y := 0) hS hl (va_runIN (As := as.map (zcv (yA Y))) ⟨C.1, C.2.1, C.2.2.1, C.2.2.2.1, C.words⟩ (hM (xL X)) ⟨va_cnB na C.words (zgood (zgoodC hw4)) rfl rfl rfl (C.N.2.1 _ hw1) (C.words _ hw3) hd (by rw [C.room]; exact hR), hy1, C.words _ hw2⟩ ⟨pblind, fun U hU hW => ⟨rfl, zPq_of C hw hS U hU hW⟩⟩ rfl (by rw [List.length_map]; exact hna) hl.1 (by show List.map _ _ = _; rw [List.map_append, List.map_reverse]; rfl) (lv_room (by rw [zcv_sum]; exact hcat)) d (by rw [C.room]; exact hf)) kk
theorem p_callI (C : zC Y X own cc nL R ret) {y : MethodName} {c2 : ByteArray} {n2 fr k mc ms ix q n' : Nat} {P' : List (Nat × List Value)} {M' : zMem} {st0 : List Value} (as : List Value) {na : Nat} (hna : as.length = na) (hM : zMp Y y c2 n2 fr k mc ms (.ref q :: as) n P M n' P' M') (hw1 : Cond.methodLink own ix y ∈ zTab) (hw2 : Cond.instanceMethod y ∈ zTab) (hw3 : Cond.initialized y.cls ∈ zTab) (hw4 : Cond.code y c2 n2 none ∈ zTab)
    (hd : y.cls ≠ "java/lang/invoke/MethodHandle" ∧ y.cls ≠ "java/lang/invoke/VarHandle" ∧ (parseMethodDescriptor y.desc).map (fun d => d.parameters.length) = some na) (hy1 : y.name = "<init>") (hR : fr + 1 ≤ R.frames ∧ 8 + (n2 + 11) + k ≤ R.locals) (hf : c + mc ≤ R.cells ∧ sl + ms ≤ R.slots) (hcat : (st.map fun v => v.category).sum ≤ 8) (hst : st0 = as.reverse ++ .ref q :: st) (d : decode cc pc = .ok (.invokespecial ix, 3)) (hn : pc + 3 = m) (kk : zGp Y X nL (c + mc) (sl + ms) Φ n' P' M' m lo st) : zGp Y X nL c sl Φ n P M pc lo st0 := by
  subst hn; subst hst
  intro H locs ls hw hS hl
  exact p_after (y := 0) hS hl (va_runI (As := as.map (zcv (yA Y))) ⟨C.1, C.2.1, C.2.2.1, C.2.2.2.1, C.words⟩ (hM (xL X)) (cwI na C.words (zgood (zgoodC hw4)) rfl rfl rfl (C.words _ hw3) (C.words _ hw1) (C.words _ hw2) hy1 hd (by rw [C.room]; exact hR)) ⟨pblind, fun U hU hW => ⟨rfl, zPq_of C hw hS U hU hW⟩⟩ rfl (by rw [List.length_map]; exact hna) hl.1 (by show List.map _ _ = _; rw [List.map_append, List.map_reverse]; rfl) (lv_room (by rw [zcv_sum]; exact hcat)) d (by rw [C.room]; exact hf)) kk
theorem p_callS (C : zC Y X own cc nL R ret) {y : MethodName} {c2 : ByteArray} {n2 fr k mc ms ix n' : Nat} {P' : List (Nat × List Value)} {M' : zMem} {st0 : List Value} (as : List Value) {na : Nat} (hna : as.length = na) (hM : zMp Y y c2 n2 fr k mc ms as n P M n' P' M') (hw1 : Cond.methodLink own ix y ∈ zTab) (hw2 : Cond.static y ∈ zTab) (hw3 : Cond.initialized y.cls ∈ zTab) (hw4 : Cond.code y c2 n2 none ∈ zTab)
    (hd : y.cls ≠ "java/lang/invoke/MethodHandle" ∧ y.cls ≠ "java/lang/invoke/VarHandle" ∧ (parseMethodDescriptor y.desc).map (fun d => d.parameters.length) = some na) (hR : fr + 1 ≤ R.frames ∧ 8 + (n2 + 11) + k ≤ R.locals) (hf : c + mc ≤ R.cells ∧ sl + ms ≤ R.slots) (hcat : (st.map fun v => v.category).sum ≤ 8) (hst : st0 = as.reverse ++ st) (d : decode cc pc = .ok (.invokestatic ix, 3)) (hn : pc + 3 = m) (kk : zGp Y X nL (c + mc) (sl + ms) Φ n' P' M' m lo st) : zGp Y X nL c sl Φ n P M pc lo st0 := by
  subst hn; subst hst
  intro H locs ls hw hS hl
  refine p_after (y := 0) hS hl (va_runS (As := as.map (zcv (yA Y))) ⟨C.1, C.2.1, C.2.2.1, C.2.2.2.1, C.words⟩ (hM (xL X)) (va_cwS na C.words (zgood ?_) rfl rfl rfl hd (by rw [C.room]; exact hR)) ⟨pblind, fun U hU hW => ⟨rfl, zPq_of C hw hS U hU hW⟩⟩ rfl (by rw [List.length_map]; exact hna) hl.1 (by show List.map _ _ = _; rw [List.map_append, List.map_reverse]) (lv_room (by rw [zcv_sum]; exact hcat)) d (by rw [C.room]; exact hf)) kk
  intro w hw
  rcases List.mem_append.mp hw with h | h
  · simp only [List.mem_cons, List.not_mem_nil, or_false] at h
    rcases h with rfl | rfl | rfl
    · exact hw1
    · exact hw2
    · exact hw3
  · exact zgoodC hw4 w h
end ZP
/-- a constructor's contract out of a walk of its body -/
theorem zMp_of {Y : zY} {y : MethodName} {own : String} {cc : ByteArray} {nL fr k mc ms n n' : Nat} {as : List Value} {P P' : List (Nat × List Value)} {M M' : zMem} (hy : plainName y.cls = true) (ho : y.cls = own) (hlen : (lg_sl as).length ≤ nL)
    (body : ∀ X : zX, zC Y X own cc nL (zrm4 fr mc ms k) none → (y.name = (xH X).name) → zGp Y X nL 0 0 (MQ (xB X) (va_Qv (fun _ : Unit => True) (fun _ => zPq Y n' P' M') (yF Y)) (xA X) (xS X) mc ms (yF Y)) n P M 0 (lv_args 0 as) []) : zMp Y y cc nL fr k mc ms as n P M n' P' M' := by
  intro l
  subst ho
  refine Met.ofW (cc := cc) (maxL := nL) (ret := none) hy rfl ?_
  intro p e s m args below meth c s₁ B hml hv
  obtain ⟨rfl, hw, hK, hN, hSs⟩ := hv
  rw [lg_entry_eq]
  have hl := lv_entry (as.map (zcv (yA Y))) (n := nL) (by rw [zcv_sl]; exact hlen)
  rw [zcv_args] at hl
  exact body (p, l, e, zrm4 fr mc ms k, s, m, (as.map (zcv (yA Y))).toArray, below, meth, c, 0, 0) ⟨B.exec, B.bytes, hml, findClass_of_methodNamed B.named, fun w hw => atoms_spec (ws := Cond.code y cc nL none :: zTab) B.pre w (List.mem_cons_of_mem _ hw), B.notSynchronized, B.returns, rfl, ⟨Nat.zero_le _, Nat.zero_le _⟩, by have := hw.1; show yB Y ≤ s.heap.size; omega, hK, hN, hSs⟩ (name_of_methodNamed B.named B.method).1.symm s.heap [] _ hw va_S.rf hl
