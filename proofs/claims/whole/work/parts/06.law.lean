/-! THE CLAIM OUT OF ONE WALK OF THE LAW'S BODY. Your part is whole_start (and what it stands on); all else here is the same for every law, but numbers. -/
def R_law : String := "LensBenchLaw"
def lw_P (b : Addr) (xs : List Int32) (args : Array Value) (s : State) : Prop := args = #[.ref b] ∧ s.IntsAt b xs ∧ xs.length ≤ 3584 ∧ (Jvm.Cond.and given_1 narrow_1).before args s = true
def lw_Q (_ : Array Value) (s : State) (o : Outcome) (t : State) : Prop := o = .returned (some (.int 1)) ∧ Framed s o t [] 600000 7302250
def lw_Z (below : List Frame) (a : Array Value) (s : State) : State → Prop := fun t => ∃ o, t.status = .running ∧ Ended t below o ∧ lw_Q a s o t
/-- the law's own end, with 1 on the stack, nothing written that was there before, its room as the claim has it -/
theorem lw_ret {p : Program} {l : Launch} {e : Env} {s : State} {m : MethodId} {below : List Frame} {meth : Method} {c : Code} {b : Nat} (hx : p.tables.exec = Jvm.exec) (hb : c.code = code) (hr : meth.sig.returnType = ret) (hlocks : meth.locks = false) {pc : Nat} {H : Heap} {ls : Array Slot} (hdg : decode code pc = .ok (.ireturn, 1)) : W p l e room_1 s m #[Value.ref b] below meth c H [] 600000 7302250 (lw_Z below #[Value.ref b] s) (F0 m pc ls [.int 1]) := by
  intro T hT X
  obtain ⟨fs, hret, hrun, hended, hW, hframe⟩ := X.leave (v := some (.int 1)) (hlocks := hlocks) (fun h => by rw [hr] at h; cases h)
  have hmeth' : T.vm.method? m = some meth := X.method'
  refine ⟨T.setFrames fs, ?_, .returned (some (.int 1)), hrun, hended, rfl, ⟨_, rfl⟩, hW, hframe⟩
  jvm_step X.here [X.here.top, hx, hb, hdg, hmeth', hr, ret, narrow_b1]
  (try refine ⟨rfl, ?_⟩); (try refine ⟨rfl, ?_⟩)
  first | (intro acts; rw [hret _ acts rfl rfl rfl]) | rw [hret _ _ rfl rfl rfl]
  exact Steps.refl _
/-- what holds at the law's entry: the machine, the code, the tables' words (any of lw_tbl by 'hts w (by decide +kernel)'), the script of L ints xs at the cell b, what the Statement gives of the start (any of its parts by flat_of_before) -/
def lw_At (p : Program) (s : State) (m : MethodId) (meth : Method) (c : Code) (b L : Nat) (xs : Nat → Int32) : Prop :=
  p.tables.exec = Jvm.exec ∧ c.code = code ∧ meth.sig.returnType = ret ∧ c.maxLocals = 4 ∧ s.vm.findClass R_law = some m.cls ∧ (∀ w ∈ lw_tbl, w.before #[Value.ref b] s = true) ∧ va_X b L xs s s.heap ∧ b < s.heap.size ∧ meth.locks = false ∧ (Jvm.Cond.and given_1 narrow_1).before #[Value.ref b] s = true
/-- the law's script, and its room -/
def zLx (Y : zY) (X : zX) (L : Nat) (xs : Nat → Int32) : Prop := va_X (yA Y 121) L xs (xS X) (xS X).heap ∧ yA Y 121 < (xS X).heap.size ∧ yB Y = (xS X).heap.size ∧ xA X = #[Value.ref (yA Y 121)] ∧ xK X = 600000 ∧ xN X = 7302250
def zFw (Y : zY) (X : zX) : Int32 → State → Prop := fun a t => a = 1 → lw_Z (xB X) #[Value.ref (yA Y 121)] (xS X) t
section ZLAW
variable {Y : zY} {X : zX} {own : String} {cc : ByteArray} {nL : Nat} {R : Room} {rt : Option FieldType} {Φ : Int32 → State → Prop} {F : Option Int32} {pc n L : Nat} {xs : Nat → Int32} {lo : List (Nat × Value)} {st : List Value} {M : zMem}
theorem z_sld (C : zC Y X own cc nL R rt) (HX : zLx Y X L xs) {i : Int32} (d : decode cc pc = .ok (.iaload, 1)) (hn : pc + 1 = n) (kk : zR Y X nL Φ F n lo (.int (xs (zcl i)) :: st) M) : zR Y X nL Φ (zguard (zin i L) F) pc lo (.int i :: .ref 121 :: st) M := by
  subst hn
  refine z_guard fun hg => ?_
  intro a hF H locs ls hP hD hS hl
  exact va_sld C.1 C.2.1 HX.1 HX.2.1 (by show ¬ yB Y ≤ _; have := HX.2.1; have := HX.2.2.1; omega) hS (zin_vp hg) d (kk a hF H locs ls hP hD hS hl)
theorem z_slen (C : zC Y X own cc nL R rt) (HX : zLx Y X L xs) (d : decode cc pc = .ok (.arraylength, 1)) (hn : pc + 1 = n) (kk : zR Y X nL Φ F n lo (.int (Int32.ofNat L) :: st) M) : zR Y X nL Φ F pc lo (.ref 121 :: st) M := by
  subst hn
  intro a hF H locs ls hP hD hS hl
  exact va_slen C.1 C.2.1 HX.1 HX.2.1 (by show ¬ yB Y ≤ _; have := HX.2.1; have := HX.2.2.1; omega) hS d (kk a hF H locs ls hP hD hS hl)
theorem z_lawbad : zR Y X nL (zFw Y X) (some 0) pc lo st M := by
  intro a ha
  cases ha
  intro H locs ls hP hD hS hl T hT X'
  exact ⟨_, Steps.refl _, fun h => absurd h (by decide)⟩
theorem z_lawret (C : zC Y X own code nL room_1 ret) (HX : zLx Y X L xs) (d : decode code pc = .ok (.ireturn, 1)) : zR Y X nL (zFw Y X) (some 1) pc lo [.int 1] M := by
  intro a ha
  cases ha
  intro H locs ls hP hD hS hl
  obtain ⟨p, l, e, R, s, m, args, below, meth, c, kc, ks⟩ := X
  have hR : R = room_1 := C.room
  have h4 : args = #[Value.ref (yA Y 121)] := HX.2.2.2.1
  have h5 : kc = 600000 := HX.2.2.2.2.1
  have h6 : ks = 7302250 := HX.2.2.2.2.2
  have h7 : yB Y = s.heap.size := HX.2.2.1
  subst hR; subst h4; subst h5; subst h6
  refine va_forget (fun q hq => ?_) ?_
  · have h9 : yB Y ≤ q.base := hS.2.2 q hq
    show s.heap.size ≤ q.base
    omega
  · intro T hT X'
    obtain ⟨t, a1, b1⟩ := lw_ret (b := yA Y 121) (pc := pc) (H := H) (ls := ls) C.1 C.2.1 C.rets C.locks d T hT X'
    exact ⟨t, a1, fun _ => b1⟩
end ZLAW
theorem w348 : Cond.methodLink RL 13 yX7_body ∈ zTab := z_in 348 (by decide +kernel) rfl
theorem w349 : Cond.instanceMethod yX7_body ∈ zTab := z_in 349 (by decide +kernel) rfl
theorem w350 : Cond.selects RX7 yX7_body yX7_body ∈ zTab := z_in 350 (by decide +kernel) rfl
theorem w351 : Cond.code yX7_body cX7_body 5 (some .int) ∈ zTab := z_in 351 (by decide +kernel) rfl
theorem w371 : Cond.methodLink RL 18 yX7_set ∈ zTab := z_in 371 (by decide +kernel) rfl
theorem w372 : Cond.instanceMethod yX7_set ∈ zTab := z_in 372 (by decide +kernel) rfl
theorem w373 : Cond.selects RX7 yX7_set yX7_set ∈ zTab := z_in 373 (by decide +kernel) rfl
theorem w374 : Cond.code yX7_set cX7_set 5 (some .int) ∈ zTab := z_in 374 (by decide +kernel) rfl
theorem w380 : Cond.methodLink RL 23 yX7_drop ∈ zTab := z_in 380 (by decide +kernel) rfl
theorem w381 : Cond.instanceMethod yX7_drop ∈ zTab := z_in 381 (by decide +kernel) rfl
theorem w382 : Cond.selects RX7 yX7_drop yX7_drop ∈ zTab := z_in 382 (by decide +kernel) rfl
theorem w383 : Cond.code yX7_drop cX7_drop 1 (some .int) ∈ zTab := z_in 383 (by decide +kernel) rfl
theorem w384 : Cond.methodLink RL 28 yX7_field ∈ zTab := z_in 384 (by decide +kernel) rfl
theorem w385 : Cond.instanceMethod yX7_field ∈ zTab := z_in 385 (by decide +kernel) rfl
theorem w386 : Cond.selects RX7 yX7_field yX7_field ∈ zTab := z_in 386 (by decide +kernel) rfl
theorem w387 : Cond.code yX7_field cX7_field 4 (some .int) ∈ zTab := z_in 387 (by decide +kernel) rfl
theorem w388 : Cond.methodLink RL 33 yX7_bend ∈ zTab := z_in 388 (by decide +kernel) rfl
theorem w389 : Cond.instanceMethod yX7_bend ∈ zTab := z_in 389 (by decide +kernel) rfl
theorem w390 : Cond.selects RX7 yX7_bend yX7_bend ∈ zTab := z_in 390 (by decide +kernel) rfl
theorem w391 : Cond.code yX7_bend cX7_bend 7 (some .int) ∈ zTab := z_in 391 (by decide +kernel) rfl
theorem w410 : Cond.methodLink RL 38 yX7_from ∈ zTab := z_in 410 (by decide +kernel) rfl
theorem w411 : Cond.instanceMethod yX7_from ∈ zTab := z_in 411 (by decide +kernel) rfl
theorem w412 : Cond.selects RX7 yX7_from yX7_from ∈ zTab := z_in 412 (by decide +kernel) rfl
theorem w413 : Cond.code yX7_from cX7_from 4 (some .int) ∈ zTab := z_in 413 (by decide +kernel) rfl
theorem w423 : Cond.methodLink RL 42 yX7_cell ∈ zTab := z_in 423 (by decide +kernel) rfl
theorem w424 : Cond.instanceMethod yX7_cell ∈ zTab := z_in 424 (by decide +kernel) rfl
theorem w425 : Cond.selects RX7 yX7_cell yX7_cell ∈ zTab := z_in 425 (by decide +kernel) rfl
theorem w426 : Cond.code yX7_cell cX7_cell 4 (some .int) ∈ zTab := z_in 426 (by decide +kernel) rfl
theorem w433 : Cond.methodLink RL 46 yX7_pictures ∈ zTab := z_in 433 (by decide +kernel) rfl
theorem w434 : Cond.instanceMethod yX7_pictures ∈ zTab := z_in 434 (by decide +kernel) rfl
theorem w435 : Cond.selects RX7 yX7_pictures yX7_pictures ∈ zTab := z_in 435 (by decide +kernel) rfl
theorem w436 : Cond.code yX7_pictures cX7_pictures 5 (some .int) ∈ zTab := z_in 436 (by decide +kernel) rfl
theorem w491 : Cond.methodLink RL 50 yX7_group ∈ zTab := z_in 491 (by decide +kernel) rfl
theorem w492 : Cond.instanceMethod yX7_group ∈ zTab := z_in 492 (by decide +kernel) rfl
theorem w493 : Cond.selects RX7 yX7_group yX7_group ∈ zTab := z_in 493 (by decide +kernel) rfl
theorem w494 : Cond.code yX7_group cX7_group 7 (some .int) ∈ zTab := z_in 494 (by decide +kernel) rfl
theorem w504 : Cond.methodLink RL 54 yX7_parity ∈ zTab := z_in 504 (by decide +kernel) rfl
theorem w505 : Cond.instanceMethod yX7_parity ∈ zTab := z_in 505 (by decide +kernel) rfl
theorem w506 : Cond.selects RX7 yX7_parity yX7_parity ∈ zTab := z_in 506 (by decide +kernel) rfl
theorem w507 : Cond.code yX7_parity cX7_parity 3 (some .int) ∈ zTab := z_in 507 (by decide +kernel) rfl
theorem w508 : Cond.methodLink RL 58 yX7_critical ∈ zTab := z_in 508 (by decide +kernel) rfl
theorem w509 : Cond.instanceMethod yX7_critical ∈ zTab := z_in 509 (by decide +kernel) rfl
theorem w510 : Cond.selects RX7 yX7_critical yX7_critical ∈ zTab := z_in 510 (by decide +kernel) rfl
theorem w511 : Cond.code yX7_critical cX7_critical 3 (some .int) ∈ zTab := z_in 511 (by decide +kernel) rfl
theorem w517 : Cond.methodLink RL 62 yX7_rings ∈ zTab := z_in 517 (by decide +kernel) rfl
theorem w518 : Cond.instanceMethod yX7_rings ∈ zTab := z_in 518 (by decide +kernel) rfl
theorem w519 : Cond.selects RX7 yX7_rings yX7_rings ∈ zTab := z_in 519 (by decide +kernel) rfl
theorem w520 : Cond.code yX7_rings cX7_rings 3 (some .int) ∈ zTab := z_in 520 (by decide +kernel) rfl
theorem w529 : Cond.methodLink RL 67 yX7_brightest ∈ zTab := z_in 529 (by decide +kernel) rfl
theorem w530 : Cond.instanceMethod yX7_brightest ∈ zTab := z_in 530 (by decide +kernel) rfl
theorem w531 : Cond.selects RX7 yX7_brightest yX7_brightest ∈ zTab := z_in 531 (by decide +kernel) rfl
theorem w532 : Cond.code yX7_brightest cX7_brightest 3 (some .int) ∈ zTab := z_in 532 (by decide +kernel) rfl
theorem w551 : Cond.methodLink RL 71 yX7_delay ∈ zTab := z_in 551 (by decide +kernel) rfl
theorem w552 : Cond.instanceMethod yX7_delay ∈ zTab := z_in 552 (by decide +kernel) rfl
theorem w553 : Cond.selects RX7 yX7_delay yX7_delay ∈ zTab := z_in 553 (by decide +kernel) rfl
theorem w554 : Cond.code yX7_delay cX7_delay 7 (some .long) ∈ zTab := z_in 554 (by decide +kernel) rfl
theorem w569 : Cond.methodLink RL 76 yX7_stretch ∈ zTab := z_in 569 (by decide +kernel) rfl
theorem w570 : Cond.instanceMethod yX7_stretch ∈ zTab := z_in 570 (by decide +kernel) rfl
theorem w571 : Cond.selects RX7 yX7_stretch yX7_stretch ∈ zTab := z_in 571 (by decide +kernel) rfl
theorem w572 : Cond.code yX7_stretch cX7_stretch 2 (some .int) ∈ zTab := z_in 572 (by decide +kernel) rfl
theorem w587 : Cond.methodLink RL 82 yX7_type ∈ zTab := z_in 587 (by decide +kernel) rfl
theorem w588 : Cond.instanceMethod yX7_type ∈ zTab := z_in 588 (by decide +kernel) rfl
theorem w589 : Cond.selects RX7 yX7_type yX7_type ∈ zTab := z_in 589 (by decide +kernel) rfl
theorem w590 : Cond.code yX7_type cX7_type 5 (some .int) ∈ zTab := z_in 590 (by decide +kernel) rfl
theorem w596 : Cond.methodLink RL 87 yX7_clear ∈ zTab := z_in 596 (by decide +kernel) rfl
theorem w597 : Cond.instanceMethod yX7_clear ∈ zTab := z_in 597 (by decide +kernel) rfl
theorem w598 : Cond.selects RX7 yX7_clear yX7_clear ∈ zTab := z_in 598 (by decide +kernel) rfl
theorem w599 : Cond.code yX7_clear cX7_clear 2 (some .int) ∈ zTab := z_in 599 (by decide +kernel) rfl
theorem w600 : Cond.methodLink RL 91 yX7_read ∈ zTab := z_in 600 (by decide +kernel) rfl
theorem w601 : Cond.instanceMethod yX7_read ∈ zTab := z_in 601 (by decide +kernel) rfl
theorem w602 : Cond.selects RX7 yX7_read yX7_read ∈ zTab := z_in 602 (by decide +kernel) rfl
theorem w603 : Cond.code yX7_read cX7_read 3 (some .int) ∈ zTab := z_in 603 (by decide +kernel) rfl
theorem w627 : Cond.methodLink RL 95 yX7_pair ∈ zTab := z_in 627 (by decide +kernel) rfl
theorem w628 : Cond.instanceMethod yX7_pair ∈ zTab := z_in 628 (by decide +kernel) rfl
theorem w629 : Cond.selects RX7 yX7_pair yX7_pair ∈ zTab := z_in 629 (by decide +kernel) rfl
theorem w630 : Cond.code yX7_pair cX7_pair 5 (some .int) ∈ zTab := z_in 630 (by decide +kernel) rfl
theorem w635 : Cond.methodLink RL 99 yX7_wipe ∈ zTab := z_in 635 (by decide +kernel) rfl
theorem w636 : Cond.instanceMethod yX7_wipe ∈ zTab := z_in 636 (by decide +kernel) rfl
theorem w637 : Cond.selects RX7 yX7_wipe yX7_wipe ∈ zTab := z_in 637 (by decide +kernel) rfl
theorem w638 : Cond.code yX7_wipe cX7_wipe 2 (some .int) ∈ zTab := z_in 638 (by decide +kernel) rfl
theorem w639 : Cond.methodLink RL 103 yX7_tolerance ∈ zTab := z_in 639 (by decide +kernel) rfl
theorem w640 : Cond.instanceMethod yX7_tolerance ∈ zTab := z_in 640 (by decide +kernel) rfl
theorem w641 : Cond.selects RX7 yX7_tolerance yX7_tolerance ∈ zTab := z_in 641 (by decide +kernel) rfl
theorem w642 : Cond.code yX7_tolerance cX7_tolerance 4 (some .int) ∈ zTab := z_in 642 (by decide +kernel) rfl
theorem w643 : Cond.methodLink RL 107 yX7_fits ∈ zTab := z_in 643 (by decide +kernel) rfl
theorem w644 : Cond.instanceMethod yX7_fits ∈ zTab := z_in 644 (by decide +kernel) rfl
theorem w645 : Cond.selects RX7 yX7_fits yX7_fits ∈ zTab := z_in 645 (by decide +kernel) rfl
theorem w646 : Cond.code yX7_fits cX7_fits 4 (some .int) ∈ zTab := z_in 646 (by decide +kernel) rfl
theorem w679 : Cond.methodLink RL 111 yX7_models ∈ zTab := z_in 679 (by decide +kernel) rfl
theorem w680 : Cond.instanceMethod yX7_models ∈ zTab := z_in 680 (by decide +kernel) rfl
theorem w681 : Cond.selects RX7 yX7_models yX7_models ∈ zTab := z_in 681 (by decide +kernel) rfl
theorem w682 : Cond.code yX7_models cX7_models 4 (some .int) ∈ zTab := z_in 682 (by decide +kernel) rfl
theorem w712 : Cond.methodLink RL 115 yX7_sure ∈ zTab := z_in 712 (by decide +kernel) rfl
theorem w713 : Cond.instanceMethod yX7_sure ∈ zTab := z_in 713 (by decide +kernel) rfl
theorem w714 : Cond.selects RX7 yX7_sure yX7_sure ∈ zTab := z_in 714 (by decide +kernel) rfl
theorem w715 : Cond.code yX7_sure cX7_sure 4 (some .int) ∈ zTab := z_in 715 (by decide +kernel) rfl
theorem w720 : Cond.methodLink RL 119 yX7_spot ∈ zTab := z_in 720 (by decide +kernel) rfl
theorem w721 : Cond.instanceMethod yX7_spot ∈ zTab := z_in 721 (by decide +kernel) rfl
theorem w722 : Cond.selects RX7 yX7_spot yX7_spot ∈ zTab := z_in 722 (by decide +kernel) rfl
theorem w723 : Cond.code yX7_spot cX7_spot 3 (some .int) ∈ zTab := z_in 723 (by decide +kernel) rfl
theorem w728 : Cond.methodLink RL 123 yX7_forget ∈ zTab := z_in 728 (by decide +kernel) rfl
theorem w729 : Cond.instanceMethod yX7_forget ∈ zTab := z_in 729 (by decide +kernel) rfl
theorem w730 : Cond.selects RX7 yX7_forget yX7_forget ∈ zTab := z_in 730 (by decide +kernel) rfl
theorem w731 : Cond.code yX7_forget cX7_forget 2 (some .int) ∈ zTab := z_in 731 (by decide +kernel) rfl
theorem w732 : Cond.methodLink RL 127 yX7_bright ∈ zTab := z_in 732 (by decide +kernel) rfl
theorem w733 : Cond.instanceMethod yX7_bright ∈ zTab := z_in 733 (by decide +kernel) rfl
theorem w734 : Cond.selects RX7 yX7_bright yX7_bright ∈ zTab := z_in 734 (by decide +kernel) rfl
theorem w735 : Cond.code yX7_bright cX7_bright 6 (some .int) ∈ zTab := z_in 735 (by decide +kernel) rfl
theorem w737 : Cond.methodLink RL 131 yX7_far ∈ zTab := z_in 737 (by decide +kernel) rfl
theorem w738 : Cond.instanceMethod yX7_far ∈ zTab := z_in 738 (by decide +kernel) rfl
theorem w739 : Cond.selects RX7 yX7_far yX7_far ∈ zTab := z_in 739 (by decide +kernel) rfl
theorem w740 : Cond.code yX7_far cX7_far 3 (some .int) ∈ zTab := z_in 740 (by decide +kernel) rfl
theorem w745 : Cond.methodLink RL 135 yX7_contradicts ∈ zTab := z_in 745 (by decide +kernel) rfl
theorem w746 : Cond.instanceMethod yX7_contradicts ∈ zTab := z_in 746 (by decide +kernel) rfl
theorem w747 : Cond.selects RX7 yX7_contradicts yX7_contradicts ∈ zTab := z_in 747 (by decide +kernel) rfl
theorem w748 : Cond.code yX7_contradicts cX7_contradicts 1 (some .int) ∈ zTab := z_in 748 (by decide +kernel) rfl
theorem w761 : Cond.methodLink RL 139 yX7_filled ∈ zTab := z_in 761 (by decide +kernel) rfl
theorem w762 : Cond.instanceMethod yX7_filled ∈ zTab := z_in 762 (by decide +kernel) rfl
theorem w763 : Cond.selects RX7 yX7_filled yX7_filled ∈ zTab := z_in 763 (by decide +kernel) rfl
theorem w764 : Cond.code yX7_filled cX7_filled 4 (some .int) ∈ zTab := z_in 764 (by decide +kernel) rfl
theorem w765 : Cond.methodLink RL 143 yX7_count ∈ zTab := z_in 765 (by decide +kernel) rfl
theorem w766 : Cond.instanceMethod yX7_count ∈ zTab := z_in 766 (by decide +kernel) rfl
theorem w767 : Cond.selects RX7 yX7_count yX7_count ∈ zTab := z_in 767 (by decide +kernel) rfl
theorem w768 : Cond.code yX7_count cX7_count 2 (some .int) ∈ zTab := z_in 768 (by decide +kernel) rfl
theorem w777 : Cond.methodLink RL 147 yX7_trace ∈ zTab := z_in 777 (by decide +kernel) rfl
theorem w778 : Cond.instanceMethod yX7_trace ∈ zTab := z_in 778 (by decide +kernel) rfl
theorem w779 : Cond.selects RX7 yX7_trace yX7_trace ∈ zTab := z_in 779 (by decide +kernel) rfl
theorem w780 : Cond.code yX7_trace cX7_trace 1 (some .long) ∈ zTab := z_in 780 (by decide +kernel) rfl
theorem w892 : Cond.methodLink RL 17 yX8_body ∈ zTab := z_in 892 (by decide +kernel) rfl
theorem w893 : Cond.instanceMethod yX8_body ∈ zTab := z_in 893 (by decide +kernel) rfl
theorem w894 : Cond.selects RX8 yX8_body yX8_body ∈ zTab := z_in 894 (by decide +kernel) rfl
theorem w895 : Cond.code yX8_body cX8_body 6 (some .int) ∈ zTab := z_in 895 (by decide +kernel) rfl
theorem w902 : Cond.methodLink RL 22 yX8_set ∈ zTab := z_in 902 (by decide +kernel) rfl
theorem w903 : Cond.instanceMethod yX8_set ∈ zTab := z_in 903 (by decide +kernel) rfl
theorem w904 : Cond.selects RX8 yX8_set yX8_set ∈ zTab := z_in 904 (by decide +kernel) rfl
theorem w905 : Cond.code yX8_set cX8_set 5 (some .int) ∈ zTab := z_in 905 (by decide +kernel) rfl
theorem w914 : Cond.methodLink RL 27 yX8_drop ∈ zTab := z_in 914 (by decide +kernel) rfl
theorem w915 : Cond.instanceMethod yX8_drop ∈ zTab := z_in 915 (by decide +kernel) rfl
theorem w916 : Cond.selects RX8 yX8_drop yX8_drop ∈ zTab := z_in 916 (by decide +kernel) rfl
theorem w917 : Cond.code yX8_drop cX8_drop 1 (some .int) ∈ zTab := z_in 917 (by decide +kernel) rfl
theorem w918 : Cond.methodLink RL 32 yX8_field ∈ zTab := z_in 918 (by decide +kernel) rfl
theorem w919 : Cond.instanceMethod yX8_field ∈ zTab := z_in 919 (by decide +kernel) rfl
theorem w920 : Cond.selects RX8 yX8_field yX8_field ∈ zTab := z_in 920 (by decide +kernel) rfl
theorem w921 : Cond.code yX8_field cX8_field 4 (some .int) ∈ zTab := z_in 921 (by decide +kernel) rfl
theorem w922 : Cond.methodLink RL 37 yX8_bend ∈ zTab := z_in 922 (by decide +kernel) rfl
theorem w923 : Cond.instanceMethod yX8_bend ∈ zTab := z_in 923 (by decide +kernel) rfl
theorem w924 : Cond.selects RX8 yX8_bend yX8_bend ∈ zTab := z_in 924 (by decide +kernel) rfl
theorem w925 : Cond.code yX8_bend cX8_bend 6 (some .int) ∈ zTab := z_in 925 (by decide +kernel) rfl
theorem w932 : Cond.methodLink RL 41 yX8_from ∈ zTab := z_in 932 (by decide +kernel) rfl
theorem w933 : Cond.instanceMethod yX8_from ∈ zTab := z_in 933 (by decide +kernel) rfl
theorem w934 : Cond.selects RX8 yX8_from yX8_from ∈ zTab := z_in 934 (by decide +kernel) rfl
theorem w935 : Cond.code yX8_from cX8_from 4 (some .int) ∈ zTab := z_in 935 (by decide +kernel) rfl
theorem w940 : Cond.methodLink RL 45 yX8_cell ∈ zTab := z_in 940 (by decide +kernel) rfl
theorem w941 : Cond.instanceMethod yX8_cell ∈ zTab := z_in 941 (by decide +kernel) rfl
theorem w942 : Cond.selects RX8 yX8_cell yX8_cell ∈ zTab := z_in 942 (by decide +kernel) rfl
theorem w943 : Cond.code yX8_cell cX8_cell 4 (some .int) ∈ zTab := z_in 943 (by decide +kernel) rfl
theorem w952 : Cond.methodLink RL 49 yX8_pictures ∈ zTab := z_in 952 (by decide +kernel) rfl
theorem w953 : Cond.instanceMethod yX8_pictures ∈ zTab := z_in 953 (by decide +kernel) rfl
theorem w954 : Cond.selects RX8 yX8_pictures yX8_pictures ∈ zTab := z_in 954 (by decide +kernel) rfl
theorem w955 : Cond.code yX8_pictures cX8_pictures 5 (some .int) ∈ zTab := z_in 955 (by decide +kernel) rfl
theorem w989 : Cond.methodLink RL 53 yX8_group ∈ zTab := z_in 989 (by decide +kernel) rfl
theorem w990 : Cond.instanceMethod yX8_group ∈ zTab := z_in 990 (by decide +kernel) rfl
theorem w991 : Cond.selects RX8 yX8_group yX8_group ∈ zTab := z_in 991 (by decide +kernel) rfl
theorem w992 : Cond.code yX8_group cX8_group 8 (some .int) ∈ zTab := z_in 992 (by decide +kernel) rfl
theorem w1000 : Cond.methodLink RL 57 yX8_parity ∈ zTab := z_in 1000 (by decide +kernel) rfl
theorem w1001 : Cond.instanceMethod yX8_parity ∈ zTab := z_in 1001 (by decide +kernel) rfl
theorem w1002 : Cond.selects RX8 yX8_parity yX8_parity ∈ zTab := z_in 1002 (by decide +kernel) rfl
theorem w1003 : Cond.code yX8_parity cX8_parity 3 (some .int) ∈ zTab := z_in 1003 (by decide +kernel) rfl
theorem w1008 : Cond.methodLink RL 61 yX8_critical ∈ zTab := z_in 1008 (by decide +kernel) rfl
theorem w1009 : Cond.instanceMethod yX8_critical ∈ zTab := z_in 1009 (by decide +kernel) rfl
theorem w1010 : Cond.selects RX8 yX8_critical yX8_critical ∈ zTab := z_in 1010 (by decide +kernel) rfl
theorem w1011 : Cond.code yX8_critical cX8_critical 3 (some .int) ∈ zTab := z_in 1011 (by decide +kernel) rfl
theorem w1016 : Cond.methodLink RL 66 yX8_rings ∈ zTab := z_in 1016 (by decide +kernel) rfl
theorem w1017 : Cond.instanceMethod yX8_rings ∈ zTab := z_in 1017 (by decide +kernel) rfl
theorem w1018 : Cond.selects RX8 yX8_rings yX8_rings ∈ zTab := z_in 1018 (by decide +kernel) rfl
theorem w1019 : Cond.code yX8_rings cX8_rings 6 (some .int) ∈ zTab := z_in 1019 (by decide +kernel) rfl
theorem w1020 : Cond.methodLink RL 70 yX8_brightest ∈ zTab := z_in 1020 (by decide +kernel) rfl
theorem w1021 : Cond.instanceMethod yX8_brightest ∈ zTab := z_in 1021 (by decide +kernel) rfl
theorem w1022 : Cond.selects RX8 yX8_brightest yX8_brightest ∈ zTab := z_in 1022 (by decide +kernel) rfl
theorem w1023 : Cond.code yX8_brightest cX8_brightest 8 (some .int) ∈ zTab := z_in 1023 (by decide +kernel) rfl
theorem w1024 : Cond.methodLink RL 75 yX8_delay ∈ zTab := z_in 1024 (by decide +kernel) rfl
theorem w1025 : Cond.instanceMethod yX8_delay ∈ zTab := z_in 1025 (by decide +kernel) rfl
theorem w1026 : Cond.selects RX8 yX8_delay yX8_delay ∈ zTab := z_in 1026 (by decide +kernel) rfl
theorem w1027 : Cond.code yX8_delay cX8_delay 11 (some .long) ∈ zTab := z_in 1027 (by decide +kernel) rfl
theorem w1030 : Cond.methodLink RL 79 yX8_stretch ∈ zTab := z_in 1030 (by decide +kernel) rfl
theorem w1031 : Cond.instanceMethod yX8_stretch ∈ zTab := z_in 1031 (by decide +kernel) rfl
theorem w1032 : Cond.selects RX8 yX8_stretch yX8_stretch ∈ zTab := z_in 1032 (by decide +kernel) rfl
theorem w1033 : Cond.code yX8_stretch cX8_stretch 14 (some .int) ∈ zTab := z_in 1033 (by decide +kernel) rfl
theorem w1034 : Cond.methodLink RL 86 yX8_type ∈ zTab := z_in 1034 (by decide +kernel) rfl
theorem w1035 : Cond.instanceMethod yX8_type ∈ zTab := z_in 1035 (by decide +kernel) rfl
theorem w1036 : Cond.selects RX8 yX8_type yX8_type ∈ zTab := z_in 1036 (by decide +kernel) rfl
theorem w1037 : Cond.code yX8_type cX8_type 5 (some .int) ∈ zTab := z_in 1037 (by decide +kernel) rfl
theorem w1039 : Cond.methodLink RL 90 yX8_clear ∈ zTab := z_in 1039 (by decide +kernel) rfl
theorem w1040 : Cond.instanceMethod yX8_clear ∈ zTab := z_in 1040 (by decide +kernel) rfl
theorem w1041 : Cond.selects RX8 yX8_clear yX8_clear ∈ zTab := z_in 1041 (by decide +kernel) rfl
theorem w1042 : Cond.code yX8_clear cX8_clear 2 (some .int) ∈ zTab := z_in 1042 (by decide +kernel) rfl
theorem w1043 : Cond.methodLink RL 94 yX8_read ∈ zTab := z_in 1043 (by decide +kernel) rfl
theorem w1044 : Cond.instanceMethod yX8_read ∈ zTab := z_in 1044 (by decide +kernel) rfl
theorem w1045 : Cond.selects RX8 yX8_read yX8_read ∈ zTab := z_in 1045 (by decide +kernel) rfl
theorem w1046 : Cond.code yX8_read cX8_read 3 (some .int) ∈ zTab := z_in 1046 (by decide +kernel) rfl
theorem w1067 : Cond.methodLink RL 98 yX8_pair ∈ zTab := z_in 1067 (by decide +kernel) rfl
theorem w1068 : Cond.instanceMethod yX8_pair ∈ zTab := z_in 1068 (by decide +kernel) rfl
theorem w1069 : Cond.selects RX8 yX8_pair yX8_pair ∈ zTab := z_in 1069 (by decide +kernel) rfl
theorem w1070 : Cond.code yX8_pair cX8_pair 5 (some .int) ∈ zTab := z_in 1070 (by decide +kernel) rfl
theorem w1071 : Cond.methodLink RL 102 yX8_wipe ∈ zTab := z_in 1071 (by decide +kernel) rfl
theorem w1072 : Cond.instanceMethod yX8_wipe ∈ zTab := z_in 1072 (by decide +kernel) rfl
theorem w1073 : Cond.selects RX8 yX8_wipe yX8_wipe ∈ zTab := z_in 1073 (by decide +kernel) rfl
theorem w1074 : Cond.code yX8_wipe cX8_wipe 2 (some .int) ∈ zTab := z_in 1074 (by decide +kernel) rfl
theorem w1075 : Cond.methodLink RL 106 yX8_tolerance ∈ zTab := z_in 1075 (by decide +kernel) rfl
theorem w1076 : Cond.instanceMethod yX8_tolerance ∈ zTab := z_in 1076 (by decide +kernel) rfl
theorem w1077 : Cond.selects RX8 yX8_tolerance yX8_tolerance ∈ zTab := z_in 1077 (by decide +kernel) rfl
theorem w1078 : Cond.code yX8_tolerance cX8_tolerance 4 (some .int) ∈ zTab := z_in 1078 (by decide +kernel) rfl
theorem w1079 : Cond.methodLink RL 110 yX8_fits ∈ zTab := z_in 1079 (by decide +kernel) rfl
theorem w1080 : Cond.instanceMethod yX8_fits ∈ zTab := z_in 1080 (by decide +kernel) rfl
theorem w1081 : Cond.selects RX8 yX8_fits yX8_fits ∈ zTab := z_in 1081 (by decide +kernel) rfl
theorem w1082 : Cond.code yX8_fits cX8_fits 5 (some .int) ∈ zTab := z_in 1082 (by decide +kernel) rfl
theorem w1113 : Cond.methodLink RL 114 yX8_models ∈ zTab := z_in 1113 (by decide +kernel) rfl
theorem w1114 : Cond.instanceMethod yX8_models ∈ zTab := z_in 1114 (by decide +kernel) rfl
theorem w1115 : Cond.selects RX8 yX8_models yX8_models ∈ zTab := z_in 1115 (by decide +kernel) rfl
theorem w1116 : Cond.code yX8_models cX8_models 9 (some .int) ∈ zTab := z_in 1116 (by decide +kernel) rfl
theorem w1129 : Cond.methodLink RL 118 yX8_sure ∈ zTab := z_in 1129 (by decide +kernel) rfl
theorem w1130 : Cond.instanceMethod yX8_sure ∈ zTab := z_in 1130 (by decide +kernel) rfl
theorem w1131 : Cond.selects RX8 yX8_sure yX8_sure ∈ zTab := z_in 1131 (by decide +kernel) rfl
theorem w1132 : Cond.code yX8_sure cX8_sure 7 (some .int) ∈ zTab := z_in 1132 (by decide +kernel) rfl
theorem w1133 : Cond.methodLink RL 122 yX8_spot ∈ zTab := z_in 1133 (by decide +kernel) rfl
theorem w1134 : Cond.instanceMethod yX8_spot ∈ zTab := z_in 1134 (by decide +kernel) rfl
theorem w1135 : Cond.selects RX8 yX8_spot yX8_spot ∈ zTab := z_in 1135 (by decide +kernel) rfl
theorem w1136 : Cond.code yX8_spot cX8_spot 3 (some .int) ∈ zTab := z_in 1136 (by decide +kernel) rfl
theorem w1137 : Cond.methodLink RL 126 yX8_forget ∈ zTab := z_in 1137 (by decide +kernel) rfl
theorem w1138 : Cond.instanceMethod yX8_forget ∈ zTab := z_in 1138 (by decide +kernel) rfl
theorem w1139 : Cond.selects RX8 yX8_forget yX8_forget ∈ zTab := z_in 1139 (by decide +kernel) rfl
theorem w1140 : Cond.code yX8_forget cX8_forget 2 (some .int) ∈ zTab := z_in 1140 (by decide +kernel) rfl
theorem w1141 : Cond.methodLink RL 130 yX8_bright ∈ zTab := z_in 1141 (by decide +kernel) rfl
theorem w1142 : Cond.instanceMethod yX8_bright ∈ zTab := z_in 1142 (by decide +kernel) rfl
theorem w1143 : Cond.selects RX8 yX8_bright yX8_bright ∈ zTab := z_in 1143 (by decide +kernel) rfl
theorem w1144 : Cond.code yX8_bright cX8_bright 5 (some .int) ∈ zTab := z_in 1144 (by decide +kernel) rfl
theorem w1145 : Cond.methodLink RL 134 yX8_far ∈ zTab := z_in 1145 (by decide +kernel) rfl
theorem w1146 : Cond.instanceMethod yX8_far ∈ zTab := z_in 1146 (by decide +kernel) rfl
theorem w1147 : Cond.selects RX8 yX8_far yX8_far ∈ zTab := z_in 1147 (by decide +kernel) rfl
theorem w1148 : Cond.code yX8_far cX8_far 3 (some .int) ∈ zTab := z_in 1148 (by decide +kernel) rfl
theorem w1157 : Cond.methodLink RL 138 yX8_contradicts ∈ zTab := z_in 1157 (by decide +kernel) rfl
theorem w1158 : Cond.instanceMethod yX8_contradicts ∈ zTab := z_in 1158 (by decide +kernel) rfl
theorem w1159 : Cond.selects RX8 yX8_contradicts yX8_contradicts ∈ zTab := z_in 1159 (by decide +kernel) rfl
theorem w1160 : Cond.code yX8_contradicts cX8_contradicts 6 (some .int) ∈ zTab := z_in 1160 (by decide +kernel) rfl
theorem w1161 : Cond.methodLink RL 142 yX8_filled ∈ zTab := z_in 1161 (by decide +kernel) rfl
theorem w1162 : Cond.instanceMethod yX8_filled ∈ zTab := z_in 1162 (by decide +kernel) rfl
theorem w1163 : Cond.selects RX8 yX8_filled yX8_filled ∈ zTab := z_in 1163 (by decide +kernel) rfl
theorem w1164 : Cond.code yX8_filled cX8_filled 3 (some .int) ∈ zTab := z_in 1164 (by decide +kernel) rfl
theorem w1165 : Cond.methodLink RL 146 yX8_count ∈ zTab := z_in 1165 (by decide +kernel) rfl
theorem w1166 : Cond.instanceMethod yX8_count ∈ zTab := z_in 1166 (by decide +kernel) rfl
theorem w1167 : Cond.selects RX8 yX8_count yX8_count ∈ zTab := z_in 1167 (by decide +kernel) rfl
theorem w1168 : Cond.code yX8_count cX8_count 4 (some .int) ∈ zTab := z_in 1168 (by decide +kernel) rfl
theorem w1169 : Cond.methodLink RL 151 yX8_trace ∈ zTab := z_in 1169 (by decide +kernel) rfl
theorem w1170 : Cond.instanceMethod yX8_trace ∈ zTab := z_in 1170 (by decide +kernel) rfl
theorem w1171 : Cond.selects RX8 yX8_trace yX8_trace ∈ zTab := z_in 1171 (by decide +kernel) rfl
theorem w1172 : Cond.code yX8_trace cX8_trace 1 (some .long) ∈ zTab := z_in 1172 (by decide +kernel) rfl
theorem w1173 : Cond.constantLong RL 80 (4294967295 : Int64) ∈ zTab := z_in 1173 (by decide +kernel) rfl
def FL_law_L18 (L : Nat) (xs : Nat → Int32) (r1 : (Int32 × zMem) → Option (Int32)) (s2 : Int32 × zMem) : Option (Int32) := if ((Int32.ofNat L) - (7 : Int32)) < s2.1 then (some (1 : Int32)) else (zguard (zin s2.1 L) (if ((xs (zcl s2.1)) &&& (31 : Int32)) = (0 : Int32) then (zguard (zin (s2.1 + (1 : Int32)) L) (zguard (zin (s2.1 + (2 : Int32)) L) (zguard (zin (s2.1 + (3 : Int32)) L) (zguard (zin (s2.1 + (4 : Int32)) L) ((FX7_body (xs (zcl (s2.1 + (1 : Int32)))) (xs (zcl (s2.1 + (2 : Int32)))) (xs (zcl (s2.1 + (3 : Int32)))) (xs (zcl (s2.1 + (4 : Int32)))) s2.2).bind fun b97 => zguard (zin (s2.1 + (1 : Int32)) L) (zguard (zin (s2.1 + (2 : Int32)) L) (zguard (zin (s2.1 + (3 : Int32)) L) (zguard (zin (s2.1 + (4 : Int32)) L) ((FX8_body (xs (zcl (s2.1 + (1 : Int32)))) (xs (zcl (s2.1 + (2 : Int32)))) (xs (zcl (s2.1 + (3 : Int32)))) (xs (zcl (s2.1 + (4 : Int32)))) b97.2).bind fun b98 => if b97.1 = b98.1 then (zlet (s2.1 + (7 : Int32)) fun x99 => r1 (x99, b98.2)) else (some (0 : Int32))))))))))) else (if ((xs (zcl s2.1)) &&& (31 : Int32)) = (1 : Int32) then (zguard (zin (s2.1 + (1 : Int32)) L) (zguard (zin (s2.1 + (2 : Int32)) L) (zguard (zin (s2.1 + (3 : Int32)) L) ((FX7_set (xs (zcl (s2.1 + (1 : Int32)))) (xs (zcl (s2.1 + (2 : Int32)))) (xs (zcl (s2.1 + (3 : Int32)))) s2.2).bind fun b94 => zguard (zin (s2.1 + (1 : Int32)) L) (zguard (zin (s2.1 + (2 : Int32)) L) (zguard (zin (s2.1 + (3 : Int32)) L) ((FX8_set (xs (zcl (s2.1 + (1 : Int32)))) (xs (zcl (s2.1 + (2 : Int32)))) (xs (zcl (s2.1 + (3 : Int32)))) b94.2).bind fun b95 => if b94.1 = b95.1 then (zlet (s2.1 + (7 : Int32)) fun x96 => r1 (x96, b95.2)) else (some (0 : Int32))))))))) else (if ((xs (zcl s2.1)) &&& (31 : Int32)) = (2 : Int32) then ((FX7_drop s2.2).bind fun b91 => (FX8_drop b91.2).bind fun b92 => if b91.1 = b92.1 then (zlet (s2.1 + (7 : Int32)) fun x93 => r1 (x93, b92.2)) else (some (0 : Int32))) else (if ((xs (zcl s2.1)) &&& (31 : Int32)) = (3 : Int32) then (zguard (zin (s2.1 + (1 : Int32)) L) (zguard (zin (s2.1 + (2 : Int32)) L) ((FX7_field (xs (zcl (s2.1 + (1 : Int32)))) (xs (zcl (s2.1 + (2 : Int32)))) s2.2).bind fun b88 => zguard (zin (s2.1 + (1 : Int32)) L) (zguard (zin (s2.1 + (2 : Int32)) L) ((FX8_field (xs (zcl (s2.1 + (1 : Int32)))) (xs (zcl (s2.1 + (2 : Int32)))) b88.2).bind fun b89 => if b88.1 = b89.1 then (zlet (s2.1 + (7 : Int32)) fun x90 => r1 (x90, b89.2)) else (some (0 : Int32))))))) else (if ((xs (zcl s2.1)) &&& (31 : Int32)) = (4 : Int32) then (zguard (zin (s2.1 + (1 : Int32)) L) (zguard (zin (s2.1 + (2 : Int32)) L) (zguard (zin (s2.1 + (3 : Int32)) L) (zguard (zin (s2.1 + (4 : Int32)) L) (zguard (zin (s2.1 + (5 : Int32)) L) ((FX7_bend (xs (zcl (s2.1 + (1 : Int32)))) (xs (zcl (s2.1 + (2 : Int32)))) (xs (zcl (s2.1 + (3 : Int32)))) (xs (zcl (s2.1 + (4 : Int32)))) (xs (zcl (s2.1 + (5 : Int32)))) s2.2).bind fun b85 => zguard (zin (s2.1 + (1 : Int32)) L) (zguard (zin (s2.1 + (2 : Int32)) L) (zguard (zin (s2.1 + (3 : Int32)) L) (zguard (zin (s2.1 + (4 : Int32)) L) (zguard (zin (s2.1 + (5 : Int32)) L) ((FX8_bend (xs (zcl (s2.1 + (1 : Int32)))) (xs (zcl (s2.1 + (2 : Int32)))) (xs (zcl (s2.1 + (3 : Int32)))) (xs (zcl (s2.1 + (4 : Int32)))) (xs (zcl (s2.1 + (5 : Int32)))) b85.2).bind fun b86 => if b85.1 = b86.1 then (zlet (s2.1 + (7 : Int32)) fun x87 => r1 (x87, b86.2)) else (some (0 : Int32))))))))))))) else (if ((xs (zcl s2.1)) &&& (31 : Int32)) = (5 : Int32) then (zguard (zin (s2.1 + (1 : Int32)) L) (zguard (zin (s2.1 + (2 : Int32)) L) (zguard (zin (s2.1 + (3 : Int32)) L) ((FX7_from (xs (zcl (s2.1 + (1 : Int32)))) (xs (zcl (s2.1 + (2 : Int32)))) (xs (zcl (s2.1 + (3 : Int32)))) s2.2).bind fun b82 => zguard (zin (s2.1 + (1 : Int32)) L) (zguard (zin (s2.1 + (2 : Int32)) L) (zguard (zin (s2.1 + (3 : Int32)) L) ((FX8_from (xs (zcl (s2.1 + (1 : Int32)))) (xs (zcl (s2.1 + (2 : Int32)))) (xs (zcl (s2.1 + (3 : Int32)))) s2.2).bind fun b83 => if b82 = b83 then (zlet (s2.1 + (7 : Int32)) fun x84 => r1 (x84, s2.2)) else (some (0 : Int32))))))))) else (if ((xs (zcl s2.1)) &&& (31 : Int32)) = (6 : Int32) then (zguard (zin (s2.1 + (1 : Int32)) L) (zguard (zin (s2.1 + (2 : Int32)) L) (zguard (zin (s2.1 + (3 : Int32)) L) ((FX7_cell (xs (zcl (s2.1 + (1 : Int32)))) (xs (zcl (s2.1 + (2 : Int32)))) (xs (zcl (s2.1 + (3 : Int32)))) s2.2).bind fun b79 => zguard (zin (s2.1 + (1 : Int32)) L) (zguard (zin (s2.1 + (2 : Int32)) L) (zguard (zin (s2.1 + (3 : Int32)) L) ((FX8_cell (xs (zcl (s2.1 + (1 : Int32)))) (xs (zcl (s2.1 + (2 : Int32)))) (xs (zcl (s2.1 + (3 : Int32)))) s2.2).bind fun b80 => if b79 = b80 then (zlet (s2.1 + (7 : Int32)) fun x81 => r1 (x81, s2.2)) else (some (0 : Int32))))))))) else (if ((xs (zcl s2.1)) &&& (31 : Int32)) = (7 : Int32) then (zguard (zin (s2.1 + (1 : Int32)) L) (zguard (zin (s2.1 + (2 : Int32)) L) (zguard (zin (s2.1 + (3 : Int32)) L) ((FX7_pictures (xs (zcl (s2.1 + (1 : Int32)))) (xs (zcl (s2.1 + (2 : Int32)))) (xs (zcl (s2.1 + (3 : Int32)))) s2.2).bind fun b76 => zguard (zin (s2.1 + (1 : Int32)) L) (zguard (zin (s2.1 + (2 : Int32)) L) (zguard (zin (s2.1 + (3 : Int32)) L) ((FX8_pictures (xs (zcl (s2.1 + (1 : Int32)))) (xs (zcl (s2.1 + (2 : Int32)))) (xs (zcl (s2.1 + (3 : Int32)))) b76.2).bind fun b77 => if b76.1 = b77.1 then (zlet (s2.1 + (7 : Int32)) fun x78 => r1 (x78, b77.2)) else (some (0 : Int32))))))))) else (if ((xs (zcl s2.1)) &&& (31 : Int32)) = (8 : Int32) then (zguard (zin (s2.1 + (1 : Int32)) L) (zguard (zin (s2.1 + (2 : Int32)) L) (zguard (zin (s2.1 + (3 : Int32)) L) (zguard (zin (s2.1 + (4 : Int32)) L) ((FX7_group (xs (zcl (s2.1 + (1 : Int32)))) (xs (zcl (s2.1 + (2 : Int32)))) (xs (zcl (s2.1 + (3 : Int32)))) (xs (zcl (s2.1 + (4 : Int32)))) s2.2).bind fun b73 => zguard (zin (s2.1 + (1 : Int32)) L) (zguard (zin (s2.1 + (2 : Int32)) L) (zguard (zin (s2.1 + (3 : Int32)) L) (zguard (zin (s2.1 + (4 : Int32)) L) ((FX8_group (xs (zcl (s2.1 + (1 : Int32)))) (xs (zcl (s2.1 + (2 : Int32)))) (xs (zcl (s2.1 + (3 : Int32)))) (xs (zcl (s2.1 + (4 : Int32)))) b73.2).bind fun b74 => if b73.1 = b74.1 then (zlet (s2.1 + (7 : Int32)) fun x75 => r1 (x75, b74.2)) else (some (0 : Int32))))))))))) else (if ((xs (zcl s2.1)) &&& (31 : Int32)) = (9 : Int32) then (zguard (zin (s2.1 + (1 : Int32)) L) (zguard (zin (s2.1 + (2 : Int32)) L) ((FX7_parity (xs (zcl (s2.1 + (1 : Int32)))) (xs (zcl (s2.1 + (2 : Int32)))) s2.2).bind fun b70 => zguard (zin (s2.1 + (1 : Int32)) L) (zguard (zin (s2.1 + (2 : Int32)) L) ((FX8_parity (xs (zcl (s2.1 + (1 : Int32)))) (xs (zcl (s2.1 + (2 : Int32)))) b70.2).bind fun b71 => if b70.1 = b71.1 then (zlet (s2.1 + (7 : Int32)) fun x72 => r1 (x72, b71.2)) else (some (0 : Int32))))))) else (if ((xs (zcl s2.1)) &&& (31 : Int32)) = (10 : Int32) then (zguard (zin (s2.1 + (1 : Int32)) L) (zguard (zin (s2.1 + (2 : Int32)) L) ((FX7_critical (xs (zcl (s2.1 + (1 : Int32)))) (xs (zcl (s2.1 + (2 : Int32)))) s2.2).bind fun b67 => zguard (zin (s2.1 + (1 : Int32)) L) (zguard (zin (s2.1 + (2 : Int32)) L) ((FX8_critical (xs (zcl (s2.1 + (1 : Int32)))) (xs (zcl (s2.1 + (2 : Int32)))) b67.2).bind fun b68 => if b67.1 = b68.1 then (zlet (s2.1 + (7 : Int32)) fun x69 => r1 (x69, b68.2)) else (some (0 : Int32))))))) else (if ((xs (zcl s2.1)) &&& (31 : Int32)) = (11 : Int32) then (zguard (zin (s2.1 + (1 : Int32)) L) ((FX7_rings (xs (zcl (s2.1 + (1 : Int32)))) s2.2).bind fun b64 => zguard (zin (s2.1 + (1 : Int32)) L) ((FX8_rings (xs (zcl (s2.1 + (1 : Int32)))) b64.2).bind fun b65 => if b64.1 = b65.1 then (zlet (s2.1 + (7 : Int32)) fun x66 => r1 (x66, b65.2)) else (some (0 : Int32))))) else (if ((xs (zcl s2.1)) &&& (31 : Int32)) = (12 : Int32) then (zguard (zin (s2.1 + (1 : Int32)) L) ((FX7_brightest (xs (zcl (s2.1 + (1 : Int32)))) s2.2).bind fun b61 => zguard (zin (s2.1 + (1 : Int32)) L) ((FX8_brightest (xs (zcl (s2.1 + (1 : Int32)))) b61.2).bind fun b62 => if b61.1 = b62.1 then (zlet (s2.1 + (7 : Int32)) fun x63 => r1 (x63, b62.2)) else (some (0 : Int32))))) else (if ((xs (zcl s2.1)) &&& (31 : Int32)) = (13 : Int32) then (zguard (zin (s2.1 + (1 : Int32)) L) (zguard (zin (s2.1 + (2 : Int32)) L) (zguard (zin (s2.1 + (3 : Int32)) L) (zguard (zin (s2.1 + (4 : Int32)) L) (zguard (zin (s2.1 + (5 : Int32)) L) (zguard (zin (s2.1 + (6 : Int32)) L) ((FX7_delay (xs (zcl (s2.1 + (1 : Int32)))) (xs (zcl (s2.1 + (2 : Int32)))) (xs (zcl (s2.1 + (3 : Int32)))) (xs (zcl (s2.1 + (4 : Int32)))) (xs (zcl (s2.1 + (5 : Int32)))) (xs (zcl (s2.1 + (6 : Int32)))) s2.2).bind fun b58 => zguard (zin (s2.1 + (1 : Int32)) L) (zguard (zin (s2.1 + (2 : Int32)) L) (zguard (zin (s2.1 + (3 : Int32)) L) (zguard (zin (s2.1 + (4 : Int32)) L) (zguard (zin (s2.1 + (5 : Int32)) L) (zguard (zin (s2.1 + (6 : Int32)) L) ((FX8_delay (xs (zcl (s2.1 + (1 : Int32)))) (xs (zcl (s2.1 + (2 : Int32)))) (xs (zcl (s2.1 + (3 : Int32)))) (xs (zcl (s2.1 + (4 : Int32)))) (xs (zcl (s2.1 + (5 : Int32)))) (xs (zcl (s2.1 + (6 : Int32)))) b58.2).bind fun b59 => if (lg_cmp b58.1 b59) = 0 then (zlet (s2.1 + (7 : Int32)) fun x60 => r1 (x60, b58.2)) else (some (0 : Int32))))))))))))))) else (if ((xs (zcl s2.1)) &&& (31 : Int32)) = (14 : Int32) then (zguard (zin (s2.1 + (1 : Int32)) L) ((FX7_stretch (xs (zcl (s2.1 + (1 : Int32)))) s2.2).bind fun b55 => zguard (zin (s2.1 + (1 : Int32)) L) ((FX8_stretch (xs (zcl (s2.1 + (1 : Int32)))) b55.2).bind fun b56 => if b55.1 = b56.1 then (zlet (s2.1 + (7 : Int32)) fun x57 => r1 (x57, b56.2)) else (some (0 : Int32))))) else (if ((xs (zcl s2.1)) &&& (31 : Int32)) = (15 : Int32) then (zguard (zin (s2.1 + (1 : Int32)) L) (zguard (zin (s2.1 + (2 : Int32)) L) (zguard (zin (s2.1 + (3 : Int32)) L) ((FX7_type (((xs (zcl (s2.1 + (1 : Int32)))).toInt64 <<< ((32 : Int32).toInt64 &&& 63)) ||| ((xs (zcl (s2.1 + (2 : Int32)))).toInt64 &&& (4294967295 : Int64))) (xs (zcl (s2.1 + (3 : Int32)))) s2.2).bind fun b52 => zguard (zin (s2.1 + (1 : Int32)) L) (zguard (zin (s2.1 + (2 : Int32)) L) (zguard (zin (s2.1 + (3 : Int32)) L) ((FX8_type (((xs (zcl (s2.1 + (1 : Int32)))).toInt64 <<< ((32 : Int32).toInt64 &&& 63)) ||| ((xs (zcl (s2.1 + (2 : Int32)))).toInt64 &&& (4294967295 : Int64))) (xs (zcl (s2.1 + (3 : Int32)))) b52.2).bind fun b53 => if b52.1 = b53.1 then (zlet (s2.1 + (7 : Int32)) fun x54 => r1 (x54, b53.2)) else (some (0 : Int32))))))))) else (if ((xs (zcl s2.1)) &&& (31 : Int32)) = (16 : Int32) then ((FX7_clear s2.2).bind fun b49 => (FX8_clear b49.2).bind fun b50 => if b49.1 = b50.1 then (zlet (s2.1 + (7 : Int32)) fun x51 => r1 (x51, b50.2)) else (some (0 : Int32))) else (if ((xs (zcl s2.1)) &&& (31 : Int32)) = (17 : Int32) then ((FX7_read s2.2).bind fun b46 => (FX8_read b46.2).bind fun b47 => if b46.1 = b47.1 then (zlet (s2.1 + (7 : Int32)) fun x48 => r1 (x48, b47.2)) else (some (0 : Int32))) else (if ((xs (zcl s2.1)) &&& (31 : Int32)) = (18 : Int32) then (zguard (zin (s2.1 + (1 : Int32)) L) (zguard (zin (s2.1 + (2 : Int32)) L) (zguard (zin (s2.1 + (3 : Int32)) L) (zguard (zin (s2.1 + (4 : Int32)) L) ((FX7_pair (xs (zcl (s2.1 + (1 : Int32)))) (xs (zcl (s2.1 + (2 : Int32)))) (xs (zcl (s2.1 + (3 : Int32)))) (xs (zcl (s2.1 + (4 : Int32)))) s2.2).bind fun b43 => zguard (zin (s2.1 + (1 : Int32)) L) (zguard (zin (s2.1 + (2 : Int32)) L) (zguard (zin (s2.1 + (3 : Int32)) L) (zguard (zin (s2.1 + (4 : Int32)) L) ((FX8_pair (xs (zcl (s2.1 + (1 : Int32)))) (xs (zcl (s2.1 + (2 : Int32)))) (xs (zcl (s2.1 + (3 : Int32)))) (xs (zcl (s2.1 + (4 : Int32)))) b43.2).bind fun b44 => if b43.1 = b44.1 then (zlet (s2.1 + (7 : Int32)) fun x45 => r1 (x45, b44.2)) else (some (0 : Int32))))))))))) else (if ((xs (zcl s2.1)) &&& (31 : Int32)) = (19 : Int32) then ((FX7_wipe s2.2).bind fun b40 => (FX8_wipe b40.2).bind fun b41 => if b40.1 = b41.1 then (zlet (s2.1 + (7 : Int32)) fun x42 => r1 (x42, b41.2)) else (some (0 : Int32))) else (if ((xs (zcl s2.1)) &&& (31 : Int32)) = (20 : Int32) then (zguard (zin (s2.1 + (1 : Int32)) L) (zguard (zin (s2.1 + (2 : Int32)) L) ((FX7_tolerance (xs (zcl (s2.1 + (1 : Int32)))) (xs (zcl (s2.1 + (2 : Int32)))) s2.2).bind fun b37 => zguard (zin (s2.1 + (1 : Int32)) L) (zguard (zin (s2.1 + (2 : Int32)) L) ((FX8_tolerance (xs (zcl (s2.1 + (1 : Int32)))) (xs (zcl (s2.1 + (2 : Int32)))) b37.2).bind fun b38 => if b37.1 = b38.1 then (zlet (s2.1 + (7 : Int32)) fun x39 => r1 (x39, b38.2)) else (some (0 : Int32))))))) else (if ((xs (zcl s2.1)) &&& (31 : Int32)) = (21 : Int32) then (zguard (zin (s2.1 + (1 : Int32)) L) (zguard (zin (s2.1 + (2 : Int32)) L) (zguard (zin (s2.1 + (3 : Int32)) L) ((FX7_fits (xs (zcl (s2.1 + (1 : Int32)))) (xs (zcl (s2.1 + (2 : Int32)))) (xs (zcl (s2.1 + (3 : Int32)))) s2.2).bind fun b34 => zguard (zin (s2.1 + (1 : Int32)) L) (zguard (zin (s2.1 + (2 : Int32)) L) (zguard (zin (s2.1 + (3 : Int32)) L) ((FX8_fits (xs (zcl (s2.1 + (1 : Int32)))) (xs (zcl (s2.1 + (2 : Int32)))) (xs (zcl (s2.1 + (3 : Int32)))) b34.2).bind fun b35 => if b34.1 = b35.1 then (zlet (s2.1 + (7 : Int32)) fun x36 => r1 (x36, b35.2)) else (some (0 : Int32))))))))) else (if ((xs (zcl s2.1)) &&& (31 : Int32)) = (22 : Int32) then (zguard (zin (s2.1 + (1 : Int32)) L) (zguard (zin (s2.1 + (2 : Int32)) L) (zguard (zin (s2.1 + (3 : Int32)) L) ((FX7_models (xs (zcl (s2.1 + (1 : Int32)))) (xs (zcl (s2.1 + (2 : Int32)))) (xs (zcl (s2.1 + (3 : Int32)))) s2.2).bind fun b31 => zguard (zin (s2.1 + (1 : Int32)) L) (zguard (zin (s2.1 + (2 : Int32)) L) (zguard (zin (s2.1 + (3 : Int32)) L) ((FX8_models (xs (zcl (s2.1 + (1 : Int32)))) (xs (zcl (s2.1 + (2 : Int32)))) (xs (zcl (s2.1 + (3 : Int32)))) b31.2).bind fun b32 => if b31.1 = b32.1 then (zlet (s2.1 + (7 : Int32)) fun x33 => r1 (x33, b32.2)) else (some (0 : Int32))))))))) else (if ((xs (zcl s2.1)) &&& (31 : Int32)) = (23 : Int32) then (zguard (zin (s2.1 + (1 : Int32)) L) (zguard (zin (s2.1 + (2 : Int32)) L) (zguard (zin (s2.1 + (3 : Int32)) L) ((FX7_sure (xs (zcl (s2.1 + (1 : Int32)))) (xs (zcl (s2.1 + (2 : Int32)))) (xs (zcl (s2.1 + (3 : Int32)))) s2.2).bind fun b28 => zguard (zin (s2.1 + (1 : Int32)) L) (zguard (zin (s2.1 + (2 : Int32)) L) (zguard (zin (s2.1 + (3 : Int32)) L) ((FX8_sure (xs (zcl (s2.1 + (1 : Int32)))) (xs (zcl (s2.1 + (2 : Int32)))) (xs (zcl (s2.1 + (3 : Int32)))) b28.2).bind fun b29 => if b28.1 = b29.1 then (zlet (s2.1 + (7 : Int32)) fun x30 => r1 (x30, b29.2)) else (some (0 : Int32))))))))) else (if ((xs (zcl s2.1)) &&& (31 : Int32)) = (24 : Int32) then (zguard (zin (s2.1 + (1 : Int32)) L) (zguard (zin (s2.1 + (2 : Int32)) L) ((FX7_spot (xs (zcl (s2.1 + (1 : Int32)))) (xs (zcl (s2.1 + (2 : Int32)))) s2.2).bind fun b25 => zguard (zin (s2.1 + (1 : Int32)) L) (zguard (zin (s2.1 + (2 : Int32)) L) ((FX8_spot (xs (zcl (s2.1 + (1 : Int32)))) (xs (zcl (s2.1 + (2 : Int32)))) b25.2).bind fun b26 => if b25.1 = b26.1 then (zlet (s2.1 + (7 : Int32)) fun x27 => r1 (x27, b26.2)) else (some (0 : Int32))))))) else (if ((xs (zcl s2.1)) &&& (31 : Int32)) = (25 : Int32) then ((FX7_forget s2.2).bind fun b22 => (FX8_forget b22.2).bind fun b23 => if b22.1 = b23.1 then (zlet (s2.1 + (7 : Int32)) fun x24 => r1 (x24, b23.2)) else (some (0 : Int32))) else (if ((xs (zcl s2.1)) &&& (31 : Int32)) = (26 : Int32) then (zguard (zin (s2.1 + (1 : Int32)) L) (zguard (zin (s2.1 + (2 : Int32)) L) (zguard (zin (s2.1 + (3 : Int32)) L) ((FX7_bright (xs (zcl (s2.1 + (1 : Int32)))) (xs (zcl (s2.1 + (2 : Int32)))) (xs (zcl (s2.1 + (3 : Int32)))) s2.2).bind fun b19 => zguard (zin (s2.1 + (1 : Int32)) L) (zguard (zin (s2.1 + (2 : Int32)) L) (zguard (zin (s2.1 + (3 : Int32)) L) ((FX8_bright (xs (zcl (s2.1 + (1 : Int32)))) (xs (zcl (s2.1 + (2 : Int32)))) (xs (zcl (s2.1 + (3 : Int32)))) b19.2).bind fun b20 => if b19.1 = b20.1 then (zlet (s2.1 + (7 : Int32)) fun x21 => r1 (x21, b20.2)) else (some (0 : Int32))))))))) else (if ((xs (zcl s2.1)) &&& (31 : Int32)) = (27 : Int32) then (zguard (zin (s2.1 + (1 : Int32)) L) (zguard (zin (s2.1 + (2 : Int32)) L) ((FX7_far (xs (zcl (s2.1 + (1 : Int32)))) (xs (zcl (s2.1 + (2 : Int32)))) s2.2).bind fun b16 => zguard (zin (s2.1 + (1 : Int32)) L) (zguard (zin (s2.1 + (2 : Int32)) L) ((FX8_far (xs (zcl (s2.1 + (1 : Int32)))) (xs (zcl (s2.1 + (2 : Int32)))) b16.2).bind fun b17 => if b16.1 = b17.1 then (zlet (s2.1 + (7 : Int32)) fun x18 => r1 (x18, b17.2)) else (some (0 : Int32))))))) else (if ((xs (zcl s2.1)) &&& (31 : Int32)) = (28 : Int32) then ((FX7_contradicts s2.2).bind fun b13 => (FX8_contradicts b13.2).bind fun b14 => if b13.1 = b14.1 then (zlet (s2.1 + (7 : Int32)) fun x15 => r1 (x15, b14.2)) else (some (0 : Int32))) else (if ((xs (zcl s2.1)) &&& (31 : Int32)) = (29 : Int32) then (zguard (zin (s2.1 + (1 : Int32)) L) (zguard (zin (s2.1 + (2 : Int32)) L) ((FX7_filled (xs (zcl (s2.1 + (1 : Int32)))) (xs (zcl (s2.1 + (2 : Int32)))) s2.2).bind fun b10 => zguard (zin (s2.1 + (1 : Int32)) L) (zguard (zin (s2.1 + (2 : Int32)) L) ((FX8_filled (xs (zcl (s2.1 + (1 : Int32)))) (xs (zcl (s2.1 + (2 : Int32)))) b10.2).bind fun b11 => if b10.1 = b11.1 then (zlet (s2.1 + (7 : Int32)) fun x12 => r1 (x12, b11.2)) else (some (0 : Int32))))))) else (if ((xs (zcl s2.1)) &&& (31 : Int32)) = (30 : Int32) then (zguard (zin (s2.1 + (1 : Int32)) L) ((FX7_count (xs (zcl (s2.1 + (1 : Int32)))) s2.2).bind fun b7 => zguard (zin (s2.1 + (1 : Int32)) L) ((FX8_count (xs (zcl (s2.1 + (1 : Int32)))) s2.2).bind fun b8 => if b7 = b8 then (zlet (s2.1 + (7 : Int32)) fun x9 => r1 (x9, s2.2)) else (some (0 : Int32))))) else (if ((xs (zcl s2.1)) &&& (31 : Int32)) = (31 : Int32) then ((FX7_trace s2.2).bind fun b4 => (FX8_trace s2.2).bind fun b5 => if (lg_cmp b4 b5) = 0 then (zlet (s2.1 + (7 : Int32)) fun x6 => r1 (x6, s2.2)) else (some (0 : Int32))) else (zlet (s2.1 + (7 : Int32)) fun x3 => r1 (x3, s2.2)))))))))))))))))))))))))))))))))))
def FL (xs : Nat → Int32) (L : Nat) (M : zMem) : Option Int32 := zloop (FL_law_L18 L xs) zFuel ((0 : Int32), M)
set_option maxRecDepth 100000 in
set_option maxHeartbeats 4000000 in
theorem mL_law {Y : zY} {X : zX} {L : Nat} {xs : Nat → Int32} (C : zC Y X RL cL_law 4 room_1 ret) (HX : zLx Y X L xs) (M : zMem) : zR Y X 4 (zFw Y X) (FL xs L M) 16 [(2, .ref 100), (1, .ref 0), (0, .ref 121)] [] M := by
  unfold FL
  refine z_iconst C (0 : Int32) dL_law_16 rfl rfl ?_
  refine z_istoreP_n (lo' := [(3, .int (0 : Int32)), (2, .ref 100), (1, .ref 0), (0, .ref 121)]) C dL_law_17 rfl (by decide) rfl rfl ?_
  refine z_loop (sM := fun s => s.2) (sl := fun s => [(0, .ref 121), (1, .ref 0), (2, .ref 100), (3, .int s.1)]) [3, 2, 1, 0] rfl rfl (fun r1 hr1 s2 => ?_)
  unfold FL_law_L18
  refine z_iload_n C 3 dL_law_18 rfl rfl rfl ?_
  refine z_aload_n C 0 dL_law_19 rfl rfl rfl ?_
  refine z_slen C HX dL_law_20 rfl ?_
  refine z_bipush C (7 : Int32) dL_law_21 rfl rfl ?_
  refine z_isub C dL_law_23 rfl ?_
  refine z_icmpgt C dL_law_24 rfl rfl ?_ ?_
  · refine z_iconst C (1 : Int32) dL_law_1302 rfl rfl ?_
    exact z_lawret C HX dL_law_1303 
  · refine z_aload_n C 0 dL_law_27 rfl rfl rfl ?_
    refine z_iload_n C 3 dL_law_28 rfl rfl rfl ?_
    refine z_sld C HX dL_law_29 rfl ?_
    refine z_bipush C (31 : Int32) dL_law_30 rfl rfl ?_
    refine z_iand C dL_law_32 rfl ?_
    refine z_ite (fun hs33_0 => ?_) (fun hs33_0 => ?_)
    · refine z_tswIn (v := (0 : Int32)) (off := 143) C hs33_0 dL_law_33 (by decide) (by decide) rfl rfl ?_
      refine z_aload_n C 1 dL_law_176 rfl rfl rfl ?_
      refine z_aload_n C 0 dL_law_177 rfl rfl rfl ?_
      refine z_iload_n C 3 dL_law_178 rfl rfl rfl ?_
      refine z_iconst C (1 : Int32) dL_law_179 rfl rfl ?_
      refine z_iadd C dL_law_180 rfl ?_
      refine z_sld C HX dL_law_181 rfl ?_
      refine z_aload_n C 0 dL_law_182 rfl rfl rfl ?_
      refine z_iload_n C 3 dL_law_183 rfl rfl rfl ?_
      refine z_iconst C (2 : Int32) dL_law_184 rfl rfl ?_
      refine z_iadd C dL_law_185 rfl ?_
      refine z_sld C HX dL_law_186 rfl ?_
      refine z_aload_n C 0 dL_law_187 rfl rfl rfl ?_
      refine z_iload_n C 3 dL_law_188 rfl rfl rfl ?_
      refine z_iconst C (3 : Int32) dL_law_189 rfl rfl ?_
      refine z_iadd C dL_law_190 rfl ?_
      refine z_sld C HX dL_law_191 rfl ?_
      refine z_aload_n C 0 dL_law_192 rfl rfl rfl ?_
      refine z_iload_n C 3 dL_law_193 rfl rfl rfl ?_
      refine z_iconst C (4 : Int32) dL_law_194 rfl rfl ?_
      refine z_iadd C dL_law_195 rfl ?_
      refine z_sld C HX dL_law_196 rfl ?_
      refine z_ci (fun b => b.1) (fun b => b.2) (fun b hb => z_V (na := 4) (ci := 7) (r := (RX7, TX7, 8)) C [.int (xs (zcl (s2.1 + (1 : Int32)))), .int (xs (zcl (s2.1 + (2 : Int32)))), .int (xs (zcl (s2.1 + (3 : Int32)))), .int (xs (zcl (s2.1 + (4 : Int32))))] rfl (mX7_body Y (xs (zcl (s2.1 + (1 : Int32)))) (xs (zcl (s2.1 + (2 : Int32)))) (xs (zcl (s2.1 + (3 : Int32)))) (xs (zcl (s2.1 + (4 : Int32)))) s2.2 b hb) rfl rfl w348 w349 w350 w79 w351 hdX7_body ⟨Nat.le_of_ble_eq_true rfl, Nat.le_of_ble_eq_true rfl⟩ (Nat.le_of_ble_eq_true rfl) rfl dL_law_197) rfl (fun b97 => ?_)
      refine z_aload_n C 2 dL_law_200 rfl rfl rfl ?_
      refine z_aload_n C 0 dL_law_201 rfl rfl rfl ?_
      refine z_iload_n C 3 dL_law_202 rfl rfl rfl ?_
      refine z_iconst C (1 : Int32) dL_law_203 rfl rfl ?_
      refine z_iadd C dL_law_204 rfl ?_
      refine z_sld C HX dL_law_205 rfl ?_
      refine z_aload_n C 0 dL_law_206 rfl rfl rfl ?_
      refine z_iload_n C 3 dL_law_207 rfl rfl rfl ?_
      refine z_iconst C (2 : Int32) dL_law_208 rfl rfl ?_
      refine z_iadd C dL_law_209 rfl ?_
      refine z_sld C HX dL_law_210 rfl ?_
      refine z_aload_n C 0 dL_law_211 rfl rfl rfl ?_
      refine z_iload_n C 3 dL_law_212 rfl rfl rfl ?_
      refine z_iconst C (3 : Int32) dL_law_213 rfl rfl ?_
      refine z_iadd C dL_law_214 rfl ?_
      refine z_sld C HX dL_law_215 rfl ?_
      refine z_aload_n C 0 dL_law_216 rfl rfl rfl ?_
      refine z_iload_n C 3 dL_law_217 rfl rfl rfl ?_
      refine z_iconst C (4 : Int32) dL_law_218 rfl rfl ?_
      refine z_iadd C dL_law_219 rfl ?_
      refine z_sld C HX dL_law_220 rfl ?_
      refine z_ci (fun b => b.1) (fun b => b.2) (fun b hb => z_V (na := 4) (ci := 8) (r := (RX8, TX8, 34)) C [.int (xs (zcl (s2.1 + (1 : Int32)))), .int (xs (zcl (s2.1 + (2 : Int32)))), .int (xs (zcl (s2.1 + (3 : Int32)))), .int (xs (zcl (s2.1 + (4 : Int32))))] rfl (mX8_body Y (xs (zcl (s2.1 + (1 : Int32)))) (xs (zcl (s2.1 + (2 : Int32)))) (xs (zcl (s2.1 + (3 : Int32)))) (xs (zcl (s2.1 + (4 : Int32)))) b97.2 b hb) rfl rfl w892 w893 w894 w88 w895 hdX8_body ⟨Nat.le_of_ble_eq_true rfl, Nat.le_of_ble_eq_true rfl⟩ (Nat.le_of_ble_eq_true rfl) rfl dL_law_221) rfl (fun b98 => ?_)
      refine z_icmpeq C dL_law_224 rfl rfl ?_ ?_
      · refine z_iinc (v := (s2.1 + (7 : Int32))) C 3 (fun z => [(3, .int z), (0, .ref 121), (1, .ref 0), (2, .ref 100)]) dL_law_1296 rfl rfl (by decide) (fun _ => rfl) rfl (fun x99 => ?_)
        refine z_goto C dL_law_1299 rfl ?_
        exact z_perm [1, 2, 3, 0] rfl (hr1 (x99, b98.2))
      · refine z_iconst C (0 : Int32) dL_law_227 rfl rfl ?_
        exact z_lawbad 
    · refine z_ite (fun hs33_1 => ?_) (fun hs33_1 => ?_)
      · refine z_tswIn (v := (1 : Int32)) (off := 196) C hs33_1 dL_law_33 (by decide) (by decide) rfl rfl ?_
        refine z_aload_n C 1 dL_law_229 rfl rfl rfl ?_
        refine z_aload_n C 0 dL_law_230 rfl rfl rfl ?_
        refine z_iload_n C 3 dL_law_231 rfl rfl rfl ?_
        refine z_iconst C (1 : Int32) dL_law_232 rfl rfl ?_
        refine z_iadd C dL_law_233 rfl ?_
        refine z_sld C HX dL_law_234 rfl ?_
        refine z_aload_n C 0 dL_law_235 rfl rfl rfl ?_
        refine z_iload_n C 3 dL_law_236 rfl rfl rfl ?_
        refine z_iconst C (2 : Int32) dL_law_237 rfl rfl ?_
        refine z_iadd C dL_law_238 rfl ?_
        refine z_sld C HX dL_law_239 rfl ?_
        refine z_aload_n C 0 dL_law_240 rfl rfl rfl ?_
        refine z_iload_n C 3 dL_law_241 rfl rfl rfl ?_
        refine z_iconst C (3 : Int32) dL_law_242 rfl rfl ?_
        refine z_iadd C dL_law_243 rfl ?_
        refine z_sld C HX dL_law_244 rfl ?_
        refine z_ci (fun b => b.1) (fun b => b.2) (fun b hb => z_V (na := 3) (ci := 7) (r := (RX7, TX7, 8)) C [.int (xs (zcl (s2.1 + (1 : Int32)))), .int (xs (zcl (s2.1 + (2 : Int32)))), .int (xs (zcl (s2.1 + (3 : Int32))))] rfl (mX7_set Y (xs (zcl (s2.1 + (1 : Int32)))) (xs (zcl (s2.1 + (2 : Int32)))) (xs (zcl (s2.1 + (3 : Int32)))) s2.2 b hb) rfl rfl w371 w372 w373 w79 w374 hdX7_set ⟨Nat.le_of_ble_eq_true rfl, Nat.le_of_ble_eq_true rfl⟩ (Nat.le_of_ble_eq_true rfl) rfl dL_law_245) rfl (fun b94 => ?_)
        refine z_aload_n C 2 dL_law_248 rfl rfl rfl ?_
        refine z_aload_n C 0 dL_law_249 rfl rfl rfl ?_
        refine z_iload_n C 3 dL_law_250 rfl rfl rfl ?_
        refine z_iconst C (1 : Int32) dL_law_251 rfl rfl ?_
        refine z_iadd C dL_law_252 rfl ?_
        refine z_sld C HX dL_law_253 rfl ?_
        refine z_aload_n C 0 dL_law_254 rfl rfl rfl ?_
        refine z_iload_n C 3 dL_law_255 rfl rfl rfl ?_
        refine z_iconst C (2 : Int32) dL_law_256 rfl rfl ?_
        refine z_iadd C dL_law_257 rfl ?_
        refine z_sld C HX dL_law_258 rfl ?_
        refine z_aload_n C 0 dL_law_259 rfl rfl rfl ?_
        refine z_iload_n C 3 dL_law_260 rfl rfl rfl ?_
        refine z_iconst C (3 : Int32) dL_law_261 rfl rfl ?_
        refine z_iadd C dL_law_262 rfl ?_
        refine z_sld C HX dL_law_263 rfl ?_
        refine z_ci (fun b => b.1) (fun b => b.2) (fun b hb => z_V (na := 3) (ci := 8) (r := (RX8, TX8, 34)) C [.int (xs (zcl (s2.1 + (1 : Int32)))), .int (xs (zcl (s2.1 + (2 : Int32)))), .int (xs (zcl (s2.1 + (3 : Int32))))] rfl (mX8_set Y (xs (zcl (s2.1 + (1 : Int32)))) (xs (zcl (s2.1 + (2 : Int32)))) (xs (zcl (s2.1 + (3 : Int32)))) b94.2 b hb) rfl rfl w902 w903 w904 w88 w905 hdX8_set ⟨Nat.le_of_ble_eq_true rfl, Nat.le_of_ble_eq_true rfl⟩ (Nat.le_of_ble_eq_true rfl) rfl dL_law_264) rfl (fun b95 => ?_)
        refine z_icmpeq C dL_law_267 rfl rfl ?_ ?_
        · refine z_iinc (v := (s2.1 + (7 : Int32))) C 3 (fun z => [(3, .int z), (0, .ref 121), (1, .ref 0), (2, .ref 100)]) dL_law_1296 rfl rfl (by decide) (fun _ => rfl) rfl (fun x96 => ?_)
          refine z_goto C dL_law_1299 rfl ?_
          exact z_perm [1, 2, 3, 0] rfl (hr1 (x96, b95.2))
        · refine z_iconst C (0 : Int32) dL_law_270 rfl rfl ?_
          exact z_lawbad 
      · refine z_ite (fun hs33_2 => ?_) (fun hs33_2 => ?_)
        · refine z_tswIn (v := (2 : Int32)) (off := 239) C hs33_2 dL_law_33 (by decide) (by decide) rfl rfl ?_
          refine z_aload_n C 1 dL_law_272 rfl rfl rfl ?_
          refine z_ci (fun b => b.1) (fun b => b.2) (fun b hb => z_V (na := 0) (ci := 7) (r := (RX7, TX7, 8)) C [] rfl (mX7_drop Y s2.2 b hb) rfl rfl w380 w381 w382 w79 w383 hdX7_drop ⟨Nat.le_of_ble_eq_true rfl, Nat.le_of_ble_eq_true rfl⟩ (Nat.le_of_ble_eq_true rfl) rfl dL_law_273) rfl (fun b91 => ?_)
          refine z_aload_n C 2 dL_law_276 rfl rfl rfl ?_
          refine z_ci (fun b => b.1) (fun b => b.2) (fun b hb => z_V (na := 0) (ci := 8) (r := (RX8, TX8, 34)) C [] rfl (mX8_drop Y b91.2 b hb) rfl rfl w914 w915 w916 w88 w917 hdX8_drop ⟨Nat.le_of_ble_eq_true rfl, Nat.le_of_ble_eq_true rfl⟩ (Nat.le_of_ble_eq_true rfl) rfl dL_law_277) rfl (fun b92 => ?_)
          refine z_icmpeq C dL_law_280 rfl rfl ?_ ?_
          · refine z_iinc (v := (s2.1 + (7 : Int32))) C 3 (fun z => [(3, .int z), (0, .ref 121), (1, .ref 0), (2, .ref 100)]) dL_law_1296 rfl rfl (by decide) (fun _ => rfl) rfl (fun x93 => ?_)
            refine z_goto C dL_law_1299 rfl ?_
            exact z_perm [1, 2, 3, 0] rfl (hr1 (x93, b92.2))
          · refine z_iconst C (0 : Int32) dL_law_283 rfl rfl ?_
            exact z_lawbad 
        · refine z_ite (fun hs33_3 => ?_) (fun hs33_3 => ?_)
          · refine z_tswIn (v := (3 : Int32)) (off := 252) C hs33_3 dL_law_33 (by decide) (by decide) rfl rfl ?_
            refine z_aload_n C 1 dL_law_285 rfl rfl rfl ?_
            refine z_aload_n C 0 dL_law_286 rfl rfl rfl ?_
            refine z_iload_n C 3 dL_law_287 rfl rfl rfl ?_
            refine z_iconst C (1 : Int32) dL_law_288 rfl rfl ?_
            refine z_iadd C dL_law_289 rfl ?_
            refine z_sld C HX dL_law_290 rfl ?_
            refine z_aload_n C 0 dL_law_291 rfl rfl rfl ?_
            refine z_iload_n C 3 dL_law_292 rfl rfl rfl ?_
            refine z_iconst C (2 : Int32) dL_law_293 rfl rfl ?_
            refine z_iadd C dL_law_294 rfl ?_
            refine z_sld C HX dL_law_295 rfl ?_
            refine z_ci (fun b => b.1) (fun b => b.2) (fun b hb => z_V (na := 2) (ci := 7) (r := (RX7, TX7, 8)) C [.int (xs (zcl (s2.1 + (1 : Int32)))), .int (xs (zcl (s2.1 + (2 : Int32))))] rfl (mX7_field Y (xs (zcl (s2.1 + (1 : Int32)))) (xs (zcl (s2.1 + (2 : Int32)))) s2.2 b hb) rfl rfl w384 w385 w386 w79 w387 hdX7_field ⟨Nat.le_of_ble_eq_true rfl, Nat.le_of_ble_eq_true rfl⟩ (Nat.le_of_ble_eq_true rfl) rfl dL_law_296) rfl (fun b88 => ?_)
            refine z_aload_n C 2 dL_law_299 rfl rfl rfl ?_
            refine z_aload_n C 0 dL_law_300 rfl rfl rfl ?_
            refine z_iload_n C 3 dL_law_301 rfl rfl rfl ?_
            refine z_iconst C (1 : Int32) dL_law_302 rfl rfl ?_
            refine z_iadd C dL_law_303 rfl ?_
            refine z_sld C HX dL_law_304 rfl ?_
            refine z_aload_n C 0 dL_law_305 rfl rfl rfl ?_
            refine z_iload_n C 3 dL_law_306 rfl rfl rfl ?_
            refine z_iconst C (2 : Int32) dL_law_307 rfl rfl ?_
            refine z_iadd C dL_law_308 rfl ?_
            refine z_sld C HX dL_law_309 rfl ?_
            refine z_ci (fun b => b.1) (fun b => b.2) (fun b hb => z_V (na := 2) (ci := 8) (r := (RX8, TX8, 34)) C [.int (xs (zcl (s2.1 + (1 : Int32)))), .int (xs (zcl (s2.1 + (2 : Int32))))] rfl (mX8_field Y (xs (zcl (s2.1 + (1 : Int32)))) (xs (zcl (s2.1 + (2 : Int32)))) b88.2 b hb) rfl rfl w918 w919 w920 w88 w921 hdX8_field ⟨Nat.le_of_ble_eq_true rfl, Nat.le_of_ble_eq_true rfl⟩ (Nat.le_of_ble_eq_true rfl) rfl dL_law_310) rfl (fun b89 => ?_)
            refine z_icmpeq C dL_law_313 rfl rfl ?_ ?_
            · refine z_iinc (v := (s2.1 + (7 : Int32))) C 3 (fun z => [(3, .int z), (0, .ref 121), (1, .ref 0), (2, .ref 100)]) dL_law_1296 rfl rfl (by decide) (fun _ => rfl) rfl (fun x90 => ?_)
              refine z_goto C dL_law_1299 rfl ?_
              exact z_perm [1, 2, 3, 0] rfl (hr1 (x90, b89.2))
            · refine z_iconst C (0 : Int32) dL_law_316 rfl rfl ?_
              exact z_lawbad 
          · refine z_ite (fun hs33_4 => ?_) (fun hs33_4 => ?_)
            · refine z_tswIn (v := (4 : Int32)) (off := 285) C hs33_4 dL_law_33 (by decide) (by decide) rfl rfl ?_
              refine z_aload_n C 1 dL_law_318 rfl rfl rfl ?_
              refine z_aload_n C 0 dL_law_319 rfl rfl rfl ?_
              refine z_iload_n C 3 dL_law_320 rfl rfl rfl ?_
              refine z_iconst C (1 : Int32) dL_law_321 rfl rfl ?_
              refine z_iadd C dL_law_322 rfl ?_
              refine z_sld C HX dL_law_323 rfl ?_
              refine z_aload_n C 0 dL_law_324 rfl rfl rfl ?_
              refine z_iload_n C 3 dL_law_325 rfl rfl rfl ?_
              refine z_iconst C (2 : Int32) dL_law_326 rfl rfl ?_
              refine z_iadd C dL_law_327 rfl ?_
              refine z_sld C HX dL_law_328 rfl ?_
              refine z_aload_n C 0 dL_law_329 rfl rfl rfl ?_
              refine z_iload_n C 3 dL_law_330 rfl rfl rfl ?_
              refine z_iconst C (3 : Int32) dL_law_331 rfl rfl ?_
              refine z_iadd C dL_law_332 rfl ?_
              refine z_sld C HX dL_law_333 rfl ?_
              refine z_aload_n C 0 dL_law_334 rfl rfl rfl ?_
              refine z_iload_n C 3 dL_law_335 rfl rfl rfl ?_
              refine z_iconst C (4 : Int32) dL_law_336 rfl rfl ?_
              refine z_iadd C dL_law_337 rfl ?_
              refine z_sld C HX dL_law_338 rfl ?_
              refine z_aload_n C 0 dL_law_339 rfl rfl rfl ?_
              refine z_iload_n C 3 dL_law_340 rfl rfl rfl ?_
              refine z_iconst C (5 : Int32) dL_law_341 rfl rfl ?_
              refine z_iadd C dL_law_342 rfl ?_
              refine z_sld C HX dL_law_343 rfl ?_
              refine z_ci (fun b => b.1) (fun b => b.2) (fun b hb => z_V (na := 5) (ci := 7) (r := (RX7, TX7, 8)) C [.int (xs (zcl (s2.1 + (1 : Int32)))), .int (xs (zcl (s2.1 + (2 : Int32)))), .int (xs (zcl (s2.1 + (3 : Int32)))), .int (xs (zcl (s2.1 + (4 : Int32)))), .int (xs (zcl (s2.1 + (5 : Int32))))] rfl (mX7_bend Y (xs (zcl (s2.1 + (1 : Int32)))) (xs (zcl (s2.1 + (2 : Int32)))) (xs (zcl (s2.1 + (3 : Int32)))) (xs (zcl (s2.1 + (4 : Int32)))) (xs (zcl (s2.1 + (5 : Int32)))) s2.2 b hb) rfl rfl w388 w389 w390 w79 w391 hdX7_bend ⟨Nat.le_of_ble_eq_true rfl, Nat.le_of_ble_eq_true rfl⟩ (Nat.le_of_ble_eq_true rfl) rfl dL_law_344) rfl (fun b85 => ?_)
              refine z_aload_n C 2 dL_law_347 rfl rfl rfl ?_
              refine z_aload_n C 0 dL_law_348 rfl rfl rfl ?_
              refine z_iload_n C 3 dL_law_349 rfl rfl rfl ?_
              refine z_iconst C (1 : Int32) dL_law_350 rfl rfl ?_
              refine z_iadd C dL_law_351 rfl ?_
              refine z_sld C HX dL_law_352 rfl ?_
              refine z_aload_n C 0 dL_law_353 rfl rfl rfl ?_
              refine z_iload_n C 3 dL_law_354 rfl rfl rfl ?_
              refine z_iconst C (2 : Int32) dL_law_355 rfl rfl ?_
              refine z_iadd C dL_law_356 rfl ?_
              refine z_sld C HX dL_law_357 rfl ?_
              refine z_aload_n C 0 dL_law_358 rfl rfl rfl ?_
              refine z_iload_n C 3 dL_law_359 rfl rfl rfl ?_
              refine z_iconst C (3 : Int32) dL_law_360 rfl rfl ?_
              refine z_iadd C dL_law_361 rfl ?_
              refine z_sld C HX dL_law_362 rfl ?_
              refine z_aload_n C 0 dL_law_363 rfl rfl rfl ?_
              refine z_iload_n C 3 dL_law_364 rfl rfl rfl ?_
              refine z_iconst C (4 : Int32) dL_law_365 rfl rfl ?_
              refine z_iadd C dL_law_366 rfl ?_
              refine z_sld C HX dL_law_367 rfl ?_
              refine z_aload_n C 0 dL_law_368 rfl rfl rfl ?_
              refine z_iload_n C 3 dL_law_369 rfl rfl rfl ?_
              refine z_iconst C (5 : Int32) dL_law_370 rfl rfl ?_
              refine z_iadd C dL_law_371 rfl ?_
              refine z_sld C HX dL_law_372 rfl ?_
              refine z_ci (fun b => b.1) (fun b => b.2) (fun b hb => z_V (na := 5) (ci := 8) (r := (RX8, TX8, 34)) C [.int (xs (zcl (s2.1 + (1 : Int32)))), .int (xs (zcl (s2.1 + (2 : Int32)))), .int (xs (zcl (s2.1 + (3 : Int32)))), .int (xs (zcl (s2.1 + (4 : Int32)))), .int (xs (zcl (s2.1 + (5 : Int32))))] rfl (mX8_bend Y (xs (zcl (s2.1 + (1 : Int32)))) (xs (zcl (s2.1 + (2 : Int32)))) (xs (zcl (s2.1 + (3 : Int32)))) (xs (zcl (s2.1 + (4 : Int32)))) (xs (zcl (s2.1 + (5 : Int32)))) b85.2 b hb) rfl rfl w922 w923 w924 w88 w925 hdX8_bend ⟨Nat.le_of_ble_eq_true rfl, Nat.le_of_ble_eq_true rfl⟩ (Nat.le_of_ble_eq_true rfl) rfl dL_law_373) rfl (fun b86 => ?_)
              refine z_icmpeq C dL_law_376 rfl rfl ?_ ?_
              · refine z_iinc (v := (s2.1 + (7 : Int32))) C 3 (fun z => [(3, .int z), (0, .ref 121), (1, .ref 0), (2, .ref 100)]) dL_law_1296 rfl rfl (by decide) (fun _ => rfl) rfl (fun x87 => ?_)
                refine z_goto C dL_law_1299 rfl ?_
                exact z_perm [1, 2, 3, 0] rfl (hr1 (x87, b86.2))
              · refine z_iconst C (0 : Int32) dL_law_379 rfl rfl ?_
                exact z_lawbad 
            · refine z_ite (fun hs33_5 => ?_) (fun hs33_5 => ?_)
              · refine z_tswIn (v := (5 : Int32)) (off := 348) C hs33_5 dL_law_33 (by decide) (by decide) rfl rfl ?_
                refine z_aload_n C 1 dL_law_381 rfl rfl rfl ?_
                refine z_aload_n C 0 dL_law_382 rfl rfl rfl ?_
                refine z_iload_n C 3 dL_law_383 rfl rfl rfl ?_
                refine z_iconst C (1 : Int32) dL_law_384 rfl rfl ?_
                refine z_iadd C dL_law_385 rfl ?_
                refine z_sld C HX dL_law_386 rfl ?_
                refine z_aload_n C 0 dL_law_387 rfl rfl rfl ?_
                refine z_iload_n C 3 dL_law_388 rfl rfl rfl ?_
                refine z_iconst C (2 : Int32) dL_law_389 rfl rfl ?_
                refine z_iadd C dL_law_390 rfl ?_
                refine z_sld C HX dL_law_391 rfl ?_
                refine z_aload_n C 0 dL_law_392 rfl rfl rfl ?_
                refine z_iload_n C 3 dL_law_393 rfl rfl rfl ?_
                refine z_iconst C (3 : Int32) dL_law_394 rfl rfl ?_
                refine z_iadd C dL_law_395 rfl ?_
                refine z_sld C HX dL_law_396 rfl ?_
                refine z_ci (fun b => b) (fun _ => s2.2) (fun b hb => z_V (na := 3) (ci := 7) (r := (RX7, TX7, 8)) C [.int (xs (zcl (s2.1 + (1 : Int32)))), .int (xs (zcl (s2.1 + (2 : Int32)))), .int (xs (zcl (s2.1 + (3 : Int32))))] rfl (mX7_from Y (xs (zcl (s2.1 + (1 : Int32)))) (xs (zcl (s2.1 + (2 : Int32)))) (xs (zcl (s2.1 + (3 : Int32)))) s2.2 b hb) rfl rfl w410 w411 w412 w79 w413 hdX7_from ⟨Nat.le_of_ble_eq_true rfl, Nat.le_of_ble_eq_true rfl⟩ (Nat.le_of_ble_eq_true rfl) rfl dL_law_397) rfl (fun b82 => ?_)
                refine z_aload_n C 2 dL_law_400 rfl rfl rfl ?_
                refine z_aload_n C 0 dL_law_401 rfl rfl rfl ?_
                refine z_iload_n C 3 dL_law_402 rfl rfl rfl ?_
                refine z_iconst C (1 : Int32) dL_law_403 rfl rfl ?_
                refine z_iadd C dL_law_404 rfl ?_
                refine z_sld C HX dL_law_405 rfl ?_
                refine z_aload_n C 0 dL_law_406 rfl rfl rfl ?_
                refine z_iload_n C 3 dL_law_407 rfl rfl rfl ?_
                refine z_iconst C (2 : Int32) dL_law_408 rfl rfl ?_
                refine z_iadd C dL_law_409 rfl ?_
                refine z_sld C HX dL_law_410 rfl ?_
                refine z_aload_n C 0 dL_law_411 rfl rfl rfl ?_
                refine z_iload_n C 3 dL_law_412 rfl rfl rfl ?_
                refine z_iconst C (3 : Int32) dL_law_413 rfl rfl ?_
                refine z_iadd C dL_law_414 rfl ?_
                refine z_sld C HX dL_law_415 rfl ?_
                refine z_ci (fun b => b) (fun _ => s2.2) (fun b hb => z_V (na := 3) (ci := 8) (r := (RX8, TX8, 34)) C [.int (xs (zcl (s2.1 + (1 : Int32)))), .int (xs (zcl (s2.1 + (2 : Int32)))), .int (xs (zcl (s2.1 + (3 : Int32))))] rfl (mX8_from Y (xs (zcl (s2.1 + (1 : Int32)))) (xs (zcl (s2.1 + (2 : Int32)))) (xs (zcl (s2.1 + (3 : Int32)))) s2.2 b hb) rfl rfl w932 w933 w934 w88 w935 hdX8_from ⟨Nat.le_of_ble_eq_true rfl, Nat.le_of_ble_eq_true rfl⟩ (Nat.le_of_ble_eq_true rfl) rfl dL_law_416) rfl (fun b83 => ?_)
                refine z_icmpeq C dL_law_419 rfl rfl ?_ ?_
                · refine z_iinc (v := (s2.1 + (7 : Int32))) C 3 (fun z => [(3, .int z), (0, .ref 121), (1, .ref 0), (2, .ref 100)]) dL_law_1296 rfl rfl (by decide) (fun _ => rfl) rfl (fun x84 => ?_)
                  refine z_goto C dL_law_1299 rfl ?_
                  exact z_perm [1, 2, 3, 0] rfl (hr1 (x84, s2.2))
                · refine z_iconst C (0 : Int32) dL_law_422 rfl rfl ?_
                  exact z_lawbad 
              · refine z_ite (fun hs33_6 => ?_) (fun hs33_6 => ?_)
                · refine z_tswIn (v := (6 : Int32)) (off := 391) C hs33_6 dL_law_33 (by decide) (by decide) rfl rfl ?_
                  refine z_aload_n C 1 dL_law_424 rfl rfl rfl ?_
                  refine z_aload_n C 0 dL_law_425 rfl rfl rfl ?_
                  refine z_iload_n C 3 dL_law_426 rfl rfl rfl ?_
                  refine z_iconst C (1 : Int32) dL_law_427 rfl rfl ?_
                  refine z_iadd C dL_law_428 rfl ?_
                  refine z_sld C HX dL_law_429 rfl ?_
                  refine z_aload_n C 0 dL_law_430 rfl rfl rfl ?_
                  refine z_iload_n C 3 dL_law_431 rfl rfl rfl ?_
                  refine z_iconst C (2 : Int32) dL_law_432 rfl rfl ?_
                  refine z_iadd C dL_law_433 rfl ?_
                  refine z_sld C HX dL_law_434 rfl ?_
                  refine z_aload_n C 0 dL_law_435 rfl rfl rfl ?_
                  refine z_iload_n C 3 dL_law_436 rfl rfl rfl ?_
                  refine z_iconst C (3 : Int32) dL_law_437 rfl rfl ?_
                  refine z_iadd C dL_law_438 rfl ?_
                  refine z_sld C HX dL_law_439 rfl ?_
                  refine z_ci (fun b => b) (fun _ => s2.2) (fun b hb => z_V (na := 3) (ci := 7) (r := (RX7, TX7, 8)) C [.int (xs (zcl (s2.1 + (1 : Int32)))), .int (xs (zcl (s2.1 + (2 : Int32)))), .int (xs (zcl (s2.1 + (3 : Int32))))] rfl (mX7_cell Y (xs (zcl (s2.1 + (1 : Int32)))) (xs (zcl (s2.1 + (2 : Int32)))) (xs (zcl (s2.1 + (3 : Int32)))) s2.2 b hb) rfl rfl w423 w424 w425 w79 w426 hdX7_cell ⟨Nat.le_of_ble_eq_true rfl, Nat.le_of_ble_eq_true rfl⟩ (Nat.le_of_ble_eq_true rfl) rfl dL_law_440) rfl (fun b79 => ?_)
                  refine z_aload_n C 2 dL_law_443 rfl rfl rfl ?_
                  refine z_aload_n C 0 dL_law_444 rfl rfl rfl ?_
                  refine z_iload_n C 3 dL_law_445 rfl rfl rfl ?_
                  refine z_iconst C (1 : Int32) dL_law_446 rfl rfl ?_
                  refine z_iadd C dL_law_447 rfl ?_
                  refine z_sld C HX dL_law_448 rfl ?_
                  refine z_aload_n C 0 dL_law_449 rfl rfl rfl ?_
                  refine z_iload_n C 3 dL_law_450 rfl rfl rfl ?_
                  refine z_iconst C (2 : Int32) dL_law_451 rfl rfl ?_
                  refine z_iadd C dL_law_452 rfl ?_
                  refine z_sld C HX dL_law_453 rfl ?_
                  refine z_aload_n C 0 dL_law_454 rfl rfl rfl ?_
                  refine z_iload_n C 3 dL_law_455 rfl rfl rfl ?_
                  refine z_iconst C (3 : Int32) dL_law_456 rfl rfl ?_
                  refine z_iadd C dL_law_457 rfl ?_
                  refine z_sld C HX dL_law_458 rfl ?_
                  refine z_ci (fun b => b) (fun _ => s2.2) (fun b hb => z_V (na := 3) (ci := 8) (r := (RX8, TX8, 34)) C [.int (xs (zcl (s2.1 + (1 : Int32)))), .int (xs (zcl (s2.1 + (2 : Int32)))), .int (xs (zcl (s2.1 + (3 : Int32))))] rfl (mX8_cell Y (xs (zcl (s2.1 + (1 : Int32)))) (xs (zcl (s2.1 + (2 : Int32)))) (xs (zcl (s2.1 + (3 : Int32)))) s2.2 b hb) rfl rfl w940 w941 w942 w88 w943 hdX8_cell ⟨Nat.le_of_ble_eq_true rfl, Nat.le_of_ble_eq_true rfl⟩ (Nat.le_of_ble_eq_true rfl) rfl dL_law_459) rfl (fun b80 => ?_)
                  refine z_icmpeq C dL_law_462 rfl rfl ?_ ?_
                  · refine z_iinc (v := (s2.1 + (7 : Int32))) C 3 (fun z => [(3, .int z), (0, .ref 121), (1, .ref 0), (2, .ref 100)]) dL_law_1296 rfl rfl (by decide) (fun _ => rfl) rfl (fun x81 => ?_)
                    refine z_goto C dL_law_1299 rfl ?_
                    exact z_perm [1, 2, 3, 0] rfl (hr1 (x81, s2.2))
                  · refine z_iconst C (0 : Int32) dL_law_465 rfl rfl ?_
                    exact z_lawbad 
                · refine z_ite (fun hs33_7 => ?_) (fun hs33_7 => ?_)
                  · refine z_tswIn (v := (7 : Int32)) (off := 434) C hs33_7 dL_law_33 (by decide) (by decide) rfl rfl ?_
                    refine z_aload_n C 1 dL_law_467 rfl rfl rfl ?_
                    refine z_aload_n C 0 dL_law_468 rfl rfl rfl ?_
                    refine z_iload_n C 3 dL_law_469 rfl rfl rfl ?_
                    refine z_iconst C (1 : Int32) dL_law_470 rfl rfl ?_
                    refine z_iadd C dL_law_471 rfl ?_
                    refine z_sld C HX dL_law_472 rfl ?_
                    refine z_aload_n C 0 dL_law_473 rfl rfl rfl ?_
                    refine z_iload_n C 3 dL_law_474 rfl rfl rfl ?_
                    refine z_iconst C (2 : Int32) dL_law_475 rfl rfl ?_
                    refine z_iadd C dL_law_476 rfl ?_
                    refine z_sld C HX dL_law_477 rfl ?_
                    refine z_aload_n C 0 dL_law_478 rfl rfl rfl ?_
                    refine z_iload_n C 3 dL_law_479 rfl rfl rfl ?_
                    refine z_iconst C (3 : Int32) dL_law_480 rfl rfl ?_
                    refine z_iadd C dL_law_481 rfl ?_
                    refine z_sld C HX dL_law_482 rfl ?_
                    refine z_ci (fun b => b.1) (fun b => b.2) (fun b hb => z_V (na := 3) (ci := 7) (r := (RX7, TX7, 8)) C [.int (xs (zcl (s2.1 + (1 : Int32)))), .int (xs (zcl (s2.1 + (2 : Int32)))), .int (xs (zcl (s2.1 + (3 : Int32))))] rfl (mX7_pictures Y (xs (zcl (s2.1 + (1 : Int32)))) (xs (zcl (s2.1 + (2 : Int32)))) (xs (zcl (s2.1 + (3 : Int32)))) s2.2 b hb) rfl rfl w433 w434 w435 w79 w436 hdX7_pictures ⟨Nat.le_of_ble_eq_true rfl, Nat.le_of_ble_eq_true rfl⟩ (Nat.le_of_ble_eq_true rfl) rfl dL_law_483) rfl (fun b76 => ?_)
                    refine z_aload_n C 2 dL_law_486 rfl rfl rfl ?_
                    refine z_aload_n C 0 dL_law_487 rfl rfl rfl ?_
                    refine z_iload_n C 3 dL_law_488 rfl rfl rfl ?_
                    refine z_iconst C (1 : Int32) dL_law_489 rfl rfl ?_
                    refine z_iadd C dL_law_490 rfl ?_
                    refine z_sld C HX dL_law_491 rfl ?_
                    refine z_aload_n C 0 dL_law_492 rfl rfl rfl ?_
                    refine z_iload_n C 3 dL_law_493 rfl rfl rfl ?_
                    refine z_iconst C (2 : Int32) dL_law_494 rfl rfl ?_
                    refine z_iadd C dL_law_495 rfl ?_
                    refine z_sld C HX dL_law_496 rfl ?_
                    refine z_aload_n C 0 dL_law_497 rfl rfl rfl ?_
                    refine z_iload_n C 3 dL_law_498 rfl rfl rfl ?_
                    refine z_iconst C (3 : Int32) dL_law_499 rfl rfl ?_
                    refine z_iadd C dL_law_500 rfl ?_
                    refine z_sld C HX dL_law_501 rfl ?_
                    refine z_ci (fun b => b.1) (fun b => b.2) (fun b hb => z_V (na := 3) (ci := 8) (r := (RX8, TX8, 34)) C [.int (xs (zcl (s2.1 + (1 : Int32)))), .int (xs (zcl (s2.1 + (2 : Int32)))), .int (xs (zcl (s2.1 + (3 : Int32))))] rfl (mX8_pictures Y (xs (zcl (s2.1 + (1 : Int32)))) (xs (zcl (s2.1 + (2 : Int32)))) (xs (zcl (s2.1 + (3 : Int32)))) b76.2 b hb) rfl rfl w952 w953 w954 w88 w955 hdX8_pictures ⟨Nat.le_of_ble_eq_true rfl, Nat.le_of_ble_eq_true rfl⟩ (Nat.le_of_ble_eq_true rfl) rfl dL_law_502) rfl (fun b77 => ?_)
                    refine z_icmpeq C dL_law_505 rfl rfl ?_ ?_
                    · refine z_iinc (v := (s2.1 + (7 : Int32))) C 3 (fun z => [(3, .int z), (0, .ref 121), (1, .ref 0), (2, .ref 100)]) dL_law_1296 rfl rfl (by decide) (fun _ => rfl) rfl (fun x78 => ?_)
                      refine z_goto C dL_law_1299 rfl ?_
                      exact z_perm [1, 2, 3, 0] rfl (hr1 (x78, b77.2))
                    · refine z_iconst C (0 : Int32) dL_law_508 rfl rfl ?_
                      exact z_lawbad 
                  · refine z_ite (fun hs33_8 => ?_) (fun hs33_8 => ?_)
                    · refine z_tswIn (v := (8 : Int32)) (off := 477) C hs33_8 dL_law_33 (by decide) (by decide) rfl rfl ?_
                      refine z_aload_n C 1 dL_law_510 rfl rfl rfl ?_
                      refine z_aload_n C 0 dL_law_511 rfl rfl rfl ?_
                      refine z_iload_n C 3 dL_law_512 rfl rfl rfl ?_
                      refine z_iconst C (1 : Int32) dL_law_513 rfl rfl ?_
                      refine z_iadd C dL_law_514 rfl ?_
                      refine z_sld C HX dL_law_515 rfl ?_
                      refine z_aload_n C 0 dL_law_516 rfl rfl rfl ?_
                      refine z_iload_n C 3 dL_law_517 rfl rfl rfl ?_
                      refine z_iconst C (2 : Int32) dL_law_518 rfl rfl ?_
                      refine z_iadd C dL_law_519 rfl ?_
                      refine z_sld C HX dL_law_520 rfl ?_
                      refine z_aload_n C 0 dL_law_521 rfl rfl rfl ?_
                      refine z_iload_n C 3 dL_law_522 rfl rfl rfl ?_
                      refine z_iconst C (3 : Int32) dL_law_523 rfl rfl ?_
                      refine z_iadd C dL_law_524 rfl ?_
                      refine z_sld C HX dL_law_525 rfl ?_
                      refine z_aload_n C 0 dL_law_526 rfl rfl rfl ?_
                      refine z_iload_n C 3 dL_law_527 rfl rfl rfl ?_
                      refine z_iconst C (4 : Int32) dL_law_528 rfl rfl ?_
                      refine z_iadd C dL_law_529 rfl ?_
                      refine z_sld C HX dL_law_530 rfl ?_
                      refine z_ci (fun b => b.1) (fun b => b.2) (fun b hb => z_V (na := 4) (ci := 7) (r := (RX7, TX7, 8)) C [.int (xs (zcl (s2.1 + (1 : Int32)))), .int (xs (zcl (s2.1 + (2 : Int32)))), .int (xs (zcl (s2.1 + (3 : Int32)))), .int (xs (zcl (s2.1 + (4 : Int32))))] rfl (mX7_group Y (xs (zcl (s2.1 + (1 : Int32)))) (xs (zcl (s2.1 + (2 : Int32)))) (xs (zcl (s2.1 + (3 : Int32)))) (xs (zcl (s2.1 + (4 : Int32)))) s2.2 b hb) rfl rfl w491 w492 w493 w79 w494 hdX7_group ⟨Nat.le_of_ble_eq_true rfl, Nat.le_of_ble_eq_true rfl⟩ (Nat.le_of_ble_eq_true rfl) rfl dL_law_531) rfl (fun b73 => ?_)
                      refine z_aload_n C 2 dL_law_534 rfl rfl rfl ?_
                      refine z_aload_n C 0 dL_law_535 rfl rfl rfl ?_
                      refine z_iload_n C 3 dL_law_536 rfl rfl rfl ?_
                      refine z_iconst C (1 : Int32) dL_law_537 rfl rfl ?_
                      refine z_iadd C dL_law_538 rfl ?_
                      refine z_sld C HX dL_law_539 rfl ?_
                      refine z_aload_n C 0 dL_law_540 rfl rfl rfl ?_
                      refine z_iload_n C 3 dL_law_541 rfl rfl rfl ?_
                      refine z_iconst C (2 : Int32) dL_law_542 rfl rfl ?_
                      refine z_iadd C dL_law_543 rfl ?_
                      refine z_sld C HX dL_law_544 rfl ?_
                      refine z_aload_n C 0 dL_law_545 rfl rfl rfl ?_
                      refine z_iload_n C 3 dL_law_546 rfl rfl rfl ?_
                      refine z_iconst C (3 : Int32) dL_law_547 rfl rfl ?_
                      refine z_iadd C dL_law_548 rfl ?_
                      refine z_sld C HX dL_law_549 rfl ?_
                      refine z_aload_n C 0 dL_law_550 rfl rfl rfl ?_
                      refine z_iload_n C 3 dL_law_551 rfl rfl rfl ?_
                      refine z_iconst C (4 : Int32) dL_law_552 rfl rfl ?_
                      refine z_iadd C dL_law_553 rfl ?_
                      refine z_sld C HX dL_law_554 rfl ?_
                      refine z_ci (fun b => b.1) (fun b => b.2) (fun b hb => z_V (na := 4) (ci := 8) (r := (RX8, TX8, 34)) C [.int (xs (zcl (s2.1 + (1 : Int32)))), .int (xs (zcl (s2.1 + (2 : Int32)))), .int (xs (zcl (s2.1 + (3 : Int32)))), .int (xs (zcl (s2.1 + (4 : Int32))))] rfl (mX8_group Y (xs (zcl (s2.1 + (1 : Int32)))) (xs (zcl (s2.1 + (2 : Int32)))) (xs (zcl (s2.1 + (3 : Int32)))) (xs (zcl (s2.1 + (4 : Int32)))) b73.2 b hb) rfl rfl w989 w990 w991 w88 w992 hdX8_group ⟨Nat.le_of_ble_eq_true rfl, Nat.le_of_ble_eq_true rfl⟩ (Nat.le_of_ble_eq_true rfl) rfl dL_law_555) rfl (fun b74 => ?_)
                      refine z_icmpeq C dL_law_558 rfl rfl ?_ ?_
                      · refine z_iinc (v := (s2.1 + (7 : Int32))) C 3 (fun z => [(3, .int z), (0, .ref 121), (1, .ref 0), (2, .ref 100)]) dL_law_1296 rfl rfl (by decide) (fun _ => rfl) rfl (fun x75 => ?_)
                        refine z_goto C dL_law_1299 rfl ?_
                        exact z_perm [1, 2, 3, 0] rfl (hr1 (x75, b74.2))
                      · refine z_iconst C (0 : Int32) dL_law_561 rfl rfl ?_
                        exact z_lawbad 
                    · refine z_ite (fun hs33_9 => ?_) (fun hs33_9 => ?_)
                      · refine z_tswIn (v := (9 : Int32)) (off := 530) C hs33_9 dL_law_33 (by decide) (by decide) rfl rfl ?_
                        refine z_aload_n C 1 dL_law_563 rfl rfl rfl ?_
                        refine z_aload_n C 0 dL_law_564 rfl rfl rfl ?_
                        refine z_iload_n C 3 dL_law_565 rfl rfl rfl ?_
                        refine z_iconst C (1 : Int32) dL_law_566 rfl rfl ?_
                        refine z_iadd C dL_law_567 rfl ?_
                        refine z_sld C HX dL_law_568 rfl ?_
                        refine z_aload_n C 0 dL_law_569 rfl rfl rfl ?_
                        refine z_iload_n C 3 dL_law_570 rfl rfl rfl ?_
                        refine z_iconst C (2 : Int32) dL_law_571 rfl rfl ?_
                        refine z_iadd C dL_law_572 rfl ?_
                        refine z_sld C HX dL_law_573 rfl ?_
                        refine z_ci (fun b => b.1) (fun b => b.2) (fun b hb => z_V (na := 2) (ci := 7) (r := (RX7, TX7, 8)) C [.int (xs (zcl (s2.1 + (1 : Int32)))), .int (xs (zcl (s2.1 + (2 : Int32))))] rfl (mX7_parity Y (xs (zcl (s2.1 + (1 : Int32)))) (xs (zcl (s2.1 + (2 : Int32)))) s2.2 b hb) rfl rfl w504 w505 w506 w79 w507 hdX7_parity ⟨Nat.le_of_ble_eq_true rfl, Nat.le_of_ble_eq_true rfl⟩ (Nat.le_of_ble_eq_true rfl) rfl dL_law_574) rfl (fun b70 => ?_)
                        refine z_aload_n C 2 dL_law_577 rfl rfl rfl ?_
                        refine z_aload_n C 0 dL_law_578 rfl rfl rfl ?_
                        refine z_iload_n C 3 dL_law_579 rfl rfl rfl ?_
                        refine z_iconst C (1 : Int32) dL_law_580 rfl rfl ?_
                        refine z_iadd C dL_law_581 rfl ?_
                        refine z_sld C HX dL_law_582 rfl ?_
                        refine z_aload_n C 0 dL_law_583 rfl rfl rfl ?_
                        refine z_iload_n C 3 dL_law_584 rfl rfl rfl ?_
                        refine z_iconst C (2 : Int32) dL_law_585 rfl rfl ?_
                        refine z_iadd C dL_law_586 rfl ?_
                        refine z_sld C HX dL_law_587 rfl ?_
                        refine z_ci (fun b => b.1) (fun b => b.2) (fun b hb => z_V (na := 2) (ci := 8) (r := (RX8, TX8, 34)) C [.int (xs (zcl (s2.1 + (1 : Int32)))), .int (xs (zcl (s2.1 + (2 : Int32))))] rfl (mX8_parity Y (xs (zcl (s2.1 + (1 : Int32)))) (xs (zcl (s2.1 + (2 : Int32)))) b70.2 b hb) rfl rfl w1000 w1001 w1002 w88 w1003 hdX8_parity ⟨Nat.le_of_ble_eq_true rfl, Nat.le_of_ble_eq_true rfl⟩ (Nat.le_of_ble_eq_true rfl) rfl dL_law_588) rfl (fun b71 => ?_)
                        refine z_icmpeq C dL_law_591 rfl rfl ?_ ?_
                        · refine z_iinc (v := (s2.1 + (7 : Int32))) C 3 (fun z => [(3, .int z), (0, .ref 121), (1, .ref 0), (2, .ref 100)]) dL_law_1296 rfl rfl (by decide) (fun _ => rfl) rfl (fun x72 => ?_)
                          refine z_goto C dL_law_1299 rfl ?_
                          exact z_perm [1, 2, 3, 0] rfl (hr1 (x72, b71.2))
                        · refine z_iconst C (0 : Int32) dL_law_594 rfl rfl ?_
                          exact z_lawbad 
                      · refine z_ite (fun hs33_10 => ?_) (fun hs33_10 => ?_)
                        · refine z_tswIn (v := (10 : Int32)) (off := 563) C hs33_10 dL_law_33 (by decide) (by decide) rfl rfl ?_
                          refine z_aload_n C 1 dL_law_596 rfl rfl rfl ?_
                          refine z_aload_n C 0 dL_law_597 rfl rfl rfl ?_
                          refine z_iload_n C 3 dL_law_598 rfl rfl rfl ?_
                          refine z_iconst C (1 : Int32) dL_law_599 rfl rfl ?_
                          refine z_iadd C dL_law_600 rfl ?_
                          refine z_sld C HX dL_law_601 rfl ?_
                          refine z_aload_n C 0 dL_law_602 rfl rfl rfl ?_
                          refine z_iload_n C 3 dL_law_603 rfl rfl rfl ?_
                          refine z_iconst C (2 : Int32) dL_law_604 rfl rfl ?_
                          refine z_iadd C dL_law_605 rfl ?_
                          refine z_sld C HX dL_law_606 rfl ?_
                          refine z_ci (fun b => b.1) (fun b => b.2) (fun b hb => z_V (na := 2) (ci := 7) (r := (RX7, TX7, 8)) C [.int (xs (zcl (s2.1 + (1 : Int32)))), .int (xs (zcl (s2.1 + (2 : Int32))))] rfl (mX7_critical Y (xs (zcl (s2.1 + (1 : Int32)))) (xs (zcl (s2.1 + (2 : Int32)))) s2.2 b hb) rfl rfl w508 w509 w510 w79 w511 hdX7_critical ⟨Nat.le_of_ble_eq_true rfl, Nat.le_of_ble_eq_true rfl⟩ (Nat.le_of_ble_eq_true rfl) rfl dL_law_607) rfl (fun b67 => ?_)
                          refine z_aload_n C 2 dL_law_610 rfl rfl rfl ?_
                          refine z_aload_n C 0 dL_law_611 rfl rfl rfl ?_
                          refine z_iload_n C 3 dL_law_612 rfl rfl rfl ?_
                          refine z_iconst C (1 : Int32) dL_law_613 rfl rfl ?_
                          refine z_iadd C dL_law_614 rfl ?_
                          refine z_sld C HX dL_law_615 rfl ?_
                          refine z_aload_n C 0 dL_law_616 rfl rfl rfl ?_
                          refine z_iload_n C 3 dL_law_617 rfl rfl rfl ?_
                          refine z_iconst C (2 : Int32) dL_law_618 rfl rfl ?_
                          refine z_iadd C dL_law_619 rfl ?_
                          refine z_sld C HX dL_law_620 rfl ?_
                          refine z_ci (fun b => b.1) (fun b => b.2) (fun b hb => z_V (na := 2) (ci := 8) (r := (RX8, TX8, 34)) C [.int (xs (zcl (s2.1 + (1 : Int32)))), .int (xs (zcl (s2.1 + (2 : Int32))))] rfl (mX8_critical Y (xs (zcl (s2.1 + (1 : Int32)))) (xs (zcl (s2.1 + (2 : Int32)))) b67.2 b hb) rfl rfl w1008 w1009 w1010 w88 w1011 hdX8_critical ⟨Nat.le_of_ble_eq_true rfl, Nat.le_of_ble_eq_true rfl⟩ (Nat.le_of_ble_eq_true rfl) rfl dL_law_621) rfl (fun b68 => ?_)
                          refine z_icmpeq C dL_law_624 rfl rfl ?_ ?_
                          · refine z_iinc (v := (s2.1 + (7 : Int32))) C 3 (fun z => [(3, .int z), (0, .ref 121), (1, .ref 0), (2, .ref 100)]) dL_law_1296 rfl rfl (by decide) (fun _ => rfl) rfl (fun x69 => ?_)
                            refine z_goto C dL_law_1299 rfl ?_
                            exact z_perm [1, 2, 3, 0] rfl (hr1 (x69, b68.2))
                          · refine z_iconst C (0 : Int32) dL_law_627 rfl rfl ?_
                            exact z_lawbad 
                        · refine z_ite (fun hs33_11 => ?_) (fun hs33_11 => ?_)
                          · refine z_tswIn (v := (11 : Int32)) (off := 596) C hs33_11 dL_law_33 (by decide) (by decide) rfl rfl ?_
                            refine z_aload_n C 1 dL_law_629 rfl rfl rfl ?_
                            refine z_aload_n C 0 dL_law_630 rfl rfl rfl ?_
                            refine z_iload_n C 3 dL_law_631 rfl rfl rfl ?_
                            refine z_iconst C (1 : Int32) dL_law_632 rfl rfl ?_
                            refine z_iadd C dL_law_633 rfl ?_
                            refine z_sld C HX dL_law_634 rfl ?_
                            refine z_ci (fun b => b.1) (fun b => b.2) (fun b hb => z_V (na := 1) (ci := 7) (r := (RX7, TX7, 8)) C [.int (xs (zcl (s2.1 + (1 : Int32))))] rfl (mX7_rings Y (xs (zcl (s2.1 + (1 : Int32)))) s2.2 b hb) rfl rfl w517 w518 w519 w79 w520 hdX7_rings ⟨Nat.le_of_ble_eq_true rfl, Nat.le_of_ble_eq_true rfl⟩ (Nat.le_of_ble_eq_true rfl) rfl dL_law_635) rfl (fun b64 => ?_)
                            refine z_aload_n C 2 dL_law_638 rfl rfl rfl ?_
                            refine z_aload_n C 0 dL_law_639 rfl rfl rfl ?_
                            refine z_iload_n C 3 dL_law_640 rfl rfl rfl ?_
                            refine z_iconst C (1 : Int32) dL_law_641 rfl rfl ?_
                            refine z_iadd C dL_law_642 rfl ?_
                            refine z_sld C HX dL_law_643 rfl ?_
                            refine z_ci (fun b => b.1) (fun b => b.2) (fun b hb => z_V (na := 1) (ci := 8) (r := (RX8, TX8, 34)) C [.int (xs (zcl (s2.1 + (1 : Int32))))] rfl (mX8_rings Y (xs (zcl (s2.1 + (1 : Int32)))) b64.2 b hb) rfl rfl w1016 w1017 w1018 w88 w1019 hdX8_rings ⟨Nat.le_of_ble_eq_true rfl, Nat.le_of_ble_eq_true rfl⟩ (Nat.le_of_ble_eq_true rfl) rfl dL_law_644) rfl (fun b65 => ?_)
                            refine z_icmpeq C dL_law_647 rfl rfl ?_ ?_
                            · refine z_iinc (v := (s2.1 + (7 : Int32))) C 3 (fun z => [(3, .int z), (0, .ref 121), (1, .ref 0), (2, .ref 100)]) dL_law_1296 rfl rfl (by decide) (fun _ => rfl) rfl (fun x66 => ?_)
                              refine z_goto C dL_law_1299 rfl ?_
                              exact z_perm [1, 2, 3, 0] rfl (hr1 (x66, b65.2))
                            · refine z_iconst C (0 : Int32) dL_law_650 rfl rfl ?_
                              exact z_lawbad 
                          · refine z_ite (fun hs33_12 => ?_) (fun hs33_12 => ?_)
                            · refine z_tswIn (v := (12 : Int32)) (off := 619) C hs33_12 dL_law_33 (by decide) (by decide) rfl rfl ?_
                              refine z_aload_n C 1 dL_law_652 rfl rfl rfl ?_
                              refine z_aload_n C 0 dL_law_653 rfl rfl rfl ?_
                              refine z_iload_n C 3 dL_law_654 rfl rfl rfl ?_
                              refine z_iconst C (1 : Int32) dL_law_655 rfl rfl ?_
                              refine z_iadd C dL_law_656 rfl ?_
                              refine z_sld C HX dL_law_657 rfl ?_
                              refine z_ci (fun b => b.1) (fun b => b.2) (fun b hb => z_V (na := 1) (ci := 7) (r := (RX7, TX7, 8)) C [.int (xs (zcl (s2.1 + (1 : Int32))))] rfl (mX7_brightest Y (xs (zcl (s2.1 + (1 : Int32)))) s2.2 b hb) rfl rfl w529 w530 w531 w79 w532 hdX7_brightest ⟨Nat.le_of_ble_eq_true rfl, Nat.le_of_ble_eq_true rfl⟩ (Nat.le_of_ble_eq_true rfl) rfl dL_law_658) rfl (fun b61 => ?_)
                              refine z_aload_n C 2 dL_law_661 rfl rfl rfl ?_
                              refine z_aload_n C 0 dL_law_662 rfl rfl rfl ?_
                              refine z_iload_n C 3 dL_law_663 rfl rfl rfl ?_
                              refine z_iconst C (1 : Int32) dL_law_664 rfl rfl ?_
                              refine z_iadd C dL_law_665 rfl ?_
                              refine z_sld C HX dL_law_666 rfl ?_
                              refine z_ci (fun b => b.1) (fun b => b.2) (fun b hb => z_V (na := 1) (ci := 8) (r := (RX8, TX8, 34)) C [.int (xs (zcl (s2.1 + (1 : Int32))))] rfl (mX8_brightest Y (xs (zcl (s2.1 + (1 : Int32)))) b61.2 b hb) rfl rfl w1020 w1021 w1022 w88 w1023 hdX8_brightest ⟨Nat.le_of_ble_eq_true rfl, Nat.le_of_ble_eq_true rfl⟩ (Nat.le_of_ble_eq_true rfl) rfl dL_law_667) rfl (fun b62 => ?_)
                              refine z_icmpeq C dL_law_670 rfl rfl ?_ ?_
                              · refine z_iinc (v := (s2.1 + (7 : Int32))) C 3 (fun z => [(3, .int z), (0, .ref 121), (1, .ref 0), (2, .ref 100)]) dL_law_1296 rfl rfl (by decide) (fun _ => rfl) rfl (fun x63 => ?_)
                                refine z_goto C dL_law_1299 rfl ?_
                                exact z_perm [1, 2, 3, 0] rfl (hr1 (x63, b62.2))
                              · refine z_iconst C (0 : Int32) dL_law_673 rfl rfl ?_
                                exact z_lawbad 
                            · refine z_ite (fun hs33_13 => ?_) (fun hs33_13 => ?_)
                              · refine z_tswIn (v := (13 : Int32)) (off := 642) C hs33_13 dL_law_33 (by decide) (by decide) rfl rfl ?_
                                refine z_aload_n C 1 dL_law_675 rfl rfl rfl ?_
                                refine z_aload_n C 0 dL_law_676 rfl rfl rfl ?_
                                refine z_iload_n C 3 dL_law_677 rfl rfl rfl ?_
                                refine z_iconst C (1 : Int32) dL_law_678 rfl rfl ?_
                                refine z_iadd C dL_law_679 rfl ?_
                                refine z_sld C HX dL_law_680 rfl ?_
                                refine z_aload_n C 0 dL_law_681 rfl rfl rfl ?_
                                refine z_iload_n C 3 dL_law_682 rfl rfl rfl ?_
                                refine z_iconst C (2 : Int32) dL_law_683 rfl rfl ?_
                                refine z_iadd C dL_law_684 rfl ?_
                                refine z_sld C HX dL_law_685 rfl ?_
                                refine z_aload_n C 0 dL_law_686 rfl rfl rfl ?_
                                refine z_iload_n C 3 dL_law_687 rfl rfl rfl ?_
                                refine z_iconst C (3 : Int32) dL_law_688 rfl rfl ?_
                                refine z_iadd C dL_law_689 rfl ?_
                                refine z_sld C HX dL_law_690 rfl ?_
                                refine z_aload_n C 0 dL_law_691 rfl rfl rfl ?_
                                refine z_iload_n C 3 dL_law_692 rfl rfl rfl ?_
                                refine z_iconst C (4 : Int32) dL_law_693 rfl rfl ?_
                                refine z_iadd C dL_law_694 rfl ?_
                                refine z_sld C HX dL_law_695 rfl ?_
                                refine z_aload_n C 0 dL_law_696 rfl rfl rfl ?_
                                refine z_iload_n C 3 dL_law_697 rfl rfl rfl ?_
                                refine z_iconst C (5 : Int32) dL_law_698 rfl rfl ?_
                                refine z_iadd C dL_law_699 rfl ?_
                                refine z_sld C HX dL_law_700 rfl ?_
                                refine z_aload_n C 0 dL_law_701 rfl rfl rfl ?_
                                refine z_iload_n C 3 dL_law_702 rfl rfl rfl ?_
                                refine z_bipush C (6 : Int32) dL_law_703 rfl rfl ?_
                                refine z_iadd C dL_law_705 rfl ?_
                                refine z_sld C HX dL_law_706 rfl ?_
                                refine z_cl (fun b => b.1) (fun b => b.2) (fun b hb => z_V (na := 6) (ci := 7) (r := (RX7, TX7, 8)) C [.int (xs (zcl (s2.1 + (1 : Int32)))), .int (xs (zcl (s2.1 + (2 : Int32)))), .int (xs (zcl (s2.1 + (3 : Int32)))), .int (xs (zcl (s2.1 + (4 : Int32)))), .int (xs (zcl (s2.1 + (5 : Int32)))), .int (xs (zcl (s2.1 + (6 : Int32))))] rfl (mX7_delay Y (xs (zcl (s2.1 + (1 : Int32)))) (xs (zcl (s2.1 + (2 : Int32)))) (xs (zcl (s2.1 + (3 : Int32)))) (xs (zcl (s2.1 + (4 : Int32)))) (xs (zcl (s2.1 + (5 : Int32)))) (xs (zcl (s2.1 + (6 : Int32)))) s2.2 b hb) rfl rfl w551 w552 w553 w79 w554 hdX7_delay ⟨Nat.le_of_ble_eq_true rfl, Nat.le_of_ble_eq_true rfl⟩ (Nat.le_of_ble_eq_true rfl) rfl dL_law_707) rfl (fun b58 => ?_)
                                refine z_aload_n C 2 dL_law_710 rfl rfl rfl ?_
                                refine z_aload_n C 0 dL_law_711 rfl rfl rfl ?_
                                refine z_iload_n C 3 dL_law_712 rfl rfl rfl ?_
                                refine z_iconst C (1 : Int32) dL_law_713 rfl rfl ?_
                                refine z_iadd C dL_law_714 rfl ?_
                                refine z_sld C HX dL_law_715 rfl ?_
                                refine z_aload_n C 0 dL_law_716 rfl rfl rfl ?_
                                refine z_iload_n C 3 dL_law_717 rfl rfl rfl ?_
                                refine z_iconst C (2 : Int32) dL_law_718 rfl rfl ?_
                                refine z_iadd C dL_law_719 rfl ?_
                                refine z_sld C HX dL_law_720 rfl ?_
                                refine z_aload_n C 0 dL_law_721 rfl rfl rfl ?_
                                refine z_iload_n C 3 dL_law_722 rfl rfl rfl ?_
                                refine z_iconst C (3 : Int32) dL_law_723 rfl rfl ?_
                                refine z_iadd C dL_law_724 rfl ?_
                                refine z_sld C HX dL_law_725 rfl ?_
                                refine z_aload_n C 0 dL_law_726 rfl rfl rfl ?_
                                refine z_iload_n C 3 dL_law_727 rfl rfl rfl ?_
                                refine z_iconst C (4 : Int32) dL_law_728 rfl rfl ?_
                                refine z_iadd C dL_law_729 rfl ?_
                                refine z_sld C HX dL_law_730 rfl ?_
                                refine z_aload_n C 0 dL_law_731 rfl rfl rfl ?_
                                refine z_iload_n C 3 dL_law_732 rfl rfl rfl ?_
                                refine z_iconst C (5 : Int32) dL_law_733 rfl rfl ?_
                                refine z_iadd C dL_law_734 rfl ?_
                                refine z_sld C HX dL_law_735 rfl ?_
                                refine z_aload_n C 0 dL_law_736 rfl rfl rfl ?_
                                refine z_iload_n C 3 dL_law_737 rfl rfl rfl ?_
                                refine z_bipush C (6 : Int32) dL_law_738 rfl rfl ?_
                                refine z_iadd C dL_law_740 rfl ?_
                                refine z_sld C HX dL_law_741 rfl ?_
                                refine z_cl (fun b => b) (fun _ => b58.2) (fun b hb => z_V (na := 6) (ci := 8) (r := (RX8, TX8, 34)) C [.int (xs (zcl (s2.1 + (1 : Int32)))), .int (xs (zcl (s2.1 + (2 : Int32)))), .int (xs (zcl (s2.1 + (3 : Int32)))), .int (xs (zcl (s2.1 + (4 : Int32)))), .int (xs (zcl (s2.1 + (5 : Int32)))), .int (xs (zcl (s2.1 + (6 : Int32))))] rfl (mX8_delay Y (xs (zcl (s2.1 + (1 : Int32)))) (xs (zcl (s2.1 + (2 : Int32)))) (xs (zcl (s2.1 + (3 : Int32)))) (xs (zcl (s2.1 + (4 : Int32)))) (xs (zcl (s2.1 + (5 : Int32)))) (xs (zcl (s2.1 + (6 : Int32)))) b58.2 b hb) rfl rfl w1024 w1025 w1026 w88 w1027 hdX8_delay ⟨Nat.le_of_ble_eq_true rfl, Nat.le_of_ble_eq_true rfl⟩ (Nat.le_of_ble_eq_true rfl) rfl dL_law_742) rfl (fun b59 => ?_)
                                refine z_lcmp C dL_law_745 rfl ?_
                                refine z_ifeq C dL_law_746 rfl rfl ?_ ?_
                                · refine z_iinc (v := (s2.1 + (7 : Int32))) C 3 (fun z => [(3, .int z), (0, .ref 121), (1, .ref 0), (2, .ref 100)]) dL_law_1296 rfl rfl (by decide) (fun _ => rfl) rfl (fun x60 => ?_)
                                  refine z_goto C dL_law_1299 rfl ?_
                                  exact z_perm [1, 2, 3, 0] rfl (hr1 (x60, b58.2))
                                · refine z_iconst C (0 : Int32) dL_law_749 rfl rfl ?_
                                  exact z_lawbad 
                              · refine z_ite (fun hs33_14 => ?_) (fun hs33_14 => ?_)
                                · refine z_tswIn (v := (14 : Int32)) (off := 718) C hs33_14 dL_law_33 (by decide) (by decide) rfl rfl ?_
                                  refine z_aload_n C 1 dL_law_751 rfl rfl rfl ?_
                                  refine z_aload_n C 0 dL_law_752 rfl rfl rfl ?_
                                  refine z_iload_n C 3 dL_law_753 rfl rfl rfl ?_
                                  refine z_iconst C (1 : Int32) dL_law_754 rfl rfl ?_
                                  refine z_iadd C dL_law_755 rfl ?_
                                  refine z_sld C HX dL_law_756 rfl ?_
                                  refine z_ci (fun b => b.1) (fun b => b.2) (fun b hb => z_V (na := 1) (ci := 7) (r := (RX7, TX7, 8)) C [.int (xs (zcl (s2.1 + (1 : Int32))))] rfl (mX7_stretch Y (xs (zcl (s2.1 + (1 : Int32)))) s2.2 b hb) rfl rfl w569 w570 w571 w79 w572 hdX7_stretch ⟨Nat.le_of_ble_eq_true rfl, Nat.le_of_ble_eq_true rfl⟩ (Nat.le_of_ble_eq_true rfl) rfl dL_law_757) rfl (fun b55 => ?_)
                                  refine z_aload_n C 2 dL_law_760 rfl rfl rfl ?_
                                  refine z_aload_n C 0 dL_law_761 rfl rfl rfl ?_
                                  refine z_iload_n C 3 dL_law_762 rfl rfl rfl ?_
                                  refine z_iconst C (1 : Int32) dL_law_763 rfl rfl ?_
                                  refine z_iadd C dL_law_764 rfl ?_
                                  refine z_sld C HX dL_law_765 rfl ?_
                                  refine z_ci (fun b => b.1) (fun b => b.2) (fun b hb => z_V (na := 1) (ci := 8) (r := (RX8, TX8, 34)) C [.int (xs (zcl (s2.1 + (1 : Int32))))] rfl (mX8_stretch Y (xs (zcl (s2.1 + (1 : Int32)))) b55.2 b hb) rfl rfl w1030 w1031 w1032 w88 w1033 hdX8_stretch ⟨Nat.le_of_ble_eq_true rfl, Nat.le_of_ble_eq_true rfl⟩ (Nat.le_of_ble_eq_true rfl) rfl dL_law_766) rfl (fun b56 => ?_)
                                  refine z_icmpeq C dL_law_769 rfl rfl ?_ ?_
                                  · refine z_iinc (v := (s2.1 + (7 : Int32))) C 3 (fun z => [(3, .int z), (0, .ref 121), (1, .ref 0), (2, .ref 100)]) dL_law_1296 rfl rfl (by decide) (fun _ => rfl) rfl (fun x57 => ?_)
                                    refine z_goto C dL_law_1299 rfl ?_
                                    exact z_perm [1, 2, 3, 0] rfl (hr1 (x57, b56.2))
                                  · refine z_iconst C (0 : Int32) dL_law_772 rfl rfl ?_
                                    exact z_lawbad 
                                · refine z_ite (fun hs33_15 => ?_) (fun hs33_15 => ?_)
                                  · refine z_tswIn (v := (15 : Int32)) (off := 741) C hs33_15 dL_law_33 (by decide) (by decide) rfl rfl ?_
                                    refine z_aload_n C 1 dL_law_774 rfl rfl rfl ?_
                                    refine z_aload_n C 0 dL_law_775 rfl rfl rfl ?_
                                    refine z_iload_n C 3 dL_law_776 rfl rfl rfl ?_
                                    refine z_iconst C (1 : Int32) dL_law_777 rfl rfl ?_
                                    refine z_iadd C dL_law_778 rfl ?_
                                    refine z_sld C HX dL_law_779 rfl ?_
                                    refine z_i2l C dL_law_780 rfl ?_
                                    refine z_bipush C (32 : Int32) dL_law_781 rfl rfl ?_
                                    refine z_lshl C dL_law_783 rfl ?_
                                    refine z_aload_n C 0 dL_law_784 rfl rfl rfl ?_
                                    refine z_iload_n C 3 dL_law_785 rfl rfl rfl ?_
                                    refine z_iconst C (2 : Int32) dL_law_786 rfl rfl ?_
                                    refine z_iadd C dL_law_787 rfl ?_
                                    refine z_sld C HX dL_law_788 rfl ?_
                                    refine z_i2l C dL_law_789 rfl ?_
                                    refine z_ldc2 C w1173 dL_law_790 rfl ?_
                                    refine z_land C dL_law_793 rfl ?_
                                    refine z_lor C dL_law_794 rfl ?_
                                    refine z_aload_n C 0 dL_law_795 rfl rfl rfl ?_
                                    refine z_iload_n C 3 dL_law_796 rfl rfl rfl ?_
                                    refine z_iconst C (3 : Int32) dL_law_797 rfl rfl ?_
                                    refine z_iadd C dL_law_798 rfl ?_
                                    refine z_sld C HX dL_law_799 rfl ?_
                                    refine z_ci (fun b => b.1) (fun b => b.2) (fun b hb => z_V (na := 2) (ci := 7) (r := (RX7, TX7, 8)) C [.long (((xs (zcl (s2.1 + (1 : Int32)))).toInt64 <<< ((32 : Int32).toInt64 &&& 63)) ||| ((xs (zcl (s2.1 + (2 : Int32)))).toInt64 &&& (4294967295 : Int64))), .int (xs (zcl (s2.1 + (3 : Int32))))] rfl (mX7_type Y (((xs (zcl (s2.1 + (1 : Int32)))).toInt64 <<< ((32 : Int32).toInt64 &&& 63)) ||| ((xs (zcl (s2.1 + (2 : Int32)))).toInt64 &&& (4294967295 : Int64))) (xs (zcl (s2.1 + (3 : Int32)))) s2.2 b hb) rfl rfl w587 w588 w589 w79 w590 hdX7_type ⟨Nat.le_of_ble_eq_true rfl, Nat.le_of_ble_eq_true rfl⟩ (Nat.le_of_ble_eq_true rfl) rfl dL_law_800) rfl (fun b52 => ?_)
                                    refine z_aload_n C 2 dL_law_803 rfl rfl rfl ?_
                                    refine z_aload_n C 0 dL_law_804 rfl rfl rfl ?_
                                    refine z_iload_n C 3 dL_law_805 rfl rfl rfl ?_
                                    refine z_iconst C (1 : Int32) dL_law_806 rfl rfl ?_
                                    refine z_iadd C dL_law_807 rfl ?_
                                    refine z_sld C HX dL_law_808 rfl ?_
                                    refine z_i2l C dL_law_809 rfl ?_
                                    refine z_bipush C (32 : Int32) dL_law_810 rfl rfl ?_
                                    refine z_lshl C dL_law_812 rfl ?_
                                    refine z_aload_n C 0 dL_law_813 rfl rfl rfl ?_
                                    refine z_iload_n C 3 dL_law_814 rfl rfl rfl ?_
                                    refine z_iconst C (2 : Int32) dL_law_815 rfl rfl ?_
                                    refine z_iadd C dL_law_816 rfl ?_
                                    refine z_sld C HX dL_law_817 rfl ?_
                                    refine z_i2l C dL_law_818 rfl ?_
                                    refine z_ldc2 C w1173 dL_law_819 rfl ?_
                                    refine z_land C dL_law_822 rfl ?_
                                    refine z_lor C dL_law_823 rfl ?_
                                    refine z_aload_n C 0 dL_law_824 rfl rfl rfl ?_
                                    refine z_iload_n C 3 dL_law_825 rfl rfl rfl ?_
                                    refine z_iconst C (3 : Int32) dL_law_826 rfl rfl ?_
                                    refine z_iadd C dL_law_827 rfl ?_
                                    refine z_sld C HX dL_law_828 rfl ?_
                                    refine z_ci (fun b => b.1) (fun b => b.2) (fun b hb => z_V (na := 2) (ci := 8) (r := (RX8, TX8, 34)) C [.long (((xs (zcl (s2.1 + (1 : Int32)))).toInt64 <<< ((32 : Int32).toInt64 &&& 63)) ||| ((xs (zcl (s2.1 + (2 : Int32)))).toInt64 &&& (4294967295 : Int64))), .int (xs (zcl (s2.1 + (3 : Int32))))] rfl (mX8_type Y (((xs (zcl (s2.1 + (1 : Int32)))).toInt64 <<< ((32 : Int32).toInt64 &&& 63)) ||| ((xs (zcl (s2.1 + (2 : Int32)))).toInt64 &&& (4294967295 : Int64))) (xs (zcl (s2.1 + (3 : Int32)))) b52.2 b hb) rfl rfl w1034 w1035 w1036 w88 w1037 hdX8_type ⟨Nat.le_of_ble_eq_true rfl, Nat.le_of_ble_eq_true rfl⟩ (Nat.le_of_ble_eq_true rfl) rfl dL_law_829) rfl (fun b53 => ?_)
                                    refine z_icmpeq C dL_law_832 rfl rfl ?_ ?_
                                    · refine z_iinc (v := (s2.1 + (7 : Int32))) C 3 (fun z => [(3, .int z), (0, .ref 121), (1, .ref 0), (2, .ref 100)]) dL_law_1296 rfl rfl (by decide) (fun _ => rfl) rfl (fun x54 => ?_)
                                      refine z_goto C dL_law_1299 rfl ?_
                                      exact z_perm [1, 2, 3, 0] rfl (hr1 (x54, b53.2))
                                    · refine z_iconst C (0 : Int32) dL_law_835 rfl rfl ?_
                                      exact z_lawbad 
                                  · refine z_ite (fun hs33_16 => ?_) (fun hs33_16 => ?_)
                                    · refine z_tswIn (v := (16 : Int32)) (off := 804) C hs33_16 dL_law_33 (by decide) (by decide) rfl rfl ?_
                                      refine z_aload_n C 1 dL_law_837 rfl rfl rfl ?_
                                      refine z_ci (fun b => b.1) (fun b => b.2) (fun b hb => z_V (na := 0) (ci := 7) (r := (RX7, TX7, 8)) C [] rfl (mX7_clear Y s2.2 b hb) rfl rfl w596 w597 w598 w79 w599 hdX7_clear ⟨Nat.le_of_ble_eq_true rfl, Nat.le_of_ble_eq_true rfl⟩ (Nat.le_of_ble_eq_true rfl) rfl dL_law_838) rfl (fun b49 => ?_)
                                      refine z_aload_n C 2 dL_law_841 rfl rfl rfl ?_
                                      refine z_ci (fun b => b.1) (fun b => b.2) (fun b hb => z_V (na := 0) (ci := 8) (r := (RX8, TX8, 34)) C [] rfl (mX8_clear Y b49.2 b hb) rfl rfl w1039 w1040 w1041 w88 w1042 hdX8_clear ⟨Nat.le_of_ble_eq_true rfl, Nat.le_of_ble_eq_true rfl⟩ (Nat.le_of_ble_eq_true rfl) rfl dL_law_842) rfl (fun b50 => ?_)
                                      refine z_icmpeq C dL_law_845 rfl rfl ?_ ?_
                                      · refine z_iinc (v := (s2.1 + (7 : Int32))) C 3 (fun z => [(3, .int z), (0, .ref 121), (1, .ref 0), (2, .ref 100)]) dL_law_1296 rfl rfl (by decide) (fun _ => rfl) rfl (fun x51 => ?_)
                                        refine z_goto C dL_law_1299 rfl ?_
                                        exact z_perm [1, 2, 3, 0] rfl (hr1 (x51, b50.2))
                                      · refine z_iconst C (0 : Int32) dL_law_848 rfl rfl ?_
                                        exact z_lawbad 
                                    · refine z_ite (fun hs33_17 => ?_) (fun hs33_17 => ?_)
                                      · refine z_tswIn (v := (17 : Int32)) (off := 817) C hs33_17 dL_law_33 (by decide) (by decide) rfl rfl ?_
                                        refine z_aload_n C 1 dL_law_850 rfl rfl rfl ?_
                                        refine z_ci (fun b => b.1) (fun b => b.2) (fun b hb => z_V (na := 0) (ci := 7) (r := (RX7, TX7, 8)) C [] rfl (mX7_read Y s2.2 b hb) rfl rfl w600 w601 w602 w79 w603 hdX7_read ⟨Nat.le_of_ble_eq_true rfl, Nat.le_of_ble_eq_true rfl⟩ (Nat.le_of_ble_eq_true rfl) rfl dL_law_851) rfl (fun b46 => ?_)
                                        refine z_aload_n C 2 dL_law_854 rfl rfl rfl ?_
                                        refine z_ci (fun b => b.1) (fun b => b.2) (fun b hb => z_V (na := 0) (ci := 8) (r := (RX8, TX8, 34)) C [] rfl (mX8_read Y b46.2 b hb) rfl rfl w1043 w1044 w1045 w88 w1046 hdX8_read ⟨Nat.le_of_ble_eq_true rfl, Nat.le_of_ble_eq_true rfl⟩ (Nat.le_of_ble_eq_true rfl) rfl dL_law_855) rfl (fun b47 => ?_)
                                        refine z_icmpeq C dL_law_858 rfl rfl ?_ ?_
                                        · refine z_iinc (v := (s2.1 + (7 : Int32))) C 3 (fun z => [(3, .int z), (0, .ref 121), (1, .ref 0), (2, .ref 100)]) dL_law_1296 rfl rfl (by decide) (fun _ => rfl) rfl (fun x48 => ?_)
                                          refine z_goto C dL_law_1299 rfl ?_
                                          exact z_perm [1, 2, 3, 0] rfl (hr1 (x48, b47.2))
                                        · refine z_iconst C (0 : Int32) dL_law_861 rfl rfl ?_
                                          exact z_lawbad 
                                      · refine z_ite (fun hs33_18 => ?_) (fun hs33_18 => ?_)
                                        · refine z_tswIn (v := (18 : Int32)) (off := 830) C hs33_18 dL_law_33 (by decide) (by decide) rfl rfl ?_
                                          refine z_aload_n C 1 dL_law_863 rfl rfl rfl ?_
                                          refine z_aload_n C 0 dL_law_864 rfl rfl rfl ?_
                                          refine z_iload_n C 3 dL_law_865 rfl rfl rfl ?_
                                          refine z_iconst C (1 : Int32) dL_law_866 rfl rfl ?_
                                          refine z_iadd C dL_law_867 rfl ?_
                                          refine z_sld C HX dL_law_868 rfl ?_
                                          refine z_aload_n C 0 dL_law_869 rfl rfl rfl ?_
                                          refine z_iload_n C 3 dL_law_870 rfl rfl rfl ?_
                                          refine z_iconst C (2 : Int32) dL_law_871 rfl rfl ?_
                                          refine z_iadd C dL_law_872 rfl ?_
                                          refine z_sld C HX dL_law_873 rfl ?_
                                          refine z_aload_n C 0 dL_law_874 rfl rfl rfl ?_
                                          refine z_iload_n C 3 dL_law_875 rfl rfl rfl ?_
                                          refine z_iconst C (3 : Int32) dL_law_876 rfl rfl ?_
                                          refine z_iadd C dL_law_877 rfl ?_
                                          refine z_sld C HX dL_law_878 rfl ?_
                                          refine z_aload_n C 0 dL_law_879 rfl rfl rfl ?_
                                          refine z_iload_n C 3 dL_law_880 rfl rfl rfl ?_
                                          refine z_iconst C (4 : Int32) dL_law_881 rfl rfl ?_
                                          refine z_iadd C dL_law_882 rfl ?_
                                          refine z_sld C HX dL_law_883 rfl ?_
                                          refine z_ci (fun b => b.1) (fun b => b.2) (fun b hb => z_V (na := 4) (ci := 7) (r := (RX7, TX7, 8)) C [.int (xs (zcl (s2.1 + (1 : Int32)))), .int (xs (zcl (s2.1 + (2 : Int32)))), .int (xs (zcl (s2.1 + (3 : Int32)))), .int (xs (zcl (s2.1 + (4 : Int32))))] rfl (mX7_pair Y (xs (zcl (s2.1 + (1 : Int32)))) (xs (zcl (s2.1 + (2 : Int32)))) (xs (zcl (s2.1 + (3 : Int32)))) (xs (zcl (s2.1 + (4 : Int32)))) s2.2 b hb) rfl rfl w627 w628 w629 w79 w630 hdX7_pair ⟨Nat.le_of_ble_eq_true rfl, Nat.le_of_ble_eq_true rfl⟩ (Nat.le_of_ble_eq_true rfl) rfl dL_law_884) rfl (fun b43 => ?_)
                                          refine z_aload_n C 2 dL_law_887 rfl rfl rfl ?_
                                          refine z_aload_n C 0 dL_law_888 rfl rfl rfl ?_
                                          refine z_iload_n C 3 dL_law_889 rfl rfl rfl ?_
                                          refine z_iconst C (1 : Int32) dL_law_890 rfl rfl ?_
                                          refine z_iadd C dL_law_891 rfl ?_
                                          refine z_sld C HX dL_law_892 rfl ?_
                                          refine z_aload_n C 0 dL_law_893 rfl rfl rfl ?_
                                          refine z_iload_n C 3 dL_law_894 rfl rfl rfl ?_
                                          refine z_iconst C (2 : Int32) dL_law_895 rfl rfl ?_
                                          refine z_iadd C dL_law_896 rfl ?_
                                          refine z_sld C HX dL_law_897 rfl ?_
                                          refine z_aload_n C 0 dL_law_898 rfl rfl rfl ?_
                                          refine z_iload_n C 3 dL_law_899 rfl rfl rfl ?_
                                          refine z_iconst C (3 : Int32) dL_law_900 rfl rfl ?_
                                          refine z_iadd C dL_law_901 rfl ?_
                                          refine z_sld C HX dL_law_902 rfl ?_
                                          refine z_aload_n C 0 dL_law_903 rfl rfl rfl ?_
                                          refine z_iload_n C 3 dL_law_904 rfl rfl rfl ?_
                                          refine z_iconst C (4 : Int32) dL_law_905 rfl rfl ?_
                                          refine z_iadd C dL_law_906 rfl ?_
                                          refine z_sld C HX dL_law_907 rfl ?_
                                          refine z_ci (fun b => b.1) (fun b => b.2) (fun b hb => z_V (na := 4) (ci := 8) (r := (RX8, TX8, 34)) C [.int (xs (zcl (s2.1 + (1 : Int32)))), .int (xs (zcl (s2.1 + (2 : Int32)))), .int (xs (zcl (s2.1 + (3 : Int32)))), .int (xs (zcl (s2.1 + (4 : Int32))))] rfl (mX8_pair Y (xs (zcl (s2.1 + (1 : Int32)))) (xs (zcl (s2.1 + (2 : Int32)))) (xs (zcl (s2.1 + (3 : Int32)))) (xs (zcl (s2.1 + (4 : Int32)))) b43.2 b hb) rfl rfl w1067 w1068 w1069 w88 w1070 hdX8_pair ⟨Nat.le_of_ble_eq_true rfl, Nat.le_of_ble_eq_true rfl⟩ (Nat.le_of_ble_eq_true rfl) rfl dL_law_908) rfl (fun b44 => ?_)
                                          refine z_icmpeq C dL_law_911 rfl rfl ?_ ?_
                                          · refine z_iinc (v := (s2.1 + (7 : Int32))) C 3 (fun z => [(3, .int z), (0, .ref 121), (1, .ref 0), (2, .ref 100)]) dL_law_1296 rfl rfl (by decide) (fun _ => rfl) rfl (fun x45 => ?_)
                                            refine z_goto C dL_law_1299 rfl ?_
                                            exact z_perm [1, 2, 3, 0] rfl (hr1 (x45, b44.2))
                                          · refine z_iconst C (0 : Int32) dL_law_914 rfl rfl ?_
                                            exact z_lawbad 
                                        · refine z_ite (fun hs33_19 => ?_) (fun hs33_19 => ?_)
                                          · refine z_tswIn (v := (19 : Int32)) (off := 883) C hs33_19 dL_law_33 (by decide) (by decide) rfl rfl ?_
                                            refine z_aload_n C 1 dL_law_916 rfl rfl rfl ?_
                                            refine z_ci (fun b => b.1) (fun b => b.2) (fun b hb => z_V (na := 0) (ci := 7) (r := (RX7, TX7, 8)) C [] rfl (mX7_wipe Y s2.2 b hb) rfl rfl w635 w636 w637 w79 w638 hdX7_wipe ⟨Nat.le_of_ble_eq_true rfl, Nat.le_of_ble_eq_true rfl⟩ (Nat.le_of_ble_eq_true rfl) rfl dL_law_917) rfl (fun b40 => ?_)
                                            refine z_aload_n C 2 dL_law_920 rfl rfl rfl ?_
                                            refine z_ci (fun b => b.1) (fun b => b.2) (fun b hb => z_V (na := 0) (ci := 8) (r := (RX8, TX8, 34)) C [] rfl (mX8_wipe Y b40.2 b hb) rfl rfl w1071 w1072 w1073 w88 w1074 hdX8_wipe ⟨Nat.le_of_ble_eq_true rfl, Nat.le_of_ble_eq_true rfl⟩ (Nat.le_of_ble_eq_true rfl) rfl dL_law_921) rfl (fun b41 => ?_)
                                            refine z_icmpeq C dL_law_924 rfl rfl ?_ ?_
                                            · refine z_iinc (v := (s2.1 + (7 : Int32))) C 3 (fun z => [(3, .int z), (0, .ref 121), (1, .ref 0), (2, .ref 100)]) dL_law_1296 rfl rfl (by decide) (fun _ => rfl) rfl (fun x42 => ?_)
                                              refine z_goto C dL_law_1299 rfl ?_
                                              exact z_perm [1, 2, 3, 0] rfl (hr1 (x42, b41.2))
                                            · refine z_iconst C (0 : Int32) dL_law_927 rfl rfl ?_
                                              exact z_lawbad 
                                          · refine z_ite (fun hs33_20 => ?_) (fun hs33_20 => ?_)
                                            · refine z_tswIn (v := (20 : Int32)) (off := 896) C hs33_20 dL_law_33 (by decide) (by decide) rfl rfl ?_
                                              refine z_aload_n C 1 dL_law_929 rfl rfl rfl ?_
                                              refine z_aload_n C 0 dL_law_930 rfl rfl rfl ?_
                                              refine z_iload_n C 3 dL_law_931 rfl rfl rfl ?_
                                              refine z_iconst C (1 : Int32) dL_law_932 rfl rfl ?_
                                              refine z_iadd C dL_law_933 rfl ?_
                                              refine z_sld C HX dL_law_934 rfl ?_
                                              refine z_aload_n C 0 dL_law_935 rfl rfl rfl ?_
                                              refine z_iload_n C 3 dL_law_936 rfl rfl rfl ?_
                                              refine z_iconst C (2 : Int32) dL_law_937 rfl rfl ?_
                                              refine z_iadd C dL_law_938 rfl ?_
                                              refine z_sld C HX dL_law_939 rfl ?_
                                              refine z_ci (fun b => b.1) (fun b => b.2) (fun b hb => z_V (na := 2) (ci := 7) (r := (RX7, TX7, 8)) C [.int (xs (zcl (s2.1 + (1 : Int32)))), .int (xs (zcl (s2.1 + (2 : Int32))))] rfl (mX7_tolerance Y (xs (zcl (s2.1 + (1 : Int32)))) (xs (zcl (s2.1 + (2 : Int32)))) s2.2 b hb) rfl rfl w639 w640 w641 w79 w642 hdX7_tolerance ⟨Nat.le_of_ble_eq_true rfl, Nat.le_of_ble_eq_true rfl⟩ (Nat.le_of_ble_eq_true rfl) rfl dL_law_940) rfl (fun b37 => ?_)
                                              refine z_aload_n C 2 dL_law_943 rfl rfl rfl ?_
                                              refine z_aload_n C 0 dL_law_944 rfl rfl rfl ?_
                                              refine z_iload_n C 3 dL_law_945 rfl rfl rfl ?_
                                              refine z_iconst C (1 : Int32) dL_law_946 rfl rfl ?_
                                              refine z_iadd C dL_law_947 rfl ?_
                                              refine z_sld C HX dL_law_948 rfl ?_
                                              refine z_aload_n C 0 dL_law_949 rfl rfl rfl ?_
                                              refine z_iload_n C 3 dL_law_950 rfl rfl rfl ?_
                                              refine z_iconst C (2 : Int32) dL_law_951 rfl rfl ?_
                                              refine z_iadd C dL_law_952 rfl ?_
                                              refine z_sld C HX dL_law_953 rfl ?_
                                              refine z_ci (fun b => b.1) (fun b => b.2) (fun b hb => z_V (na := 2) (ci := 8) (r := (RX8, TX8, 34)) C [.int (xs (zcl (s2.1 + (1 : Int32)))), .int (xs (zcl (s2.1 + (2 : Int32))))] rfl (mX8_tolerance Y (xs (zcl (s2.1 + (1 : Int32)))) (xs (zcl (s2.1 + (2 : Int32)))) b37.2 b hb) rfl rfl w1075 w1076 w1077 w88 w1078 hdX8_tolerance ⟨Nat.le_of_ble_eq_true rfl, Nat.le_of_ble_eq_true rfl⟩ (Nat.le_of_ble_eq_true rfl) rfl dL_law_954) rfl (fun b38 => ?_)
                                              refine z_icmpeq C dL_law_957 rfl rfl ?_ ?_
                                              · refine z_iinc (v := (s2.1 + (7 : Int32))) C 3 (fun z => [(3, .int z), (0, .ref 121), (1, .ref 0), (2, .ref 100)]) dL_law_1296 rfl rfl (by decide) (fun _ => rfl) rfl (fun x39 => ?_)
                                                refine z_goto C dL_law_1299 rfl ?_
                                                exact z_perm [1, 2, 3, 0] rfl (hr1 (x39, b38.2))
                                              · refine z_iconst C (0 : Int32) dL_law_960 rfl rfl ?_
                                                exact z_lawbad 
                                            · refine z_ite (fun hs33_21 => ?_) (fun hs33_21 => ?_)
                                              · refine z_tswIn (v := (21 : Int32)) (off := 929) C hs33_21 dL_law_33 (by decide) (by decide) rfl rfl ?_
                                                refine z_aload_n C 1 dL_law_962 rfl rfl rfl ?_
                                                refine z_aload_n C 0 dL_law_963 rfl rfl rfl ?_
                                                refine z_iload_n C 3 dL_law_964 rfl rfl rfl ?_
                                                refine z_iconst C (1 : Int32) dL_law_965 rfl rfl ?_
                                                refine z_iadd C dL_law_966 rfl ?_
                                                refine z_sld C HX dL_law_967 rfl ?_
                                                refine z_aload_n C 0 dL_law_968 rfl rfl rfl ?_
                                                refine z_iload_n C 3 dL_law_969 rfl rfl rfl ?_
                                                refine z_iconst C (2 : Int32) dL_law_970 rfl rfl ?_
                                                refine z_iadd C dL_law_971 rfl ?_
                                                refine z_sld C HX dL_law_972 rfl ?_
                                                refine z_aload_n C 0 dL_law_973 rfl rfl rfl ?_
                                                refine z_iload_n C 3 dL_law_974 rfl rfl rfl ?_
                                                refine z_iconst C (3 : Int32) dL_law_975 rfl rfl ?_
                                                refine z_iadd C dL_law_976 rfl ?_
                                                refine z_sld C HX dL_law_977 rfl ?_
                                                refine z_ci (fun b => b.1) (fun b => b.2) (fun b hb => z_V (na := 3) (ci := 7) (r := (RX7, TX7, 8)) C [.int (xs (zcl (s2.1 + (1 : Int32)))), .int (xs (zcl (s2.1 + (2 : Int32)))), .int (xs (zcl (s2.1 + (3 : Int32))))] rfl (mX7_fits Y (xs (zcl (s2.1 + (1 : Int32)))) (xs (zcl (s2.1 + (2 : Int32)))) (xs (zcl (s2.1 + (3 : Int32)))) s2.2 b hb) rfl rfl w643 w644 w645 w79 w646 hdX7_fits ⟨Nat.le_of_ble_eq_true rfl, Nat.le_of_ble_eq_true rfl⟩ (Nat.le_of_ble_eq_true rfl) rfl dL_law_978) rfl (fun b34 => ?_)
                                                refine z_aload_n C 2 dL_law_981 rfl rfl rfl ?_
                                                refine z_aload_n C 0 dL_law_982 rfl rfl rfl ?_
                                                refine z_iload_n C 3 dL_law_983 rfl rfl rfl ?_
                                                refine z_iconst C (1 : Int32) dL_law_984 rfl rfl ?_
                                                refine z_iadd C dL_law_985 rfl ?_
                                                refine z_sld C HX dL_law_986 rfl ?_
                                                refine z_aload_n C 0 dL_law_987 rfl rfl rfl ?_
                                                refine z_iload_n C 3 dL_law_988 rfl rfl rfl ?_
                                                refine z_iconst C (2 : Int32) dL_law_989 rfl rfl ?_
                                                refine z_iadd C dL_law_990 rfl ?_
                                                refine z_sld C HX dL_law_991 rfl ?_
                                                refine z_aload_n C 0 dL_law_992 rfl rfl rfl ?_
                                                refine z_iload_n C 3 dL_law_993 rfl rfl rfl ?_
                                                refine z_iconst C (3 : Int32) dL_law_994 rfl rfl ?_
                                                refine z_iadd C dL_law_995 rfl ?_
                                                refine z_sld C HX dL_law_996 rfl ?_
                                                refine z_ci (fun b => b.1) (fun b => b.2) (fun b hb => z_V (na := 3) (ci := 8) (r := (RX8, TX8, 34)) C [.int (xs (zcl (s2.1 + (1 : Int32)))), .int (xs (zcl (s2.1 + (2 : Int32)))), .int (xs (zcl (s2.1 + (3 : Int32))))] rfl (mX8_fits Y (xs (zcl (s2.1 + (1 : Int32)))) (xs (zcl (s2.1 + (2 : Int32)))) (xs (zcl (s2.1 + (3 : Int32)))) b34.2 b hb) rfl rfl w1079 w1080 w1081 w88 w1082 hdX8_fits ⟨Nat.le_of_ble_eq_true rfl, Nat.le_of_ble_eq_true rfl⟩ (Nat.le_of_ble_eq_true rfl) rfl dL_law_997) rfl (fun b35 => ?_)
                                                refine z_icmpeq C dL_law_1000 rfl rfl ?_ ?_
                                                · refine z_iinc (v := (s2.1 + (7 : Int32))) C 3 (fun z => [(3, .int z), (0, .ref 121), (1, .ref 0), (2, .ref 100)]) dL_law_1296 rfl rfl (by decide) (fun _ => rfl) rfl (fun x36 => ?_)
                                                  refine z_goto C dL_law_1299 rfl ?_
                                                  exact z_perm [1, 2, 3, 0] rfl (hr1 (x36, b35.2))
                                                · refine z_iconst C (0 : Int32) dL_law_1003 rfl rfl ?_
                                                  exact z_lawbad 
                                              · refine z_ite (fun hs33_22 => ?_) (fun hs33_22 => ?_)
                                                · refine z_tswIn (v := (22 : Int32)) (off := 972) C hs33_22 dL_law_33 (by decide) (by decide) rfl rfl ?_
                                                  refine z_aload_n C 1 dL_law_1005 rfl rfl rfl ?_
                                                  refine z_aload_n C 0 dL_law_1006 rfl rfl rfl ?_
                                                  refine z_iload_n C 3 dL_law_1007 rfl rfl rfl ?_
                                                  refine z_iconst C (1 : Int32) dL_law_1008 rfl rfl ?_
                                                  refine z_iadd C dL_law_1009 rfl ?_
                                                  refine z_sld C HX dL_law_1010 rfl ?_
                                                  refine z_aload_n C 0 dL_law_1011 rfl rfl rfl ?_
                                                  refine z_iload_n C 3 dL_law_1012 rfl rfl rfl ?_
                                                  refine z_iconst C (2 : Int32) dL_law_1013 rfl rfl ?_
                                                  refine z_iadd C dL_law_1014 rfl ?_
                                                  refine z_sld C HX dL_law_1015 rfl ?_
                                                  refine z_aload_n C 0 dL_law_1016 rfl rfl rfl ?_
                                                  refine z_iload_n C 3 dL_law_1017 rfl rfl rfl ?_
                                                  refine z_iconst C (3 : Int32) dL_law_1018 rfl rfl ?_
                                                  refine z_iadd C dL_law_1019 rfl ?_
                                                  refine z_sld C HX dL_law_1020 rfl ?_
                                                  refine z_ci (fun b => b.1) (fun b => b.2) (fun b hb => z_V (na := 3) (ci := 7) (r := (RX7, TX7, 8)) C [.int (xs (zcl (s2.1 + (1 : Int32)))), .int (xs (zcl (s2.1 + (2 : Int32)))), .int (xs (zcl (s2.1 + (3 : Int32))))] rfl (mX7_models Y (xs (zcl (s2.1 + (1 : Int32)))) (xs (zcl (s2.1 + (2 : Int32)))) (xs (zcl (s2.1 + (3 : Int32)))) s2.2 b hb) rfl rfl w679 w680 w681 w79 w682 hdX7_models ⟨Nat.le_of_ble_eq_true rfl, Nat.le_of_ble_eq_true rfl⟩ (Nat.le_of_ble_eq_true rfl) rfl dL_law_1021) rfl (fun b31 => ?_)
                                                  refine z_aload_n C 2 dL_law_1024 rfl rfl rfl ?_
                                                  refine z_aload_n C 0 dL_law_1025 rfl rfl rfl ?_
                                                  refine z_iload_n C 3 dL_law_1026 rfl rfl rfl ?_
                                                  refine z_iconst C (1 : Int32) dL_law_1027 rfl rfl ?_
                                                  refine z_iadd C dL_law_1028 rfl ?_
                                                  refine z_sld C HX dL_law_1029 rfl ?_
                                                  refine z_aload_n C 0 dL_law_1030 rfl rfl rfl ?_
                                                  refine z_iload_n C 3 dL_law_1031 rfl rfl rfl ?_
                                                  refine z_iconst C (2 : Int32) dL_law_1032 rfl rfl ?_
                                                  refine z_iadd C dL_law_1033 rfl ?_
                                                  refine z_sld C HX dL_law_1034 rfl ?_
                                                  refine z_aload_n C 0 dL_law_1035 rfl rfl rfl ?_
                                                  refine z_iload_n C 3 dL_law_1036 rfl rfl rfl ?_
                                                  refine z_iconst C (3 : Int32) dL_law_1037 rfl rfl ?_
                                                  refine z_iadd C dL_law_1038 rfl ?_
                                                  refine z_sld C HX dL_law_1039 rfl ?_
                                                  refine z_ci (fun b => b.1) (fun b => b.2) (fun b hb => z_V (na := 3) (ci := 8) (r := (RX8, TX8, 34)) C [.int (xs (zcl (s2.1 + (1 : Int32)))), .int (xs (zcl (s2.1 + (2 : Int32)))), .int (xs (zcl (s2.1 + (3 : Int32))))] rfl (mX8_models Y (xs (zcl (s2.1 + (1 : Int32)))) (xs (zcl (s2.1 + (2 : Int32)))) (xs (zcl (s2.1 + (3 : Int32)))) b31.2 b hb) rfl rfl w1113 w1114 w1115 w88 w1116 hdX8_models ⟨Nat.le_of_ble_eq_true rfl, Nat.le_of_ble_eq_true rfl⟩ (Nat.le_of_ble_eq_true rfl) rfl dL_law_1040) rfl (fun b32 => ?_)
                                                  refine z_icmpeq C dL_law_1043 rfl rfl ?_ ?_
                                                  · refine z_iinc (v := (s2.1 + (7 : Int32))) C 3 (fun z => [(3, .int z), (0, .ref 121), (1, .ref 0), (2, .ref 100)]) dL_law_1296 rfl rfl (by decide) (fun _ => rfl) rfl (fun x33 => ?_)
                                                    refine z_goto C dL_law_1299 rfl ?_
                                                    exact z_perm [1, 2, 3, 0] rfl (hr1 (x33, b32.2))
                                                  · refine z_iconst C (0 : Int32) dL_law_1046 rfl rfl ?_
                                                    exact z_lawbad 
                                                · refine z_ite (fun hs33_23 => ?_) (fun hs33_23 => ?_)
                                                  · refine z_tswIn (v := (23 : Int32)) (off := 1015) C hs33_23 dL_law_33 (by decide) (by decide) rfl rfl ?_
                                                    refine z_aload_n C 1 dL_law_1048 rfl rfl rfl ?_
                                                    refine z_aload_n C 0 dL_law_1049 rfl rfl rfl ?_
                                                    refine z_iload_n C 3 dL_law_1050 rfl rfl rfl ?_
                                                    refine z_iconst C (1 : Int32) dL_law_1051 rfl rfl ?_
                                                    refine z_iadd C dL_law_1052 rfl ?_
                                                    refine z_sld C HX dL_law_1053 rfl ?_
                                                    refine z_aload_n C 0 dL_law_1054 rfl rfl rfl ?_
                                                    refine z_iload_n C 3 dL_law_1055 rfl rfl rfl ?_
                                                    refine z_iconst C (2 : Int32) dL_law_1056 rfl rfl ?_
                                                    refine z_iadd C dL_law_1057 rfl ?_
                                                    refine z_sld C HX dL_law_1058 rfl ?_
                                                    refine z_aload_n C 0 dL_law_1059 rfl rfl rfl ?_
                                                    refine z_iload_n C 3 dL_law_1060 rfl rfl rfl ?_
                                                    refine z_iconst C (3 : Int32) dL_law_1061 rfl rfl ?_
                                                    refine z_iadd C dL_law_1062 rfl ?_
                                                    refine z_sld C HX dL_law_1063 rfl ?_
                                                    refine z_ci (fun b => b.1) (fun b => b.2) (fun b hb => z_V (na := 3) (ci := 7) (r := (RX7, TX7, 8)) C [.int (xs (zcl (s2.1 + (1 : Int32)))), .int (xs (zcl (s2.1 + (2 : Int32)))), .int (xs (zcl (s2.1 + (3 : Int32))))] rfl (mX7_sure Y (xs (zcl (s2.1 + (1 : Int32)))) (xs (zcl (s2.1 + (2 : Int32)))) (xs (zcl (s2.1 + (3 : Int32)))) s2.2 b hb) rfl rfl w712 w713 w714 w79 w715 hdX7_sure ⟨Nat.le_of_ble_eq_true rfl, Nat.le_of_ble_eq_true rfl⟩ (Nat.le_of_ble_eq_true rfl) rfl dL_law_1064) rfl (fun b28 => ?_)
                                                    refine z_aload_n C 2 dL_law_1067 rfl rfl rfl ?_
                                                    refine z_aload_n C 0 dL_law_1068 rfl rfl rfl ?_
                                                    refine z_iload_n C 3 dL_law_1069 rfl rfl rfl ?_
                                                    refine z_iconst C (1 : Int32) dL_law_1070 rfl rfl ?_
                                                    refine z_iadd C dL_law_1071 rfl ?_
                                                    refine z_sld C HX dL_law_1072 rfl ?_
                                                    refine z_aload_n C 0 dL_law_1073 rfl rfl rfl ?_
                                                    refine z_iload_n C 3 dL_law_1074 rfl rfl rfl ?_
                                                    refine z_iconst C (2 : Int32) dL_law_1075 rfl rfl ?_
                                                    refine z_iadd C dL_law_1076 rfl ?_
                                                    refine z_sld C HX dL_law_1077 rfl ?_
                                                    refine z_aload_n C 0 dL_law_1078 rfl rfl rfl ?_
                                                    refine z_iload_n C 3 dL_law_1079 rfl rfl rfl ?_
                                                    refine z_iconst C (3 : Int32) dL_law_1080 rfl rfl ?_
                                                    refine z_iadd C dL_law_1081 rfl ?_
                                                    refine z_sld C HX dL_law_1082 rfl ?_
                                                    refine z_ci (fun b => b.1) (fun b => b.2) (fun b hb => z_V (na := 3) (ci := 8) (r := (RX8, TX8, 34)) C [.int (xs (zcl (s2.1 + (1 : Int32)))), .int (xs (zcl (s2.1 + (2 : Int32)))), .int (xs (zcl (s2.1 + (3 : Int32))))] rfl (mX8_sure Y (xs (zcl (s2.1 + (1 : Int32)))) (xs (zcl (s2.1 + (2 : Int32)))) (xs (zcl (s2.1 + (3 : Int32)))) b28.2 b hb) rfl rfl w1129 w1130 w1131 w88 w1132 hdX8_sure ⟨Nat.le_of_ble_eq_true rfl, Nat.le_of_ble_eq_true rfl⟩ (Nat.le_of_ble_eq_true rfl) rfl dL_law_1083) rfl (fun b29 => ?_)
                                                    refine z_icmpeq C dL_law_1086 rfl rfl ?_ ?_
                                                    · refine z_iinc (v := (s2.1 + (7 : Int32))) C 3 (fun z => [(3, .int z), (0, .ref 121), (1, .ref 0), (2, .ref 100)]) dL_law_1296 rfl rfl (by decide) (fun _ => rfl) rfl (fun x30 => ?_)
                                                      refine z_goto C dL_law_1299 rfl ?_
                                                      exact z_perm [1, 2, 3, 0] rfl (hr1 (x30, b29.2))
                                                    · refine z_iconst C (0 : Int32) dL_law_1089 rfl rfl ?_
                                                      exact z_lawbad 
                                                  · refine z_ite (fun hs33_24 => ?_) (fun hs33_24 => ?_)
                                                    · refine z_tswIn (v := (24 : Int32)) (off := 1058) C hs33_24 dL_law_33 (by decide) (by decide) rfl rfl ?_
                                                      refine z_aload_n C 1 dL_law_1091 rfl rfl rfl ?_
                                                      refine z_aload_n C 0 dL_law_1092 rfl rfl rfl ?_
                                                      refine z_iload_n C 3 dL_law_1093 rfl rfl rfl ?_
                                                      refine z_iconst C (1 : Int32) dL_law_1094 rfl rfl ?_
                                                      refine z_iadd C dL_law_1095 rfl ?_
                                                      refine z_sld C HX dL_law_1096 rfl ?_
                                                      refine z_aload_n C 0 dL_law_1097 rfl rfl rfl ?_
                                                      refine z_iload_n C 3 dL_law_1098 rfl rfl rfl ?_
                                                      refine z_iconst C (2 : Int32) dL_law_1099 rfl rfl ?_
                                                      refine z_iadd C dL_law_1100 rfl ?_
                                                      refine z_sld C HX dL_law_1101 rfl ?_
                                                      refine z_ci (fun b => b.1) (fun b => b.2) (fun b hb => z_V (na := 2) (ci := 7) (r := (RX7, TX7, 8)) C [.int (xs (zcl (s2.1 + (1 : Int32)))), .int (xs (zcl (s2.1 + (2 : Int32))))] rfl (mX7_spot Y (xs (zcl (s2.1 + (1 : Int32)))) (xs (zcl (s2.1 + (2 : Int32)))) s2.2 b hb) rfl rfl w720 w721 w722 w79 w723 hdX7_spot ⟨Nat.le_of_ble_eq_true rfl, Nat.le_of_ble_eq_true rfl⟩ (Nat.le_of_ble_eq_true rfl) rfl dL_law_1102) rfl (fun b25 => ?_)
                                                      refine z_aload_n C 2 dL_law_1105 rfl rfl rfl ?_
                                                      refine z_aload_n C 0 dL_law_1106 rfl rfl rfl ?_
                                                      refine z_iload_n C 3 dL_law_1107 rfl rfl rfl ?_
                                                      refine z_iconst C (1 : Int32) dL_law_1108 rfl rfl ?_
                                                      refine z_iadd C dL_law_1109 rfl ?_
                                                      refine z_sld C HX dL_law_1110 rfl ?_
                                                      refine z_aload_n C 0 dL_law_1111 rfl rfl rfl ?_
                                                      refine z_iload_n C 3 dL_law_1112 rfl rfl rfl ?_
                                                      refine z_iconst C (2 : Int32) dL_law_1113 rfl rfl ?_
                                                      refine z_iadd C dL_law_1114 rfl ?_
                                                      refine z_sld C HX dL_law_1115 rfl ?_
                                                      refine z_ci (fun b => b.1) (fun b => b.2) (fun b hb => z_V (na := 2) (ci := 8) (r := (RX8, TX8, 34)) C [.int (xs (zcl (s2.1 + (1 : Int32)))), .int (xs (zcl (s2.1 + (2 : Int32))))] rfl (mX8_spot Y (xs (zcl (s2.1 + (1 : Int32)))) (xs (zcl (s2.1 + (2 : Int32)))) b25.2 b hb) rfl rfl w1133 w1134 w1135 w88 w1136 hdX8_spot ⟨Nat.le_of_ble_eq_true rfl, Nat.le_of_ble_eq_true rfl⟩ (Nat.le_of_ble_eq_true rfl) rfl dL_law_1116) rfl (fun b26 => ?_)
                                                      refine z_icmpeq C dL_law_1119 rfl rfl ?_ ?_
                                                      · refine z_iinc (v := (s2.1 + (7 : Int32))) C 3 (fun z => [(3, .int z), (0, .ref 121), (1, .ref 0), (2, .ref 100)]) dL_law_1296 rfl rfl (by decide) (fun _ => rfl) rfl (fun x27 => ?_)
                                                        refine z_goto C dL_law_1299 rfl ?_
                                                        exact z_perm [1, 2, 3, 0] rfl (hr1 (x27, b26.2))
                                                      · refine z_iconst C (0 : Int32) dL_law_1122 rfl rfl ?_
                                                        exact z_lawbad 
                                                    · refine z_ite (fun hs33_25 => ?_) (fun hs33_25 => ?_)
                                                      · refine z_tswIn (v := (25 : Int32)) (off := 1091) C hs33_25 dL_law_33 (by decide) (by decide) rfl rfl ?_
                                                        refine z_aload_n C 1 dL_law_1124 rfl rfl rfl ?_
                                                        refine z_ci (fun b => b.1) (fun b => b.2) (fun b hb => z_V (na := 0) (ci := 7) (r := (RX7, TX7, 8)) C [] rfl (mX7_forget Y s2.2 b hb) rfl rfl w728 w729 w730 w79 w731 hdX7_forget ⟨Nat.le_of_ble_eq_true rfl, Nat.le_of_ble_eq_true rfl⟩ (Nat.le_of_ble_eq_true rfl) rfl dL_law_1125) rfl (fun b22 => ?_)
                                                        refine z_aload_n C 2 dL_law_1128 rfl rfl rfl ?_
                                                        refine z_ci (fun b => b.1) (fun b => b.2) (fun b hb => z_V (na := 0) (ci := 8) (r := (RX8, TX8, 34)) C [] rfl (mX8_forget Y b22.2 b hb) rfl rfl w1137 w1138 w1139 w88 w1140 hdX8_forget ⟨Nat.le_of_ble_eq_true rfl, Nat.le_of_ble_eq_true rfl⟩ (Nat.le_of_ble_eq_true rfl) rfl dL_law_1129) rfl (fun b23 => ?_)
                                                        refine z_icmpeq C dL_law_1132 rfl rfl ?_ ?_
                                                        · refine z_iinc (v := (s2.1 + (7 : Int32))) C 3 (fun z => [(3, .int z), (0, .ref 121), (1, .ref 0), (2, .ref 100)]) dL_law_1296 rfl rfl (by decide) (fun _ => rfl) rfl (fun x24 => ?_)
                                                          refine z_goto C dL_law_1299 rfl ?_
                                                          exact z_perm [1, 2, 3, 0] rfl (hr1 (x24, b23.2))
                                                        · refine z_iconst C (0 : Int32) dL_law_1135 rfl rfl ?_
                                                          exact z_lawbad 
                                                      · refine z_ite (fun hs33_26 => ?_) (fun hs33_26 => ?_)
                                                        · refine z_tswIn (v := (26 : Int32)) (off := 1104) C hs33_26 dL_law_33 (by decide) (by decide) rfl rfl ?_
                                                          refine z_aload_n C 1 dL_law_1137 rfl rfl rfl ?_
                                                          refine z_aload_n C 0 dL_law_1138 rfl rfl rfl ?_
                                                          refine z_iload_n C 3 dL_law_1139 rfl rfl rfl ?_
                                                          refine z_iconst C (1 : Int32) dL_law_1140 rfl rfl ?_
                                                          refine z_iadd C dL_law_1141 rfl ?_
                                                          refine z_sld C HX dL_law_1142 rfl ?_
                                                          refine z_aload_n C 0 dL_law_1143 rfl rfl rfl ?_
                                                          refine z_iload_n C 3 dL_law_1144 rfl rfl rfl ?_
                                                          refine z_iconst C (2 : Int32) dL_law_1145 rfl rfl ?_
                                                          refine z_iadd C dL_law_1146 rfl ?_
                                                          refine z_sld C HX dL_law_1147 rfl ?_
                                                          refine z_aload_n C 0 dL_law_1148 rfl rfl rfl ?_
                                                          refine z_iload_n C 3 dL_law_1149 rfl rfl rfl ?_
                                                          refine z_iconst C (3 : Int32) dL_law_1150 rfl rfl ?_
                                                          refine z_iadd C dL_law_1151 rfl ?_
                                                          refine z_sld C HX dL_law_1152 rfl ?_
                                                          refine z_ci (fun b => b.1) (fun b => b.2) (fun b hb => z_V (na := 3) (ci := 7) (r := (RX7, TX7, 8)) C [.int (xs (zcl (s2.1 + (1 : Int32)))), .int (xs (zcl (s2.1 + (2 : Int32)))), .int (xs (zcl (s2.1 + (3 : Int32))))] rfl (mX7_bright Y (xs (zcl (s2.1 + (1 : Int32)))) (xs (zcl (s2.1 + (2 : Int32)))) (xs (zcl (s2.1 + (3 : Int32)))) s2.2 b hb) rfl rfl w732 w733 w734 w79 w735 hdX7_bright ⟨Nat.le_of_ble_eq_true rfl, Nat.le_of_ble_eq_true rfl⟩ (Nat.le_of_ble_eq_true rfl) rfl dL_law_1153) rfl (fun b19 => ?_)
                                                          refine z_aload_n C 2 dL_law_1156 rfl rfl rfl ?_
                                                          refine z_aload_n C 0 dL_law_1157 rfl rfl rfl ?_
                                                          refine z_iload_n C 3 dL_law_1158 rfl rfl rfl ?_
                                                          refine z_iconst C (1 : Int32) dL_law_1159 rfl rfl ?_
                                                          refine z_iadd C dL_law_1160 rfl ?_
                                                          refine z_sld C HX dL_law_1161 rfl ?_
                                                          refine z_aload_n C 0 dL_law_1162 rfl rfl rfl ?_
                                                          refine z_iload_n C 3 dL_law_1163 rfl rfl rfl ?_
                                                          refine z_iconst C (2 : Int32) dL_law_1164 rfl rfl ?_
                                                          refine z_iadd C dL_law_1165 rfl ?_
                                                          refine z_sld C HX dL_law_1166 rfl ?_
                                                          refine z_aload_n C 0 dL_law_1167 rfl rfl rfl ?_
                                                          refine z_iload_n C 3 dL_law_1168 rfl rfl rfl ?_
                                                          refine z_iconst C (3 : Int32) dL_law_1169 rfl rfl ?_
                                                          refine z_iadd C dL_law_1170 rfl ?_
                                                          refine z_sld C HX dL_law_1171 rfl ?_
                                                          refine z_ci (fun b => b.1) (fun b => b.2) (fun b hb => z_V (na := 3) (ci := 8) (r := (RX8, TX8, 34)) C [.int (xs (zcl (s2.1 + (1 : Int32)))), .int (xs (zcl (s2.1 + (2 : Int32)))), .int (xs (zcl (s2.1 + (3 : Int32))))] rfl (mX8_bright Y (xs (zcl (s2.1 + (1 : Int32)))) (xs (zcl (s2.1 + (2 : Int32)))) (xs (zcl (s2.1 + (3 : Int32)))) b19.2 b hb) rfl rfl w1141 w1142 w1143 w88 w1144 hdX8_bright ⟨Nat.le_of_ble_eq_true rfl, Nat.le_of_ble_eq_true rfl⟩ (Nat.le_of_ble_eq_true rfl) rfl dL_law_1172) rfl (fun b20 => ?_)
                                                          refine z_icmpeq C dL_law_1175 rfl rfl ?_ ?_
                                                          · refine z_iinc (v := (s2.1 + (7 : Int32))) C 3 (fun z => [(3, .int z), (0, .ref 121), (1, .ref 0), (2, .ref 100)]) dL_law_1296 rfl rfl (by decide) (fun _ => rfl) rfl (fun x21 => ?_)
                                                            refine z_goto C dL_law_1299 rfl ?_
                                                            exact z_perm [1, 2, 3, 0] rfl (hr1 (x21, b20.2))
                                                          · refine z_iconst C (0 : Int32) dL_law_1178 rfl rfl ?_
                                                            exact z_lawbad 
                                                        · refine z_ite (fun hs33_27 => ?_) (fun hs33_27 => ?_)
                                                          · refine z_tswIn (v := (27 : Int32)) (off := 1147) C hs33_27 dL_law_33 (by decide) (by decide) rfl rfl ?_
                                                            refine z_aload_n C 1 dL_law_1180 rfl rfl rfl ?_
                                                            refine z_aload_n C 0 dL_law_1181 rfl rfl rfl ?_
                                                            refine z_iload_n C 3 dL_law_1182 rfl rfl rfl ?_
                                                            refine z_iconst C (1 : Int32) dL_law_1183 rfl rfl ?_
                                                            refine z_iadd C dL_law_1184 rfl ?_
                                                            refine z_sld C HX dL_law_1185 rfl ?_
                                                            refine z_aload_n C 0 dL_law_1186 rfl rfl rfl ?_
                                                            refine z_iload_n C 3 dL_law_1187 rfl rfl rfl ?_
                                                            refine z_iconst C (2 : Int32) dL_law_1188 rfl rfl ?_
                                                            refine z_iadd C dL_law_1189 rfl ?_
                                                            refine z_sld C HX dL_law_1190 rfl ?_
                                                            refine z_ci (fun b => b.1) (fun b => b.2) (fun b hb => z_V (na := 2) (ci := 7) (r := (RX7, TX7, 8)) C [.int (xs (zcl (s2.1 + (1 : Int32)))), .int (xs (zcl (s2.1 + (2 : Int32))))] rfl (mX7_far Y (xs (zcl (s2.1 + (1 : Int32)))) (xs (zcl (s2.1 + (2 : Int32)))) s2.2 b hb) rfl rfl w737 w738 w739 w79 w740 hdX7_far ⟨Nat.le_of_ble_eq_true rfl, Nat.le_of_ble_eq_true rfl⟩ (Nat.le_of_ble_eq_true rfl) rfl dL_law_1191) rfl (fun b16 => ?_)
                                                            refine z_aload_n C 2 dL_law_1194 rfl rfl rfl ?_
                                                            refine z_aload_n C 0 dL_law_1195 rfl rfl rfl ?_
                                                            refine z_iload_n C 3 dL_law_1196 rfl rfl rfl ?_
                                                            refine z_iconst C (1 : Int32) dL_law_1197 rfl rfl ?_
                                                            refine z_iadd C dL_law_1198 rfl ?_
                                                            refine z_sld C HX dL_law_1199 rfl ?_
                                                            refine z_aload_n C 0 dL_law_1200 rfl rfl rfl ?_
                                                            refine z_iload_n C 3 dL_law_1201 rfl rfl rfl ?_
                                                            refine z_iconst C (2 : Int32) dL_law_1202 rfl rfl ?_
                                                            refine z_iadd C dL_law_1203 rfl ?_
                                                            refine z_sld C HX dL_law_1204 rfl ?_
                                                            refine z_ci (fun b => b.1) (fun b => b.2) (fun b hb => z_V (na := 2) (ci := 8) (r := (RX8, TX8, 34)) C [.int (xs (zcl (s2.1 + (1 : Int32)))), .int (xs (zcl (s2.1 + (2 : Int32))))] rfl (mX8_far Y (xs (zcl (s2.1 + (1 : Int32)))) (xs (zcl (s2.1 + (2 : Int32)))) b16.2 b hb) rfl rfl w1145 w1146 w1147 w88 w1148 hdX8_far ⟨Nat.le_of_ble_eq_true rfl, Nat.le_of_ble_eq_true rfl⟩ (Nat.le_of_ble_eq_true rfl) rfl dL_law_1205) rfl (fun b17 => ?_)
                                                            refine z_icmpeq C dL_law_1208 rfl rfl ?_ ?_
                                                            · refine z_iinc (v := (s2.1 + (7 : Int32))) C 3 (fun z => [(3, .int z), (0, .ref 121), (1, .ref 0), (2, .ref 100)]) dL_law_1296 rfl rfl (by decide) (fun _ => rfl) rfl (fun x18 => ?_)
                                                              refine z_goto C dL_law_1299 rfl ?_
                                                              exact z_perm [1, 2, 3, 0] rfl (hr1 (x18, b17.2))
                                                            · refine z_iconst C (0 : Int32) dL_law_1211 rfl rfl ?_
                                                              exact z_lawbad 
                                                          · refine z_ite (fun hs33_28 => ?_) (fun hs33_28 => ?_)
                                                            · refine z_tswIn (v := (28 : Int32)) (off := 1180) C hs33_28 dL_law_33 (by decide) (by decide) rfl rfl ?_
                                                              refine z_aload_n C 1 dL_law_1213 rfl rfl rfl ?_
                                                              refine z_ci (fun b => b.1) (fun b => b.2) (fun b hb => z_V (na := 0) (ci := 7) (r := (RX7, TX7, 8)) C [] rfl (mX7_contradicts Y s2.2 b hb) rfl rfl w745 w746 w747 w79 w748 hdX7_contradicts ⟨Nat.le_of_ble_eq_true rfl, Nat.le_of_ble_eq_true rfl⟩ (Nat.le_of_ble_eq_true rfl) rfl dL_law_1214) rfl (fun b13 => ?_)
                                                              refine z_aload_n C 2 dL_law_1217 rfl rfl rfl ?_
                                                              refine z_ci (fun b => b.1) (fun b => b.2) (fun b hb => z_V (na := 0) (ci := 8) (r := (RX8, TX8, 34)) C [] rfl (mX8_contradicts Y b13.2 b hb) rfl rfl w1157 w1158 w1159 w88 w1160 hdX8_contradicts ⟨Nat.le_of_ble_eq_true rfl, Nat.le_of_ble_eq_true rfl⟩ (Nat.le_of_ble_eq_true rfl) rfl dL_law_1218) rfl (fun b14 => ?_)
                                                              refine z_icmpeq C dL_law_1221 rfl rfl ?_ ?_
                                                              · refine z_iinc (v := (s2.1 + (7 : Int32))) C 3 (fun z => [(3, .int z), (0, .ref 121), (1, .ref 0), (2, .ref 100)]) dL_law_1296 rfl rfl (by decide) (fun _ => rfl) rfl (fun x15 => ?_)
                                                                refine z_goto C dL_law_1299 rfl ?_
                                                                exact z_perm [1, 2, 3, 0] rfl (hr1 (x15, b14.2))
                                                              · refine z_iconst C (0 : Int32) dL_law_1224 rfl rfl ?_
                                                                exact z_lawbad 
                                                            · refine z_ite (fun hs33_29 => ?_) (fun hs33_29 => ?_)
                                                              · refine z_tswIn (v := (29 : Int32)) (off := 1193) C hs33_29 dL_law_33 (by decide) (by decide) rfl rfl ?_
                                                                refine z_aload_n C 1 dL_law_1226 rfl rfl rfl ?_
                                                                refine z_aload_n C 0 dL_law_1227 rfl rfl rfl ?_
                                                                refine z_iload_n C 3 dL_law_1228 rfl rfl rfl ?_
                                                                refine z_iconst C (1 : Int32) dL_law_1229 rfl rfl ?_
                                                                refine z_iadd C dL_law_1230 rfl ?_
                                                                refine z_sld C HX dL_law_1231 rfl ?_
                                                                refine z_aload_n C 0 dL_law_1232 rfl rfl rfl ?_
                                                                refine z_iload_n C 3 dL_law_1233 rfl rfl rfl ?_
                                                                refine z_iconst C (2 : Int32) dL_law_1234 rfl rfl ?_
                                                                refine z_iadd C dL_law_1235 rfl ?_
                                                                refine z_sld C HX dL_law_1236 rfl ?_
                                                                refine z_ci (fun b => b.1) (fun b => b.2) (fun b hb => z_V (na := 2) (ci := 7) (r := (RX7, TX7, 8)) C [.int (xs (zcl (s2.1 + (1 : Int32)))), .int (xs (zcl (s2.1 + (2 : Int32))))] rfl (mX7_filled Y (xs (zcl (s2.1 + (1 : Int32)))) (xs (zcl (s2.1 + (2 : Int32)))) s2.2 b hb) rfl rfl w761 w762 w763 w79 w764 hdX7_filled ⟨Nat.le_of_ble_eq_true rfl, Nat.le_of_ble_eq_true rfl⟩ (Nat.le_of_ble_eq_true rfl) rfl dL_law_1237) rfl (fun b10 => ?_)
                                                                refine z_aload_n C 2 dL_law_1240 rfl rfl rfl ?_
                                                                refine z_aload_n C 0 dL_law_1241 rfl rfl rfl ?_
                                                                refine z_iload_n C 3 dL_law_1242 rfl rfl rfl ?_
                                                                refine z_iconst C (1 : Int32) dL_law_1243 rfl rfl ?_
                                                                refine z_iadd C dL_law_1244 rfl ?_
                                                                refine z_sld C HX dL_law_1245 rfl ?_
                                                                refine z_aload_n C 0 dL_law_1246 rfl rfl rfl ?_
                                                                refine z_iload_n C 3 dL_law_1247 rfl rfl rfl ?_
                                                                refine z_iconst C (2 : Int32) dL_law_1248 rfl rfl ?_
                                                                refine z_iadd C dL_law_1249 rfl ?_
                                                                refine z_sld C HX dL_law_1250 rfl ?_
                                                                refine z_ci (fun b => b.1) (fun b => b.2) (fun b hb => z_V (na := 2) (ci := 8) (r := (RX8, TX8, 34)) C [.int (xs (zcl (s2.1 + (1 : Int32)))), .int (xs (zcl (s2.1 + (2 : Int32))))] rfl (mX8_filled Y (xs (zcl (s2.1 + (1 : Int32)))) (xs (zcl (s2.1 + (2 : Int32)))) b10.2 b hb) rfl rfl w1161 w1162 w1163 w88 w1164 hdX8_filled ⟨Nat.le_of_ble_eq_true rfl, Nat.le_of_ble_eq_true rfl⟩ (Nat.le_of_ble_eq_true rfl) rfl dL_law_1251) rfl (fun b11 => ?_)
                                                                refine z_icmpeq C dL_law_1254 rfl rfl ?_ ?_
                                                                · refine z_iinc (v := (s2.1 + (7 : Int32))) C 3 (fun z => [(3, .int z), (0, .ref 121), (1, .ref 0), (2, .ref 100)]) dL_law_1296 rfl rfl (by decide) (fun _ => rfl) rfl (fun x12 => ?_)
                                                                  refine z_goto C dL_law_1299 rfl ?_
                                                                  exact z_perm [1, 2, 3, 0] rfl (hr1 (x12, b11.2))
                                                                · refine z_iconst C (0 : Int32) dL_law_1257 rfl rfl ?_
                                                                  exact z_lawbad 
                                                              · refine z_ite (fun hs33_30 => ?_) (fun hs33_30 => ?_)
                                                                · refine z_tswIn (v := (30 : Int32)) (off := 1226) C hs33_30 dL_law_33 (by decide) (by decide) rfl rfl ?_
                                                                  refine z_aload_n C 1 dL_law_1259 rfl rfl rfl ?_
                                                                  refine z_aload_n C 0 dL_law_1260 rfl rfl rfl ?_
                                                                  refine z_iload_n C 3 dL_law_1261 rfl rfl rfl ?_
                                                                  refine z_iconst C (1 : Int32) dL_law_1262 rfl rfl ?_
                                                                  refine z_iadd C dL_law_1263 rfl ?_
                                                                  refine z_sld C HX dL_law_1264 rfl ?_
                                                                  refine z_ci (fun b => b) (fun _ => s2.2) (fun b hb => z_V (na := 1) (ci := 7) (r := (RX7, TX7, 8)) C [.int (xs (zcl (s2.1 + (1 : Int32))))] rfl (mX7_count Y (xs (zcl (s2.1 + (1 : Int32)))) s2.2 b hb) rfl rfl w765 w766 w767 w79 w768 hdX7_count ⟨Nat.le_of_ble_eq_true rfl, Nat.le_of_ble_eq_true rfl⟩ (Nat.le_of_ble_eq_true rfl) rfl dL_law_1265) rfl (fun b7 => ?_)
                                                                  refine z_aload_n C 2 dL_law_1268 rfl rfl rfl ?_
                                                                  refine z_aload_n C 0 dL_law_1269 rfl rfl rfl ?_
                                                                  refine z_iload_n C 3 dL_law_1270 rfl rfl rfl ?_
                                                                  refine z_iconst C (1 : Int32) dL_law_1271 rfl rfl ?_
                                                                  refine z_iadd C dL_law_1272 rfl ?_
                                                                  refine z_sld C HX dL_law_1273 rfl ?_
                                                                  refine z_ci (fun b => b) (fun _ => s2.2) (fun b hb => z_V (na := 1) (ci := 8) (r := (RX8, TX8, 34)) C [.int (xs (zcl (s2.1 + (1 : Int32))))] rfl (mX8_count Y (xs (zcl (s2.1 + (1 : Int32)))) s2.2 b hb) rfl rfl w1165 w1166 w1167 w88 w1168 hdX8_count ⟨Nat.le_of_ble_eq_true rfl, Nat.le_of_ble_eq_true rfl⟩ (Nat.le_of_ble_eq_true rfl) rfl dL_law_1274) rfl (fun b8 => ?_)
                                                                  refine z_icmpeq C dL_law_1277 rfl rfl ?_ ?_
                                                                  · refine z_iinc (v := (s2.1 + (7 : Int32))) C 3 (fun z => [(3, .int z), (0, .ref 121), (1, .ref 0), (2, .ref 100)]) dL_law_1296 rfl rfl (by decide) (fun _ => rfl) rfl (fun x9 => ?_)
                                                                    refine z_goto C dL_law_1299 rfl ?_
                                                                    exact z_perm [1, 2, 3, 0] rfl (hr1 (x9, s2.2))
                                                                  · refine z_iconst C (0 : Int32) dL_law_1280 rfl rfl ?_
                                                                    exact z_lawbad 
                                                                · refine z_ite (fun hs33_31 => ?_) (fun hs33_31 => ?_)
                                                                  · refine z_tswIn (v := (31 : Int32)) (off := 1249) C hs33_31 dL_law_33 (by decide) (by decide) rfl rfl ?_
                                                                    refine z_aload_n C 1 dL_law_1282 rfl rfl rfl ?_
                                                                    refine z_cl (fun b => b) (fun _ => s2.2) (fun b hb => z_V (na := 0) (ci := 7) (r := (RX7, TX7, 8)) C [] rfl (mX7_trace Y s2.2 b hb) rfl rfl w777 w778 w779 w79 w780 hdX7_trace ⟨Nat.le_of_ble_eq_true rfl, Nat.le_of_ble_eq_true rfl⟩ (Nat.le_of_ble_eq_true rfl) rfl dL_law_1283) rfl (fun b4 => ?_)
                                                                    refine z_aload_n C 2 dL_law_1286 rfl rfl rfl ?_
                                                                    refine z_cl (fun b => b) (fun _ => s2.2) (fun b hb => z_V (na := 0) (ci := 8) (r := (RX8, TX8, 34)) C [] rfl (mX8_trace Y s2.2 b hb) rfl rfl w1169 w1170 w1171 w88 w1172 hdX8_trace ⟨Nat.le_of_ble_eq_true rfl, Nat.le_of_ble_eq_true rfl⟩ (Nat.le_of_ble_eq_true rfl) rfl dL_law_1287) rfl (fun b5 => ?_)
                                                                    refine z_lcmp C dL_law_1290 rfl ?_
                                                                    refine z_ifeq C dL_law_1291 rfl rfl ?_ ?_
                                                                    · refine z_iinc (v := (s2.1 + (7 : Int32))) C 3 (fun z => [(3, .int z), (0, .ref 121), (1, .ref 0), (2, .ref 100)]) dL_law_1296 rfl rfl (by decide) (fun _ => rfl) rfl (fun x6 => ?_)
                                                                      refine z_goto C dL_law_1299 rfl ?_
                                                                      exact z_perm [1, 2, 3, 0] rfl (hr1 (x6, s2.2))
                                                                    · refine z_iconst C (0 : Int32) dL_law_1294 rfl rfl ?_
                                                                      exact z_lawbad 
                                                                  · refine z_tswOut C (by have e0 : ((xs (zcl s2.1)) &&& (31 : Int32)).toInt ≠ 0 := fun e => hs33_0 (Int32.toInt_inj.mp (e.trans rfl)); have e1 : ((xs (zcl s2.1)) &&& (31 : Int32)).toInt ≠ 1 := fun e => hs33_1 (Int32.toInt_inj.mp (e.trans rfl)); have e2 : ((xs (zcl s2.1)) &&& (31 : Int32)).toInt ≠ 2 := fun e => hs33_2 (Int32.toInt_inj.mp (e.trans rfl)); have e3 : ((xs (zcl s2.1)) &&& (31 : Int32)).toInt ≠ 3 := fun e => hs33_3 (Int32.toInt_inj.mp (e.trans rfl)); have e4 : ((xs (zcl s2.1)) &&& (31 : Int32)).toInt ≠ 4 := fun e => hs33_4 (Int32.toInt_inj.mp (e.trans rfl)); have e5 : ((xs (zcl s2.1)) &&& (31 : Int32)).toInt ≠ 5 := fun e => hs33_5 (Int32.toInt_inj.mp (e.trans rfl)); have e6 : ((xs (zcl s2.1)) &&& (31 : Int32)).toInt ≠ 6 := fun e => hs33_6 (Int32.toInt_inj.mp (e.trans rfl)); have e7 : ((xs (zcl s2.1)) &&& (31 : Int32)).toInt ≠ 7 := fun e => hs33_7 (Int32.toInt_inj.mp (e.trans rfl)); have e8 : ((xs (zcl s2.1)) &&& (31 : Int32)).toInt ≠ 8 := fun e => hs33_8 (Int32.toInt_inj.mp (e.trans rfl)); have e9 : ((xs (zcl s2.1)) &&& (31 : Int32)).toInt ≠ 9 := fun e => hs33_9 (Int32.toInt_inj.mp (e.trans rfl)); have e10 : ((xs (zcl s2.1)) &&& (31 : Int32)).toInt ≠ 10 := fun e => hs33_10 (Int32.toInt_inj.mp (e.trans rfl)); have e11 : ((xs (zcl s2.1)) &&& (31 : Int32)).toInt ≠ 11 := fun e => hs33_11 (Int32.toInt_inj.mp (e.trans rfl)); have e12 : ((xs (zcl s2.1)) &&& (31 : Int32)).toInt ≠ 12 := fun e => hs33_12 (Int32.toInt_inj.mp (e.trans rfl)); have e13 : ((xs (zcl s2.1)) &&& (31 : Int32)).toInt ≠ 13 := fun e => hs33_13 (Int32.toInt_inj.mp (e.trans rfl)); have e14 : ((xs (zcl s2.1)) &&& (31 : Int32)).toInt ≠ 14 := fun e => hs33_14 (Int32.toInt_inj.mp (e.trans rfl)); have e15 : ((xs (zcl s2.1)) &&& (31 : Int32)).toInt ≠ 15 := fun e => hs33_15 (Int32.toInt_inj.mp (e.trans rfl)); have e16 : ((xs (zcl s2.1)) &&& (31 : Int32)).toInt ≠ 16 := fun e => hs33_16 (Int32.toInt_inj.mp (e.trans rfl)); have e17 : ((xs (zcl s2.1)) &&& (31 : Int32)).toInt ≠ 17 := fun e => hs33_17 (Int32.toInt_inj.mp (e.trans rfl)); have e18 : ((xs (zcl s2.1)) &&& (31 : Int32)).toInt ≠ 18 := fun e => hs33_18 (Int32.toInt_inj.mp (e.trans rfl)); have e19 : ((xs (zcl s2.1)) &&& (31 : Int32)).toInt ≠ 19 := fun e => hs33_19 (Int32.toInt_inj.mp (e.trans rfl)); have e20 : ((xs (zcl s2.1)) &&& (31 : Int32)).toInt ≠ 20 := fun e => hs33_20 (Int32.toInt_inj.mp (e.trans rfl)); have e21 : ((xs (zcl s2.1)) &&& (31 : Int32)).toInt ≠ 21 := fun e => hs33_21 (Int32.toInt_inj.mp (e.trans rfl)); have e22 : ((xs (zcl s2.1)) &&& (31 : Int32)).toInt ≠ 22 := fun e => hs33_22 (Int32.toInt_inj.mp (e.trans rfl)); have e23 : ((xs (zcl s2.1)) &&& (31 : Int32)).toInt ≠ 23 := fun e => hs33_23 (Int32.toInt_inj.mp (e.trans rfl)); have e24 : ((xs (zcl s2.1)) &&& (31 : Int32)).toInt ≠ 24 := fun e => hs33_24 (Int32.toInt_inj.mp (e.trans rfl)); have e25 : ((xs (zcl s2.1)) &&& (31 : Int32)).toInt ≠ 25 := fun e => hs33_25 (Int32.toInt_inj.mp (e.trans rfl)); have e26 : ((xs (zcl s2.1)) &&& (31 : Int32)).toInt ≠ 26 := fun e => hs33_26 (Int32.toInt_inj.mp (e.trans rfl)); have e27 : ((xs (zcl s2.1)) &&& (31 : Int32)).toInt ≠ 27 := fun e => hs33_27 (Int32.toInt_inj.mp (e.trans rfl)); have e28 : ((xs (zcl s2.1)) &&& (31 : Int32)).toInt ≠ 28 := fun e => hs33_28 (Int32.toInt_inj.mp (e.trans rfl)); have e29 : ((xs (zcl s2.1)) &&& (31 : Int32)).toInt ≠ 29 := fun e => hs33_29 (Int32.toInt_inj.mp (e.trans rfl)); have e30 : ((xs (zcl s2.1)) &&& (31 : Int32)).toInt ≠ 30 := fun e => hs33_30 (Int32.toInt_inj.mp (e.trans rfl)); have e31 : ((xs (zcl s2.1)) &&& (31 : Int32)).toInt ≠ 31 := fun e => hs33_31 (Int32.toInt_inj.mp (e.trans rfl)); omega) dL_law_33 rfl ?_
                                                                    refine z_iinc (v := (s2.1 + (7 : Int32))) C 3 (fun z => [(3, .int z), (0, .ref 121), (1, .ref 0), (2, .ref 100)]) dL_law_1296 rfl rfl (by decide) (fun _ => rfl) rfl (fun x3 => ?_)
                                                                    refine z_goto C dL_law_1299 rfl ?_
                                                                    exact z_perm [1, 2, 3, 0] rfl (hr1 (x3, s2.2))
