section
-- ===== PART A: goes FIRST, ahead of the names: the tables' words, and 'selects' of the private methods out of them =====
/-- a private method of a class that the tables say can be made, by its rows of tables_1 -/
def lw_okq (q : MethodName × Nat) : Prop := (q.1.cls ≠ "java/lang/invoke/MethodHandle" ∧ q.1.cls ≠ "java/lang/invoke/VarHandle") ∧ Cond.instantiable q.1.cls q.2 ∈ tables_1 ∧ Cond.privateMethod q.1 ∈ tables_1 ∧ Cond.instanceMethod q.1 ∈ tables_1
theorem lw_p0 : lw_okq (⟨"LensBench", "lensChanges", "()V"⟩, 8) := ⟨⟨by decide +kernel, by decide +kernel⟩, List.mem_of_getElem? (i := 15) (by decide +kernel), List.mem_of_getElem? (i := 285) (by decide +kernel), List.mem_of_getElem? (i := 286) (by decide +kernel)⟩
theorem lw_p1 : lw_okq (⟨"LensBench$Lens", "add", "(IIII)I"⟩, 4) := ⟨⟨by decide +kernel, by decide +kernel⟩, List.mem_of_getElem? (i := 23) (by decide +kernel), List.mem_of_getElem? (i := 289) (by decide +kernel), List.mem_of_getElem? (i := 290) (by decide +kernel)⟩
theorem lw_p2 : lw_okq (⟨"LensBench", "isBody", "(I)Z"⟩, 8) := ⟨⟨by decide +kernel, by decide +kernel⟩, List.mem_of_getElem? (i := 15) (by decide +kernel), List.mem_of_getElem? (i := 298) (by decide +kernel), List.mem_of_getElem? (i := 299) (by decide +kernel)⟩
theorem lw_p3 : lw_okq (⟨"LensBench$Lens", "lightAt", "(III)I"⟩, 4) := ⟨⟨by decide +kernel, by decide +kernel⟩, List.mem_of_getElem? (i := 23) (by decide +kernel), List.mem_of_getElem? (i := 337) (by decide +kernel), List.mem_of_getElem? (i := 338) (by decide +kernel)⟩
theorem lw_p4 : lw_okq (⟨"LensBench$Lens", "lightPast", "(IIII)I"⟩, 4) := ⟨⟨by decide +kernel, by decide +kernel⟩, List.mem_of_getElem? (i := 23) (by decide +kernel), List.mem_of_getElem? (i := 341) (by decide +kernel), List.mem_of_getElem? (i := 342) (by decide +kernel)⟩
theorem lw_p5 : lw_okq (⟨"LensBench", "markPictures", "(II)I"⟩, 8) := ⟨⟨by decide +kernel, by decide +kernel⟩, List.mem_of_getElem? (i := 15) (by decide +kernel), List.mem_of_getElem? (i := 360) (by decide +kernel), List.mem_of_getElem? (i := 361) (by decide +kernel)⟩
theorem lw_p6 : lw_okq (⟨"LensBench$Plane", "lookAnew", "()V"⟩, 6) := ⟨⟨by decide +kernel, by decide +kernel⟩, List.mem_of_getElem? (i := 74) (by decide +kernel), List.mem_of_getElem? (i := 364) (by decide +kernel), List.mem_of_getElem? (i := 365) (by decide +kernel)⟩
theorem lw_p7 : lw_okq (⟨"LensBench$Plane", "signOfArea", "(I)I"⟩, 6) := ⟨⟨by decide +kernel, by decide +kernel⟩, List.mem_of_getElem? (i := 74) (by decide +kernel), List.mem_of_getElem? (i := 382) (by decide +kernel), List.mem_of_getElem? (i := 383) (by decide +kernel)⟩
theorem lw_p8 : lw_okq (⟨"LensBench$Groups", "split", "(I)I"⟩, 4) := ⟨⟨by decide +kernel, by decide +kernel⟩, List.mem_of_getElem? (i := 102) (by decide +kernel), List.mem_of_getElem? (i := 396) (by decide +kernel), List.mem_of_getElem? (i := 397) (by decide +kernel)⟩
theorem lw_p9 : lw_okq (⟨"LensBench$Groups", "collect", "(I)I"⟩, 4) := ⟨⟨by decide +kernel, by decide +kernel⟩, List.mem_of_getElem? (i := 102) (by decide +kernel), List.mem_of_getElem? (i := 400) (by decide +kernel), List.mem_of_getElem? (i := 401) (by decide +kernel)⟩
theorem lw_p10 : lw_okq (⟨"LensBench$Groups", "queueNeighbours", "(II)I"⟩, 4) := ⟨⟨by decide +kernel, by decide +kernel⟩, List.mem_of_getElem? (i := 102) (by decide +kernel), List.mem_of_getElem? (i := 404) (by decide +kernel), List.mem_of_getElem? (i := 405) (by decide +kernel)⟩
theorem lw_p11 : lw_okq (⟨"LensBench$Plane", "parityAt", "(II)I"⟩, 6) := ⟨⟨by decide +kernel, by decide +kernel⟩, List.mem_of_getElem? (i := 74) (by decide +kernel), List.mem_of_getElem? (i := 420) (by decide +kernel), List.mem_of_getElem? (i := 421) (by decide +kernel)⟩
theorem lw_p12 : lw_okq (⟨"LensBench$Plane", "isCritical", "(II)Z"⟩, 6) := ⟨⟨by decide +kernel, by decide +kernel⟩, List.mem_of_getElem? (i := 74) (by decide +kernel), List.mem_of_getElem? (i := 435) (by decide +kernel), List.mem_of_getElem? (i := 436) (by decide +kernel)⟩
theorem lw_p13 : lw_okq (⟨"LensBench$Plane", "countOfParity", "(I)I"⟩, 6) := ⟨⟨by decide +kernel, by decide +kernel⟩, List.mem_of_getElem? (i := 74) (by decide +kernel), List.mem_of_getElem? (i := 444) (by decide +kernel), List.mem_of_getElem? (i := 445) (by decide +kernel)⟩
theorem lw_p14 : lw_okq (⟨"LensBench", "markCriticals", "()I"⟩, 8) := ⟨⟨by decide +kernel, by decide +kernel⟩, List.mem_of_getElem? (i := 15) (by decide +kernel), List.mem_of_getElem? (i := 448) (by decide +kernel), List.mem_of_getElem? (i := 449) (by decide +kernel)⟩
theorem lw_p15 : lw_okq (⟨"LensBench$Tally", "start", "()V"⟩, 4) := ⟨⟨by decide +kernel, by decide +kernel⟩, List.mem_of_getElem? (i := 50) (by decide +kernel), List.mem_of_getElem? (i := 456) (by decide +kernel), List.mem_of_getElem? (i := 457) (by decide +kernel)⟩
def lw_privs_1 : List (MethodName × Nat) := [(⟨"LensBench", "lensChanges", "()V"⟩, 8), (⟨"LensBench$Lens", "add", "(IIII)I"⟩, 4), (⟨"LensBench", "isBody", "(I)Z"⟩, 8), (⟨"LensBench$Lens", "lightAt", "(III)I"⟩, 4), (⟨"LensBench$Lens", "lightPast", "(IIII)I"⟩, 4), (⟨"LensBench", "markPictures", "(II)I"⟩, 8), (⟨"LensBench$Plane", "lookAnew", "()V"⟩, 6), (⟨"LensBench$Plane", "signOfArea", "(I)I"⟩, 6), (⟨"LensBench$Groups", "split", "(I)I"⟩, 4), (⟨"LensBench$Groups", "collect", "(I)I"⟩, 4), (⟨"LensBench$Groups", "queueNeighbours", "(II)I"⟩, 4), (⟨"LensBench$Plane", "parityAt", "(II)I"⟩, 6), (⟨"LensBench$Plane", "isCritical", "(II)Z"⟩, 6), (⟨"LensBench$Plane", "countOfParity", "(I)I"⟩, 6), (⟨"LensBench", "markCriticals", "()I"⟩, 8), (⟨"LensBench$Tally", "start", "()V"⟩, 4)]
theorem lw_r1 : ∀ q ∈ lw_privs_1, lw_okq q := List.forall_mem_cons.mpr ⟨lw_p0, List.forall_mem_cons.mpr ⟨lw_p1, List.forall_mem_cons.mpr ⟨lw_p2, List.forall_mem_cons.mpr ⟨lw_p3, List.forall_mem_cons.mpr ⟨lw_p4, List.forall_mem_cons.mpr ⟨lw_p5, List.forall_mem_cons.mpr ⟨lw_p6, List.forall_mem_cons.mpr ⟨lw_p7, List.forall_mem_cons.mpr ⟨lw_p8, List.forall_mem_cons.mpr ⟨lw_p9, List.forall_mem_cons.mpr ⟨lw_p10, List.forall_mem_cons.mpr ⟨lw_p11, List.forall_mem_cons.mpr ⟨lw_p12, List.forall_mem_cons.mpr ⟨lw_p13, List.forall_mem_cons.mpr ⟨lw_p14, List.forall_mem_cons.mpr ⟨lw_p15, fun _ h => absurd h List.not_mem_nil⟩⟩⟩⟩⟩⟩⟩⟩⟩⟩⟩⟩⟩⟩⟩⟩
theorem lw_p16 : lw_okq (⟨"LensBench$Tally", "numberOf", "(I)I"⟩, 4) := ⟨⟨by decide +kernel, by decide +kernel⟩, List.mem_of_getElem? (i := 50) (by decide +kernel), List.mem_of_getElem? (i := 461) (by decide +kernel), List.mem_of_getElem? (i := 462) (by decide +kernel)⟩
theorem lw_p17 : lw_okq (⟨"LensBench$Tally", "take", "(II)I"⟩, 4) := ⟨⟨by decide +kernel, by decide +kernel⟩, List.mem_of_getElem? (i := 50) (by decide +kernel), List.mem_of_getElem? (i := 466) (by decide +kernel), List.mem_of_getElem? (i := 467) (by decide +kernel)⟩
theorem lw_p18 : lw_okq (⟨"LensBench$Tally", "greatest", "()I"⟩, 4) := ⟨⟨by decide +kernel, by decide +kernel⟩, List.mem_of_getElem? (i := 50) (by decide +kernel), List.mem_of_getElem? (i := 470) (by decide +kernel), List.mem_of_getElem? (i := 471) (by decide +kernel)⟩
theorem lw_p19 : lw_okq (⟨"LensBench$Plane", "delayOnWay", "(IIIIII)J"⟩, 6) := ⟨⟨by decide +kernel, by decide +kernel⟩, List.mem_of_getElem? (i := 74) (by decide +kernel), List.mem_of_getElem? (i := 479) (by decide +kernel), List.mem_of_getElem? (i := 480) (by decide +kernel)⟩
theorem lw_p20 : lw_okq (⟨"LensBench$Plane", "stretchOf", "(I)I"⟩, 6) := ⟨⟨by decide +kernel, by decide +kernel⟩, List.mem_of_getElem? (i := 74) (by decide +kernel), List.mem_of_getElem? (i := 496) (by decide +kernel), List.mem_of_getElem? (i := 497) (by decide +kernel)⟩
theorem lw_p21 : lw_okq (⟨"LensBench$Plane", "doubledStretchAt", "(II)J"⟩, 6) := ⟨⟨by decide +kernel, by decide +kernel⟩, List.mem_of_getElem? (i := 74) (by decide +kernel), List.mem_of_getElem? (i := 501) (by decide +kernel), List.mem_of_getElem? (i := 502) (by decide +kernel)⟩
theorem lw_p22 : lw_okq (⟨"LensBench$Text", "add", "(I)V"⟩, 4) := ⟨⟨by decide +kernel, by decide +kernel⟩, List.mem_of_getElem? (i := 125) (by decide +kernel), List.mem_of_getElem? (i := 515) (by decide +kernel), List.mem_of_getElem? (i := 516) (by decide +kernel)⟩
theorem lw_p23 : lw_okq (⟨"LensBench$Text", "tellBodies", "()I"⟩, 4) := ⟨⟨by decide +kernel, by decide +kernel⟩, List.mem_of_getElem? (i := 125) (by decide +kernel), List.mem_of_getElem? (i := 527) (by decide +kernel), List.mem_of_getElem? (i := 528) (by decide +kernel)⟩
theorem lw_p24 : lw_okq (⟨"LensBench$Text", "takeItem", "([I)Z"⟩, 4) := ⟨⟨by decide +kernel, by decide +kernel⟩, List.mem_of_getElem? (i := 125) (by decide +kernel), List.mem_of_getElem? (i := 531) (by decide +kernel), List.mem_of_getElem? (i := 532) (by decide +kernel)⟩
theorem lw_p25 : lw_okq (⟨"LensBench$Text", "takeKind", "()I"⟩, 4) := ⟨⟨by decide +kernel, by decide +kernel⟩, List.mem_of_getElem? (i := 125) (by decide +kernel), List.mem_of_getElem? (i := 535) (by decide +kernel), List.mem_of_getElem? (i := 536) (by decide +kernel)⟩
theorem lw_p26 : lw_okq (⟨"LensBench$Text", "takeSign", "(C)Z"⟩, 4) := ⟨⟨by decide +kernel, by decide +kernel⟩, List.mem_of_getElem? (i := 125) (by decide +kernel), List.mem_of_getElem? (i := 539) (by decide +kernel), List.mem_of_getElem? (i := 540) (by decide +kernel)⟩
theorem lw_p27 : lw_okq (⟨"LensBench$Text", "takeNumber", "([II)Z"⟩, 4) := ⟨⟨by decide +kernel, by decide +kernel⟩, List.mem_of_getElem? (i := 125) (by decide +kernel), List.mem_of_getElem? (i := 544) (by decide +kernel), List.mem_of_getElem? (i := 545) (by decide +kernel)⟩
theorem lw_p28 : lw_okq (⟨"LensBench$Trials", "addPair", "(IIII)I"⟩, 18) := ⟨⟨by decide +kernel, by decide +kernel⟩, List.mem_of_getElem? (i := 148) (by decide +kernel), List.mem_of_getElem? (i := 554) (by decide +kernel), List.mem_of_getElem? (i := 555) (by decide +kernel)⟩
theorem lw_p29 : lw_okq (⟨"LensBench", "isTrial", "(II)Z"⟩, 8) := ⟨⟨by decide +kernel, by decide +kernel⟩, List.mem_of_getElem? (i := 15) (by decide +kernel), List.mem_of_getElem? (i := 570) (by decide +kernel), List.mem_of_getElem? (i := 571) (by decide +kernel)⟩
theorem lw_p30 : lw_okq (⟨"LensBench$Trials", "load", "(II)V"⟩, 18) := ⟨⟨by decide +kernel, by decide +kernel⟩, List.mem_of_getElem? (i := 148) (by decide +kernel), List.mem_of_getElem? (i := 574) (by decide +kernel), List.mem_of_getElem? (i := 575) (by decide +kernel)⟩
theorem lw_p31 : lw_okq (⟨"LensBench$Trials", "startRow", "(I)V"⟩, 18) := ⟨⟨by decide +kernel, by decide +kernel⟩, List.mem_of_getElem? (i := 148) (by decide +kernel), List.mem_of_getElem? (i := 578) (by decide +kernel), List.mem_of_getElem? (i := 579) (by decide +kernel)⟩
def lw_privs_2 : List (MethodName × Nat) := [(⟨"LensBench$Tally", "numberOf", "(I)I"⟩, 4), (⟨"LensBench$Tally", "take", "(II)I"⟩, 4), (⟨"LensBench$Tally", "greatest", "()I"⟩, 4), (⟨"LensBench$Plane", "delayOnWay", "(IIIIII)J"⟩, 6), (⟨"LensBench$Plane", "stretchOf", "(I)I"⟩, 6), (⟨"LensBench$Plane", "doubledStretchAt", "(II)J"⟩, 6), (⟨"LensBench$Text", "add", "(I)V"⟩, 4), (⟨"LensBench$Text", "tellBodies", "()I"⟩, 4), (⟨"LensBench$Text", "takeItem", "([I)Z"⟩, 4), (⟨"LensBench$Text", "takeKind", "()I"⟩, 4), (⟨"LensBench$Text", "takeSign", "(C)Z"⟩, 4), (⟨"LensBench$Text", "takeNumber", "([II)Z"⟩, 4), (⟨"LensBench$Trials", "addPair", "(IIII)I"⟩, 18), (⟨"LensBench", "isTrial", "(II)Z"⟩, 8), (⟨"LensBench$Trials", "load", "(II)V"⟩, 18), (⟨"LensBench$Trials", "startRow", "(I)V"⟩, 18)]
theorem lw_r2 : ∀ q ∈ lw_privs_2, lw_okq q := List.forall_mem_cons.mpr ⟨lw_p16, List.forall_mem_cons.mpr ⟨lw_p17, List.forall_mem_cons.mpr ⟨lw_p18, List.forall_mem_cons.mpr ⟨lw_p19, List.forall_mem_cons.mpr ⟨lw_p20, List.forall_mem_cons.mpr ⟨lw_p21, List.forall_mem_cons.mpr ⟨lw_p22, List.forall_mem_cons.mpr ⟨lw_p23, List.forall_mem_cons.mpr ⟨lw_p24, List.forall_mem_cons.mpr ⟨lw_p25, List.forall_mem_cons.mpr ⟨lw_p26, List.forall_mem_cons.mpr ⟨lw_p27, List.forall_mem_cons.mpr ⟨lw_p28, List.forall_mem_cons.mpr ⟨lw_p29, List.forall_mem_cons.mpr ⟨lw_p30, List.forall_mem_cons.mpr ⟨lw_p31, fun _ h => absurd h List.not_mem_nil⟩⟩⟩⟩⟩⟩⟩⟩⟩⟩⟩⟩⟩⟩⟩⟩
theorem lw_p32 : lw_okq (⟨"LensBench$Trials", "addToRow", "(IIIII)V"⟩, 18) := ⟨⟨by decide +kernel, by decide +kernel⟩, List.mem_of_getElem? (i := 148) (by decide +kernel), List.mem_of_getElem? (i := 583) (by decide +kernel), List.mem_of_getElem? (i := 584) (by decide +kernel)⟩
theorem lw_p33 : lw_okq (⟨"LensBench$Trials", "holds", "(I)Z"⟩, 18) := ⟨⟨by decide +kernel, by decide +kernel⟩, List.mem_of_getElem? (i := 148) (by decide +kernel), List.mem_of_getElem? (i := 589) (by decide +kernel), List.mem_of_getElem? (i := 590) (by decide +kernel)⟩
theorem lw_p34 : lw_okq (⟨"LensBench$Trials", "aim", "(I)V"⟩, 18) := ⟨⟨by decide +kernel, by decide +kernel⟩, List.mem_of_getElem? (i := 148) (by decide +kernel), List.mem_of_getElem? (i := 593) (by decide +kernel), List.mem_of_getElem? (i := 594) (by decide +kernel)⟩
theorem lw_p35 : lw_okq (⟨"LensBench$Trials", "shownBy", "(I)I"⟩, 18) := ⟨⟨by decide +kernel, by decide +kernel⟩, List.mem_of_getElem? (i := 148) (by decide +kernel), List.mem_of_getElem? (i := 597) (by decide +kernel), List.mem_of_getElem? (i := 598) (by decide +kernel)⟩
theorem lw_p36 : lw_okq (⟨"LensBench$Trials", "gather", "()V"⟩, 18) := ⟨⟨by decide +kernel, by decide +kernel⟩, List.mem_of_getElem? (i := 148) (by decide +kernel), List.mem_of_getElem? (i := 606) (by decide +kernel), List.mem_of_getElem? (i := 607) (by decide +kernel)⟩
theorem lw_p37 : lw_okq (⟨"LensBench$Trials", "least", "()I"⟩, 18) := ⟨⟨by decide +kernel, by decide +kernel⟩, List.mem_of_getElem? (i := 148) (by decide +kernel), List.mem_of_getElem? (i := 611) (by decide +kernel), List.mem_of_getElem? (i := 612) (by decide +kernel)⟩
theorem lw_p38 : lw_okq (⟨"LensBench$Trials", "weightOf", "(II)I"⟩, 18) := ⟨⟨by decide +kernel, by decide +kernel⟩, List.mem_of_getElem? (i := 148) (by decide +kernel), List.mem_of_getElem? (i := 615) (by decide +kernel), List.mem_of_getElem? (i := 616) (by decide +kernel)⟩
theorem lw_p39 : lw_okq (⟨"LensBench$Trials", "twins", "()I"⟩, 18) := ⟨⟨by decide +kernel, by decide +kernel⟩, List.mem_of_getElem? (i := 148) (by decide +kernel), List.mem_of_getElem? (i := 619) (by decide +kernel), List.mem_of_getElem? (i := 620) (by decide +kernel)⟩
theorem lw_p40 : lw_okq (⟨"LensBench$Trials", "splitHeaps", "(I)V"⟩, 18) := ⟨⟨by decide +kernel, by decide +kernel⟩, List.mem_of_getElem? (i := 148) (by decide +kernel), List.mem_of_getElem? (i := 623) (by decide +kernel), List.mem_of_getElem? (i := 624) (by decide +kernel)⟩
theorem lw_p41 : lw_okq (⟨"LensBench$Trials", "nextLook", "()I"⟩, 18) := ⟨⟨by decide +kernel, by decide +kernel⟩, List.mem_of_getElem? (i := 148) (by decide +kernel), List.mem_of_getElem? (i := 630) (by decide +kernel), List.mem_of_getElem? (i := 631) (by decide +kernel)⟩
theorem lw_p42 : lw_okq (⟨"LensBench$Trials", "sureWeight", "(I)I"⟩, 18) := ⟨⟨by decide +kernel, by decide +kernel⟩, List.mem_of_getElem? (i := 148) (by decide +kernel), List.mem_of_getElem? (i := 639) (by decide +kernel), List.mem_of_getElem? (i := 640) (by decide +kernel)⟩
theorem lw_p43 : lw_okq (⟨"LensBench$Trials", "addSpot", "(II)I"⟩, 18) := ⟨⟨by decide +kernel, by decide +kernel⟩, List.mem_of_getElem? (i := 148) (by decide +kernel), List.mem_of_getElem? (i := 647) (by decide +kernel), List.mem_of_getElem? (i := 648) (by decide +kernel)⟩
theorem lw_p44 : lw_okq (⟨"LensBench$Brightness", "farOf", "(I)I"⟩, 6) := ⟨⟨by decide +kernel, by decide +kernel⟩, List.mem_of_getElem? (i := 216) (by decide +kernel), List.mem_of_getElem? (i := 664) (by decide +kernel), List.mem_of_getElem? (i := 665) (by decide +kernel)⟩
theorem lw_p45 : lw_okq (⟨"LensBench$Brightness", "contradictions", "()I"⟩, 6) := ⟨⟨by decide +kernel, by decide +kernel⟩, List.mem_of_getElem? (i := 216) (by decide +kernel), List.mem_of_getElem? (i := 672) (by decide +kernel), List.mem_of_getElem? (i := 673) (by decide +kernel)⟩
theorem lw_p46 : lw_okq (⟨"LensBench$Brightness", "widen", "(II)V"⟩, 6) := ⟨⟨by decide +kernel, by decide +kernel⟩, List.mem_of_getElem? (i := 216) (by decide +kernel), List.mem_of_getElem? (i := 677) (by decide +kernel), List.mem_of_getElem? (i := 678) (by decide +kernel)⟩
theorem lw_p47 : lw_okq (⟨"LensBench$Brightness", "toldCount", "()I"⟩, 6) := ⟨⟨by decide +kernel, by decide +kernel⟩, List.mem_of_getElem? (i := 216) (by decide +kernel), List.mem_of_getElem? (i := 692) (by decide +kernel), List.mem_of_getElem? (i := 693) (by decide +kernel)⟩
def lw_privs_3 : List (MethodName × Nat) := [(⟨"LensBench$Trials", "addToRow", "(IIIII)V"⟩, 18), (⟨"LensBench$Trials", "holds", "(I)Z"⟩, 18), (⟨"LensBench$Trials", "aim", "(I)V"⟩, 18), (⟨"LensBench$Trials", "shownBy", "(I)I"⟩, 18), (⟨"LensBench$Trials", "gather", "()V"⟩, 18), (⟨"LensBench$Trials", "least", "()I"⟩, 18), (⟨"LensBench$Trials", "weightOf", "(II)I"⟩, 18), (⟨"LensBench$Trials", "twins", "()I"⟩, 18), (⟨"LensBench$Trials", "splitHeaps", "(I)V"⟩, 18), (⟨"LensBench$Trials", "nextLook", "()I"⟩, 18), (⟨"LensBench$Trials", "sureWeight", "(I)I"⟩, 18), (⟨"LensBench$Trials", "addSpot", "(II)I"⟩, 18), (⟨"LensBench$Brightness", "farOf", "(I)I"⟩, 6), (⟨"LensBench$Brightness", "contradictions", "()I"⟩, 6), (⟨"LensBench$Brightness", "widen", "(II)V"⟩, 6), (⟨"LensBench$Brightness", "toldCount", "()I"⟩, 6)]
theorem lw_r3 : ∀ q ∈ lw_privs_3, lw_okq q := List.forall_mem_cons.mpr ⟨lw_p32, List.forall_mem_cons.mpr ⟨lw_p33, List.forall_mem_cons.mpr ⟨lw_p34, List.forall_mem_cons.mpr ⟨lw_p35, List.forall_mem_cons.mpr ⟨lw_p36, List.forall_mem_cons.mpr ⟨lw_p37, List.forall_mem_cons.mpr ⟨lw_p38, List.forall_mem_cons.mpr ⟨lw_p39, List.forall_mem_cons.mpr ⟨lw_p40, List.forall_mem_cons.mpr ⟨lw_p41, List.forall_mem_cons.mpr ⟨lw_p42, List.forall_mem_cons.mpr ⟨lw_p43, List.forall_mem_cons.mpr ⟨lw_p44, List.forall_mem_cons.mpr ⟨lw_p45, List.forall_mem_cons.mpr ⟨lw_p46, List.forall_mem_cons.mpr ⟨lw_p47, fun _ h => absurd h List.not_mem_nil⟩⟩⟩⟩⟩⟩⟩⟩⟩⟩⟩⟩⟩⟩⟩⟩
theorem lw_p48 : lw_okq (⟨"LensBench$Lens", "weights", "()I"⟩, 4) := ⟨⟨by decide +kernel, by decide +kernel⟩, List.mem_of_getElem? (i := 23) (by decide +kernel), List.mem_of_getElem? (i := 696) (by decide +kernel), List.mem_of_getElem? (i := 697) (by decide +kernel)⟩
theorem lw_p49 : lw_okq (⟨"LensBenchModel", "isBody", "(I)Z"⟩, 34) := ⟨⟨by decide +kernel, by decide +kernel⟩, List.mem_of_getElem? (i := 704) (by decide +kernel), List.mem_of_getElem? (i := 829) (by decide +kernel), List.mem_of_getElem? (i := 830) (by decide +kernel)⟩
theorem lw_p50 : lw_okq (⟨"LensBenchModel", "bendOf", "(IIIII)I"⟩, 34) := ⟨⟨by decide +kernel, by decide +kernel⟩, List.mem_of_getElem? (i := 704) (by decide +kernel), List.mem_of_getElem? (i := 851) (by decide +kernel), List.mem_of_getElem? (i := 852) (by decide +kernel)⟩
theorem lw_p51 : lw_okq (⟨"LensBenchModel", "fromOf", "(III)I"⟩, 34) := ⟨⟨by decide +kernel, by decide +kernel⟩, List.mem_of_getElem? (i := 704) (by decide +kernel), List.mem_of_getElem? (i := 859) (by decide +kernel), List.mem_of_getElem? (i := 860) (by decide +kernel)⟩
theorem lw_p52 : lw_okq (⟨"LensBenchModel", "cellOf", "(III)I"⟩, 34) := ⟨⟨by decide +kernel, by decide +kernel⟩, List.mem_of_getElem? (i := 704) (by decide +kernel), List.mem_of_getElem? (i := 867) (by decide +kernel), List.mem_of_getElem? (i := 868) (by decide +kernel)⟩
theorem lw_p53 : lw_okq (⟨"LensBenchModel", "findPictures", "(II)I"⟩, 34) := ⟨⟨by decide +kernel, by decide +kernel⟩, List.mem_of_getElem? (i := 704) (by decide +kernel), List.mem_of_getElem? (i := 879) (by decide +kernel), List.mem_of_getElem? (i := 880) (by decide +kernel)⟩
theorem lw_p54 : lw_okq (⟨"LensBenchModel", "findPlane", "()V"⟩, 34) := ⟨⟨by decide +kernel, by decide +kernel⟩, List.mem_of_getElem? (i := 704) (by decide +kernel), List.mem_of_getElem? (i := 883) (by decide +kernel), List.mem_of_getElem? (i := 884) (by decide +kernel)⟩
theorem lw_p55 : lw_okq (⟨"LensBenchModel", "cellX", "(II)I"⟩, 34) := ⟨⟨by decide +kernel, by decide +kernel⟩, List.mem_of_getElem? (i := 704) (by decide +kernel), List.mem_of_getElem? (i := 890) (by decide +kernel), List.mem_of_getElem? (i := 891) (by decide +kernel)⟩
theorem lw_p56 : lw_okq (⟨"LensBenchModel", "cellY", "(II)I"⟩, 34) := ⟨⟨by decide +kernel, by decide +kernel⟩, List.mem_of_getElem? (i := 704) (by decide +kernel), List.mem_of_getElem? (i := 894) (by decide +kernel), List.mem_of_getElem? (i := 895) (by decide +kernel)⟩
theorem lw_p57 : lw_okq (⟨"LensBenchModel", "findGroups", "()V"⟩, 34) := ⟨⟨by decide +kernel, by decide +kernel⟩, List.mem_of_getElem? (i := 704) (by decide +kernel), List.mem_of_getElem? (i := 898) (by decide +kernel), List.mem_of_getElem? (i := 899) (by decide +kernel)⟩
theorem lw_p58 : lw_okq (⟨"LensBenchModel", "spread", "(I)V"⟩, 34) := ⟨⟨by decide +kernel, by decide +kernel⟩, List.mem_of_getElem? (i := 704) (by decide +kernel), List.mem_of_getElem? (i := 902) (by decide +kernel), List.mem_of_getElem? (i := 903) (by decide +kernel)⟩
theorem lw_p59 : lw_okq (⟨"LensBenchModel", "parityOf", "(II)I"⟩, 34) := ⟨⟨by decide +kernel, by decide +kernel⟩, List.mem_of_getElem? (i := 704) (by decide +kernel), List.mem_of_getElem? (i := 916) (by decide +kernel), List.mem_of_getElem? (i := 917) (by decide +kernel)⟩
theorem lw_p60 : lw_okq (⟨"LensBenchModel", "findAround", "(II)V"⟩, 34) := ⟨⟨by decide +kernel, by decide +kernel⟩, List.mem_of_getElem? (i := 704) (by decide +kernel), List.mem_of_getElem? (i := 927) (by decide +kernel), List.mem_of_getElem? (i := 928) (by decide +kernel)⟩
theorem lw_p61 : lw_okq (⟨"LensBenchModel", "criticalNow", "(II)Z"⟩, 34) := ⟨⟨by decide +kernel, by decide +kernel⟩, List.mem_of_getElem? (i := 704) (by decide +kernel), List.mem_of_getElem? (i := 935) (by decide +kernel), List.mem_of_getElem? (i := 936) (by decide +kernel)⟩
theorem lw_p62 : lw_okq (⟨"LensBenchModel", "item", "(I)V"⟩, 34) := ⟨⟨by decide +kernel, by decide +kernel⟩, List.mem_of_getElem? (i := 704) (by decide +kernel), List.mem_of_getElem? (i := 970) (by decide +kernel), List.mem_of_getElem? (i := 971) (by decide +kernel)⟩
theorem lw_p63 : lw_okq (⟨"LensBenchModel", "here", "()I"⟩, 34) := ⟨⟨by decide +kernel, by decide +kernel⟩, List.mem_of_getElem? (i := 704) (by decide +kernel), List.mem_of_getElem? (i := 974) (by decide +kernel), List.mem_of_getElem? (i := 975) (by decide +kernel)⟩
def lw_privs_4 : List (MethodName × Nat) := [(⟨"LensBench$Lens", "weights", "()I"⟩, 4), (⟨"LensBenchModel", "isBody", "(I)Z"⟩, 34), (⟨"LensBenchModel", "bendOf", "(IIIII)I"⟩, 34), (⟨"LensBenchModel", "fromOf", "(III)I"⟩, 34), (⟨"LensBenchModel", "cellOf", "(III)I"⟩, 34), (⟨"LensBenchModel", "findPictures", "(II)I"⟩, 34), (⟨"LensBenchModel", "findPlane", "()V"⟩, 34), (⟨"LensBenchModel", "cellX", "(II)I"⟩, 34), (⟨"LensBenchModel", "cellY", "(II)I"⟩, 34), (⟨"LensBenchModel", "findGroups", "()V"⟩, 34), (⟨"LensBenchModel", "spread", "(I)V"⟩, 34), (⟨"LensBenchModel", "parityOf", "(II)I"⟩, 34), (⟨"LensBenchModel", "findAround", "(II)V"⟩, 34), (⟨"LensBenchModel", "criticalNow", "(II)Z"⟩, 34), (⟨"LensBenchModel", "item", "(I)V"⟩, 34), (⟨"LensBenchModel", "here", "()I"⟩, 34)]
theorem lw_r4 : ∀ q ∈ lw_privs_4, lw_okq q := List.forall_mem_cons.mpr ⟨lw_p48, List.forall_mem_cons.mpr ⟨lw_p49, List.forall_mem_cons.mpr ⟨lw_p50, List.forall_mem_cons.mpr ⟨lw_p51, List.forall_mem_cons.mpr ⟨lw_p52, List.forall_mem_cons.mpr ⟨lw_p53, List.forall_mem_cons.mpr ⟨lw_p54, List.forall_mem_cons.mpr ⟨lw_p55, List.forall_mem_cons.mpr ⟨lw_p56, List.forall_mem_cons.mpr ⟨lw_p57, List.forall_mem_cons.mpr ⟨lw_p58, List.forall_mem_cons.mpr ⟨lw_p59, List.forall_mem_cons.mpr ⟨lw_p60, List.forall_mem_cons.mpr ⟨lw_p61, List.forall_mem_cons.mpr ⟨lw_p62, List.forall_mem_cons.mpr ⟨lw_p63, fun _ h => absurd h List.not_mem_nil⟩⟩⟩⟩⟩⟩⟩⟩⟩⟩⟩⟩⟩⟩⟩⟩
theorem lw_p64 : lw_okq (⟨"LensBenchModel", "number", "(IZ)I"⟩, 34) := ⟨⟨by decide +kernel, by decide +kernel⟩, List.mem_of_getElem? (i := 704) (by decide +kernel), List.mem_of_getElem? (i := 978) (by decide +kernel), List.mem_of_getElem? (i := 979) (by decide +kernel)⟩
theorem lw_p65 : lw_okq (⟨"LensBenchModel", "isDigit", "()Z"⟩, 34) := ⟨⟨by decide +kernel, by decide +kernel⟩, List.mem_of_getElem? (i := 704) (by decide +kernel), List.mem_of_getElem? (i := 982) (by decide +kernel), List.mem_of_getElem? (i := 983) (by decide +kernel)⟩
theorem lw_p66 : lw_okq (⟨"LensBenchModel", "sign", "(I)V"⟩, 34) := ⟨⟨by decide +kernel, by decide +kernel⟩, List.mem_of_getElem? (i := 704) (by decide +kernel), List.mem_of_getElem? (i := 986) (by decide +kernel), List.mem_of_getElem? (i := 987) (by decide +kernel)⟩
theorem lw_p67 : lw_okq (⟨"LensBenchModel", "isTry", "(II)Z"⟩, 34) := ⟨⟨by decide +kernel, by decide +kernel⟩, List.mem_of_getElem? (i := 704) (by decide +kernel), List.mem_of_getElem? (i := 1006) (by decide +kernel), List.mem_of_getElem? (i := 1007) (by decide +kernel)⟩
theorem lw_p68 : lw_okq (⟨"LensBenchModel", "keepWeights", "()V"⟩, 34) := ⟨⟨by decide +kernel, by decide +kernel⟩, List.mem_of_getElem? (i := 704) (by decide +kernel), List.mem_of_getElem? (i := 1013) (by decide +kernel), List.mem_of_getElem? (i := 1014) (by decide +kernel)⟩
theorem lw_p69 : lw_okq (⟨"LensBenchModel", "weigh", "(III)V"⟩, 34) := ⟨⟨by decide +kernel, by decide +kernel⟩, List.mem_of_getElem? (i := 704) (by decide +kernel), List.mem_of_getElem? (i := 1017) (by decide +kernel), List.mem_of_getElem? (i := 1018) (by decide +kernel)⟩
theorem lw_p70 : lw_okq (⟨"LensBenchModel", "doesFit", "()Z"⟩, 34) := ⟨⟨by decide +kernel, by decide +kernel⟩, List.mem_of_getElem? (i := 704) (by decide +kernel), List.mem_of_getElem? (i := 1024) (by decide +kernel), List.mem_of_getElem? (i := 1025) (by decide +kernel)⟩
theorem lw_p71 : lw_okq (⟨"LensBenchModel", "isWithin", "(II)Z"⟩, 34) := ⟨⟨by decide +kernel, by decide +kernel⟩, List.mem_of_getElem? (i := 704) (by decide +kernel), List.mem_of_getElem? (i := 1028) (by decide +kernel), List.mem_of_getElem? (i := 1029) (by decide +kernel)⟩
theorem lw_p72 : lw_okq (⟨"LensBenchModel", "giveBack", "()V"⟩, 34) := ⟨⟨by decide +kernel, by decide +kernel⟩, List.mem_of_getElem? (i := 704) (by decide +kernel), List.mem_of_getElem? (i := 1032) (by decide +kernel), List.mem_of_getElem? (i := 1033) (by decide +kernel)⟩
theorem lw_p73 : lw_okq (⟨"LensBenchModel", "findFitting", "(II)I"⟩, 34) := ⟨⟨by decide +kernel, by decide +kernel⟩, List.mem_of_getElem? (i := 704) (by decide +kernel), List.mem_of_getElem? (i := 1040) (by decide +kernel), List.mem_of_getElem? (i := 1041) (by decide +kernel)⟩
theorem lw_p74 : lw_okq (⟨"LensBenchModel", "heap", "(III)I"⟩, 34) := ⟨⟨by decide +kernel, by decide +kernel⟩, List.mem_of_getElem? (i := 704) (by decide +kernel), List.mem_of_getElem? (i := 1044) (by decide +kernel), List.mem_of_getElem? (i := 1045) (by decide +kernel)⟩
theorem lw_p75 : lw_okq (⟨"LensBenchModel", "isAlike", "(IIII)Z"⟩, 34) := ⟨⟨by decide +kernel, by decide +kernel⟩, List.mem_of_getElem? (i := 704) (by decide +kernel), List.mem_of_getElem? (i := 1048) (by decide +kernel), List.mem_of_getElem? (i := 1049) (by decide +kernel)⟩
theorem lw_p76 : lw_okq (⟨"LensBenchModel", "findTold", "()V"⟩, 34) := ⟨⟨by decide +kernel, by decide +kernel⟩, List.mem_of_getElem? (i := 704) (by decide +kernel), List.mem_of_getElem? (i := 1072) (by decide +kernel), List.mem_of_getElem? (i := 1073) (by decide +kernel)⟩
theorem lw_p77 : lw_okq (⟨"LensBenchModel", "farOf", "(II)I"⟩, 34) := ⟨⟨by decide +kernel, by decide +kernel⟩, List.mem_of_getElem? (i := 704) (by decide +kernel), List.mem_of_getElem? (i := 1076) (by decide +kernel), List.mem_of_getElem? (i := 1077) (by decide +kernel)⟩
def lw_privs_5 : List (MethodName × Nat) := [(⟨"LensBenchModel", "number", "(IZ)I"⟩, 34), (⟨"LensBenchModel", "isDigit", "()Z"⟩, 34), (⟨"LensBenchModel", "sign", "(I)V"⟩, 34), (⟨"LensBenchModel", "isTry", "(II)Z"⟩, 34), (⟨"LensBenchModel", "keepWeights", "()V"⟩, 34), (⟨"LensBenchModel", "weigh", "(III)V"⟩, 34), (⟨"LensBenchModel", "doesFit", "()Z"⟩, 34), (⟨"LensBenchModel", "isWithin", "(II)Z"⟩, 34), (⟨"LensBenchModel", "giveBack", "()V"⟩, 34), (⟨"LensBenchModel", "findFitting", "(II)I"⟩, 34), (⟨"LensBenchModel", "heap", "(III)I"⟩, 34), (⟨"LensBenchModel", "isAlike", "(IIII)Z"⟩, 34), (⟨"LensBenchModel", "findTold", "()V"⟩, 34), (⟨"LensBenchModel", "farOf", "(II)I"⟩, 34)]
theorem lw_r5 : ∀ q ∈ lw_privs_5, lw_okq q := List.forall_mem_cons.mpr ⟨lw_p64, List.forall_mem_cons.mpr ⟨lw_p65, List.forall_mem_cons.mpr ⟨lw_p66, List.forall_mem_cons.mpr ⟨lw_p67, List.forall_mem_cons.mpr ⟨lw_p68, List.forall_mem_cons.mpr ⟨lw_p69, List.forall_mem_cons.mpr ⟨lw_p70, List.forall_mem_cons.mpr ⟨lw_p71, List.forall_mem_cons.mpr ⟨lw_p72, List.forall_mem_cons.mpr ⟨lw_p73, List.forall_mem_cons.mpr ⟨lw_p74, List.forall_mem_cons.mpr ⟨lw_p75, List.forall_mem_cons.mpr ⟨lw_p76, List.forall_mem_cons.mpr ⟨lw_p77, fun _ h => absurd h List.not_mem_nil⟩⟩⟩⟩⟩⟩⟩⟩⟩⟩⟩⟩⟩⟩
def lw_privs : List (MethodName × Nat) := lw_privs_1 ++ (lw_privs_2 ++ (lw_privs_3 ++ (lw_privs_4 ++ (lw_privs_5))))
def lw_tbl : List Cond := k2_sels lw_privs ++ tables_1
theorem lw_privs_ok : ∀ q ∈ lw_privs, lw_okq q := by
  show ∀ q ∈ lw_privs_1 ++ (lw_privs_2 ++ (lw_privs_3 ++ (lw_privs_4 ++ (lw_privs_5)))), lw_okq q
  exact List.forall_mem_append.mpr ⟨lw_r1, List.forall_mem_append.mpr ⟨lw_r2, List.forall_mem_append.mpr ⟨lw_r3, List.forall_mem_append.mpr ⟨lw_r4, lw_r5⟩⟩⟩⟩
-- ===== end of PART A; then your names; then what follows =====
/-! ===== BEGIN words of one list among another's, by their places ===== -/
theorem goodIn_r {big : List Cond} (ws : List Cond) (ps : List Nat) (hp : ws = ps.filterMap (fun i => big[i]?)) (h : ws.all goodWord = true) : GoodIn big ws := by
  intro w hw
  have h1 := List.all_eq_true.mp h w hw
  rw [hp] at hw
  obtain ⟨i, -, hi⟩ := List.mem_filterMap.mp hw
  have hm : w ∈ big := by first | exact List.mem_of_getElem? hi | exact List.getElem?_mem hi
  exact ⟨hm, good_of_word h1⟩
theorem goodIn_app {big a b : List Cond} (ha : GoodIn big a) (hb : GoodIn big b) : GoodIn big (a ++ b) := fun w h => (List.mem_append.mp h).elim (ha w) (hb w)
theorem goodIn_ca {big a b : List Cond} {c : Cond} (ha : GoodIn big (c :: a)) (hb : GoodIn big b) : GoodIn big (c :: (a ++ b)) := fun w h => (List.mem_cons.mp h).elim (fun e => ha w (List.mem_cons.mpr (Or.inl e))) (fun h => (List.mem_append.mp h).elim (fun h => ha w (List.mem_cons.mpr (Or.inr h))) (hb w))
theorem goodIn_sub {big ws : List Cond} (hm : ∀ w ∈ ws, w ∈ big) (h : ws.all goodWord = true) : GoodIn big ws := fun w hw => ⟨hm w hw, good_of_word (List.all_eq_true.mp h w hw)⟩
/-! ===== END ===== -/

/-! ===== BEGIN new T[n][m]: the outer array a place, the inner ones among the pooled ===== -/
/-- f, but v at every address of l -/
def vr_up {α : Type} (f : Nat → α) (l : List Nat) (v : α) : Nat → α := fun a => if a ∈ l then v else f a
theorem vr_up_in {α : Type} {f : Nat → α} {l : List Nat} {v : α} {a : Nat} (h : a ∈ l) : vr_up f l v a = v := if_pos h
theorem vr_up_ne {α : Type} {f : Nat → α} {l : List Nat} {v : α} {a : Nat} (h : a ∉ l) : vr_up f l v a = f a := if_neg h
theorem vr_rows {L l : List Nat} {f : Nat → va_E} {e : va_E} (h : ∀ a, a ∈ l → a ∉ L) : va_pl L f ++ l.map (fun a => (a, e)) = va_pl (L ++ l) (vr_up f l e) := by
  unfold va_pl
  rw [List.map_append]
  congr 1
  · apply List.map_congr_left
    intro a ha
    rw [vr_up_ne (fun q => h a q ha)]
  · apply List.map_congr_left
    intro a ha
    rw [vr_up_in ha]
theorem vr_lay {X rows : va_W} {x : Nat × va_E} {pl : va_W} {D : va_G} {cl : List vw_C} {H : Heap} (hP : va_P D cl (((X ++ pl) ++ [x]) ++ rows) H) : va_P D cl ((X ++ [x]) ++ (pl ++ rows)) H := by
  rw [List.append_assoc (X ++ pl)] at hP
  have h := va_P.swap hP
  rw [← List.append_assoc X] at h
  have h2 := va_P.swap h
  rw [List.append_assoc (X ++ [x])] at h2
  exact h2
theorem vr_layD {X rows : va_W} {x : Nat × va_E} {pl : va_W} {A : Nat → Prop} (hD : va_D A (((X ++ pl) ++ [x]) ++ rows)) : va_D A ((X ++ [x]) ++ (pl ++ rows)) := by
  rw [List.append_assoc (X ++ pl)] at hD
  have h := va_D.swap hD
  rw [← List.append_assoc X] at h
  have h2 := va_D.swap h
  rw [List.append_assoc (X ++ [x])] at h2
  exact h2
theorem vr_outer (c : ClassId) (N h0 : Nat) : ∀ i : Nat, Jvm.Free.Multi.outerC c N h0 i = arrV c N (fun j => va_rf (if j < i then some (h0 + 1 + j) else none))
  | 0 => by
    show ({ cls := c, slots := Array.replicate N .null, vm := .none } : Cell) = _
    rw [arrV_new]
    refine congrArg (arrV c N) (funext fun j => ?_)
    simp [va_rf]
  | i + 1 => by
    show (Jvm.Free.Multi.outerC c N h0 i).setSlot i (.ref (h0 + 1 + i)) = _
    rw [vr_outer c N h0 i, arrV_store]
    refine congrArg (arrV c N) (funext fun j => ?_)
    by_cases e : j = i
    · subst e
      simp [updV, va_rf]
    · by_cases h : j < i
      · simp [updV, e, h, Nat.lt_succ_of_lt h]
      · simp [updV, e, h, show ¬ j < i + 1 by omega]
/-- the tables know the class of arrays over arrays of a type -/
def va_AOA (ty : FieldType) (U : State) : Prop := (Cond.arrayOver (.array ty)).before #[] U = true
theorem va_AOA.use {ty : FieldType} {A : Array Value} {U : State} (h : va_AOA ty U) : (Cond.arrayOver (.array ty)).before A U = true := h
section VGM
variable {p : Program} {l : Launch} {e : Env} {R : Room} {s : State} {m : MethodId} {args : Array Value} {below : List Frame} {meth : Method} {c : Code} {H : Heap} {locs : List Loc} {cells slots : Nat} {Q : State → Prop}
variable {cc : ByteArray} {pc : Nat} {ls : Array Slot} {rest : List Value} {D : va_G} {cl : List vw_C} {A : Nat → Prop} {a : Nat} {tys : List (ClassId × FieldType)} {ws : va_W} {H0 : Heap}
theorem va_mna {X : va_W} {L : List Nat} {f : Nat → va_E} {cc : ByteArray} (hexec : p.tables.exec = Jvm.exec) (hb : c.code = cc) {own : String} {index : Nat} {ty : FieldType} {cy : ClassId} (hown : s.vm.findClass own = some m.cls) (hclink : (Cond.classLink own index ("[" ++ (FieldType.array ty).toString)).before args s = true) (hover : va_AOA ty s) (harr : (Cond.arrayClass ty).before args s = true) (hcy : s.vm.findClass (FieldType.array ty).toString = some cy)
    (hK : va_K D cl tys s) (hP : va_P D cl (X ++ va_pl L f) H) (hD : va_D A (X ++ va_pl L f)) (hS : va_S A H0 H locs) (hA : ∀ q, H0.size ≤ q → A q) {n k : Int32} {N' K' : Nat} {z : vp_A} (hn : ¬ n < 0) (hk : ¬ k < 0) (hN : n.toNatClampNeg = N') (hM : k.toNatClampNeg = K')
    (hb1 : N' * 4 ≤ 536870912) (hb2 : K' * componentBytes ty ≤ 536870912) (hb3 : K' ≤ 536870912) (hdf : fits ty (defaultValue ty) = true) (hdd : (defaultValue ty).isDefault = true) (hcells : cells + (1 + N') ≤ R.cells) (hslots : slots + (N' + N' * K') ≤ R.slots) (hz : ∀ c : ClassId, Jvm.Free.Multi.innerC c K' (defaultValue ty) = vp_cell c z) (hdg : decode cc pc = .ok (.multianewarray index 2, 4))
    (kk : ∀ (q : Nat) (r : Nat → Nat) (cA : ClassId) (H1 : Heap), (∀ i j : Nat, i < N' → j < N' → r i = r j → i = j) → (∀ i : Nat, i < N' → r i ∉ L) → va_K D cl (tys ++ [(cA, .array ty)]) s →
      va_P D cl ((X ++ [(q, .inl (cA, N', .inr (.inr (.inr (.inr (fun i => if i < N' then some (r i) else none))))))]) ++ va_pl (L ++ (List.range N').map r) (vr_up f ((List.range N').map r) (.inl (cy, z)))) H1 → va_D A ((X ++ [(q, .inl (cA, N', .inr (.inr (.inr (.inr (fun i => if i < N' then some (r i) else none))))))]) ++ va_pl (L ++ (List.range N').map r) (vr_up f ((List.range N').map r) (.inl (cy, z)))) → va_S A H0 H1 locs →
      W p l e R s m args below meth c H1 locs (cells + 1 + N') (slots + N' + N' * K') Q (F0 m (pc + 4) ls (.ref q :: rest))) : W p l e R s m args below meth c H locs cells slots Q (F0 m pc ls (.int k :: .int n :: rest)) := by
  subst hN
  subst hM
  intro T hT Xs
  obtain ⟨vm₁, cA, comp, -, fA, fC, hO, -, X', step⟩ := Xs.multianewarray2F hexec hown hclink (va_AOA.use hover) harr (g := F0 m pc ls (.int k :: .int n :: rest)) rfl (by rw [hb]; exact hdg) rfl hn hk hb1 hb2 hb3 hdf hdd hcells hslots
  have ec : some cy = some comp := hcy.symm.trans fC
  cases ec
  generalize hF : Jvm.Free.Multi.fill (T.setVm vm₁) cA cy n.toNatClampNeg k.toNatClampNeg (defaultValue ty) n.toNatClampNeg = F at X' step
  have hTh : (T.setVm vm₁).heap = H := hT
  obtain ⟨f1, f2, -, -⟩ := Jvm.Free.Multi.fill_facts (T.setVm vm₁) cA cy n.toNatClampNeg k.toNatClampNeg (defaultValue ty) n.toNatClampNeg
  rw [hF, hTh] at f1 f2
  have hold : ∀ x : Nat, x < H.size → F.heap[x]? = H[x]? := fun x hx => by
    have := Jvm.Free.Multi.fill_old (T.setVm vm₁) cA cy n.toNatClampNeg k.toNatClampNeg (defaultValue ty) (a := x) (by rw [hTh]; exact hx) n.toNatClampNeg
    rw [hF, hTh] at this
    exact this
  have hrow : ∀ j : Nat, j < n.toNatClampNeg → F.heap[H.size + 1 + j]? = some (vp_cell cy z) := fun j hj => by
    have := Jvm.Free.Multi.fill_inner (T.setVm vm₁) cA cy n.toNatClampNeg k.toNatClampNeg (defaultValue ty) n.toNatClampNeg j hj
    rw [hF, hTh, hz] at this
    exact this
  have hout : Jvm.Free.Multi.outerC cA n.toNatClampNeg H.size n.toNatClampNeg = vp_cell cA (n.toNatClampNeg, .inr (.inr (.inr (.inr (fun i => if i < n.toNatClampNeg then some (H.size + 1 + i) else none))))) := by
    rw [vp_cell_q]
    exact vr_outer cA n.toNatClampNeg H.size n.toNatClampNeg
  rw [hout] at f2
  have hlt : ∀ a, a ∈ L → a < H.size := fun a ha => by
    obtain ⟨k9, hk9⟩ := va_pl_get (X := X) (f := f) ha
    exact (hP k9 _ hk9).lt
  have hnl : ∀ i : Nat, i < n.toNatClampNeg → H.size + 1 + i ∉ L := fun i _ h => by
    have := hlt _ h
    omega
  have hnm : ∀ a, a ∈ (List.range n.toNatClampNeg).map (fun i => H.size + 1 + i) → a ∉ L := fun a ha h => by
    obtain ⟨i, -, rfl⟩ := List.mem_map.mp ha
    have := hlt _ h
    omega
  have hP0 : va_P D cl (X ++ va_pl L f) F.heap := hP.kept (fun k9 x hx => hold x.1 ((hP k9 x hx).lt))
  have hP1 : va_P D cl ((X ++ va_pl L f) ++ [(H.size, .inl (cA, n.toNatClampNeg, .inr (.inr (.inr (.inr (fun i => if i < n.toNatClampNeg then some (H.size + 1 + i) else none))))))]) F.heap := hP0.app (fun k9 x hx => by
    have h0 : k9 < 1 := (List.getElem?_eq_some_iff.mp hx).1
    rw [show k9 = 0 by omega] at hx
    cases hx
    exact f2)
  have hP2 : va_P D cl (((X ++ va_pl L f) ++ [(H.size, .inl (cA, n.toNatClampNeg, .inr (.inr (.inr (.inr (fun i => if i < n.toNatClampNeg then some (H.size + 1 + i) else none))))))]) ++ ((List.range n.toNatClampNeg).map (fun i => H.size + 1 + i)).map (fun a => (a, .inl (cy, z)))) F.heap := hP1.app (fun k9 x hx => by
    obtain ⟨a, ha, rfl⟩ := List.mem_map.mp (List.mem_of_getElem? hx)
    obtain ⟨i, hi, rfl⟩ := List.mem_map.mp ha
    exact hrow i (List.mem_range.mp hi))
  have hD2 : va_D A (((X ++ va_pl L f) ++ [(H.size, .inl (cA, n.toNatClampNeg, .inr (.inr (.inr (.inr (fun i => if i < n.toNatClampNeg then some (H.size + 1 + i) else none))))))]) ++ ((List.range n.toNatClampNeg).map (fun i => H.size + 1 + i)).map (fun a => (a, .inl (cy, z)))) := by
    have hD1 := hD.push (e := .inl (cA, n.toNatClampNeg, .inr (.inr (.inr (.inr (fun i => if i < n.toNatClampNeg then some (H.size + 1 + i) else none)))))) hP rfl (hA _ hS.1)
    generalize hW1 : (X ++ va_pl L f) ++ [(H.size, .inl (cA, n.toNatClampNeg, .inr (.inr (.inr (.inr (fun i => if i < n.toNatClampNeg then some (H.size + 1 + i) else none))))))] = W1 at hD1 hP1 ⊢
    have hle : ∀ (k9 : Nat) (x : Nat × va_E), W1[k9]? = some x → x.1 ≤ H.size := fun k9 x hx => by
      rw [← hW1] at hx
      by_cases hl : k9 < (X ++ va_pl L f).length
      · rw [List.getElem?_append_left hl] at hx
        exact Nat.le_of_lt ((hP k9 x hx).lt)
      · rw [List.getElem?_append_right (by omega)] at hx
        have h0 : k9 - (X ++ va_pl L f).length < 1 := (List.getElem?_eq_some_iff.mp hx).1
        rw [show k9 - (X ++ va_pl L f).length = 0 by omega] at hx
        cases hx
        exact Nat.le_refl _
    have hr : ∀ (k9 : Nat) (x : Nat × va_E), (((List.range n.toNatClampNeg).map (fun i => H.size + 1 + i)).map (fun a => ((a, .inl (cy, z)) : Nat × va_E)))[k9]? = some x → x.1 = H.size + 1 + k9 := fun k9 x hx => by
      rw [List.getElem?_map, List.getElem?_map] at hx
      by_cases h9 : k9 < n.toNatClampNeg
      · rw [List.getElem?_range h9] at hx
        cases hx
        rfl
      · have hn0 : (List.range n.toNatClampNeg)[k9]? = none := List.getElem?_eq_none (by rw [List.length_range]; omega)
        rw [hn0] at hx
        cases hx
    refine ⟨fun i j x y hi hj hxy => ?_, fun k9 x hx => ?_⟩
    · by_cases h1 : i < W1.length <;> by_cases h2 : j < W1.length
      · rw [List.getElem?_append_left h1] at hi
        rw [List.getElem?_append_left h2] at hj
        exact hD1.1 i j x y hi hj hxy
      · rw [List.getElem?_append_left h1] at hi
        rw [List.getElem?_append_right (by omega)] at hj
        have := hle _ _ hi
        have := hr _ _ hj
        omega
      · rw [List.getElem?_append_right (by omega)] at hi
        rw [List.getElem?_append_left h2] at hj
        have := hle _ _ hj
        have := hr _ _ hi
        omega
      · rw [List.getElem?_append_right (by omega)] at hi hj
        have := hr _ _ hi
        have := hr _ _ hj
        omega
    · by_cases h1 : k9 < W1.length
      · rw [List.getElem?_append_left h1] at hx
        exact hD1.2 k9 x hx
      · rw [List.getElem?_append_right (by omega)] at hx
        have := hr _ _ hx
        exact hA _ (by have := hS.1; omega)
  have hAr : ArrOfT s cA (.array ty) := fun N9 z9 => by
    obtain ⟨-, k9, hk9, cm9, hkk9⟩ := (hO 0 0 0).1
    exact ⟨(fun q hq => by cases hq), k9, hk9, cm9, hkk9⟩
  have hK2 : va_K D cl (tys ++ [(cA, .array ty)]) s := ⟨hK.1, fun k9 x hx => by
    by_cases hl : k9 < tys.length
    · rw [List.getElem?_append_left hl] at hx
      exact hK.2 k9 x hx
    · rw [List.getElem?_append_right (by omega)] at hx
      have h0 : k9 - tys.length < 1 := (List.getElem?_eq_some_iff.mp hx).1
      rw [show k9 - tys.length = 0 by omega] at hx
      cases hx
      exact ⟨hAr, fA⟩⟩
  obtain ⟨t, a1, b1⟩ := kk H.size (fun i => H.size + 1 + i) cA F.heap (fun i j _ _ h => by have h9 : H.size + 1 + i = H.size + 1 + j := h; omega) hnl hK2 (by rw [← vr_rows hnm]; exact vr_lay hP2) (by rw [← vr_rows hnm]; exact vr_layD hD2) ⟨by rw [f1]; have := hS.1; omega, fun x h1 h2 => (hold x (Nat.lt_of_lt_of_le h1 hS.1)).trans (hS.2.1 x h1 h2), hS.2.2⟩ F rfl X'
  refine ⟨t, step t ?_, b1⟩
  have e : T.heap.size = H.size := by rw [hT]
  rw [e]
  exact a1
end VGM
/-! ===== END ===== -/

def RX0 : String := "LensBench$Brightness"
def TX0 : u_T := fun k => match k with
  | 0 => ("LensBench$Brightness", "plane", "LLensBench$Plane;", true)
  | 1 => ("LensBench$Brightness", "tally", "LLensBench$Tally;", true)
  | 2 => ("LensBench$Brightness", "told", "[I", true)
  | 3 => ("LensBench$Brightness", "darkest", "[I", true)
  | 4 => ("LensBench$Brightness", "lightest", "[I", true)
  | _ => ("LensBench$Brightness", "noise", "I", false)
def tyX0 : Nat → FieldType := fun k => match k with
  | 0 => .object "LensBench$Plane"
  | 1 => .object "LensBench$Tally"
  | 2 => .array .int
  | 3 => .array .int
  | 4 => .array .int
  | _ => .int
abbrev wsX00 : List Cond := u_ws RX0 TX0 6
theorem nmX0 : ∀ a, a < 6 → ∀ b, b < 6 → a ≠ b → (TX0 a).2.1 ≠ (TX0 b).2.1 := by decide +kernel
theorem tyX0_ok : ∀ k, k < 6 → parseFieldDescriptor (TX0 k).2.2.1 = some (tyX0 k) := by decide +kernel
abbrev cX0_init : ByteArray := prog_2_method_1_code
def yX0_init : MethodName := ⟨RX0, "<init>", "(LLensBench$Plane;LLensBench$Tally;)V"⟩
abbrev cX0_toldCount : ByteArray := prog_2_method_2_code
def yX0_toldCount : MethodName := ⟨RX0, "toldCount", "()I"⟩
abbrev cX0_farOf : ByteArray := prog_2_method_3_code
def yX0_farOf : MethodName := ⟨RX0, "farOf", "(I)I"⟩
abbrev cX0_contradictions : ByteArray := prog_2_method_4_code
def yX0_contradictions : MethodName := ⟨RX0, "contradictions", "()I"⟩
abbrev cX0_widen : ByteArray := prog_2_method_5_code
def yX0_widen : MethodName := ⟨RX0, "widen", "(II)V"⟩
def RX1 : String := "LensBench$Groups"
def TX1 : u_T := fun k => match k with
  | 0 => ("LensBench$Groups", "waiting", "[Z", true)
  | 1 => ("LensBench$Groups", "queue", "[I", true)
  | 2 => ("LensBench$Groups", "wantedFirst", "I", false)
  | _ => ("LensBench$Groups", "wantedSize", "I", false)
def tyX1 : Nat → FieldType := fun k => match k with
  | 0 => .array .boolean
  | 1 => .array .int
  | 2 => .int
  | _ => .int
abbrev wsX10 : List Cond := u_ws RX1 TX1 4
theorem nmX1 : ∀ a, a < 4 → ∀ b, b < 4 → a ≠ b → (TX1 a).2.1 ≠ (TX1 b).2.1 := by decide +kernel
theorem tyX1_ok : ∀ k, k < 4 → parseFieldDescriptor (TX1 k).2.2.1 = some (tyX1 k) := by decide +kernel
abbrev cX1_init : ByteArray := prog_3_method_1_code
def yX1_init : MethodName := ⟨RX1, "<init>", "()V"⟩
abbrev cX1_split : ByteArray := prog_3_method_2_code
def yX1_split : MethodName := ⟨RX1, "split", "(I)I"⟩
abbrev cX1_collect : ByteArray := prog_3_method_3_code
def yX1_collect : MethodName := ⟨RX1, "collect", "(I)I"⟩
abbrev cX1_queueNeighbours : ByteArray := prog_3_method_4_code
def yX1_queueNeighbours : MethodName := ⟨RX1, "queueNeighbours", "(II)I"⟩
def RX2 : String := "LensBench$Lens"
def TX2 : u_T := fun k => match k with
  | 0 => ("LensBench$Lens", "bodies", "[[I", false)
  | 1 => ("LensBench$Lens", "bodyCount", "I", false)
  | 2 => ("LensBench$Lens", "g", "I", false)
  | _ => ("LensBench$Lens", "h", "I", false)
def tyX2 : Nat → FieldType := fun k => match k with
  | 0 => .array (.array .int)
  | 1 => .int
  | 2 => .int
  | _ => .int
abbrev wsX20 : List Cond := u_ws RX2 TX2 4
theorem nmX2 : ∀ a, a < 4 → ∀ b, b < 4 → a ≠ b → (TX2 a).2.1 ≠ (TX2 b).2.1 := by decide +kernel
theorem tyX2_ok : ∀ k, k < 4 → parseFieldDescriptor (TX2 k).2.2.1 = some (tyX2 k) := by decide +kernel
abbrev cX2_init : ByteArray := prog_4_method_1_code
def yX2_init : MethodName := ⟨RX2, "<init>", "()V"⟩
abbrev cX2_add : ByteArray := prog_4_method_2_code
def yX2_add : MethodName := ⟨RX2, "add", "(IIII)I"⟩
abbrev cX2_weights : ByteArray := prog_4_method_3_code
def yX2_weights : MethodName := ⟨RX2, "weights", "()I"⟩
abbrev cX2_lightAt : ByteArray := prog_4_method_4_code
def yX2_lightAt : MethodName := ⟨RX2, "lightAt", "(III)I"⟩
abbrev cX2_lightPast : ByteArray := prog_4_method_5_code
def yX2_lightPast : MethodName := ⟨RX2, "lightPast", "(IIII)I"⟩
abbrev cX2_bendBy : ByteArray := prog_4_method_6_code
def yX2_bendBy : MethodName := ⟨RX2, "bendBy", "(I[IIIII)I"⟩
abbrev cX2_askedBy : ByteArray := prog_4_method_7_code
def yX2_askedBy : MethodName := ⟨RX2, "askedBy", "(I)I"⟩
abbrev cX2_isCutAway : ByteArray := prog_4_method_8_code
def yX2_isCutAway : MethodName := ⟨RX2, "isCutAway", "([II)Z"⟩
abbrev cX2_squares : ByteArray := prog_4_method_9_code
def yX2_squares : MethodName := ⟨RX2, "squares", "([III)I"⟩
def RX3 : String := "LensBench$Plane"
def TX3 : u_T := fun k => match k with
  | 0 => ("LensBench$Plane", "lens", "LLensBench$Lens;", true)
  | 1 => ("LensBench$Plane", "lightX", "[I", true)
  | 2 => ("LensBench$Plane", "lightY", "[I", true)
  | 3 => ("LensBench$Plane", "cellKeys", "[I", true)
  | 4 => ("LensBench$Plane", "parities", "[I", true)
  | _ => ("LensBench$Plane", "stale", "Z", false)
def tyX3 : Nat → FieldType := fun k => match k with
  | 0 => .object "LensBench$Lens"
  | 1 => .array .int
  | 2 => .array .int
  | 3 => .array .int
  | 4 => .array .int
  | _ => .boolean
abbrev wsX30 : List Cond := u_ws RX3 TX3 6
theorem nmX3 : ∀ a, a < 6 → ∀ b, b < 6 → a ≠ b → (TX3 a).2.1 ≠ (TX3 b).2.1 := by decide +kernel
theorem tyX3_ok : ∀ k, k < 6 → parseFieldDescriptor (TX3 k).2.2.1 = some (tyX3 k) := by decide +kernel
abbrev cX3_init : ByteArray := prog_5_method_1_code
def yX3_init : MethodName := ⟨RX3, "<init>", "(LLensBench$Lens;)V"⟩
abbrev cX3_lookAnew : ByteArray := prog_5_method_2_code
def yX3_lookAnew : MethodName := ⟨RX3, "lookAnew", "()V"⟩
abbrev cX3_placeAt : ByteArray := prog_5_method_3_code
def yX3_placeAt : MethodName := ⟨RX3, "placeAt", "(II)I"⟩
abbrev cX3_across : ByteArray := prog_5_method_4_code
def yX3_across : MethodName := ⟨RX3, "across", "([II)I"⟩
abbrev cX3_down : ByteArray := prog_5_method_5_code
def yX3_down : MethodName := ⟨RX3, "down", "([II)I"⟩
abbrev cX3_signOfArea : ByteArray := prog_5_method_6_code
def yX3_signOfArea : MethodName := ⟨RX3, "signOfArea", "(I)I"⟩
abbrev cX3_parityAt : ByteArray := prog_5_method_7_code
def yX3_parityAt : MethodName := ⟨RX3, "parityAt", "(II)I"⟩
abbrev cX3_isCritical : ByteArray := prog_5_method_8_code
def yX3_isCritical : MethodName := ⟨RX3, "isCritical", "(II)Z"⟩
abbrev cX3_countOfParity : ByteArray := prog_5_method_9_code
def yX3_countOfParity : MethodName := ⟨RX3, "countOfParity", "(I)I"⟩
abbrev cX3_delayOnWay : ByteArray := prog_5_method_10_code
def yX3_delayOnWay : MethodName := ⟨RX3, "delayOnWay", "(IIIIII)J"⟩
abbrev cX3_delayAlong : ByteArray := prog_5_method_11_code
def yX3_delayAlong : MethodName := ⟨RX3, "delayAlong", "([IIIII)J"⟩
abbrev cX3_stretchOf : ByteArray := prog_5_method_12_code
def yX3_stretchOf : MethodName := ⟨RX3, "stretchOf", "(I)I"⟩
abbrev cX3_doubledStretchAt : ByteArray := prog_5_method_13_code
def yX3_doubledStretchAt : MethodName := ⟨RX3, "doubledStretchAt", "(II)J"⟩
def RX4 : String := "LensBench$Tally"
def TX4 : u_T := fun k => match k with
  | 0 => ("LensBench$Tally", "numberAt", "[I", true)
  | 1 => ("LensBench$Tally", "keys", "[I", true)
  | 2 => ("LensBench$Tally", "counts", "[I", true)
  | _ => ("LensBench$Tally", "distinct", "I", false)
def tyX4 : Nat → FieldType := fun k => match k with
  | 0 => .array .int
  | 1 => .array .int
  | 2 => .array .int
  | _ => .int
abbrev wsX40 : List Cond := u_ws RX4 TX4 4
theorem nmX4 : ∀ a, a < 4 → ∀ b, b < 4 → a ≠ b → (TX4 a).2.1 ≠ (TX4 b).2.1 := by decide +kernel
theorem tyX4_ok : ∀ k, k < 4 → parseFieldDescriptor (TX4 k).2.2.1 = some (tyX4 k) := by decide +kernel
abbrev cX4_init : ByteArray := prog_6_method_1_code
def yX4_init : MethodName := ⟨RX4, "<init>", "()V"⟩
abbrev cX4_start : ByteArray := prog_6_method_2_code
def yX4_start : MethodName := ⟨RX4, "start", "()V"⟩
abbrev cX4_numberOf : ByteArray := prog_6_method_3_code
def yX4_numberOf : MethodName := ⟨RX4, "numberOf", "(I)I"⟩
abbrev cX4_take : ByteArray := prog_6_method_4_code
def yX4_take : MethodName := ⟨RX4, "take", "(II)I"⟩
abbrev cX4_greatest : ByteArray := prog_6_method_5_code
def yX4_greatest : MethodName := ⟨RX4, "greatest", "()I"⟩
def RX5 : String := "LensBench$Text"
def TX5 : u_T := fun k => match k with
  | 0 => ("LensBench$Text", "bytes", "[I", true)
  | 1 => ("LensBench$Text", "bodies", "[[I", false)
  | 2 => ("LensBench$Text", "length", "I", false)
  | _ => ("LensBench$Text", "at", "I", false)
def tyX5 : Nat → FieldType := fun k => match k with
  | 0 => .array .int
  | 1 => .array (.array .int)
  | 2 => .int
  | _ => .int
abbrev wsX50 : List Cond := u_ws RX5 TX5 4
theorem nmX5 : ∀ a, a < 4 → ∀ b, b < 4 → a ≠ b → (TX5 a).2.1 ≠ (TX5 b).2.1 := by decide +kernel
theorem tyX5_ok : ∀ k, k < 4 → parseFieldDescriptor (TX5 k).2.2.1 = some (tyX5 k) := by decide +kernel
abbrev cX5_init : ByteArray := prog_7_method_1_code
def yX5_init : MethodName := ⟨RX5, "<init>", "()V"⟩
abbrev cX5_add : ByteArray := prog_7_method_2_code
def yX5_add : MethodName := ⟨RX5, "add", "(I)V"⟩
abbrev cX5_tellBodies : ByteArray := prog_7_method_3_code
def yX5_tellBodies : MethodName := ⟨RX5, "tellBodies", "()I"⟩
abbrev cX5_takeItem : ByteArray := prog_7_method_4_code
def yX5_takeItem : MethodName := ⟨RX5, "takeItem", "([I)Z"⟩
abbrev cX5_takeKind : ByteArray := prog_7_method_5_code
def yX5_takeKind : MethodName := ⟨RX5, "takeKind", "()I"⟩
abbrev cX5_takeSign : ByteArray := prog_7_method_6_code
def yX5_takeSign : MethodName := ⟨RX5, "takeSign", "(C)Z"⟩
abbrev cX5_takeNumber : ByteArray := prog_7_method_7_code
def yX5_takeNumber : MethodName := ⟨RX5, "takeNumber", "([II)Z"⟩
def RX6 : String := "LensBench$Trials"
def TX6 : u_T := fun k => match k with
  | 0 => ("LensBench$Trials", "lens", "LLensBench$Lens;", true)
  | 1 => ("LensBench$Trials", "tally", "LLensBench$Tally;", true)
  | 2 => ("LensBench$Trials", "pairs", "[[I", true)
  | 3 => ("LensBench$Trials", "spots", "[[I", true)
  | 4 => ("LensBench$Trials", "pairCount", "I", false)
  | 5 => ("LensBench$Trials", "spotCount", "I", false)
  | 6 => ("LensBench$Trials", "slack", "I", false)
  | 7 => ("LensBench$Trials", "fixedParts", "[I", true)
  | 8 => ("LensBench$Trials", "triedParts", "[[I", true)
  | 9 => ("LensBench$Trials", "aimed", "[I", true)
  | 10 => ("LensBench$Trials", "fitting", "[I", true)
  | 11 => ("LensBench$Trials", "heaps", "[I", true)
  | 12 => ("LensBench$Trials", "bodiesTried", "I", false)
  | 13 => ("LensBench$Trials", "digits", "I", false)
  | 14 => ("LensBench$Trials", "modelCount", "I", false)
  | 15 => ("LensBench$Trials", "fitCount", "I", false)
  | 16 => ("LensBench$Trials", "stale", "Z", false)
  | _ => ("LensBench$Trials", "isGathered", "Z", false)
def tyX6 : Nat → FieldType := fun k => match k with
  | 0 => .object "LensBench$Lens"
  | 1 => .object "LensBench$Tally"
  | 2 => .array (.array .int)
  | 3 => .array (.array .int)
  | 4 => .int
  | 5 => .int
  | 6 => .int
  | 7 => .array .int
  | 8 => .array (.array .int)
  | 9 => .array .int
  | 10 => .array .int
  | 11 => .array .int
  | 12 => .int
  | 13 => .int
  | 14 => .int
  | 15 => .int
  | 16 => .boolean
  | _ => .boolean
abbrev wsX60 : List Cond := u_ws RX6 TX6 18
theorem nmX6 : ∀ a, a < 18 → ∀ b, b < 18 → a ≠ b → (TX6 a).2.1 ≠ (TX6 b).2.1 := by decide +kernel
theorem tyX6_ok : ∀ k, k < 18 → parseFieldDescriptor (TX6 k).2.2.1 = some (tyX6 k) := by decide +kernel
abbrev cX6_init : ByteArray := prog_8_method_1_code
def yX6_init : MethodName := ⟨RX6, "<init>", "(LLensBench$Lens;LLensBench$Tally;)V"⟩
abbrev cX6_addPair : ByteArray := prog_8_method_2_code
def yX6_addPair : MethodName := ⟨RX6, "addPair", "(IIII)I"⟩
abbrev cX6_addSpot : ByteArray := prog_8_method_3_code
def yX6_addSpot : MethodName := ⟨RX6, "addSpot", "(II)I"⟩
abbrev cX6_load : ByteArray := prog_8_method_4_code
def yX6_load : MethodName := ⟨RX6, "load", "(II)V"⟩
abbrev cX6_startRow : ByteArray := prog_8_method_5_code
def yX6_startRow : MethodName := ⟨RX6, "startRow", "(I)V"⟩
abbrev cX6_addToRow : ByteArray := prog_8_method_6_code
def yX6_addToRow : MethodName := ⟨RX6, "addToRow", "(IIIII)V"⟩
abbrev cX6_aim : ByteArray := prog_8_method_7_code
def yX6_aim : MethodName := ⟨RX6, "aim", "(I)V"⟩
abbrev cX6_shownBy : ByteArray := prog_8_method_8_code
def yX6_shownBy : MethodName := ⟨RX6, "shownBy", "(I)I"⟩
abbrev cX6_holds : ByteArray := prog_8_method_9_code
def yX6_holds : MethodName := ⟨RX6, "holds", "(I)Z"⟩
abbrev cX6_gather : ByteArray := prog_8_method_10_code
def yX6_gather : MethodName := ⟨RX6, "gather", "()V"⟩
abbrev cX6_weightOf : ByteArray := prog_8_method_11_code
def yX6_weightOf : MethodName := ⟨RX6, "weightOf", "(II)I"⟩
abbrev cX6_least : ByteArray := prog_8_method_12_code
def yX6_least : MethodName := ⟨RX6, "least", "()I"⟩
abbrev cX6_sureWeight : ByteArray := prog_8_method_13_code
def yX6_sureWeight : MethodName := ⟨RX6, "sureWeight", "(I)I"⟩
abbrev cX6_twins : ByteArray := prog_8_method_14_code
def yX6_twins : MethodName := ⟨RX6, "twins", "()I"⟩
abbrev cX6_nextLook : ByteArray := prog_8_method_15_code
def yX6_nextLook : MethodName := ⟨RX6, "nextLook", "()I"⟩
abbrev cX6_splitHeaps : ByteArray := prog_8_method_16_code
def yX6_splitHeaps : MethodName := ⟨RX6, "splitHeaps", "(I)V"⟩
def RX7 : String := "LensBench"
def TX7 : u_T := fun k => match k with
  | 0 => ("LensBench", "lens", "LLensBench$Lens;", true)
  | 1 => ("LensBench", "plane", "LLensBench$Plane;", true)
  | 2 => ("LensBench", "groups", "LLensBench$Groups;", true)
  | 3 => ("LensBench", "tally", "LLensBench$Tally;", true)
  | 4 => ("LensBench", "text", "LLensBench$Text;", true)
  | 5 => ("LensBench", "trials", "LLensBench$Trials;", true)
  | 6 => ("LensBench", "brightness", "LLensBench$Brightness;", true)
  | _ => ("LensBench", "traced", "J", false)
def tyX7 : Nat → FieldType := fun k => match k with
  | 0 => .object "LensBench$Lens"
  | 1 => .object "LensBench$Plane"
  | 2 => .object "LensBench$Groups"
  | 3 => .object "LensBench$Tally"
  | 4 => .object "LensBench$Text"
  | 5 => .object "LensBench$Trials"
  | 6 => .object "LensBench$Brightness"
  | _ => .long
abbrev wsX70 : List Cond := u_ws RX7 TX7 8
theorem nmX7 : ∀ a, a < 8 → ∀ b, b < 8 → a ≠ b → (TX7 a).2.1 ≠ (TX7 b).2.1 := by decide +kernel
theorem tyX7_ok : ∀ k, k < 8 → parseFieldDescriptor (TX7 k).2.2.1 = some (tyX7 k) := by decide +kernel
abbrev cX7_init : ByteArray := prog_1_method_1_code
def yX7_init : MethodName := ⟨RX7, "<init>", "()V"⟩
abbrev cX7_body : ByteArray := prog_1_method_2_code
def yX7_body : MethodName := ⟨RX7, "body", "(IIII)I"⟩
abbrev cX7_set : ByteArray := prog_1_method_3_code
def yX7_set : MethodName := ⟨RX7, "set", "(III)I"⟩
abbrev cX7_drop : ByteArray := prog_1_method_4_code
def yX7_drop : MethodName := ⟨RX7, "drop", "()I"⟩
abbrev cX7_field : ByteArray := prog_1_method_5_code
def yX7_field : MethodName := ⟨RX7, "field", "(II)I"⟩
abbrev cX7_bend : ByteArray := prog_1_method_6_code
def yX7_bend : MethodName := ⟨RX7, "bend", "(IIIII)I"⟩
abbrev cX7_from : ByteArray := prog_1_method_7_code
def yX7_from : MethodName := ⟨RX7, "from", "(III)I"⟩
abbrev cX7_cell : ByteArray := prog_1_method_8_code
def yX7_cell : MethodName := ⟨RX7, "cell", "(III)I"⟩
abbrev cX7_pictures : ByteArray := prog_1_method_9_code
def yX7_pictures : MethodName := ⟨RX7, "pictures", "(III)I"⟩
abbrev cX7_group : ByteArray := prog_1_method_10_code
def yX7_group : MethodName := ⟨RX7, "group", "(IIII)I"⟩
abbrev cX7_parity : ByteArray := prog_1_method_11_code
def yX7_parity : MethodName := ⟨RX7, "parity", "(II)I"⟩
abbrev cX7_critical : ByteArray := prog_1_method_12_code
def yX7_critical : MethodName := ⟨RX7, "critical", "(II)I"⟩
abbrev cX7_rings : ByteArray := prog_1_method_13_code
def yX7_rings : MethodName := ⟨RX7, "rings", "(I)I"⟩
abbrev cX7_brightest : ByteArray := prog_1_method_14_code
def yX7_brightest : MethodName := ⟨RX7, "brightest", "(I)I"⟩
abbrev cX7_delay : ByteArray := prog_1_method_15_code
def yX7_delay : MethodName := ⟨RX7, "delay", "(IIIIII)J"⟩
abbrev cX7_stretch : ByteArray := prog_1_method_16_code
def yX7_stretch : MethodName := ⟨RX7, "stretch", "(I)I"⟩
abbrev cX7_type : ByteArray := prog_1_method_17_code
def yX7_type : MethodName := ⟨RX7, "type", "(JI)I"⟩
abbrev cX7_clear : ByteArray := prog_1_method_18_code
def yX7_clear : MethodName := ⟨RX7, "clear", "()I"⟩
abbrev cX7_read : ByteArray := prog_1_method_19_code
def yX7_read : MethodName := ⟨RX7, "read", "()I"⟩
abbrev cX7_pair : ByteArray := prog_1_method_20_code
def yX7_pair : MethodName := ⟨RX7, "pair", "(IIII)I"⟩
abbrev cX7_wipe : ByteArray := prog_1_method_21_code
def yX7_wipe : MethodName := ⟨RX7, "wipe", "()I"⟩
abbrev cX7_tolerance : ByteArray := prog_1_method_22_code
def yX7_tolerance : MethodName := ⟨RX7, "tolerance", "(II)I"⟩
abbrev cX7_fits : ByteArray := prog_1_method_23_code
def yX7_fits : MethodName := ⟨RX7, "fits", "(III)I"⟩
abbrev cX7_models : ByteArray := prog_1_method_24_code
def yX7_models : MethodName := ⟨RX7, "models", "(III)I"⟩
abbrev cX7_sure : ByteArray := prog_1_method_25_code
def yX7_sure : MethodName := ⟨RX7, "sure", "(III)I"⟩
abbrev cX7_spot : ByteArray := prog_1_method_26_code
def yX7_spot : MethodName := ⟨RX7, "spot", "(II)I"⟩
abbrev cX7_forget : ByteArray := prog_1_method_27_code
def yX7_forget : MethodName := ⟨RX7, "forget", "()I"⟩
abbrev cX7_bright : ByteArray := prog_1_method_28_code
def yX7_bright : MethodName := ⟨RX7, "bright", "(III)I"⟩
abbrev cX7_far : ByteArray := prog_1_method_29_code
def yX7_far : MethodName := ⟨RX7, "far", "(II)I"⟩
abbrev cX7_contradicts : ByteArray := prog_1_method_30_code
def yX7_contradicts : MethodName := ⟨RX7, "contradicts", "()I"⟩
abbrev cX7_filled : ByteArray := prog_1_method_31_code
def yX7_filled : MethodName := ⟨RX7, "filled", "(II)I"⟩
abbrev cX7_count : ByteArray := prog_1_method_32_code
def yX7_count : MethodName := ⟨RX7, "count", "(I)I"⟩
abbrev cX7_trace : ByteArray := prog_1_method_33_code
def yX7_trace : MethodName := ⟨RX7, "trace", "()J"⟩
abbrev cX7_within : ByteArray := prog_1_method_34_code
def yX7_within : MethodName := ⟨RX7, "within", "(III)Z"⟩
abbrev cX7_isWithin : ByteArray := prog_1_method_35_code
def yX7_isWithin : MethodName := ⟨RX7, "isWithin", "(III)Z"⟩
abbrev cX7_isAsked : ByteArray := prog_1_method_36_code
def yX7_isAsked : MethodName := ⟨RX7, "isAsked", "(III)Z"⟩
abbrev cX7_isFeature : ByteArray := prog_1_method_37_code
def yX7_isFeature : MethodName := ⟨RX7, "isFeature", "(II)Z"⟩
abbrev cX7_isBody : ByteArray := prog_1_method_38_code
def yX7_isBody : MethodName := ⟨RX7, "isBody", "(I)Z"⟩
abbrev cX7_isTrial : ByteArray := prog_1_method_39_code
def yX7_isTrial : MethodName := ⟨RX7, "isTrial", "(II)Z"⟩
abbrev cX7_lensChanges : ByteArray := prog_1_method_40_code
def yX7_lensChanges : MethodName := ⟨RX7, "lensChanges", "()V"⟩
abbrev cX7_markPictures : ByteArray := prog_1_method_41_code
def yX7_markPictures : MethodName := ⟨RX7, "markPictures", "(II)I"⟩
abbrev cX7_markCriticals : ByteArray := prog_1_method_42_code
def yX7_markCriticals : MethodName := ⟨RX7, "markCriticals", "()I"⟩
abbrev cX7_pixelAt : ByteArray := prog_1_method_43_code
def yX7_pixelAt : MethodName := ⟨RX7, "pixelAt", "(II)I"⟩
abbrev cX7_xOf : ByteArray := prog_1_method_44_code
def yX7_xOf : MethodName := ⟨RX7, "xOf", "(I)I"⟩
abbrev cX7_yOf : ByteArray := prog_1_method_45_code
def yX7_yOf : MethodName := ⟨RX7, "yOf", "(I)I"⟩
abbrev cX7_cellOf : ByteArray := prog_1_method_46_code
def yX7_cellOf : MethodName := ⟨RX7, "cellOf", "(I)I"⟩
abbrev cX7_keyOf : ByteArray := prog_1_method_47_code
def yX7_keyOf : MethodName := ⟨RX7, "keyOf", "(II)I"⟩
def RX8 : String := "LensBenchModel"
def TX8 : u_T := fun k => match k with
  | 0 => ("LensBenchModel", "body", "[I", true)
  | 1 => ("LensBenchModel", "bodies", "I", false)
  | 2 => ("LensBenchModel", "fieldG", "I", false)
  | 3 => ("LensBenchModel", "fieldH", "I", false)
  | 4 => ("LensBenchModel", "text", "[B", true)
  | 5 => ("LensBenchModel", "typed", "I", false)
  | 6 => ("LensBenchModel", "pairs", "I", false)
  | 7 => ("LensBenchModel", "pair", "[I", true)
  | 8 => ("LensBenchModel", "tolerated", "I", false)
  | 9 => ("LensBenchModel", "noise", "I", false)
  | 10 => ("LensBenchModel", "spots", "I", false)
  | 11 => ("LensBenchModel", "spotX", "[I", true)
  | 12 => ("LensBenchModel", "spotY", "[I", true)
  | 13 => ("LensBenchModel", "told", "[I", true)
  | 14 => ("LensBenchModel", "trace", "J", false)
  | 15 => ("LensBenchModel", "planeX", "[I", true)
  | 16 => ("LensBenchModel", "planeY", "[I", true)
  | 17 => ("LensBenchModel", "isOne", "[Z", true)
  | 18 => ("LensBenchModel", "groupOf", "[I", true)
  | 19 => ("LensBenchModel", "line", "[I", true)
  | 20 => ("LensBenchModel", "firstOf", "[I", true)
  | 21 => ("LensBenchModel", "manyOf", "[I", true)
  | 22 => ("LensBenchModel", "groups", "I", false)
  | 23 => ("LensBenchModel", "place", "I", false)
  | 24 => ("LensBenchModel", "fault", "I", false)
  | 25 => ("LensBenchModel", "one", "I", false)
  | 26 => ("LensBenchModel", "two", "I", false)
  | 27 => ("LensBenchModel", "three", "I", false)
  | 28 => ("LensBenchModel", "fitting", "[I", true)
  | 29 => ("LensBenchModel", "signX", "[I", true)
  | 30 => ("LensBenchModel", "signY", "[I", true)
  | 31 => ("LensBenchModel", "slot", "[I", true)
  | 32 => ("LensBenchModel", "tally", "[I", true)
  | _ => ("LensBenchModel", "heaps", "I", false)
def tyX8 : Nat → FieldType := fun k => match k with
  | 0 => .array .int
  | 1 => .int
  | 2 => .int
  | 3 => .int
  | 4 => .array .byte
  | 5 => .int
  | 6 => .int
  | 7 => .array .int
  | 8 => .int
  | 9 => .int
  | 10 => .int
  | 11 => .array .int
  | 12 => .array .int
  | 13 => .array .int
  | 14 => .long
  | 15 => .array .int
  | 16 => .array .int
  | 17 => .array .boolean
  | 18 => .array .int
  | 19 => .array .int
  | 20 => .array .int
  | 21 => .array .int
  | 22 => .int
  | 23 => .int
  | 24 => .int
  | 25 => .int
  | 26 => .int
  | 27 => .int
  | 28 => .array .int
  | 29 => .array .int
  | 30 => .array .int
  | 31 => .array .int
  | 32 => .array .int
  | _ => .int
abbrev wsX80 : List Cond := u_ws RX8 TX8 34
theorem nmX8 : ∀ a, a < 34 → ∀ b, b < 34 → a ≠ b → (TX8 a).2.1 ≠ (TX8 b).2.1 := by decide +kernel
theorem tyX8_ok : ∀ k, k < 34 → parseFieldDescriptor (TX8 k).2.2.1 = some (tyX8 k) := by decide +kernel
abbrev cX8_init : ByteArray := prog_10_method_1_code
def yX8_init : MethodName := ⟨RX8, "<init>", "()V"⟩
abbrev cX8_in : ByteArray := prog_10_method_3_code
def yX8_in : MethodName := ⟨RX8, "in", "(III)Z"⟩
abbrev cX8_isNear : ByteArray := prog_10_method_4_code
def yX8_isNear : MethodName := ⟨RX8, "isNear", "(III)Z"⟩
abbrev cX8_floored : ByteArray := prog_10_method_5_code
def yX8_floored : MethodName := ⟨RX8, "floored", "(JI)I"⟩
abbrev cX8_isTold : ByteArray := prog_10_method_6_code
def yX8_isTold : MethodName := ⟨RX8, "isTold", "(II)Z"⟩
abbrev cX8_isBody : ByteArray := prog_10_method_7_code
def yX8_isBody : MethodName := ⟨RX8, "isBody", "(I)Z"⟩
abbrev cX8_body : ByteArray := prog_10_method_8_code
def yX8_body : MethodName := ⟨RX8, "body", "(IIII)I"⟩
abbrev cX8_set : ByteArray := prog_10_method_9_code
def yX8_set : MethodName := ⟨RX8, "set", "(III)I"⟩
abbrev cX8_drop : ByteArray := prog_10_method_10_code
def yX8_drop : MethodName := ⟨RX8, "drop", "()I"⟩
abbrev cX8_field : ByteArray := prog_10_method_11_code
def yX8_field : MethodName := ⟨RX8, "field", "(II)I"⟩
abbrev cX8_bendOf : ByteArray := prog_10_method_12_code
def yX8_bendOf : MethodName := ⟨RX8, "bendOf", "(IIIII)I"⟩
abbrev cX8_bend : ByteArray := prog_10_method_13_code
def yX8_bend : MethodName := ⟨RX8, "bend", "(IIIII)I"⟩
abbrev cX8_fromOf : ByteArray := prog_10_method_14_code
def yX8_fromOf : MethodName := ⟨RX8, "fromOf", "(III)I"⟩
abbrev cX8_from : ByteArray := prog_10_method_15_code
def yX8_from : MethodName := ⟨RX8, "from", "(III)I"⟩
abbrev cX8_cellOf : ByteArray := prog_10_method_16_code
def yX8_cellOf : MethodName := ⟨RX8, "cellOf", "(III)I"⟩
abbrev cX8_cell : ByteArray := prog_10_method_17_code
def yX8_cell : MethodName := ⟨RX8, "cell", "(III)I"⟩
abbrev cX8_at : ByteArray := prog_10_method_18_code
def yX8_at : MethodName := ⟨RX8, "at", "(II)I"⟩
abbrev cX8_findPlane : ByteArray := prog_10_method_19_code
def yX8_findPlane : MethodName := ⟨RX8, "findPlane", "()V"⟩
abbrev cX8_findAround : ByteArray := prog_10_method_20_code
def yX8_findAround : MethodName := ⟨RX8, "findAround", "(II)V"⟩
abbrev cX8_findTold : ByteArray := prog_10_method_21_code
def yX8_findTold : MethodName := ⟨RX8, "findTold", "()V"⟩
abbrev cX8_cellX : ByteArray := prog_10_method_22_code
def yX8_cellX : MethodName := ⟨RX8, "cellX", "(II)I"⟩
abbrev cX8_cellY : ByteArray := prog_10_method_23_code
def yX8_cellY : MethodName := ⟨RX8, "cellY", "(II)I"⟩
abbrev cX8_signOf : ByteArray := prog_10_method_24_code
def yX8_signOf : MethodName := ⟨RX8, "signOf", "(J)I"⟩
abbrev cX8_parityOf : ByteArray := prog_10_method_25_code
def yX8_parityOf : MethodName := ⟨RX8, "parityOf", "(II)I"⟩
abbrev cX8_isPixel : ByteArray := prog_10_method_26_code
def yX8_isPixel : MethodName := ⟨RX8, "isPixel", "(II)Z"⟩
abbrev cX8_pixel : ByteArray := prog_10_method_27_code
def yX8_pixel : MethodName := ⟨RX8, "pixel", "(II)I"⟩
abbrev cX8_spread : ByteArray := prog_10_method_28_code
def yX8_spread : MethodName := ⟨RX8, "spread", "(I)V"⟩
abbrev cX8_findGroups : ByteArray := prog_10_method_29_code
def yX8_findGroups : MethodName := ⟨RX8, "findGroups", "()V"⟩
abbrev cX8_findPictures : ByteArray := prog_10_method_30_code
def yX8_findPictures : MethodName := ⟨RX8, "findPictures", "(II)I"⟩
abbrev cX8_pictures : ByteArray := prog_10_method_31_code
def yX8_pictures : MethodName := ⟨RX8, "pictures", "(III)I"⟩
abbrev cX8_group : ByteArray := prog_10_method_32_code
def yX8_group : MethodName := ⟨RX8, "group", "(IIII)I"⟩
abbrev cX8_parity : ByteArray := prog_10_method_33_code
def yX8_parity : MethodName := ⟨RX8, "parity", "(II)I"⟩
abbrev cX8_critical : ByteArray := prog_10_method_34_code
def yX8_critical : MethodName := ⟨RX8, "critical", "(II)I"⟩
abbrev cX8_criticalNow : ByteArray := prog_10_method_35_code
def yX8_criticalNow : MethodName := ⟨RX8, "criticalNow", "(II)Z"⟩
abbrev cX8_rings : ByteArray := prog_10_method_36_code
def yX8_rings : MethodName := ⟨RX8, "rings", "(I)I"⟩
abbrev cX8_brightest : ByteArray := prog_10_method_37_code
def yX8_brightest : MethodName := ⟨RX8, "brightest", "(I)I"⟩
abbrev cX8_delay : ByteArray := prog_10_method_38_code
def yX8_delay : MethodName := ⟨RX8, "delay", "(IIIIII)J"⟩
abbrev cX8_stretch : ByteArray := prog_10_method_39_code
def yX8_stretch : MethodName := ⟨RX8, "stretch", "(I)I"⟩
abbrev cX8_type : ByteArray := prog_10_method_40_code
def yX8_type : MethodName := ⟨RX8, "type", "(JI)I"⟩
abbrev cX8_clear : ByteArray := prog_10_method_41_code
def yX8_clear : MethodName := ⟨RX8, "clear", "()I"⟩
abbrev cX8_here : ByteArray := prog_10_method_42_code
def yX8_here : MethodName := ⟨RX8, "here", "()I"⟩
abbrev cX8_isDigit : ByteArray := prog_10_method_43_code
def yX8_isDigit : MethodName := ⟨RX8, "isDigit", "()Z"⟩
abbrev cX8_sign : ByteArray := prog_10_method_44_code
def yX8_sign : MethodName := ⟨RX8, "sign", "(I)V"⟩
abbrev cX8_number : ByteArray := prog_10_method_45_code
def yX8_number : MethodName := ⟨RX8, "number", "(IZ)I"⟩
abbrev cX8_item : ByteArray := prog_10_method_46_code
def yX8_item : MethodName := ⟨RX8, "item", "(I)V"⟩
abbrev cX8_read : ByteArray := prog_10_method_47_code
def yX8_read : MethodName := ⟨RX8, "read", "()I"⟩
abbrev cX8_pair : ByteArray := prog_10_method_48_code
def yX8_pair : MethodName := ⟨RX8, "pair", "(IIII)I"⟩
abbrev cX8_wipe : ByteArray := prog_10_method_49_code
def yX8_wipe : MethodName := ⟨RX8, "wipe", "()I"⟩
abbrev cX8_tolerance : ByteArray := prog_10_method_50_code
def yX8_tolerance : MethodName := ⟨RX8, "tolerance", "(II)I"⟩
abbrev cX8_modelsOf : ByteArray := prog_10_method_51_code
def yX8_modelsOf : MethodName := ⟨RX8, "modelsOf", "(II)I"⟩
abbrev cX8_keepWeights : ByteArray := prog_10_method_52_code
def yX8_keepWeights : MethodName := ⟨RX8, "keepWeights", "()V"⟩
abbrev cX8_giveBack : ByteArray := prog_10_method_53_code
def yX8_giveBack : MethodName := ⟨RX8, "giveBack", "()V"⟩
abbrev cX8_digit : ByteArray := prog_10_method_54_code
def yX8_digit : MethodName := ⟨RX8, "digit", "(III)I"⟩
abbrev cX8_weigh : ByteArray := prog_10_method_55_code
def yX8_weigh : MethodName := ⟨RX8, "weigh", "(III)V"⟩
abbrev cX8_isWithin : ByteArray := prog_10_method_56_code
def yX8_isWithin : MethodName := ⟨RX8, "isWithin", "(II)Z"⟩
abbrev cX8_doesFit : ByteArray := prog_10_method_57_code
def yX8_doesFit : MethodName := ⟨RX8, "doesFit", "()Z"⟩
abbrev cX8_isTry : ByteArray := prog_10_method_58_code
def yX8_isTry : MethodName := ⟨RX8, "isTry", "(II)Z"⟩
abbrev cX8_fits : ByteArray := prog_10_method_59_code
def yX8_fits : MethodName := ⟨RX8, "fits", "(III)I"⟩
abbrev cX8_findFitting : ByteArray := prog_10_method_60_code
def yX8_findFitting : MethodName := ⟨RX8, "findFitting", "(II)I"⟩
abbrev cX8_isAlike : ByteArray := prog_10_method_61_code
def yX8_isAlike : MethodName := ⟨RX8, "isAlike", "(IIII)Z"⟩
abbrev cX8_heap : ByteArray := prog_10_method_62_code
def yX8_heap : MethodName := ⟨RX8, "heap", "(III)I"⟩
abbrev cX8_models : ByteArray := prog_10_method_63_code
def yX8_models : MethodName := ⟨RX8, "models", "(III)I"⟩
abbrev cX8_sure : ByteArray := prog_10_method_64_code
def yX8_sure : MethodName := ⟨RX8, "sure", "(III)I"⟩
abbrev cX8_spot : ByteArray := prog_10_method_65_code
def yX8_spot : MethodName := ⟨RX8, "spot", "(II)I"⟩
abbrev cX8_forget : ByteArray := prog_10_method_66_code
def yX8_forget : MethodName := ⟨RX8, "forget", "()I"⟩
abbrev cX8_bright : ByteArray := prog_10_method_67_code
def yX8_bright : MethodName := ⟨RX8, "bright", "(III)I"⟩
abbrev cX8_farOf : ByteArray := prog_10_method_68_code
def yX8_farOf : MethodName := ⟨RX8, "farOf", "(II)I"⟩
abbrev cX8_far : ByteArray := prog_10_method_69_code
def yX8_far : MethodName := ⟨RX8, "far", "(II)I"⟩
abbrev cX8_contradicts : ByteArray := prog_10_method_70_code
def yX8_contradicts : MethodName := ⟨RX8, "contradicts", "()I"⟩
abbrev cX8_filled : ByteArray := prog_10_method_71_code
def yX8_filled : MethodName := ⟨RX8, "filled", "(II)I"⟩
abbrev cX8_count : ByteArray := prog_10_method_72_code
def yX8_count : MethodName := ⟨RX8, "count", "(I)I"⟩
abbrev cX8_trace : ByteArray := prog_10_method_73_code
def yX8_trace : MethodName := ⟨RX8, "trace", "()J"⟩
def RJ6 : String := "java/lang/Integer"
abbrev cJ6_signum_0f7a4 : ByteArray := prog_11_method_56_code
def yJ6_signum_0f7a4 : MethodName := ⟨RJ6, "signum", "(I)I"⟩
def RJ13 : String := "java/lang/Long"
abbrev cJ13_compare_74951 : ByteArray := prog_12_method_42_code
def yJ13_compare_74951 : MethodName := ⟨RJ13, "compare", "(JJ)I"⟩
def RJ9 : String := "java/lang/Math"
abbrev cJ9_floorDiv_7cf53 : ByteArray := prog_13_method_47_code
def yJ9_floorDiv_7cf53 : MethodName := ⟨RJ9, "floorDiv", "(II)I"⟩
abbrev cJ9_floorDiv_f86c9 : ByteArray := prog_13_method_49_code
def yJ9_floorDiv_f86c9 : MethodName := ⟨RJ9, "floorDiv", "(JJ)J"⟩
abbrev cJ9_abs_0f7a4 : ByteArray := prog_13_method_59_code
def yJ9_abs_0f7a4 : MethodName := ⟨RJ9, "abs", "(I)I"⟩
abbrev cJ9_max_7cf53 : ByteArray := prog_13_method_65_code
def yJ9_max_7cf53 : MethodName := ⟨RJ9, "max", "(II)I"⟩
abbrev cJ9_min_7cf53 : ByteArray := prog_13_method_69_code
def yJ9_min_7cf53 : MethodName := ⟨RJ9, "min", "(II)I"⟩
def RJ7 : String := "java/util/Arrays"
abbrev cJ7_fill_53178 : ByteArray := prog_14_method_103_code
def yJ7_fill_53178 : MethodName := ⟨RJ7, "fill", "([II)V"⟩
def RL : String := "LensBenchLaw"
abbrev cL_law : ByteArray := code
abbrev vwCl : List vw_C := [(RX0, TX0, 6), (RX1, TX1, 4), (RX2, TX2, 4), (RX3, TX3, 6), (RX4, TX4, 4), (RX5, TX5, 4), (RX6, TX6, 18), (RX7, TX7, 8), (RX8, TX8, 34)]
end
section
theorem dX0_init_0 : decode cX0_init 0 = .ok (.aload_n 0, 1) := by decide +kernel
theorem dX0_init_1 : decode cX0_init 1 = .ok (.invokespecial 3, 3) := by decide +kernel
theorem dX0_init_4 : decode cX0_init 4 = .ok (.aload_n 0, 1) := by decide +kernel
theorem dX0_init_5 : decode cX0_init 5 = .ok (.sipush 2401, 3) := by decide +kernel
theorem dX0_init_8 : decode cX0_init 8 = .ok (.newarray .int, 2) := by decide +kernel
theorem dX0_init_10 : decode cX0_init 10 = .ok (.putfield 9, 3) := by decide +kernel
theorem dX0_init_13 : decode cX0_init 13 = .ok (.aload_n 0, 1) := by decide +kernel
theorem dX0_init_14 : decode cX0_init 14 = .ok (.sipush 2401, 3) := by decide +kernel
theorem dX0_init_17 : decode cX0_init 17 = .ok (.newarray .int, 2) := by decide +kernel
theorem dX0_init_19 : decode cX0_init 19 = .ok (.putfield 15, 3) := by decide +kernel
theorem dX0_init_22 : decode cX0_init 22 = .ok (.aload_n 0, 1) := by decide +kernel
theorem dX0_init_23 : decode cX0_init 23 = .ok (.sipush 2401, 3) := by decide +kernel
theorem dX0_init_26 : decode cX0_init 26 = .ok (.newarray .int, 2) := by decide +kernel
theorem dX0_init_28 : decode cX0_init 28 = .ok (.putfield 18, 3) := by decide +kernel
theorem dX0_init_31 : decode cX0_init 31 = .ok (.aload_n 0, 1) := by decide +kernel
theorem dX0_init_32 : decode cX0_init 32 = .ok (.iconst 5, 1) := by decide +kernel
theorem dX0_init_33 : decode cX0_init 33 = .ok (.putfield 21, 3) := by decide +kernel
theorem dX0_init_36 : decode cX0_init 36 = .ok (.aload_n 0, 1) := by decide +kernel
theorem dX0_init_37 : decode cX0_init 37 = .ok (.aload_n 1, 1) := by decide +kernel
theorem dX0_init_38 : decode cX0_init 38 = .ok (.putfield 25, 3) := by decide +kernel
theorem dX0_init_41 : decode cX0_init 41 = .ok (.aload_n 0, 1) := by decide +kernel
theorem dX0_init_42 : decode cX0_init 42 = .ok (.aload_n 2, 1) := by decide +kernel
theorem dX0_init_43 : decode cX0_init 43 = .ok (.putfield 29, 3) := by decide +kernel
theorem dX0_init_46 : decode cX0_init 46 = .ok (.aload_n 0, 1) := by decide +kernel
theorem dX0_init_47 : decode cX0_init 47 = .ok (.getfield 9, 3) := by decide +kernel
theorem dX0_init_50 : decode cX0_init 50 = .ok (.bipush (-9), 2) := by decide +kernel
theorem dX0_init_52 : decode cX0_init 52 = .ok (.invokestatic 33, 3) := by decide +kernel
theorem dX0_init_55 : decode cX0_init 55 = .ok (.return_, 1) := by decide +kernel
theorem dX0_toldCount_0 : decode cX0_toldCount 0 = .ok (.iconst 0, 1) := by decide +kernel
theorem dX0_toldCount_1 : decode cX0_toldCount 1 = .ok (.istore_n 1, 1) := by decide +kernel
theorem dX0_toldCount_2 : decode cX0_toldCount 2 = .ok (.iconst 0, 1) := by decide +kernel
theorem dX0_toldCount_3 : decode cX0_toldCount 3 = .ok (.istore_n 2, 1) := by decide +kernel
theorem dX0_toldCount_4 : decode cX0_toldCount 4 = .ok (.iload_n 2, 1) := by decide +kernel
theorem dX0_toldCount_5 : decode cX0_toldCount 5 = .ok (.sipush 2401, 3) := by decide +kernel
theorem dX0_toldCount_8 : decode cX0_toldCount 8 = .ok (.if_icmp .ge 28, 3) := by decide +kernel
theorem dX0_toldCount_11 : decode cX0_toldCount 11 = .ok (.iload_n 1, 1) := by decide +kernel
theorem dX0_toldCount_12 : decode cX0_toldCount 12 = .ok (.aload_n 0, 1) := by decide +kernel
theorem dX0_toldCount_13 : decode cX0_toldCount 13 = .ok (.getfield 9, 3) := by decide +kernel
theorem dX0_toldCount_16 : decode cX0_toldCount 16 = .ok (.iload_n 2, 1) := by decide +kernel
theorem dX0_toldCount_17 : decode cX0_toldCount 17 = .ok (.iaload, 1) := by decide +kernel
theorem dX0_toldCount_18 : decode cX0_toldCount 18 = .ok (.bipush (-9), 2) := by decide +kernel
theorem dX0_toldCount_20 : decode cX0_toldCount 20 = .ok (.if_icmp .eq 7, 3) := by decide +kernel
theorem dX0_toldCount_23 : decode cX0_toldCount 23 = .ok (.iconst 1, 1) := by decide +kernel
theorem dX0_toldCount_24 : decode cX0_toldCount 24 = .ok (.goto 4, 3) := by decide +kernel
theorem dX0_toldCount_27 : decode cX0_toldCount 27 = .ok (.iconst 0, 1) := by decide +kernel
theorem dX0_toldCount_28 : decode cX0_toldCount 28 = .ok (.iadd, 1) := by decide +kernel
theorem dX0_toldCount_29 : decode cX0_toldCount 29 = .ok (.istore_n 1, 1) := by decide +kernel
theorem dX0_toldCount_30 : decode cX0_toldCount 30 = .ok (.iinc 2 1, 3) := by decide +kernel
theorem dX0_toldCount_33 : decode cX0_toldCount 33 = .ok (.goto (-29), 3) := by decide +kernel
theorem dX0_toldCount_36 : decode cX0_toldCount 36 = .ok (.iload_n 1, 1) := by decide +kernel
theorem dX0_toldCount_37 : decode cX0_toldCount 37 = .ok (.ireturn, 1) := by decide +kernel
theorem dX0_farOf_0 : decode cX0_farOf 0 = .ok (.iconst 0, 1) := by decide +kernel
theorem dX0_farOf_1 : decode cX0_farOf 1 = .ok (.istore_n 2, 1) := by decide +kernel
theorem dX0_farOf_2 : decode cX0_farOf 2 = .ok (.iconst 0, 1) := by decide +kernel
theorem dX0_farOf_3 : decode cX0_farOf 3 = .ok (.istore_n 3, 1) := by decide +kernel
theorem dX0_farOf_4 : decode cX0_farOf 4 = .ok (.iconst 0, 1) := by decide +kernel
theorem dX0_farOf_5 : decode cX0_farOf 5 = .ok (.istore 4, 2) := by decide +kernel
theorem dX0_farOf_7 : decode cX0_farOf 7 = .ok (.iload 4, 2) := by decide +kernel
theorem dX0_farOf_9 : decode cX0_farOf 9 = .ok (.sipush 2401, 3) := by decide +kernel
theorem dX0_farOf_12 : decode cX0_farOf 12 = .ok (.if_icmp .ge 48, 3) := by decide +kernel
theorem dX0_farOf_15 : decode cX0_farOf 15 = .ok (.aload_n 0, 1) := by decide +kernel
theorem dX0_farOf_16 : decode cX0_farOf 16 = .ok (.getfield 9, 3) := by decide +kernel
theorem dX0_farOf_19 : decode cX0_farOf 19 = .ok (.iload 4, 2) := by decide +kernel
theorem dX0_farOf_21 : decode cX0_farOf 21 = .ok (.iaload, 1) := by decide +kernel
theorem dX0_farOf_22 : decode cX0_farOf 22 = .ok (.bipush (-9), 2) := by decide +kernel
theorem dX0_farOf_24 : decode cX0_farOf 24 = .ok (.if_icmp .eq 30, 3) := by decide +kernel
theorem dX0_farOf_27 : decode cX0_farOf 27 = .ok (.aload_n 0, 1) := by decide +kernel
theorem dX0_farOf_28 : decode cX0_farOf 28 = .ok (.getfield 25, 3) := by decide +kernel
theorem dX0_farOf_31 : decode cX0_farOf 31 = .ok (.getfield 39, 3) := by decide +kernel
theorem dX0_farOf_34 : decode cX0_farOf 34 = .ok (.iload 4, 2) := by decide +kernel
theorem dX0_farOf_36 : decode cX0_farOf 36 = .ok (.iaload, 1) := by decide +kernel
theorem dX0_farOf_37 : decode cX0_farOf 37 = .ok (.iload_n 1, 1) := by decide +kernel
theorem dX0_farOf_38 : decode cX0_farOf 38 = .ok (.if_icmp .ne 16, 3) := by decide +kernel
theorem dX0_farOf_41 : decode cX0_farOf 41 = .ok (.iload_n 2, 1) := by decide +kernel
theorem dX0_farOf_42 : decode cX0_farOf 42 = .ok (.aload_n 0, 1) := by decide +kernel
theorem dX0_farOf_43 : decode cX0_farOf 43 = .ok (.getfield 9, 3) := by decide +kernel
theorem dX0_farOf_46 : decode cX0_farOf 46 = .ok (.iload 4, 2) := by decide +kernel
theorem dX0_farOf_48 : decode cX0_farOf 48 = .ok (.iaload, 1) := by decide +kernel
theorem dX0_farOf_49 : decode cX0_farOf 49 = .ok (.iadd, 1) := by decide +kernel
theorem dX0_farOf_50 : decode cX0_farOf 50 = .ok (.istore_n 2, 1) := by decide +kernel
theorem dX0_farOf_51 : decode cX0_farOf 51 = .ok (.iinc 3 1, 3) := by decide +kernel
theorem dX0_farOf_54 : decode cX0_farOf 54 = .ok (.iinc 4 1, 3) := by decide +kernel
theorem dX0_farOf_57 : decode cX0_farOf 57 = .ok (.goto (-50), 3) := by decide +kernel
theorem dX0_farOf_60 : decode cX0_farOf 60 = .ok (.iload_n 3, 1) := by decide +kernel
theorem dX0_farOf_61 : decode cX0_farOf 61 = .ok (.ifCond .ne 8, 3) := by decide +kernel
theorem dX0_farOf_64 : decode cX0_farOf 64 = .ok (.bipush (-9), 2) := by decide +kernel
theorem dX0_farOf_66 : decode cX0_farOf 66 = .ok (.goto 6, 3) := by decide +kernel
theorem dX0_farOf_69 : decode cX0_farOf 69 = .ok (.iload_n 2, 1) := by decide +kernel
theorem dX0_farOf_70 : decode cX0_farOf 70 = .ok (.iload_n 3, 1) := by decide +kernel
theorem dX0_farOf_71 : decode cX0_farOf 71 = .ok (.idiv, 1) := by decide +kernel
theorem dX0_farOf_72 : decode cX0_farOf 72 = .ok (.ireturn, 1) := by decide +kernel
theorem dX0_contradictions_0 : decode cX0_contradictions 0 = .ok (.aload_n 0, 1) := by decide +kernel
theorem dX0_contradictions_1 : decode cX0_contradictions 1 = .ok (.getfield 29, 3) := by decide +kernel
theorem dX0_contradictions_4 : decode cX0_contradictions 4 = .ok (.invokevirtual 44, 3) := by decide +kernel
theorem dX0_contradictions_7 : decode cX0_contradictions 7 = .ok (.iconst 0, 1) := by decide +kernel
theorem dX0_contradictions_8 : decode cX0_contradictions 8 = .ok (.istore_n 1, 1) := by decide +kernel
theorem dX0_contradictions_9 : decode cX0_contradictions 9 = .ok (.iload_n 1, 1) := by decide +kernel
theorem dX0_contradictions_10 : decode cX0_contradictions 10 = .ok (.sipush 2401, 3) := by decide +kernel
theorem dX0_contradictions_13 : decode cX0_contradictions 13 = .ok (.if_icmp .ge 39, 3) := by decide +kernel
theorem dX0_contradictions_16 : decode cX0_contradictions 16 = .ok (.aload_n 0, 1) := by decide +kernel
theorem dX0_contradictions_17 : decode cX0_contradictions 17 = .ok (.getfield 9, 3) := by decide +kernel
theorem dX0_contradictions_20 : decode cX0_contradictions 20 = .ok (.iload_n 1, 1) := by decide +kernel
theorem dX0_contradictions_21 : decode cX0_contradictions 21 = .ok (.iaload, 1) := by decide +kernel
theorem dX0_contradictions_22 : decode cX0_contradictions 22 = .ok (.bipush (-9), 2) := by decide +kernel
theorem dX0_contradictions_24 : decode cX0_contradictions 24 = .ok (.if_icmp .eq 22, 3) := by decide +kernel
theorem dX0_contradictions_27 : decode cX0_contradictions 27 = .ok (.aload_n 0, 1) := by decide +kernel
theorem dX0_contradictions_28 : decode cX0_contradictions 28 = .ok (.aload_n 0, 1) := by decide +kernel
theorem dX0_contradictions_29 : decode cX0_contradictions 29 = .ok (.getfield 9, 3) := by decide +kernel
theorem dX0_contradictions_32 : decode cX0_contradictions 32 = .ok (.iload_n 1, 1) := by decide +kernel
theorem dX0_contradictions_33 : decode cX0_contradictions 33 = .ok (.iaload, 1) := by decide +kernel
theorem dX0_contradictions_34 : decode cX0_contradictions 34 = .ok (.aload_n 0, 1) := by decide +kernel
theorem dX0_contradictions_35 : decode cX0_contradictions 35 = .ok (.getfield 25, 3) := by decide +kernel
theorem dX0_contradictions_38 : decode cX0_contradictions 38 = .ok (.getfield 39, 3) := by decide +kernel
theorem dX0_contradictions_41 : decode cX0_contradictions 41 = .ok (.iload_n 1, 1) := by decide +kernel
theorem dX0_contradictions_42 : decode cX0_contradictions 42 = .ok (.iaload, 1) := by decide +kernel
theorem dX0_contradictions_43 : decode cX0_contradictions 43 = .ok (.invokevirtual 49, 3) := by decide +kernel
theorem dX0_contradictions_46 : decode cX0_contradictions 46 = .ok (.iinc 1 1, 3) := by decide +kernel
theorem dX0_contradictions_49 : decode cX0_contradictions 49 = .ok (.goto (-40), 3) := by decide +kernel
theorem dX0_contradictions_52 : decode cX0_contradictions 52 = .ok (.iconst 0, 1) := by decide +kernel
theorem dX0_contradictions_53 : decode cX0_contradictions 53 = .ok (.istore_n 1, 1) := by decide +kernel
theorem dX0_contradictions_54 : decode cX0_contradictions 54 = .ok (.iconst 0, 1) := by decide +kernel
theorem dX0_contradictions_55 : decode cX0_contradictions 55 = .ok (.istore_n 2, 1) := by decide +kernel
theorem dX0_contradictions_56 : decode cX0_contradictions 56 = .ok (.iload_n 2, 1) := by decide +kernel
theorem dX0_contradictions_57 : decode cX0_contradictions 57 = .ok (.aload_n 0, 1) := by decide +kernel
theorem dX0_contradictions_58 : decode cX0_contradictions 58 = .ok (.getfield 29, 3) := by decide +kernel
theorem dX0_contradictions_61 : decode cX0_contradictions 61 = .ok (.getfield 53, 3) := by decide +kernel
theorem dX0_contradictions_64 : decode cX0_contradictions 64 = .ok (.if_icmp .ge 44, 3) := by decide +kernel
theorem dX0_contradictions_67 : decode cX0_contradictions 67 = .ok (.iload_n 2, 1) := by decide +kernel
theorem dX0_contradictions_68 : decode cX0_contradictions 68 = .ok (.sipush 2401, 3) := by decide +kernel
theorem dX0_contradictions_71 : decode cX0_contradictions 71 = .ok (.if_icmp .ge 37, 3) := by decide +kernel
theorem dX0_contradictions_74 : decode cX0_contradictions 74 = .ok (.iload_n 1, 1) := by decide +kernel
theorem dX0_contradictions_75 : decode cX0_contradictions 75 = .ok (.aload_n 0, 1) := by decide +kernel
theorem dX0_contradictions_76 : decode cX0_contradictions 76 = .ok (.getfield 18, 3) := by decide +kernel
theorem dX0_contradictions_79 : decode cX0_contradictions 79 = .ok (.iload_n 2, 1) := by decide +kernel
theorem dX0_contradictions_80 : decode cX0_contradictions 80 = .ok (.iaload, 1) := by decide +kernel
theorem dX0_contradictions_81 : decode cX0_contradictions 81 = .ok (.aload_n 0, 1) := by decide +kernel
theorem dX0_contradictions_82 : decode cX0_contradictions 82 = .ok (.getfield 15, 3) := by decide +kernel
theorem dX0_contradictions_85 : decode cX0_contradictions 85 = .ok (.iload_n 2, 1) := by decide +kernel
theorem dX0_contradictions_86 : decode cX0_contradictions 86 = .ok (.iaload, 1) := by decide +kernel
theorem dX0_contradictions_87 : decode cX0_contradictions 87 = .ok (.isub, 1) := by decide +kernel
theorem dX0_contradictions_88 : decode cX0_contradictions 88 = .ok (.aload_n 0, 1) := by decide +kernel
theorem dX0_contradictions_89 : decode cX0_contradictions 89 = .ok (.getfield 21, 3) := by decide +kernel
theorem dX0_contradictions_92 : decode cX0_contradictions 92 = .ok (.if_icmp .le 7, 3) := by decide +kernel
theorem dX0_contradictions_95 : decode cX0_contradictions 95 = .ok (.iconst 1, 1) := by decide +kernel
theorem dX0_contradictions_96 : decode cX0_contradictions 96 = .ok (.goto 4, 3) := by decide +kernel
theorem dX0_contradictions_99 : decode cX0_contradictions 99 = .ok (.iconst 0, 1) := by decide +kernel
theorem dX0_contradictions_100 : decode cX0_contradictions 100 = .ok (.iadd, 1) := by decide +kernel
theorem dX0_contradictions_101 : decode cX0_contradictions 101 = .ok (.istore_n 1, 1) := by decide +kernel
theorem dX0_contradictions_102 : decode cX0_contradictions 102 = .ok (.iinc 2 1, 3) := by decide +kernel
theorem dX0_contradictions_105 : decode cX0_contradictions 105 = .ok (.goto (-49), 3) := by decide +kernel
theorem dX0_contradictions_108 : decode cX0_contradictions 108 = .ok (.iload_n 1, 1) := by decide +kernel
theorem dX0_contradictions_109 : decode cX0_contradictions 109 = .ok (.ireturn, 1) := by decide +kernel
theorem dX0_widen_0 : decode cX0_widen 0 = .ok (.aload_n 0, 1) := by decide +kernel
theorem dX0_widen_1 : decode cX0_widen 1 = .ok (.getfield 29, 3) := by decide +kernel
theorem dX0_widen_4 : decode cX0_widen 4 = .ok (.getfield 53, 3) := by decide +kernel
theorem dX0_widen_7 : decode cX0_widen 7 = .ok (.istore_n 3, 1) := by decide +kernel
theorem dX0_widen_8 : decode cX0_widen 8 = .ok (.aload_n 0, 1) := by decide +kernel
theorem dX0_widen_9 : decode cX0_widen 9 = .ok (.getfield 29, 3) := by decide +kernel
theorem dX0_widen_12 : decode cX0_widen 12 = .ok (.iload_n 2, 1) := by decide +kernel
theorem dX0_widen_13 : decode cX0_widen 13 = .ok (.invokevirtual 56, 3) := by decide +kernel
theorem dX0_widen_16 : decode cX0_widen 16 = .ok (.istore 4, 2) := by decide +kernel
theorem dX0_widen_18 : decode cX0_widen 18 = .ok (.iload 4, 2) := by decide +kernel
theorem dX0_widen_20 : decode cX0_widen 20 = .ok (.sipush 2401, 3) := by decide +kernel
theorem dX0_widen_23 : decode cX0_widen 23 = .ok (.if_icmp .lt 4, 3) := by decide +kernel
theorem dX0_widen_26 : decode cX0_widen 26 = .ok (.return_, 1) := by decide +kernel
theorem dX0_widen_27 : decode cX0_widen 27 = .ok (.aload_n 0, 1) := by decide +kernel
theorem dX0_widen_28 : decode cX0_widen 28 = .ok (.getfield 29, 3) := by decide +kernel
theorem dX0_widen_31 : decode cX0_widen 31 = .ok (.getfield 53, 3) := by decide +kernel
theorem dX0_widen_34 : decode cX0_widen 34 = .ok (.iload_n 3, 1) := by decide +kernel
theorem dX0_widen_35 : decode cX0_widen 35 = .ok (.if_icmp .le 7, 3) := by decide +kernel
theorem dX0_widen_38 : decode cX0_widen 38 = .ok (.iconst 1, 1) := by decide +kernel
theorem dX0_widen_39 : decode cX0_widen 39 = .ok (.goto 4, 3) := by decide +kernel
theorem dX0_widen_42 : decode cX0_widen 42 = .ok (.iconst 0, 1) := by decide +kernel
theorem dX0_widen_43 : decode cX0_widen 43 = .ok (.istore 5, 2) := by decide +kernel
theorem dX0_widen_45 : decode cX0_widen 45 = .ok (.aload_n 0, 1) := by decide +kernel
theorem dX0_widen_46 : decode cX0_widen 46 = .ok (.getfield 15, 3) := by decide +kernel
theorem dX0_widen_49 : decode cX0_widen 49 = .ok (.iload 4, 2) := by decide +kernel
theorem dX0_widen_51 : decode cX0_widen 51 = .ok (.iload 5, 2) := by decide +kernel
theorem dX0_widen_53 : decode cX0_widen 53 = .ok (.ifCond .eq 7, 3) := by decide +kernel
theorem dX0_widen_56 : decode cX0_widen 56 = .ok (.iload_n 1, 1) := by decide +kernel
theorem dX0_widen_57 : decode cX0_widen 57 = .ok (.goto 14, 3) := by decide +kernel
theorem dX0_widen_60 : decode cX0_widen 60 = .ok (.aload_n 0, 1) := by decide +kernel
theorem dX0_widen_61 : decode cX0_widen 61 = .ok (.getfield 15, 3) := by decide +kernel
theorem dX0_widen_64 : decode cX0_widen 64 = .ok (.iload 4, 2) := by decide +kernel
theorem dX0_widen_66 : decode cX0_widen 66 = .ok (.iaload, 1) := by decide +kernel
theorem dX0_widen_67 : decode cX0_widen 67 = .ok (.iload_n 1, 1) := by decide +kernel
theorem dX0_widen_68 : decode cX0_widen 68 = .ok (.invokestatic 60, 3) := by decide +kernel
theorem dX0_widen_71 : decode cX0_widen 71 = .ok (.iastore, 1) := by decide +kernel
theorem dX0_widen_72 : decode cX0_widen 72 = .ok (.aload_n 0, 1) := by decide +kernel
theorem dX0_widen_73 : decode cX0_widen 73 = .ok (.getfield 18, 3) := by decide +kernel
theorem dX0_widen_76 : decode cX0_widen 76 = .ok (.iload 4, 2) := by decide +kernel
theorem dX0_widen_78 : decode cX0_widen 78 = .ok (.iload 5, 2) := by decide +kernel
theorem dX0_widen_80 : decode cX0_widen 80 = .ok (.ifCond .eq 7, 3) := by decide +kernel
theorem dX0_widen_83 : decode cX0_widen 83 = .ok (.iload_n 1, 1) := by decide +kernel
theorem dX0_widen_84 : decode cX0_widen 84 = .ok (.goto 14, 3) := by decide +kernel
theorem dX0_widen_87 : decode cX0_widen 87 = .ok (.aload_n 0, 1) := by decide +kernel
theorem dX0_widen_88 : decode cX0_widen 88 = .ok (.getfield 18, 3) := by decide +kernel
theorem dX0_widen_91 : decode cX0_widen 91 = .ok (.iload 4, 2) := by decide +kernel
theorem dX0_widen_93 : decode cX0_widen 93 = .ok (.iaload, 1) := by decide +kernel
theorem dX0_widen_94 : decode cX0_widen 94 = .ok (.iload_n 1, 1) := by decide +kernel
theorem dX0_widen_95 : decode cX0_widen 95 = .ok (.invokestatic 66, 3) := by decide +kernel
theorem dX0_widen_98 : decode cX0_widen 98 = .ok (.iastore, 1) := by decide +kernel
theorem dX0_widen_99 : decode cX0_widen 99 = .ok (.return_, 1) := by decide +kernel
theorem dX1_init_0 : decode cX1_init 0 = .ok (.aload_n 0, 1) := by decide +kernel
theorem dX1_init_1 : decode cX1_init 1 = .ok (.invokespecial 3, 3) := by decide +kernel
theorem dX1_init_4 : decode cX1_init 4 = .ok (.aload_n 0, 1) := by decide +kernel
theorem dX1_init_5 : decode cX1_init 5 = .ok (.sipush 2401, 3) := by decide +kernel
theorem dX1_init_8 : decode cX1_init 8 = .ok (.newarray .boolean, 2) := by decide +kernel
theorem dX1_init_10 : decode cX1_init 10 = .ok (.putfield 9, 3) := by decide +kernel
theorem dX1_init_13 : decode cX1_init 13 = .ok (.aload_n 0, 1) := by decide +kernel
theorem dX1_init_14 : decode cX1_init 14 = .ok (.sipush 2401, 3) := by decide +kernel
theorem dX1_init_17 : decode cX1_init 17 = .ok (.newarray .int, 2) := by decide +kernel
theorem dX1_init_19 : decode cX1_init 19 = .ok (.putfield 15, 3) := by decide +kernel
theorem dX1_init_22 : decode cX1_init 22 = .ok (.return_, 1) := by decide +kernel
theorem dX1_split_0 : decode cX1_split 0 = .ok (.iconst 0, 1) := by decide +kernel
theorem dX1_split_1 : decode cX1_split 1 = .ok (.istore_n 2, 1) := by decide +kernel
theorem dX1_split_2 : decode cX1_split 2 = .ok (.iconst 0, 1) := by decide +kernel
theorem dX1_split_3 : decode cX1_split 3 = .ok (.istore_n 3, 1) := by decide +kernel
theorem dX1_split_4 : decode cX1_split 4 = .ok (.iload_n 3, 1) := by decide +kernel
theorem dX1_split_5 : decode cX1_split 5 = .ok (.sipush 2401, 3) := by decide +kernel
theorem dX1_split_8 : decode cX1_split 8 = .ok (.if_icmp .ge 44, 3) := by decide +kernel
theorem dX1_split_11 : decode cX1_split 11 = .ok (.aload_n 0, 1) := by decide +kernel
theorem dX1_split_12 : decode cX1_split 12 = .ok (.getfield 9, 3) := by decide +kernel
theorem dX1_split_15 : decode cX1_split 15 = .ok (.iload_n 3, 1) := by decide +kernel
theorem dX1_split_16 : decode cX1_split 16 = .ok (.baload, 1) := by decide +kernel
theorem dX1_split_17 : decode cX1_split 17 = .ok (.ifCond .eq 29, 3) := by decide +kernel
theorem dX1_split_20 : decode cX1_split 20 = .ok (.aload_n 0, 1) := by decide +kernel
theorem dX1_split_21 : decode cX1_split 21 = .ok (.iload_n 3, 1) := by decide +kernel
theorem dX1_split_22 : decode cX1_split 22 = .ok (.invokevirtual 19, 3) := by decide +kernel
theorem dX1_split_25 : decode cX1_split 25 = .ok (.istore 4, 2) := by decide +kernel
theorem dX1_split_27 : decode cX1_split 27 = .ok (.iload_n 2, 1) := by decide +kernel
theorem dX1_split_28 : decode cX1_split 28 = .ok (.iload_n 1, 1) := by decide +kernel
theorem dX1_split_29 : decode cX1_split 29 = .ok (.if_icmp .ne 14, 3) := by decide +kernel
theorem dX1_split_32 : decode cX1_split 32 = .ok (.aload_n 0, 1) := by decide +kernel
theorem dX1_split_33 : decode cX1_split 33 = .ok (.iload_n 3, 1) := by decide +kernel
theorem dX1_split_34 : decode cX1_split 34 = .ok (.putfield 23, 3) := by decide +kernel
theorem dX1_split_37 : decode cX1_split 37 = .ok (.aload_n 0, 1) := by decide +kernel
theorem dX1_split_38 : decode cX1_split 38 = .ok (.iload 4, 2) := by decide +kernel
theorem dX1_split_40 : decode cX1_split 40 = .ok (.putfield 27, 3) := by decide +kernel
theorem dX1_split_43 : decode cX1_split 43 = .ok (.iinc 2 1, 3) := by decide +kernel
theorem dX1_split_46 : decode cX1_split 46 = .ok (.iinc 3 1, 3) := by decide +kernel
theorem dX1_split_49 : decode cX1_split 49 = .ok (.goto (-45), 3) := by decide +kernel
theorem dX1_split_52 : decode cX1_split 52 = .ok (.iload_n 2, 1) := by decide +kernel
theorem dX1_split_53 : decode cX1_split 53 = .ok (.ireturn, 1) := by decide +kernel
theorem dX1_collect_0 : decode cX1_collect 0 = .ok (.aload_n 0, 1) := by decide +kernel
theorem dX1_collect_1 : decode cX1_collect 1 = .ok (.getfield 9, 3) := by decide +kernel
theorem dX1_collect_4 : decode cX1_collect 4 = .ok (.iload_n 1, 1) := by decide +kernel
theorem dX1_collect_5 : decode cX1_collect 5 = .ok (.iconst 0, 1) := by decide +kernel
theorem dX1_collect_6 : decode cX1_collect 6 = .ok (.bastore, 1) := by decide +kernel
theorem dX1_collect_7 : decode cX1_collect 7 = .ok (.aload_n 0, 1) := by decide +kernel
theorem dX1_collect_8 : decode cX1_collect 8 = .ok (.getfield 15, 3) := by decide +kernel
theorem dX1_collect_11 : decode cX1_collect 11 = .ok (.iconst 0, 1) := by decide +kernel
theorem dX1_collect_12 : decode cX1_collect 12 = .ok (.iload_n 1, 1) := by decide +kernel
theorem dX1_collect_13 : decode cX1_collect 13 = .ok (.iastore, 1) := by decide +kernel
theorem dX1_collect_14 : decode cX1_collect 14 = .ok (.iconst 1, 1) := by decide +kernel
theorem dX1_collect_15 : decode cX1_collect 15 = .ok (.istore_n 2, 1) := by decide +kernel
theorem dX1_collect_16 : decode cX1_collect 16 = .ok (.iconst 0, 1) := by decide +kernel
theorem dX1_collect_17 : decode cX1_collect 17 = .ok (.istore_n 3, 1) := by decide +kernel
theorem dX1_collect_18 : decode cX1_collect 18 = .ok (.iload_n 3, 1) := by decide +kernel
theorem dX1_collect_19 : decode cX1_collect 19 = .ok (.iload_n 2, 1) := by decide +kernel
theorem dX1_collect_20 : decode cX1_collect 20 = .ok (.if_icmp .ge 28, 3) := by decide +kernel
theorem dX1_collect_23 : decode cX1_collect 23 = .ok (.iload_n 3, 1) := by decide +kernel
theorem dX1_collect_24 : decode cX1_collect 24 = .ok (.sipush 2401, 3) := by decide +kernel
theorem dX1_collect_27 : decode cX1_collect 27 = .ok (.if_icmp .ge 21, 3) := by decide +kernel
theorem dX1_collect_30 : decode cX1_collect 30 = .ok (.aload_n 0, 1) := by decide +kernel
theorem dX1_collect_31 : decode cX1_collect 31 = .ok (.aload_n 0, 1) := by decide +kernel
theorem dX1_collect_32 : decode cX1_collect 32 = .ok (.getfield 15, 3) := by decide +kernel
theorem dX1_collect_35 : decode cX1_collect 35 = .ok (.iload_n 3, 1) := by decide +kernel
theorem dX1_collect_36 : decode cX1_collect 36 = .ok (.iaload, 1) := by decide +kernel
theorem dX1_collect_37 : decode cX1_collect 37 = .ok (.iload_n 2, 1) := by decide +kernel
theorem dX1_collect_38 : decode cX1_collect 38 = .ok (.invokevirtual 30, 3) := by decide +kernel
theorem dX1_collect_41 : decode cX1_collect 41 = .ok (.istore_n 2, 1) := by decide +kernel
theorem dX1_collect_42 : decode cX1_collect 42 = .ok (.iinc 3 1, 3) := by decide +kernel
theorem dX1_collect_45 : decode cX1_collect 45 = .ok (.goto (-27), 3) := by decide +kernel
theorem dX1_collect_48 : decode cX1_collect 48 = .ok (.iload_n 2, 1) := by decide +kernel
theorem dX1_collect_49 : decode cX1_collect 49 = .ok (.ireturn, 1) := by decide +kernel
theorem dX1_queueNeighbours_0 : decode cX1_queueNeighbours 0 = .ok (.iload_n 2, 1) := by decide +kernel
theorem dX1_queueNeighbours_1 : decode cX1_queueNeighbours 1 = .ok (.istore_n 3, 1) := by decide +kernel
theorem dX1_queueNeighbours_2 : decode cX1_queueNeighbours 2 = .ok (.iload_n 1, 1) := by decide +kernel
theorem dX1_queueNeighbours_3 : decode cX1_queueNeighbours 3 = .ok (.bipush 49, 2) := by decide +kernel
theorem dX1_queueNeighbours_5 : decode cX1_queueNeighbours 5 = .ok (.irem, 1) := by decide +kernel
theorem dX1_queueNeighbours_6 : decode cX1_queueNeighbours 6 = .ok (.istore 4, 2) := by decide +kernel
theorem dX1_queueNeighbours_8 : decode cX1_queueNeighbours 8 = .ok (.iload_n 1, 1) := by decide +kernel
theorem dX1_queueNeighbours_9 : decode cX1_queueNeighbours 9 = .ok (.bipush 49, 2) := by decide +kernel
theorem dX1_queueNeighbours_11 : decode cX1_queueNeighbours 11 = .ok (.idiv, 1) := by decide +kernel
theorem dX1_queueNeighbours_12 : decode cX1_queueNeighbours 12 = .ok (.istore 5, 2) := by decide +kernel
theorem dX1_queueNeighbours_14 : decode cX1_queueNeighbours 14 = .ok (.iload 5, 2) := by decide +kernel
theorem dX1_queueNeighbours_16 : decode cX1_queueNeighbours 16 = .ok (.iconst 1, 1) := by decide +kernel
theorem dX1_queueNeighbours_17 : decode cX1_queueNeighbours 17 = .ok (.isub, 1) := by decide +kernel
theorem dX1_queueNeighbours_18 : decode cX1_queueNeighbours 18 = .ok (.iconst 0, 1) := by decide +kernel
theorem dX1_queueNeighbours_19 : decode cX1_queueNeighbours 19 = .ok (.invokestatic 34, 3) := by decide +kernel
theorem dX1_queueNeighbours_22 : decode cX1_queueNeighbours 22 = .ok (.istore 6, 2) := by decide +kernel
theorem dX1_queueNeighbours_24 : decode cX1_queueNeighbours 24 = .ok (.iload 6, 2) := by decide +kernel
theorem dX1_queueNeighbours_26 : decode cX1_queueNeighbours 26 = .ok (.iload 5, 2) := by decide +kernel
theorem dX1_queueNeighbours_28 : decode cX1_queueNeighbours 28 = .ok (.iconst 1, 1) := by decide +kernel
theorem dX1_queueNeighbours_29 : decode cX1_queueNeighbours 29 = .ok (.iadd, 1) := by decide +kernel
theorem dX1_queueNeighbours_30 : decode cX1_queueNeighbours 30 = .ok (.bipush 48, 2) := by decide +kernel
theorem dX1_queueNeighbours_32 : decode cX1_queueNeighbours 32 = .ok (.invokestatic 39, 3) := by decide +kernel
theorem dX1_queueNeighbours_35 : decode cX1_queueNeighbours 35 = .ok (.if_icmp .gt 85, 3) := by decide +kernel
theorem dX1_queueNeighbours_38 : decode cX1_queueNeighbours 38 = .ok (.iload 4, 2) := by decide +kernel
theorem dX1_queueNeighbours_40 : decode cX1_queueNeighbours 40 = .ok (.iconst 1, 1) := by decide +kernel
theorem dX1_queueNeighbours_41 : decode cX1_queueNeighbours 41 = .ok (.isub, 1) := by decide +kernel
theorem dX1_queueNeighbours_42 : decode cX1_queueNeighbours 42 = .ok (.iconst 0, 1) := by decide +kernel
theorem dX1_queueNeighbours_43 : decode cX1_queueNeighbours 43 = .ok (.invokestatic 34, 3) := by decide +kernel
theorem dX1_queueNeighbours_46 : decode cX1_queueNeighbours 46 = .ok (.istore 7, 2) := by decide +kernel
theorem dX1_queueNeighbours_48 : decode cX1_queueNeighbours 48 = .ok (.iload 7, 2) := by decide +kernel
theorem dX1_queueNeighbours_50 : decode cX1_queueNeighbours 50 = .ok (.iload 4, 2) := by decide +kernel
theorem dX1_queueNeighbours_52 : decode cX1_queueNeighbours 52 = .ok (.iconst 1, 1) := by decide +kernel
theorem dX1_queueNeighbours_53 : decode cX1_queueNeighbours 53 = .ok (.iadd, 1) := by decide +kernel
theorem dX1_queueNeighbours_54 : decode cX1_queueNeighbours 54 = .ok (.bipush 48, 2) := by decide +kernel
theorem dX1_queueNeighbours_56 : decode cX1_queueNeighbours 56 = .ok (.invokestatic 39, 3) := by decide +kernel
theorem dX1_queueNeighbours_59 : decode cX1_queueNeighbours 59 = .ok (.if_icmp .gt 55, 3) := by decide +kernel
theorem dX1_queueNeighbours_62 : decode cX1_queueNeighbours 62 = .ok (.iload 6, 2) := by decide +kernel
theorem dX1_queueNeighbours_64 : decode cX1_queueNeighbours 64 = .ok (.bipush 49, 2) := by decide +kernel
theorem dX1_queueNeighbours_66 : decode cX1_queueNeighbours 66 = .ok (.imul, 1) := by decide +kernel
theorem dX1_queueNeighbours_67 : decode cX1_queueNeighbours 67 = .ok (.iload 7, 2) := by decide +kernel
theorem dX1_queueNeighbours_69 : decode cX1_queueNeighbours 69 = .ok (.iadd, 1) := by decide +kernel
theorem dX1_queueNeighbours_70 : decode cX1_queueNeighbours 70 = .ok (.istore 8, 2) := by decide +kernel
theorem dX1_queueNeighbours_72 : decode cX1_queueNeighbours 72 = .ok (.aload_n 0, 1) := by decide +kernel
theorem dX1_queueNeighbours_73 : decode cX1_queueNeighbours 73 = .ok (.getfield 9, 3) := by decide +kernel
theorem dX1_queueNeighbours_76 : decode cX1_queueNeighbours 76 = .ok (.iload 8, 2) := by decide +kernel
theorem dX1_queueNeighbours_78 : decode cX1_queueNeighbours 78 = .ok (.baload, 1) := by decide +kernel
theorem dX1_queueNeighbours_79 : decode cX1_queueNeighbours 79 = .ok (.ifCond .eq 29, 3) := by decide +kernel
theorem dX1_queueNeighbours_82 : decode cX1_queueNeighbours 82 = .ok (.iload_n 3, 1) := by decide +kernel
theorem dX1_queueNeighbours_83 : decode cX1_queueNeighbours 83 = .ok (.sipush 2401, 3) := by decide +kernel
theorem dX1_queueNeighbours_86 : decode cX1_queueNeighbours 86 = .ok (.if_icmp .ge 22, 3) := by decide +kernel
theorem dX1_queueNeighbours_89 : decode cX1_queueNeighbours 89 = .ok (.aload_n 0, 1) := by decide +kernel
theorem dX1_queueNeighbours_90 : decode cX1_queueNeighbours 90 = .ok (.getfield 9, 3) := by decide +kernel
theorem dX1_queueNeighbours_93 : decode cX1_queueNeighbours 93 = .ok (.iload 8, 2) := by decide +kernel
theorem dX1_queueNeighbours_95 : decode cX1_queueNeighbours 95 = .ok (.iconst 0, 1) := by decide +kernel
theorem dX1_queueNeighbours_96 : decode cX1_queueNeighbours 96 = .ok (.bastore, 1) := by decide +kernel
theorem dX1_queueNeighbours_97 : decode cX1_queueNeighbours 97 = .ok (.aload_n 0, 1) := by decide +kernel
theorem dX1_queueNeighbours_98 : decode cX1_queueNeighbours 98 = .ok (.getfield 15, 3) := by decide +kernel
theorem dX1_queueNeighbours_101 : decode cX1_queueNeighbours 101 = .ok (.iload_n 3, 1) := by decide +kernel
theorem dX1_queueNeighbours_102 : decode cX1_queueNeighbours 102 = .ok (.iload 8, 2) := by decide +kernel
theorem dX1_queueNeighbours_104 : decode cX1_queueNeighbours 104 = .ok (.iastore, 1) := by decide +kernel
theorem dX1_queueNeighbours_105 : decode cX1_queueNeighbours 105 = .ok (.iinc 3 1, 3) := by decide +kernel
theorem dX1_queueNeighbours_108 : decode cX1_queueNeighbours 108 = .ok (.iinc 7 1, 3) := by decide +kernel
theorem dX1_queueNeighbours_111 : decode cX1_queueNeighbours 111 = .ok (.goto (-63), 3) := by decide +kernel
theorem dX1_queueNeighbours_114 : decode cX1_queueNeighbours 114 = .ok (.iinc 6 1, 3) := by decide +kernel
theorem dX1_queueNeighbours_117 : decode cX1_queueNeighbours 117 = .ok (.goto (-93), 3) := by decide +kernel
theorem dX1_queueNeighbours_120 : decode cX1_queueNeighbours 120 = .ok (.iload_n 3, 1) := by decide +kernel
theorem dX1_queueNeighbours_121 : decode cX1_queueNeighbours 121 = .ok (.ireturn, 1) := by decide +kernel
theorem dX2_init_0 : decode cX2_init 0 = .ok (.aload_n 0, 1) := by decide +kernel
theorem dX2_init_1 : decode cX2_init 1 = .ok (.invokespecial 3, 3) := by decide +kernel
theorem dX2_init_4 : decode cX2_init 4 = .ok (.aload_n 0, 1) := by decide +kernel
theorem dX2_init_5 : decode cX2_init 5 = .ok (.bipush 8, 2) := by decide +kernel
theorem dX2_init_7 : decode cX2_init 7 = .ok (.bipush 6, 2) := by decide +kernel
theorem dX2_init_9 : decode cX2_init 9 = .ok (.multianewarray 9 2, 4) := by decide +kernel
theorem dX2_init_13 : decode cX2_init 13 = .ok (.putfield 11, 3) := by decide +kernel
theorem dX2_init_16 : decode cX2_init 16 = .ok (.return_, 1) := by decide +kernel
theorem dX2_add_0 : decode cX2_add 0 = .ok (.aload_n 0, 1) := by decide +kernel
theorem dX2_add_1 : decode cX2_add 1 = .ok (.getfield 16, 3) := by decide +kernel
theorem dX2_add_4 : decode cX2_add 4 = .ok (.istore 5, 2) := by decide +kernel
theorem dX2_add_6 : decode cX2_add 6 = .ok (.aload_n 0, 1) := by decide +kernel
theorem dX2_add_7 : decode cX2_add 7 = .ok (.getfield 11, 3) := by decide +kernel
theorem dX2_add_10 : decode cX2_add 10 = .ok (.iload 5, 2) := by decide +kernel
theorem dX2_add_12 : decode cX2_add 12 = .ok (.aaload, 1) := by decide +kernel
theorem dX2_add_13 : decode cX2_add 13 = .ok (.astore 6, 2) := by decide +kernel
theorem dX2_add_15 : decode cX2_add 15 = .ok (.aload 6, 2) := by decide +kernel
theorem dX2_add_17 : decode cX2_add 17 = .ok (.iconst 0, 1) := by decide +kernel
theorem dX2_add_18 : decode cX2_add 18 = .ok (.iload_n 1, 1) := by decide +kernel
theorem dX2_add_19 : decode cX2_add 19 = .ok (.iastore, 1) := by decide +kernel
theorem dX2_add_20 : decode cX2_add 20 = .ok (.aload 6, 2) := by decide +kernel
theorem dX2_add_22 : decode cX2_add 22 = .ok (.iconst 1, 1) := by decide +kernel
theorem dX2_add_23 : decode cX2_add 23 = .ok (.iload_n 2, 1) := by decide +kernel
theorem dX2_add_24 : decode cX2_add 24 = .ok (.iastore, 1) := by decide +kernel
theorem dX2_add_25 : decode cX2_add 25 = .ok (.aload 6, 2) := by decide +kernel
theorem dX2_add_27 : decode cX2_add 27 = .ok (.iconst 2, 1) := by decide +kernel
theorem dX2_add_28 : decode cX2_add 28 = .ok (.iload_n 3, 1) := by decide +kernel
theorem dX2_add_29 : decode cX2_add 29 = .ok (.iastore, 1) := by decide +kernel
theorem dX2_add_30 : decode cX2_add 30 = .ok (.aload 6, 2) := by decide +kernel
theorem dX2_add_32 : decode cX2_add 32 = .ok (.iconst 3, 1) := by decide +kernel
theorem dX2_add_33 : decode cX2_add 33 = .ok (.iload 4, 2) := by decide +kernel
theorem dX2_add_35 : decode cX2_add 35 = .ok (.iastore, 1) := by decide +kernel
theorem dX2_add_36 : decode cX2_add 36 = .ok (.aload 6, 2) := by decide +kernel
theorem dX2_add_38 : decode cX2_add 38 = .ok (.iconst 4, 1) := by decide +kernel
theorem dX2_add_39 : decode cX2_add 39 = .ok (.iconst 0, 1) := by decide +kernel
theorem dX2_add_40 : decode cX2_add 40 = .ok (.iastore, 1) := by decide +kernel
theorem dX2_add_41 : decode cX2_add 41 = .ok (.aload 6, 2) := by decide +kernel
theorem dX2_add_43 : decode cX2_add 43 = .ok (.iconst 5, 1) := by decide +kernel
theorem dX2_add_44 : decode cX2_add 44 = .ok (.getstatic 20, 3) := by decide +kernel
theorem dX2_add_47 : decode cX2_add 47 = .ok (.iconst 5, 1) := by decide +kernel
theorem dX2_add_48 : decode cX2_add 48 = .ok (.iaload, 1) := by decide +kernel
theorem dX2_add_49 : decode cX2_add 49 = .ok (.iastore, 1) := by decide +kernel
theorem dX2_add_50 : decode cX2_add 50 = .ok (.aload_n 0, 1) := by decide +kernel
theorem dX2_add_51 : decode cX2_add 51 = .ok (.dup, 1) := by decide +kernel
theorem dX2_add_52 : decode cX2_add 52 = .ok (.getfield 16, 3) := by decide +kernel
theorem dX2_add_55 : decode cX2_add 55 = .ok (.iconst 1, 1) := by decide +kernel
theorem dX2_add_56 : decode cX2_add 56 = .ok (.iadd, 1) := by decide +kernel
theorem dX2_add_57 : decode cX2_add 57 = .ok (.putfield 16, 3) := by decide +kernel
theorem dX2_add_60 : decode cX2_add 60 = .ok (.iload 5, 2) := by decide +kernel
theorem dX2_add_62 : decode cX2_add 62 = .ok (.ireturn, 1) := by decide +kernel
theorem dX2_weights_0 : decode cX2_weights 0 = .ok (.iconst 0, 1) := by decide +kernel
theorem dX2_weights_1 : decode cX2_weights 1 = .ok (.istore_n 1, 1) := by decide +kernel
theorem dX2_weights_2 : decode cX2_weights 2 = .ok (.iconst 0, 1) := by decide +kernel
theorem dX2_weights_3 : decode cX2_weights 3 = .ok (.istore_n 2, 1) := by decide +kernel
theorem dX2_weights_4 : decode cX2_weights 4 = .ok (.iload_n 2, 1) := by decide +kernel
theorem dX2_weights_5 : decode cX2_weights 5 = .ok (.aload_n 0, 1) := by decide +kernel
theorem dX2_weights_6 : decode cX2_weights 6 = .ok (.getfield 16, 3) := by decide +kernel
theorem dX2_weights_9 : decode cX2_weights 9 = .ok (.if_icmp .ge 20, 3) := by decide +kernel
theorem dX2_weights_12 : decode cX2_weights 12 = .ok (.iload_n 1, 1) := by decide +kernel
theorem dX2_weights_13 : decode cX2_weights 13 = .ok (.aload_n 0, 1) := by decide +kernel
theorem dX2_weights_14 : decode cX2_weights 14 = .ok (.getfield 11, 3) := by decide +kernel
theorem dX2_weights_17 : decode cX2_weights 17 = .ok (.iload_n 2, 1) := by decide +kernel
theorem dX2_weights_18 : decode cX2_weights 18 = .ok (.aaload, 1) := by decide +kernel
theorem dX2_weights_19 : decode cX2_weights 19 = .ok (.iconst 3, 1) := by decide +kernel
theorem dX2_weights_20 : decode cX2_weights 20 = .ok (.iaload, 1) := by decide +kernel
theorem dX2_weights_21 : decode cX2_weights 21 = .ok (.iadd, 1) := by decide +kernel
theorem dX2_weights_22 : decode cX2_weights 22 = .ok (.istore_n 1, 1) := by decide +kernel
theorem dX2_weights_23 : decode cX2_weights 23 = .ok (.iinc 2 1, 3) := by decide +kernel
theorem dX2_weights_26 : decode cX2_weights 26 = .ok (.goto (-22), 3) := by decide +kernel
theorem dX2_weights_29 : decode cX2_weights 29 = .ok (.iload_n 1, 1) := by decide +kernel
theorem dX2_weights_30 : decode cX2_weights 30 = .ok (.ireturn, 1) := by decide +kernel
theorem dX2_lightAt_0 : decode cX2_lightAt 0 = .ok (.aload_n 0, 1) := by decide +kernel
theorem dX2_lightAt_1 : decode cX2_lightAt 1 = .ok (.iconst 0, 1) := by decide +kernel
theorem dX2_lightAt_2 : decode cX2_lightAt 2 = .ok (.iload_n 1, 1) := by decide +kernel
theorem dX2_lightAt_3 : decode cX2_lightAt 3 = .ok (.iload_n 2, 1) := by decide +kernel
theorem dX2_lightAt_4 : decode cX2_lightAt 4 = .ok (.iload_n 3, 1) := by decide +kernel
theorem dX2_lightAt_5 : decode cX2_lightAt 5 = .ok (.invokevirtual 24, 3) := by decide +kernel
theorem dX2_lightAt_8 : decode cX2_lightAt 8 = .ok (.ireturn, 1) := by decide +kernel
theorem dX2_lightPast_0 : decode cX2_lightPast 0 = .ok (.iload 4, 2) := by decide +kernel
theorem dX2_lightPast_2 : decode cX2_lightPast 2 = .ok (.ifCond .ne 24, 3) := by decide +kernel
theorem dX2_lightPast_5 : decode cX2_lightPast 5 = .ok (.bipush 16, 2) := by decide +kernel
theorem dX2_lightPast_7 : decode cX2_lightPast 7 = .ok (.iload_n 2, 1) := by decide +kernel
theorem dX2_lightPast_8 : decode cX2_lightPast 8 = .ok (.imul, 1) := by decide +kernel
theorem dX2_lightPast_9 : decode cX2_lightPast 9 = .ok (.aload_n 0, 1) := by decide +kernel
theorem dX2_lightPast_10 : decode cX2_lightPast 10 = .ok (.getfield 28, 3) := by decide +kernel
theorem dX2_lightPast_13 : decode cX2_lightPast 13 = .ok (.iload_n 2, 1) := by decide +kernel
theorem dX2_lightPast_14 : decode cX2_lightPast 14 = .ok (.imul, 1) := by decide +kernel
theorem dX2_lightPast_15 : decode cX2_lightPast 15 = .ok (.aload_n 0, 1) := by decide +kernel
theorem dX2_lightPast_16 : decode cX2_lightPast 16 = .ok (.getfield 31, 3) := by decide +kernel
theorem dX2_lightPast_19 : decode cX2_lightPast 19 = .ok (.iload_n 3, 1) := by decide +kernel
theorem dX2_lightPast_20 : decode cX2_lightPast 20 = .ok (.imul, 1) := by decide +kernel
theorem dX2_lightPast_21 : decode cX2_lightPast 21 = .ok (.iadd, 1) := by decide +kernel
theorem dX2_lightPast_22 : decode cX2_lightPast 22 = .ok (.isub, 1) := by decide +kernel
theorem dX2_lightPast_23 : decode cX2_lightPast 23 = .ok (.goto 21, 3) := by decide +kernel
theorem dX2_lightPast_26 : decode cX2_lightPast 26 = .ok (.bipush 16, 2) := by decide +kernel
theorem dX2_lightPast_28 : decode cX2_lightPast 28 = .ok (.iload_n 3, 1) := by decide +kernel
theorem dX2_lightPast_29 : decode cX2_lightPast 29 = .ok (.imul, 1) := by decide +kernel
theorem dX2_lightPast_30 : decode cX2_lightPast 30 = .ok (.aload_n 0, 1) := by decide +kernel
theorem dX2_lightPast_31 : decode cX2_lightPast 31 = .ok (.getfield 31, 3) := by decide +kernel
theorem dX2_lightPast_34 : decode cX2_lightPast 34 = .ok (.iload_n 2, 1) := by decide +kernel
theorem dX2_lightPast_35 : decode cX2_lightPast 35 = .ok (.imul, 1) := by decide +kernel
theorem dX2_lightPast_36 : decode cX2_lightPast 36 = .ok (.aload_n 0, 1) := by decide +kernel
theorem dX2_lightPast_37 : decode cX2_lightPast 37 = .ok (.getfield 28, 3) := by decide +kernel
theorem dX2_lightPast_40 : decode cX2_lightPast 40 = .ok (.iload_n 3, 1) := by decide +kernel
theorem dX2_lightPast_41 : decode cX2_lightPast 41 = .ok (.imul, 1) := by decide +kernel
theorem dX2_lightPast_42 : decode cX2_lightPast 42 = .ok (.isub, 1) := by decide +kernel
theorem dX2_lightPast_43 : decode cX2_lightPast 43 = .ok (.isub, 1) := by decide +kernel
theorem dX2_lightPast_44 : decode cX2_lightPast 44 = .ok (.istore 5, 2) := by decide +kernel
theorem dX2_lightPast_46 : decode cX2_lightPast 46 = .ok (.iload_n 1, 1) := by decide +kernel
theorem dX2_lightPast_47 : decode cX2_lightPast 47 = .ok (.istore 6, 2) := by decide +kernel
theorem dX2_lightPast_49 : decode cX2_lightPast 49 = .ok (.iload 6, 2) := by decide +kernel
theorem dX2_lightPast_51 : decode cX2_lightPast 51 = .ok (.aload_n 0, 1) := by decide +kernel
theorem dX2_lightPast_52 : decode cX2_lightPast 52 = .ok (.getfield 16, 3) := by decide +kernel
theorem dX2_lightPast_55 : decode cX2_lightPast 55 = .ok (.if_icmp .ge 46, 3) := by decide +kernel
theorem dX2_lightPast_58 : decode cX2_lightPast 58 = .ok (.iload 5, 2) := by decide +kernel
theorem dX2_lightPast_60 : decode cX2_lightPast 60 = .ok (.aload_n 0, 1) := by decide +kernel
theorem dX2_lightPast_61 : decode cX2_lightPast 61 = .ok (.getfield 11, 3) := by decide +kernel
theorem dX2_lightPast_64 : decode cX2_lightPast 64 = .ok (.iload 6, 2) := by decide +kernel
theorem dX2_lightPast_66 : decode cX2_lightPast 66 = .ok (.aaload, 1) := by decide +kernel
theorem dX2_lightPast_67 : decode cX2_lightPast 67 = .ok (.iconst 0, 1) := by decide +kernel
theorem dX2_lightPast_68 : decode cX2_lightPast 68 = .ok (.iaload, 1) := by decide +kernel
theorem dX2_lightPast_69 : decode cX2_lightPast 69 = .ok (.aload_n 0, 1) := by decide +kernel
theorem dX2_lightPast_70 : decode cX2_lightPast 70 = .ok (.getfield 11, 3) := by decide +kernel
theorem dX2_lightPast_73 : decode cX2_lightPast 73 = .ok (.iload 6, 2) := by decide +kernel
theorem dX2_lightPast_75 : decode cX2_lightPast 75 = .ok (.aaload, 1) := by decide +kernel
theorem dX2_lightPast_76 : decode cX2_lightPast 76 = .ok (.aload_n 0, 1) := by decide +kernel
theorem dX2_lightPast_77 : decode cX2_lightPast 77 = .ok (.getfield 11, 3) := by decide +kernel
theorem dX2_lightPast_80 : decode cX2_lightPast 80 = .ok (.iload 6, 2) := by decide +kernel
theorem dX2_lightPast_82 : decode cX2_lightPast 82 = .ok (.aaload, 1) := by decide +kernel
theorem dX2_lightPast_83 : decode cX2_lightPast 83 = .ok (.iconst 3, 1) := by decide +kernel
theorem dX2_lightPast_84 : decode cX2_lightPast 84 = .ok (.iaload, 1) := by decide +kernel
theorem dX2_lightPast_85 : decode cX2_lightPast 85 = .ok (.iload_n 2, 1) := by decide +kernel
theorem dX2_lightPast_86 : decode cX2_lightPast 86 = .ok (.iload_n 3, 1) := by decide +kernel
theorem dX2_lightPast_87 : decode cX2_lightPast 87 = .ok (.iload 4, 2) := by decide +kernel
theorem dX2_lightPast_89 : decode cX2_lightPast 89 = .ok (.invokestatic 34, 3) := by decide +kernel
theorem dX2_lightPast_92 : decode cX2_lightPast 92 = .ok (.isub, 1) := by decide +kernel
theorem dX2_lightPast_93 : decode cX2_lightPast 93 = .ok (.istore 5, 2) := by decide +kernel
theorem dX2_lightPast_95 : decode cX2_lightPast 95 = .ok (.iinc 6 1, 3) := by decide +kernel
theorem dX2_lightPast_98 : decode cX2_lightPast 98 = .ok (.goto (-49), 3) := by decide +kernel
theorem dX2_lightPast_101 : decode cX2_lightPast 101 = .ok (.iload 5, 2) := by decide +kernel
theorem dX2_lightPast_103 : decode cX2_lightPast 103 = .ok (.ireturn, 1) := by decide +kernel
theorem dX2_bendBy_0 : decode cX2_bendBy 0 = .ok (.aload_n 1, 1) := by decide +kernel
theorem dX2_bendBy_1 : decode cX2_bendBy 1 = .ok (.iload_n 3, 1) := by decide +kernel
theorem dX2_bendBy_2 : decode cX2_bendBy 2 = .ok (.iload 4, 2) := by decide +kernel
theorem dX2_bendBy_4 : decode cX2_bendBy 4 = .ok (.invokestatic 38, 3) := by decide +kernel
theorem dX2_bendBy_7 : decode cX2_bendBy 7 = .ok (.istore 6, 2) := by decide +kernel
theorem dX2_bendBy_9 : decode cX2_bendBy 9 = .ok (.iload 6, 2) := by decide +kernel
theorem dX2_bendBy_11 : decode cX2_bendBy 11 = .ok (.ifCond .eq 17, 3) := by decide +kernel
theorem dX2_bendBy_14 : decode cX2_bendBy 14 = .ok (.iload_n 0, 1) := by decide +kernel
theorem dX2_bendBy_15 : decode cX2_bendBy 15 = .ok (.iconst 2, 1) := by decide +kernel
theorem dX2_bendBy_16 : decode cX2_bendBy 16 = .ok (.if_icmp .ne 14, 3) := by decide +kernel
theorem dX2_bendBy_19 : decode cX2_bendBy 19 = .ok (.aload_n 1, 1) := by decide +kernel
theorem dX2_bendBy_20 : decode cX2_bendBy 20 = .ok (.iload 6, 2) := by decide +kernel
theorem dX2_bendBy_22 : decode cX2_bendBy 22 = .ok (.invokestatic 42, 3) := by decide +kernel
theorem dX2_bendBy_25 : decode cX2_bendBy 25 = .ok (.ifCond .eq 5, 3) := by decide +kernel
theorem dX2_bendBy_28 : decode cX2_bendBy 28 = .ok (.iconst 0, 1) := by decide +kernel
theorem dX2_bendBy_29 : decode cX2_bendBy 29 = .ok (.ireturn, 1) := by decide +kernel
theorem dX2_bendBy_30 : decode cX2_bendBy 30 = .ok (.bipush 16, 2) := by decide +kernel
theorem dX2_bendBy_32 : decode cX2_bendBy 32 = .ok (.iload_n 2, 1) := by decide +kernel
theorem dX2_bendBy_33 : decode cX2_bendBy 33 = .ok (.imul, 1) := by decide +kernel
theorem dX2_bendBy_34 : decode cX2_bendBy 34 = .ok (.iload 5, 2) := by decide +kernel
theorem dX2_bendBy_36 : decode cX2_bendBy 36 = .ok (.ifCond .ne 11, 3) := by decide +kernel
theorem dX2_bendBy_39 : decode cX2_bendBy 39 = .ok (.iload_n 3, 1) := by decide +kernel
theorem dX2_bendBy_40 : decode cX2_bendBy 40 = .ok (.aload_n 1, 1) := by decide +kernel
theorem dX2_bendBy_41 : decode cX2_bendBy 41 = .ok (.iconst 1, 1) := by decide +kernel
theorem dX2_bendBy_42 : decode cX2_bendBy 42 = .ok (.iaload, 1) := by decide +kernel
theorem dX2_bendBy_43 : decode cX2_bendBy 43 = .ok (.isub, 1) := by decide +kernel
theorem dX2_bendBy_44 : decode cX2_bendBy 44 = .ok (.goto 9, 3) := by decide +kernel
theorem dX2_bendBy_47 : decode cX2_bendBy 47 = .ok (.iload 4, 2) := by decide +kernel
theorem dX2_bendBy_49 : decode cX2_bendBy 49 = .ok (.aload_n 1, 1) := by decide +kernel
theorem dX2_bendBy_50 : decode cX2_bendBy 50 = .ok (.iconst 2, 1) := by decide +kernel
theorem dX2_bendBy_51 : decode cX2_bendBy 51 = .ok (.iaload, 1) := by decide +kernel
theorem dX2_bendBy_52 : decode cX2_bendBy 52 = .ok (.isub, 1) := by decide +kernel
theorem dX2_bendBy_53 : decode cX2_bendBy 53 = .ok (.imul, 1) := by decide +kernel
theorem dX2_bendBy_54 : decode cX2_bendBy 54 = .ok (.iload 6, 2) := by decide +kernel
theorem dX2_bendBy_56 : decode cX2_bendBy 56 = .ok (.idiv, 1) := by decide +kernel
theorem dX2_bendBy_57 : decode cX2_bendBy 57 = .ok (.istore 7, 2) := by decide +kernel
theorem dX2_bendBy_59 : decode cX2_bendBy 59 = .ok (.iload_n 0, 1) := by decide +kernel
theorem dX2_bendBy_60 : decode cX2_bendBy 60 = .ok (.ifCond .ne 8, 3) := by decide +kernel
theorem dX2_bendBy_63 : decode cX2_bendBy 63 = .ok (.iload 7, 2) := by decide +kernel
theorem dX2_bendBy_65 : decode cX2_bendBy 65 = .ok (.goto 15, 3) := by decide +kernel
theorem dX2_bendBy_68 : decode cX2_bendBy 68 = .ok (.iload 7, 2) := by decide +kernel
theorem dX2_bendBy_70 : decode cX2_bendBy 70 = .ok (.iload 6, 2) := by decide +kernel
theorem dX2_bendBy_72 : decode cX2_bendBy 72 = .ok (.imul, 1) := by decide +kernel
theorem dX2_bendBy_73 : decode cX2_bendBy 73 = .ok (.iload 6, 2) := by decide +kernel
theorem dX2_bendBy_75 : decode cX2_bendBy 75 = .ok (.aload_n 1, 1) := by decide +kernel
theorem dX2_bendBy_76 : decode cX2_bendBy 76 = .ok (.iconst 4, 1) := by decide +kernel
theorem dX2_bendBy_77 : decode cX2_bendBy 77 = .ok (.iaload, 1) := by decide +kernel
theorem dX2_bendBy_78 : decode cX2_bendBy 78 = .ok (.iadd, 1) := by decide +kernel
theorem dX2_bendBy_79 : decode cX2_bendBy 79 = .ok (.idiv, 1) := by decide +kernel
theorem dX2_bendBy_80 : decode cX2_bendBy 80 = .ok (.ireturn, 1) := by decide +kernel
theorem dX2_askedBy_0 : decode cX2_askedBy 0 = .ok (.iload_n 0, 1) := by decide +kernel
theorem dX2_askedBy_1 : decode cX2_askedBy 1 = .ok (.lookupswitch 32 #[(0, 27), (1, 29)], 27) := by decide +kernel
theorem dX2_askedBy_28 : decode cX2_askedBy 28 = .ok (.iconst 1, 1) := by decide +kernel
theorem dX2_askedBy_29 : decode cX2_askedBy 29 = .ok (.ireturn, 1) := by decide +kernel
theorem dX2_askedBy_30 : decode cX2_askedBy 30 = .ok (.bipush 11, 2) := by decide +kernel
theorem dX2_askedBy_32 : decode cX2_askedBy 32 = .ok (.ireturn, 1) := by decide +kernel
theorem dX2_askedBy_33 : decode cX2_askedBy 33 = .ok (.bipush 111, 2) := by decide +kernel
theorem dX2_askedBy_35 : decode cX2_askedBy 35 = .ok (.ireturn, 1) := by decide +kernel
theorem dX2_isCutAway_0 : decode cX2_isCutAway 0 = .ok (.iload_n 1, 1) := by decide +kernel
theorem dX2_isCutAway_1 : decode cX2_isCutAway 1 = .ok (.aload_n 0, 1) := by decide +kernel
theorem dX2_isCutAway_2 : decode cX2_isCutAway 2 = .ok (.iconst 5, 1) := by decide +kernel
theorem dX2_isCutAway_3 : decode cX2_isCutAway 3 = .ok (.iaload, 1) := by decide +kernel
theorem dX2_isCutAway_4 : decode cX2_isCutAway 4 = .ok (.aload_n 0, 1) := by decide +kernel
theorem dX2_isCutAway_5 : decode cX2_isCutAway 5 = .ok (.iconst 5, 1) := by decide +kernel
theorem dX2_isCutAway_6 : decode cX2_isCutAway 6 = .ok (.iaload, 1) := by decide +kernel
theorem dX2_isCutAway_7 : decode cX2_isCutAway 7 = .ok (.imul, 1) := by decide +kernel
theorem dX2_isCutAway_8 : decode cX2_isCutAway 8 = .ok (.if_icmp .le 7, 3) := by decide +kernel
theorem dX2_isCutAway_11 : decode cX2_isCutAway 11 = .ok (.iconst 1, 1) := by decide +kernel
theorem dX2_isCutAway_12 : decode cX2_isCutAway 12 = .ok (.goto 4, 3) := by decide +kernel
theorem dX2_isCutAway_15 : decode cX2_isCutAway 15 = .ok (.iconst 0, 1) := by decide +kernel
theorem dX2_isCutAway_16 : decode cX2_isCutAway 16 = .ok (.ireturn, 1) := by decide +kernel
theorem dX2_squares_0 : decode cX2_squares 0 = .ok (.iload_n 1, 1) := by decide +kernel
theorem dX2_squares_1 : decode cX2_squares 1 = .ok (.aload_n 0, 1) := by decide +kernel
theorem dX2_squares_2 : decode cX2_squares 2 = .ok (.iconst 1, 1) := by decide +kernel
theorem dX2_squares_3 : decode cX2_squares 3 = .ok (.iaload, 1) := by decide +kernel
theorem dX2_squares_4 : decode cX2_squares 4 = .ok (.isub, 1) := by decide +kernel
theorem dX2_squares_5 : decode cX2_squares 5 = .ok (.istore_n 3, 1) := by decide +kernel
theorem dX2_squares_6 : decode cX2_squares 6 = .ok (.iload_n 2, 1) := by decide +kernel
theorem dX2_squares_7 : decode cX2_squares 7 = .ok (.aload_n 0, 1) := by decide +kernel
theorem dX2_squares_8 : decode cX2_squares 8 = .ok (.iconst 2, 1) := by decide +kernel
theorem dX2_squares_9 : decode cX2_squares 9 = .ok (.iaload, 1) := by decide +kernel
theorem dX2_squares_10 : decode cX2_squares 10 = .ok (.isub, 1) := by decide +kernel
theorem dX2_squares_11 : decode cX2_squares 11 = .ok (.istore 4, 2) := by decide +kernel
theorem dX2_squares_13 : decode cX2_squares 13 = .ok (.iload_n 3, 1) := by decide +kernel
theorem dX2_squares_14 : decode cX2_squares 14 = .ok (.iload_n 3, 1) := by decide +kernel
theorem dX2_squares_15 : decode cX2_squares 15 = .ok (.imul, 1) := by decide +kernel
theorem dX2_squares_16 : decode cX2_squares 16 = .ok (.iload 4, 2) := by decide +kernel
theorem dX2_squares_18 : decode cX2_squares 18 = .ok (.iload 4, 2) := by decide +kernel
theorem dX2_squares_20 : decode cX2_squares 20 = .ok (.imul, 1) := by decide +kernel
theorem dX2_squares_21 : decode cX2_squares 21 = .ok (.iadd, 1) := by decide +kernel
theorem dX2_squares_22 : decode cX2_squares 22 = .ok (.ireturn, 1) := by decide +kernel
theorem dX3_init_0 : decode cX3_init 0 = .ok (.aload_n 0, 1) := by decide +kernel
theorem dX3_init_1 : decode cX3_init 1 = .ok (.invokespecial 3, 3) := by decide +kernel
theorem dX3_init_4 : decode cX3_init 4 = .ok (.aload_n 0, 1) := by decide +kernel
theorem dX3_init_5 : decode cX3_init 5 = .ok (.sipush 2601, 3) := by decide +kernel
theorem dX3_init_8 : decode cX3_init 8 = .ok (.newarray .int, 2) := by decide +kernel
theorem dX3_init_10 : decode cX3_init 10 = .ok (.putfield 9, 3) := by decide +kernel
theorem dX3_init_13 : decode cX3_init 13 = .ok (.aload_n 0, 1) := by decide +kernel
theorem dX3_init_14 : decode cX3_init 14 = .ok (.sipush 2601, 3) := by decide +kernel
theorem dX3_init_17 : decode cX3_init 17 = .ok (.newarray .int, 2) := by decide +kernel
theorem dX3_init_19 : decode cX3_init 19 = .ok (.putfield 15, 3) := by decide +kernel
theorem dX3_init_22 : decode cX3_init 22 = .ok (.aload_n 0, 1) := by decide +kernel
theorem dX3_init_23 : decode cX3_init 23 = .ok (.sipush 2401, 3) := by decide +kernel
theorem dX3_init_26 : decode cX3_init 26 = .ok (.newarray .int, 2) := by decide +kernel
theorem dX3_init_28 : decode cX3_init 28 = .ok (.putfield 18, 3) := by decide +kernel
theorem dX3_init_31 : decode cX3_init 31 = .ok (.aload_n 0, 1) := by decide +kernel
theorem dX3_init_32 : decode cX3_init 32 = .ok (.sipush 2401, 3) := by decide +kernel
theorem dX3_init_35 : decode cX3_init 35 = .ok (.newarray .int, 2) := by decide +kernel
theorem dX3_init_37 : decode cX3_init 37 = .ok (.putfield 21, 3) := by decide +kernel
theorem dX3_init_40 : decode cX3_init 40 = .ok (.aload_n 0, 1) := by decide +kernel
theorem dX3_init_41 : decode cX3_init 41 = .ok (.iconst 1, 1) := by decide +kernel
theorem dX3_init_42 : decode cX3_init 42 = .ok (.putfield 24, 3) := by decide +kernel
theorem dX3_init_45 : decode cX3_init 45 = .ok (.aload_n 0, 1) := by decide +kernel
theorem dX3_init_46 : decode cX3_init 46 = .ok (.aload_n 1, 1) := by decide +kernel
theorem dX3_init_47 : decode cX3_init 47 = .ok (.putfield 28, 3) := by decide +kernel
theorem dX3_init_50 : decode cX3_init 50 = .ok (.return_, 1) := by decide +kernel
theorem dX3_lookAnew_0 : decode cX3_lookAnew 0 = .ok (.aload_n 0, 1) := by decide +kernel
theorem dX3_lookAnew_1 : decode cX3_lookAnew 1 = .ok (.getfield 24, 3) := by decide +kernel
theorem dX3_lookAnew_4 : decode cX3_lookAnew 4 = .ok (.ifCond .ne 4, 3) := by decide +kernel
theorem dX3_lookAnew_7 : decode cX3_lookAnew 7 = .ok (.return_, 1) := by decide +kernel
theorem dX3_lookAnew_8 : decode cX3_lookAnew 8 = .ok (.bipush (-25), 2) := by decide +kernel
theorem dX3_lookAnew_10 : decode cX3_lookAnew 10 = .ok (.istore_n 1, 1) := by decide +kernel
theorem dX3_lookAnew_11 : decode cX3_lookAnew 11 = .ok (.iload_n 1, 1) := by decide +kernel
theorem dX3_lookAnew_12 : decode cX3_lookAnew 12 = .ok (.bipush 25, 2) := by decide +kernel
theorem dX3_lookAnew_14 : decode cX3_lookAnew 14 = .ok (.if_icmp .gt 62, 3) := by decide +kernel
theorem dX3_lookAnew_17 : decode cX3_lookAnew 17 = .ok (.bipush (-25), 2) := by decide +kernel
theorem dX3_lookAnew_19 : decode cX3_lookAnew 19 = .ok (.istore_n 2, 1) := by decide +kernel
theorem dX3_lookAnew_20 : decode cX3_lookAnew 20 = .ok (.iload_n 2, 1) := by decide +kernel
theorem dX3_lookAnew_21 : decode cX3_lookAnew 21 = .ok (.bipush 25, 2) := by decide +kernel
theorem dX3_lookAnew_23 : decode cX3_lookAnew 23 = .ok (.if_icmp .gt 47, 3) := by decide +kernel
theorem dX3_lookAnew_26 : decode cX3_lookAnew 26 = .ok (.iload_n 2, 1) := by decide +kernel
theorem dX3_lookAnew_27 : decode cX3_lookAnew 27 = .ok (.iload_n 1, 1) := by decide +kernel
theorem dX3_lookAnew_28 : decode cX3_lookAnew 28 = .ok (.invokestatic 32, 3) := by decide +kernel
theorem dX3_lookAnew_31 : decode cX3_lookAnew 31 = .ok (.istore_n 3, 1) := by decide +kernel
theorem dX3_lookAnew_32 : decode cX3_lookAnew 32 = .ok (.aload_n 0, 1) := by decide +kernel
theorem dX3_lookAnew_33 : decode cX3_lookAnew 33 = .ok (.getfield 9, 3) := by decide +kernel
theorem dX3_lookAnew_36 : decode cX3_lookAnew 36 = .ok (.iload_n 3, 1) := by decide +kernel
theorem dX3_lookAnew_37 : decode cX3_lookAnew 37 = .ok (.aload_n 0, 1) := by decide +kernel
theorem dX3_lookAnew_38 : decode cX3_lookAnew 38 = .ok (.getfield 28, 3) := by decide +kernel
theorem dX3_lookAnew_41 : decode cX3_lookAnew 41 = .ok (.iload_n 2, 1) := by decide +kernel
theorem dX3_lookAnew_42 : decode cX3_lookAnew 42 = .ok (.iload_n 1, 1) := by decide +kernel
theorem dX3_lookAnew_43 : decode cX3_lookAnew 43 = .ok (.iconst 0, 1) := by decide +kernel
theorem dX3_lookAnew_44 : decode cX3_lookAnew 44 = .ok (.invokevirtual 36, 3) := by decide +kernel
theorem dX3_lookAnew_47 : decode cX3_lookAnew 47 = .ok (.iastore, 1) := by decide +kernel
theorem dX3_lookAnew_48 : decode cX3_lookAnew 48 = .ok (.aload_n 0, 1) := by decide +kernel
theorem dX3_lookAnew_49 : decode cX3_lookAnew 49 = .ok (.getfield 15, 3) := by decide +kernel
theorem dX3_lookAnew_52 : decode cX3_lookAnew 52 = .ok (.iload_n 3, 1) := by decide +kernel
theorem dX3_lookAnew_53 : decode cX3_lookAnew 53 = .ok (.aload_n 0, 1) := by decide +kernel
theorem dX3_lookAnew_54 : decode cX3_lookAnew 54 = .ok (.getfield 28, 3) := by decide +kernel
theorem dX3_lookAnew_57 : decode cX3_lookAnew 57 = .ok (.iload_n 2, 1) := by decide +kernel
theorem dX3_lookAnew_58 : decode cX3_lookAnew 58 = .ok (.iload_n 1, 1) := by decide +kernel
theorem dX3_lookAnew_59 : decode cX3_lookAnew 59 = .ok (.iconst 1, 1) := by decide +kernel
theorem dX3_lookAnew_60 : decode cX3_lookAnew 60 = .ok (.invokevirtual 36, 3) := by decide +kernel
theorem dX3_lookAnew_63 : decode cX3_lookAnew 63 = .ok (.iastore, 1) := by decide +kernel
theorem dX3_lookAnew_64 : decode cX3_lookAnew 64 = .ok (.iinc 2 1, 3) := by decide +kernel
theorem dX3_lookAnew_67 : decode cX3_lookAnew 67 = .ok (.goto (-47), 3) := by decide +kernel
theorem dX3_lookAnew_70 : decode cX3_lookAnew 70 = .ok (.iinc 1 1, 3) := by decide +kernel
theorem dX3_lookAnew_73 : decode cX3_lookAnew 73 = .ok (.goto (-62), 3) := by decide +kernel
theorem dX3_lookAnew_76 : decode cX3_lookAnew 76 = .ok (.iconst 0, 1) := by decide +kernel
theorem dX3_lookAnew_77 : decode cX3_lookAnew 77 = .ok (.istore_n 1, 1) := by decide +kernel
theorem dX3_lookAnew_78 : decode cX3_lookAnew 78 = .ok (.iload_n 1, 1) := by decide +kernel
theorem dX3_lookAnew_79 : decode cX3_lookAnew 79 = .ok (.sipush 2401, 3) := by decide +kernel
theorem dX3_lookAnew_82 : decode cX3_lookAnew 82 = .ok (.if_icmp .ge 59, 3) := by decide +kernel
theorem dX3_lookAnew_85 : decode cX3_lookAnew 85 = .ok (.iload_n 1, 1) := by decide +kernel
theorem dX3_lookAnew_86 : decode cX3_lookAnew 86 = .ok (.invokestatic 42, 3) := by decide +kernel
theorem dX3_lookAnew_89 : decode cX3_lookAnew 89 = .ok (.iload_n 1, 1) := by decide +kernel
theorem dX3_lookAnew_90 : decode cX3_lookAnew 90 = .ok (.invokestatic 46, 3) := by decide +kernel
theorem dX3_lookAnew_93 : decode cX3_lookAnew 93 = .ok (.invokestatic 32, 3) := by decide +kernel
theorem dX3_lookAnew_96 : decode cX3_lookAnew 96 = .ok (.istore_n 2, 1) := by decide +kernel
theorem dX3_lookAnew_97 : decode cX3_lookAnew 97 = .ok (.aload_n 0, 1) := by decide +kernel
theorem dX3_lookAnew_98 : decode cX3_lookAnew 98 = .ok (.getfield 18, 3) := by decide +kernel
theorem dX3_lookAnew_101 : decode cX3_lookAnew 101 = .ok (.iload_n 1, 1) := by decide +kernel
theorem dX3_lookAnew_102 : decode cX3_lookAnew 102 = .ok (.aload_n 0, 1) := by decide +kernel
theorem dX3_lookAnew_103 : decode cX3_lookAnew 103 = .ok (.getfield 9, 3) := by decide +kernel
theorem dX3_lookAnew_106 : decode cX3_lookAnew 106 = .ok (.iload_n 2, 1) := by decide +kernel
theorem dX3_lookAnew_107 : decode cX3_lookAnew 107 = .ok (.iaload, 1) := by decide +kernel
theorem dX3_lookAnew_108 : decode cX3_lookAnew 108 = .ok (.invokestatic 49, 3) := by decide +kernel
theorem dX3_lookAnew_111 : decode cX3_lookAnew 111 = .ok (.aload_n 0, 1) := by decide +kernel
theorem dX3_lookAnew_112 : decode cX3_lookAnew 112 = .ok (.getfield 15, 3) := by decide +kernel
theorem dX3_lookAnew_115 : decode cX3_lookAnew 115 = .ok (.iload_n 2, 1) := by decide +kernel
theorem dX3_lookAnew_116 : decode cX3_lookAnew 116 = .ok (.iaload, 1) := by decide +kernel
theorem dX3_lookAnew_117 : decode cX3_lookAnew 117 = .ok (.invokestatic 49, 3) := by decide +kernel
theorem dX3_lookAnew_120 : decode cX3_lookAnew 120 = .ok (.invokestatic 52, 3) := by decide +kernel
theorem dX3_lookAnew_123 : decode cX3_lookAnew 123 = .ok (.iastore, 1) := by decide +kernel
theorem dX3_lookAnew_124 : decode cX3_lookAnew 124 = .ok (.aload_n 0, 1) := by decide +kernel
theorem dX3_lookAnew_125 : decode cX3_lookAnew 125 = .ok (.getfield 21, 3) := by decide +kernel
theorem dX3_lookAnew_128 : decode cX3_lookAnew 128 = .ok (.iload_n 1, 1) := by decide +kernel
theorem dX3_lookAnew_129 : decode cX3_lookAnew 129 = .ok (.aload_n 0, 1) := by decide +kernel
theorem dX3_lookAnew_130 : decode cX3_lookAnew 130 = .ok (.iload_n 2, 1) := by decide +kernel
theorem dX3_lookAnew_131 : decode cX3_lookAnew 131 = .ok (.invokevirtual 55, 3) := by decide +kernel
theorem dX3_lookAnew_134 : decode cX3_lookAnew 134 = .ok (.iastore, 1) := by decide +kernel
theorem dX3_lookAnew_135 : decode cX3_lookAnew 135 = .ok (.iinc 1 1, 3) := by decide +kernel
theorem dX3_lookAnew_138 : decode cX3_lookAnew 138 = .ok (.goto (-60), 3) := by decide +kernel
theorem dX3_lookAnew_141 : decode cX3_lookAnew 141 = .ok (.aload_n 0, 1) := by decide +kernel
theorem dX3_lookAnew_142 : decode cX3_lookAnew 142 = .ok (.iconst 0, 1) := by decide +kernel
theorem dX3_lookAnew_143 : decode cX3_lookAnew 143 = .ok (.putfield 24, 3) := by decide +kernel
theorem dX3_lookAnew_146 : decode cX3_lookAnew 146 = .ok (.return_, 1) := by decide +kernel
theorem dX3_placeAt_0 : decode cX3_placeAt 0 = .ok (.iload_n 1, 1) := by decide +kernel
theorem dX3_placeAt_1 : decode cX3_placeAt 1 = .ok (.bipush 25, 2) := by decide +kernel
theorem dX3_placeAt_3 : decode cX3_placeAt 3 = .ok (.iadd, 1) := by decide +kernel
theorem dX3_placeAt_4 : decode cX3_placeAt 4 = .ok (.bipush 51, 2) := by decide +kernel
theorem dX3_placeAt_6 : decode cX3_placeAt 6 = .ok (.imul, 1) := by decide +kernel
theorem dX3_placeAt_7 : decode cX3_placeAt 7 = .ok (.iload_n 0, 1) := by decide +kernel
theorem dX3_placeAt_8 : decode cX3_placeAt 8 = .ok (.iadd, 1) := by decide +kernel
theorem dX3_placeAt_9 : decode cX3_placeAt 9 = .ok (.bipush 25, 2) := by decide +kernel
theorem dX3_placeAt_11 : decode cX3_placeAt 11 = .ok (.iadd, 1) := by decide +kernel
theorem dX3_placeAt_12 : decode cX3_placeAt 12 = .ok (.ireturn, 1) := by decide +kernel
theorem dX3_across_0 : decode cX3_across 0 = .ok (.aload_n 0, 1) := by decide +kernel
theorem dX3_across_1 : decode cX3_across 1 = .ok (.iload_n 1, 1) := by decide +kernel
theorem dX3_across_2 : decode cX3_across 2 = .ok (.iconst 1, 1) := by decide +kernel
theorem dX3_across_3 : decode cX3_across 3 = .ok (.iadd, 1) := by decide +kernel
theorem dX3_across_4 : decode cX3_across 4 = .ok (.iaload, 1) := by decide +kernel
theorem dX3_across_5 : decode cX3_across 5 = .ok (.aload_n 0, 1) := by decide +kernel
theorem dX3_across_6 : decode cX3_across 6 = .ok (.iload_n 1, 1) := by decide +kernel
theorem dX3_across_7 : decode cX3_across 7 = .ok (.iconst 1, 1) := by decide +kernel
theorem dX3_across_8 : decode cX3_across 8 = .ok (.isub, 1) := by decide +kernel
theorem dX3_across_9 : decode cX3_across 9 = .ok (.iaload, 1) := by decide +kernel
theorem dX3_across_10 : decode cX3_across 10 = .ok (.isub, 1) := by decide +kernel
theorem dX3_across_11 : decode cX3_across 11 = .ok (.ireturn, 1) := by decide +kernel
theorem dX3_down_0 : decode cX3_down 0 = .ok (.aload_n 0, 1) := by decide +kernel
theorem dX3_down_1 : decode cX3_down 1 = .ok (.iload_n 1, 1) := by decide +kernel
theorem dX3_down_2 : decode cX3_down 2 = .ok (.bipush 51, 2) := by decide +kernel
theorem dX3_down_4 : decode cX3_down 4 = .ok (.iadd, 1) := by decide +kernel
theorem dX3_down_5 : decode cX3_down 5 = .ok (.iaload, 1) := by decide +kernel
theorem dX3_down_6 : decode cX3_down 6 = .ok (.aload_n 0, 1) := by decide +kernel
theorem dX3_down_7 : decode cX3_down 7 = .ok (.iload_n 1, 1) := by decide +kernel
theorem dX3_down_8 : decode cX3_down 8 = .ok (.bipush 51, 2) := by decide +kernel
theorem dX3_down_10 : decode cX3_down 10 = .ok (.isub, 1) := by decide +kernel
theorem dX3_down_11 : decode cX3_down 11 = .ok (.iaload, 1) := by decide +kernel
theorem dX3_down_12 : decode cX3_down 12 = .ok (.isub, 1) := by decide +kernel
theorem dX3_down_13 : decode cX3_down 13 = .ok (.ireturn, 1) := by decide +kernel
theorem dX3_signOfArea_0 : decode cX3_signOfArea 0 = .ok (.aload_n 0, 1) := by decide +kernel
theorem dX3_signOfArea_1 : decode cX3_signOfArea 1 = .ok (.getfield 9, 3) := by decide +kernel
theorem dX3_signOfArea_4 : decode cX3_signOfArea 4 = .ok (.iload_n 1, 1) := by decide +kernel
theorem dX3_signOfArea_5 : decode cX3_signOfArea 5 = .ok (.invokestatic 58, 3) := by decide +kernel
theorem dX3_signOfArea_8 : decode cX3_signOfArea 8 = .ok (.i2l, 1) := by decide +kernel
theorem dX3_signOfArea_9 : decode cX3_signOfArea 9 = .ok (.aload_n 0, 1) := by decide +kernel
theorem dX3_signOfArea_10 : decode cX3_signOfArea 10 = .ok (.getfield 15, 3) := by decide +kernel
theorem dX3_signOfArea_13 : decode cX3_signOfArea 13 = .ok (.iload_n 1, 1) := by decide +kernel
theorem dX3_signOfArea_14 : decode cX3_signOfArea 14 = .ok (.invokestatic 62, 3) := by decide +kernel
theorem dX3_signOfArea_17 : decode cX3_signOfArea 17 = .ok (.i2l, 1) := by decide +kernel
theorem dX3_signOfArea_18 : decode cX3_signOfArea 18 = .ok (.lmul, 1) := by decide +kernel
theorem dX3_signOfArea_19 : decode cX3_signOfArea 19 = .ok (.lstore_n 2, 1) := by decide +kernel
theorem dX3_signOfArea_20 : decode cX3_signOfArea 20 = .ok (.aload_n 0, 1) := by decide +kernel
theorem dX3_signOfArea_21 : decode cX3_signOfArea 21 = .ok (.getfield 15, 3) := by decide +kernel
theorem dX3_signOfArea_24 : decode cX3_signOfArea 24 = .ok (.iload_n 1, 1) := by decide +kernel
theorem dX3_signOfArea_25 : decode cX3_signOfArea 25 = .ok (.invokestatic 58, 3) := by decide +kernel
theorem dX3_signOfArea_28 : decode cX3_signOfArea 28 = .ok (.i2l, 1) := by decide +kernel
theorem dX3_signOfArea_29 : decode cX3_signOfArea 29 = .ok (.aload_n 0, 1) := by decide +kernel
theorem dX3_signOfArea_30 : decode cX3_signOfArea 30 = .ok (.getfield 9, 3) := by decide +kernel
theorem dX3_signOfArea_33 : decode cX3_signOfArea 33 = .ok (.iload_n 1, 1) := by decide +kernel
theorem dX3_signOfArea_34 : decode cX3_signOfArea 34 = .ok (.invokestatic 62, 3) := by decide +kernel
theorem dX3_signOfArea_37 : decode cX3_signOfArea 37 = .ok (.i2l, 1) := by decide +kernel
theorem dX3_signOfArea_38 : decode cX3_signOfArea 38 = .ok (.lmul, 1) := by decide +kernel
theorem dX3_signOfArea_39 : decode cX3_signOfArea 39 = .ok (.lstore 4, 2) := by decide +kernel
theorem dX3_signOfArea_41 : decode cX3_signOfArea 41 = .ok (.lload_n 2, 1) := by decide +kernel
theorem dX3_signOfArea_42 : decode cX3_signOfArea 42 = .ok (.lload 4, 2) := by decide +kernel
theorem dX3_signOfArea_44 : decode cX3_signOfArea 44 = .ok (.invokestatic 65, 3) := by decide +kernel
theorem dX3_signOfArea_47 : decode cX3_signOfArea 47 = .ok (.ireturn, 1) := by decide +kernel
theorem dX3_parityAt_0 : decode cX3_parityAt 0 = .ok (.aload_n 0, 1) := by decide +kernel
theorem dX3_parityAt_1 : decode cX3_parityAt 1 = .ok (.getfield 21, 3) := by decide +kernel
theorem dX3_parityAt_4 : decode cX3_parityAt 4 = .ok (.iload_n 1, 1) := by decide +kernel
theorem dX3_parityAt_5 : decode cX3_parityAt 5 = .ok (.iload_n 2, 1) := by decide +kernel
theorem dX3_parityAt_6 : decode cX3_parityAt 6 = .ok (.invokestatic 71, 3) := by decide +kernel
theorem dX3_parityAt_9 : decode cX3_parityAt 9 = .ok (.iaload, 1) := by decide +kernel
theorem dX3_parityAt_10 : decode cX3_parityAt 10 = .ok (.ireturn, 1) := by decide +kernel
theorem dX3_isCritical_0 : decode cX3_isCritical 0 = .ok (.aload_n 0, 1) := by decide +kernel
theorem dX3_isCritical_1 : decode cX3_isCritical 1 = .ok (.iload_n 1, 1) := by decide +kernel
theorem dX3_isCritical_2 : decode cX3_isCritical 2 = .ok (.iload_n 2, 1) := by decide +kernel
theorem dX3_isCritical_3 : decode cX3_isCritical 3 = .ok (.invokevirtual 74, 3) := by decide +kernel
theorem dX3_isCritical_6 : decode cX3_isCritical 6 = .ok (.istore_n 3, 1) := by decide +kernel
theorem dX3_isCritical_7 : decode cX3_isCritical 7 = .ok (.iload_n 1, 1) := by decide +kernel
theorem dX3_isCritical_8 : decode cX3_isCritical 8 = .ok (.bipush 24, 2) := by decide +kernel
theorem dX3_isCritical_10 : decode cX3_isCritical 10 = .ok (.if_icmp .ge 15, 3) := by decide +kernel
theorem dX3_isCritical_13 : decode cX3_isCritical 13 = .ok (.aload_n 0, 1) := by decide +kernel
theorem dX3_isCritical_14 : decode cX3_isCritical 14 = .ok (.iload_n 1, 1) := by decide +kernel
theorem dX3_isCritical_15 : decode cX3_isCritical 15 = .ok (.iconst 1, 1) := by decide +kernel
theorem dX3_isCritical_16 : decode cX3_isCritical 16 = .ok (.iadd, 1) := by decide +kernel
theorem dX3_isCritical_17 : decode cX3_isCritical 17 = .ok (.iload_n 2, 1) := by decide +kernel
theorem dX3_isCritical_18 : decode cX3_isCritical 18 = .ok (.invokevirtual 74, 3) := by decide +kernel
theorem dX3_isCritical_21 : decode cX3_isCritical 21 = .ok (.iload_n 3, 1) := by decide +kernel
theorem dX3_isCritical_22 : decode cX3_isCritical 22 = .ok (.if_icmp .ne 21, 3) := by decide +kernel
theorem dX3_isCritical_25 : decode cX3_isCritical 25 = .ok (.iload_n 2, 1) := by decide +kernel
theorem dX3_isCritical_26 : decode cX3_isCritical 26 = .ok (.bipush 24, 2) := by decide +kernel
theorem dX3_isCritical_28 : decode cX3_isCritical 28 = .ok (.if_icmp .ge 19, 3) := by decide +kernel
theorem dX3_isCritical_31 : decode cX3_isCritical 31 = .ok (.aload_n 0, 1) := by decide +kernel
theorem dX3_isCritical_32 : decode cX3_isCritical 32 = .ok (.iload_n 1, 1) := by decide +kernel
theorem dX3_isCritical_33 : decode cX3_isCritical 33 = .ok (.iload_n 2, 1) := by decide +kernel
theorem dX3_isCritical_34 : decode cX3_isCritical 34 = .ok (.iconst 1, 1) := by decide +kernel
theorem dX3_isCritical_35 : decode cX3_isCritical 35 = .ok (.iadd, 1) := by decide +kernel
theorem dX3_isCritical_36 : decode cX3_isCritical 36 = .ok (.invokevirtual 74, 3) := by decide +kernel
theorem dX3_isCritical_39 : decode cX3_isCritical 39 = .ok (.iload_n 3, 1) := by decide +kernel
theorem dX3_isCritical_40 : decode cX3_isCritical 40 = .ok (.if_icmp .eq 7, 3) := by decide +kernel
theorem dX3_isCritical_43 : decode cX3_isCritical 43 = .ok (.iconst 1, 1) := by decide +kernel
theorem dX3_isCritical_44 : decode cX3_isCritical 44 = .ok (.goto 4, 3) := by decide +kernel
theorem dX3_isCritical_47 : decode cX3_isCritical 47 = .ok (.iconst 0, 1) := by decide +kernel
theorem dX3_isCritical_48 : decode cX3_isCritical 48 = .ok (.ireturn, 1) := by decide +kernel
theorem dX3_countOfParity_0 : decode cX3_countOfParity 0 = .ok (.iconst 0, 1) := by decide +kernel
theorem dX3_countOfParity_1 : decode cX3_countOfParity 1 = .ok (.istore_n 2, 1) := by decide +kernel
theorem dX3_countOfParity_2 : decode cX3_countOfParity 2 = .ok (.iconst 0, 1) := by decide +kernel
theorem dX3_countOfParity_3 : decode cX3_countOfParity 3 = .ok (.istore_n 3, 1) := by decide +kernel
theorem dX3_countOfParity_4 : decode cX3_countOfParity 4 = .ok (.iload_n 3, 1) := by decide +kernel
theorem dX3_countOfParity_5 : decode cX3_countOfParity 5 = .ok (.sipush 2401, 3) := by decide +kernel
theorem dX3_countOfParity_8 : decode cX3_countOfParity 8 = .ok (.if_icmp .ge 27, 3) := by decide +kernel
theorem dX3_countOfParity_11 : decode cX3_countOfParity 11 = .ok (.iload_n 2, 1) := by decide +kernel
theorem dX3_countOfParity_12 : decode cX3_countOfParity 12 = .ok (.aload_n 0, 1) := by decide +kernel
theorem dX3_countOfParity_13 : decode cX3_countOfParity 13 = .ok (.getfield 21, 3) := by decide +kernel
theorem dX3_countOfParity_16 : decode cX3_countOfParity 16 = .ok (.iload_n 3, 1) := by decide +kernel
theorem dX3_countOfParity_17 : decode cX3_countOfParity 17 = .ok (.iaload, 1) := by decide +kernel
theorem dX3_countOfParity_18 : decode cX3_countOfParity 18 = .ok (.iload_n 1, 1) := by decide +kernel
theorem dX3_countOfParity_19 : decode cX3_countOfParity 19 = .ok (.if_icmp .ne 7, 3) := by decide +kernel
theorem dX3_countOfParity_22 : decode cX3_countOfParity 22 = .ok (.iconst 1, 1) := by decide +kernel
theorem dX3_countOfParity_23 : decode cX3_countOfParity 23 = .ok (.goto 4, 3) := by decide +kernel
theorem dX3_countOfParity_26 : decode cX3_countOfParity 26 = .ok (.iconst 0, 1) := by decide +kernel
theorem dX3_countOfParity_27 : decode cX3_countOfParity 27 = .ok (.iadd, 1) := by decide +kernel
theorem dX3_countOfParity_28 : decode cX3_countOfParity 28 = .ok (.istore_n 2, 1) := by decide +kernel
theorem dX3_countOfParity_29 : decode cX3_countOfParity 29 = .ok (.iinc 3 1, 3) := by decide +kernel
theorem dX3_countOfParity_32 : decode cX3_countOfParity 32 = .ok (.goto (-28), 3) := by decide +kernel
theorem dX3_countOfParity_35 : decode cX3_countOfParity 35 = .ok (.iload_n 2, 1) := by decide +kernel
theorem dX3_countOfParity_36 : decode cX3_countOfParity 36 = .ok (.ireturn, 1) := by decide +kernel
theorem dX3_delayOnWay_0 : decode cX3_delayOnWay 0 = .ok (.aload_n 0, 1) := by decide +kernel
theorem dX3_delayOnWay_1 : decode cX3_delayOnWay 1 = .ok (.getfield 9, 3) := by decide +kernel
theorem dX3_delayOnWay_4 : decode cX3_delayOnWay 4 = .ok (.iload_n 1, 1) := by decide +kernel
theorem dX3_delayOnWay_5 : decode cX3_delayOnWay 5 = .ok (.iload_n 2, 1) := by decide +kernel
theorem dX3_delayOnWay_6 : decode cX3_delayOnWay 6 = .ok (.invokestatic 32, 3) := by decide +kernel
theorem dX3_delayOnWay_9 : decode cX3_delayOnWay 9 = .ok (.iload_n 3, 1) := by decide +kernel
theorem dX3_delayOnWay_10 : decode cX3_delayOnWay 10 = .ok (.iload_n 1, 1) := by decide +kernel
theorem dX3_delayOnWay_11 : decode cX3_delayOnWay 11 = .ok (.isub, 1) := by decide +kernel
theorem dX3_delayOnWay_12 : decode cX3_delayOnWay 12 = .ok (.iconst 1, 1) := by decide +kernel
theorem dX3_delayOnWay_13 : decode cX3_delayOnWay 13 = .ok (.iload 5, 2) := by decide +kernel
theorem dX3_delayOnWay_15 : decode cX3_delayOnWay 15 = .ok (.invokestatic 77, 3) := by decide +kernel
theorem dX3_delayOnWay_18 : decode cX3_delayOnWay 18 = .ok (.aload_n 0, 1) := by decide +kernel
theorem dX3_delayOnWay_19 : decode cX3_delayOnWay 19 = .ok (.getfield 15, 3) := by decide +kernel
theorem dX3_delayOnWay_22 : decode cX3_delayOnWay 22 = .ok (.iload_n 3, 1) := by decide +kernel
theorem dX3_delayOnWay_23 : decode cX3_delayOnWay 23 = .ok (.iload_n 2, 1) := by decide +kernel
theorem dX3_delayOnWay_24 : decode cX3_delayOnWay 24 = .ok (.invokestatic 32, 3) := by decide +kernel
theorem dX3_delayOnWay_27 : decode cX3_delayOnWay 27 = .ok (.iload 4, 2) := by decide +kernel
theorem dX3_delayOnWay_29 : decode cX3_delayOnWay 29 = .ok (.iload_n 2, 1) := by decide +kernel
theorem dX3_delayOnWay_30 : decode cX3_delayOnWay 30 = .ok (.isub, 1) := by decide +kernel
theorem dX3_delayOnWay_31 : decode cX3_delayOnWay 31 = .ok (.bipush 51, 2) := by decide +kernel
theorem dX3_delayOnWay_33 : decode cX3_delayOnWay 33 = .ok (.iload 6, 2) := by decide +kernel
theorem dX3_delayOnWay_35 : decode cX3_delayOnWay 35 = .ok (.invokestatic 77, 3) := by decide +kernel
theorem dX3_delayOnWay_38 : decode cX3_delayOnWay 38 = .ok (.ladd, 1) := by decide +kernel
theorem dX3_delayOnWay_39 : decode cX3_delayOnWay 39 = .ok (.lreturn, 1) := by decide +kernel
theorem dX3_delayAlong_0 : decode cX3_delayAlong 0 = .ok (.iload_n 2, 1) := by decide +kernel
theorem dX3_delayAlong_1 : decode cX3_delayAlong 1 = .ok (.invokestatic 81, 3) := by decide +kernel
theorem dX3_delayAlong_4 : decode cX3_delayAlong 4 = .ok (.istore 5, 2) := by decide +kernel
theorem dX3_delayAlong_6 : decode cX3_delayAlong 6 = .ok (.lconst 0, 1) := by decide +kernel
theorem dX3_delayAlong_7 : decode cX3_delayAlong 7 = .ok (.lstore 6, 2) := by decide +kernel
theorem dX3_delayAlong_9 : decode cX3_delayAlong 9 = .ok (.iconst 0, 1) := by decide +kernel
theorem dX3_delayAlong_10 : decode cX3_delayAlong 10 = .ok (.istore 8, 2) := by decide +kernel
theorem dX3_delayAlong_12 : decode cX3_delayAlong 12 = .ok (.iload 8, 2) := by decide +kernel
theorem dX3_delayAlong_14 : decode cX3_delayAlong 14 = .ok (.iload_n 2, 1) := by decide +kernel
theorem dX3_delayAlong_15 : decode cX3_delayAlong 15 = .ok (.invokestatic 86, 3) := by decide +kernel
theorem dX3_delayAlong_18 : decode cX3_delayAlong 18 = .ok (.if_icmp .ge 49, 3) := by decide +kernel
theorem dX3_delayAlong_21 : decode cX3_delayAlong 21 = .ok (.iload_n 1, 1) := by decide +kernel
theorem dX3_delayAlong_22 : decode cX3_delayAlong 22 = .ok (.iload 8, 2) := by decide +kernel
theorem dX3_delayAlong_24 : decode cX3_delayAlong 24 = .ok (.iload 5, 2) := by decide +kernel
theorem dX3_delayAlong_26 : decode cX3_delayAlong 26 = .ok (.imul, 1) := by decide +kernel
theorem dX3_delayAlong_27 : decode cX3_delayAlong 27 = .ok (.iload_n 3, 1) := by decide +kernel
theorem dX3_delayAlong_28 : decode cX3_delayAlong 28 = .ok (.imul, 1) := by decide +kernel
theorem dX3_delayAlong_29 : decode cX3_delayAlong 29 = .ok (.iadd, 1) := by decide +kernel
theorem dX3_delayAlong_30 : decode cX3_delayAlong 30 = .ok (.istore 9, 2) := by decide +kernel
theorem dX3_delayAlong_32 : decode cX3_delayAlong 32 = .ok (.lload 6, 2) := by decide +kernel
theorem dX3_delayAlong_34 : decode cX3_delayAlong 34 = .ok (.iload 5, 2) := by decide +kernel
theorem dX3_delayAlong_36 : decode cX3_delayAlong 36 = .ok (.i2l, 1) := by decide +kernel
theorem dX3_delayAlong_37 : decode cX3_delayAlong 37 = .ok (.aload_n 0, 1) := by decide +kernel
theorem dX3_delayAlong_38 : decode cX3_delayAlong 38 = .ok (.iload 9, 2) := by decide +kernel
theorem dX3_delayAlong_40 : decode cX3_delayAlong 40 = .ok (.iaload, 1) := by decide +kernel
theorem dX3_delayAlong_41 : decode cX3_delayAlong 41 = .ok (.aload_n 0, 1) := by decide +kernel
theorem dX3_delayAlong_42 : decode cX3_delayAlong 42 = .ok (.iload 9, 2) := by decide +kernel
theorem dX3_delayAlong_44 : decode cX3_delayAlong 44 = .ok (.iload 5, 2) := by decide +kernel
theorem dX3_delayAlong_46 : decode cX3_delayAlong 46 = .ok (.iload_n 3, 1) := by decide +kernel
theorem dX3_delayAlong_47 : decode cX3_delayAlong 47 = .ok (.imul, 1) := by decide +kernel
theorem dX3_delayAlong_48 : decode cX3_delayAlong 48 = .ok (.iadd, 1) := by decide +kernel
theorem dX3_delayAlong_49 : decode cX3_delayAlong 49 = .ok (.iaload, 1) := by decide +kernel
theorem dX3_delayAlong_50 : decode cX3_delayAlong 50 = .ok (.iadd, 1) := by decide +kernel
theorem dX3_delayAlong_51 : decode cX3_delayAlong 51 = .ok (.iconst 2, 1) := by decide +kernel
theorem dX3_delayAlong_52 : decode cX3_delayAlong 52 = .ok (.iload 4, 2) := by decide +kernel
theorem dX3_delayAlong_54 : decode cX3_delayAlong 54 = .ok (.imul, 1) := by decide +kernel
theorem dX3_delayAlong_55 : decode cX3_delayAlong 55 = .ok (.isub, 1) := by decide +kernel
theorem dX3_delayAlong_56 : decode cX3_delayAlong 56 = .ok (.i2l, 1) := by decide +kernel
theorem dX3_delayAlong_57 : decode cX3_delayAlong 57 = .ok (.lmul, 1) := by decide +kernel
theorem dX3_delayAlong_58 : decode cX3_delayAlong 58 = .ok (.ladd, 1) := by decide +kernel
theorem dX3_delayAlong_59 : decode cX3_delayAlong 59 = .ok (.lstore 6, 2) := by decide +kernel
theorem dX3_delayAlong_61 : decode cX3_delayAlong 61 = .ok (.iinc 8 1, 3) := by decide +kernel
theorem dX3_delayAlong_64 : decode cX3_delayAlong 64 = .ok (.goto (-52), 3) := by decide +kernel
theorem dX3_delayAlong_67 : decode cX3_delayAlong 67 = .ok (.lload 6, 2) := by decide +kernel
theorem dX3_delayAlong_69 : decode cX3_delayAlong 69 = .ok (.lreturn, 1) := by decide +kernel
theorem dX3_stretchOf_0 : decode cX3_stretchOf 0 = .ok (.lconst 0, 1) := by decide +kernel
theorem dX3_stretchOf_1 : decode cX3_stretchOf 1 = .ok (.lstore_n 2, 1) := by decide +kernel
theorem dX3_stretchOf_2 : decode cX3_stretchOf 2 = .ok (.iload_n 1, 1) := by decide +kernel
theorem dX3_stretchOf_3 : decode cX3_stretchOf 3 = .ok (.ineg, 1) := by decide +kernel
theorem dX3_stretchOf_4 : decode cX3_stretchOf 4 = .ok (.istore 4, 2) := by decide +kernel
theorem dX3_stretchOf_6 : decode cX3_stretchOf 6 = .ok (.iload 4, 2) := by decide +kernel
theorem dX3_stretchOf_8 : decode cX3_stretchOf 8 = .ok (.iload_n 1, 1) := by decide +kernel
theorem dX3_stretchOf_9 : decode cX3_stretchOf 9 = .ok (.if_icmp .gt 53, 3) := by decide +kernel
theorem dX3_stretchOf_12 : decode cX3_stretchOf 12 = .ok (.iload_n 1, 1) := by decide +kernel
theorem dX3_stretchOf_13 : decode cX3_stretchOf 13 = .ok (.ineg, 1) := by decide +kernel
theorem dX3_stretchOf_14 : decode cX3_stretchOf 14 = .ok (.istore 5, 2) := by decide +kernel
theorem dX3_stretchOf_16 : decode cX3_stretchOf 16 = .ok (.iload 5, 2) := by decide +kernel
theorem dX3_stretchOf_18 : decode cX3_stretchOf 18 = .ok (.iload_n 1, 1) := by decide +kernel
theorem dX3_stretchOf_19 : decode cX3_stretchOf 19 = .ok (.if_icmp .gt 37, 3) := by decide +kernel
theorem dX3_stretchOf_22 : decode cX3_stretchOf 22 = .ok (.iload 5, 2) := by decide +kernel
theorem dX3_stretchOf_24 : decode cX3_stretchOf 24 = .ok (.invokestatic 86, 3) := by decide +kernel
theorem dX3_stretchOf_27 : decode cX3_stretchOf 27 = .ok (.iload 4, 2) := by decide +kernel
theorem dX3_stretchOf_29 : decode cX3_stretchOf 29 = .ok (.invokestatic 86, 3) := by decide +kernel
theorem dX3_stretchOf_32 : decode cX3_stretchOf 32 = .ok (.invokestatic 91, 3) := by decide +kernel
theorem dX3_stretchOf_35 : decode cX3_stretchOf 35 = .ok (.iload_n 1, 1) := by decide +kernel
theorem dX3_stretchOf_36 : decode cX3_stretchOf 36 = .ok (.if_icmp .ne 14, 3) := by decide +kernel
theorem dX3_stretchOf_39 : decode cX3_stretchOf 39 = .ok (.lload_n 2, 1) := by decide +kernel
theorem dX3_stretchOf_40 : decode cX3_stretchOf 40 = .ok (.aload_n 0, 1) := by decide +kernel
theorem dX3_stretchOf_41 : decode cX3_stretchOf 41 = .ok (.iload 5, 2) := by decide +kernel
theorem dX3_stretchOf_43 : decode cX3_stretchOf 43 = .ok (.iload 4, 2) := by decide +kernel
theorem dX3_stretchOf_45 : decode cX3_stretchOf 45 = .ok (.invokevirtual 94, 3) := by decide +kernel
theorem dX3_stretchOf_48 : decode cX3_stretchOf 48 = .ok (.ladd, 1) := by decide +kernel
theorem dX3_stretchOf_49 : decode cX3_stretchOf 49 = .ok (.lstore_n 2, 1) := by decide +kernel
theorem dX3_stretchOf_50 : decode cX3_stretchOf 50 = .ok (.iinc 5 1, 3) := by decide +kernel
theorem dX3_stretchOf_53 : decode cX3_stretchOf 53 = .ok (.goto (-37), 3) := by decide +kernel
theorem dX3_stretchOf_56 : decode cX3_stretchOf 56 = .ok (.iinc 4 1, 3) := by decide +kernel
theorem dX3_stretchOf_59 : decode cX3_stretchOf 59 = .ok (.goto (-53), 3) := by decide +kernel
theorem dX3_stretchOf_62 : decode cX3_stretchOf 62 = .ok (.lload_n 2, 1) := by decide +kernel
theorem dX3_stretchOf_63 : decode cX3_stretchOf 63 = .ok (.ldc2_w 98, 3) := by decide +kernel
theorem dX3_stretchOf_66 : decode cX3_stretchOf 66 = .ok (.invokestatic 100, 3) := by decide +kernel
theorem dX3_stretchOf_69 : decode cX3_stretchOf 69 = .ok (.l2i, 1) := by decide +kernel
theorem dX3_stretchOf_70 : decode cX3_stretchOf 70 = .ok (.ireturn, 1) := by decide +kernel
theorem dX3_doubledStretchAt_0 : decode cX3_doubledStretchAt 0 = .ok (.iload_n 1, 1) := by decide +kernel
theorem dX3_doubledStretchAt_1 : decode cX3_doubledStretchAt 1 = .ok (.iload_n 2, 1) := by decide +kernel
theorem dX3_doubledStretchAt_2 : decode cX3_doubledStretchAt 2 = .ok (.invokestatic 32, 3) := by decide +kernel
theorem dX3_doubledStretchAt_5 : decode cX3_doubledStretchAt 5 = .ok (.istore_n 3, 1) := by decide +kernel
theorem dX3_doubledStretchAt_6 : decode cX3_doubledStretchAt 6 = .ok (.aload_n 0, 1) := by decide +kernel
theorem dX3_doubledStretchAt_7 : decode cX3_doubledStretchAt 7 = .ok (.getfield 15, 3) := by decide +kernel
theorem dX3_doubledStretchAt_10 : decode cX3_doubledStretchAt 10 = .ok (.iload_n 3, 1) := by decide +kernel
theorem dX3_doubledStretchAt_11 : decode cX3_doubledStretchAt 11 = .ok (.invokestatic 58, 3) := by decide +kernel
theorem dX3_doubledStretchAt_14 : decode cX3_doubledStretchAt 14 = .ok (.aload_n 0, 1) := by decide +kernel
theorem dX3_doubledStretchAt_15 : decode cX3_doubledStretchAt 15 = .ok (.getfield 9, 3) := by decide +kernel
theorem dX3_doubledStretchAt_18 : decode cX3_doubledStretchAt 18 = .ok (.iload_n 3, 1) := by decide +kernel
theorem dX3_doubledStretchAt_19 : decode cX3_doubledStretchAt 19 = .ok (.invokestatic 62, 3) := by decide +kernel
theorem dX3_doubledStretchAt_22 : decode cX3_doubledStretchAt 22 = .ok (.iadd, 1) := by decide +kernel
theorem dX3_doubledStretchAt_23 : decode cX3_doubledStretchAt 23 = .ok (.i2l, 1) := by decide +kernel
theorem dX3_doubledStretchAt_24 : decode cX3_doubledStretchAt 24 = .ok (.lstore 4, 2) := by decide +kernel
theorem dX3_doubledStretchAt_26 : decode cX3_doubledStretchAt 26 = .ok (.aload_n 0, 1) := by decide +kernel
theorem dX3_doubledStretchAt_27 : decode cX3_doubledStretchAt 27 = .ok (.getfield 9, 3) := by decide +kernel
theorem dX3_doubledStretchAt_30 : decode cX3_doubledStretchAt 30 = .ok (.iload_n 3, 1) := by decide +kernel
theorem dX3_doubledStretchAt_31 : decode cX3_doubledStretchAt 31 = .ok (.invokestatic 58, 3) := by decide +kernel
theorem dX3_doubledStretchAt_34 : decode cX3_doubledStretchAt 34 = .ok (.aload_n 0, 1) := by decide +kernel
theorem dX3_doubledStretchAt_35 : decode cX3_doubledStretchAt 35 = .ok (.getfield 15, 3) := by decide +kernel
theorem dX3_doubledStretchAt_38 : decode cX3_doubledStretchAt 38 = .ok (.iload_n 3, 1) := by decide +kernel
theorem dX3_doubledStretchAt_39 : decode cX3_doubledStretchAt 39 = .ok (.invokestatic 62, 3) := by decide +kernel
theorem dX3_doubledStretchAt_42 : decode cX3_doubledStretchAt 42 = .ok (.isub, 1) := by decide +kernel
theorem dX3_doubledStretchAt_43 : decode cX3_doubledStretchAt 43 = .ok (.i2l, 1) := by decide +kernel
theorem dX3_doubledStretchAt_44 : decode cX3_doubledStretchAt 44 = .ok (.lstore 6, 2) := by decide +kernel
theorem dX3_doubledStretchAt_46 : decode cX3_doubledStretchAt 46 = .ok (.ldc2_w 104, 3) := by decide +kernel
theorem dX3_doubledStretchAt_49 : decode cX3_doubledStretchAt 49 = .ok (.lload 4, 2) := by decide +kernel
theorem dX3_doubledStretchAt_51 : decode cX3_doubledStretchAt 51 = .ok (.lmul, 1) := by decide +kernel
theorem dX3_doubledStretchAt_52 : decode cX3_doubledStretchAt 52 = .ok (.iload_n 1, 1) := by decide +kernel
theorem dX3_doubledStretchAt_53 : decode cX3_doubledStretchAt 53 = .ok (.i2l, 1) := by decide +kernel
theorem dX3_doubledStretchAt_54 : decode cX3_doubledStretchAt 54 = .ok (.lmul, 1) := by decide +kernel
theorem dX3_doubledStretchAt_55 : decode cX3_doubledStretchAt 55 = .ok (.iload_n 2, 1) := by decide +kernel
theorem dX3_doubledStretchAt_56 : decode cX3_doubledStretchAt 56 = .ok (.i2l, 1) := by decide +kernel
theorem dX3_doubledStretchAt_57 : decode cX3_doubledStretchAt 57 = .ok (.lmul, 1) := by decide +kernel
theorem dX3_doubledStretchAt_58 : decode cX3_doubledStretchAt 58 = .ok (.lload 6, 2) := by decide +kernel
theorem dX3_doubledStretchAt_60 : decode cX3_doubledStretchAt 60 = .ok (.iload_n 1, 1) := by decide +kernel
theorem dX3_doubledStretchAt_61 : decode cX3_doubledStretchAt 61 = .ok (.iload_n 1, 1) := by decide +kernel
theorem dX3_doubledStretchAt_62 : decode cX3_doubledStretchAt 62 = .ok (.imul, 1) := by decide +kernel
theorem dX3_doubledStretchAt_63 : decode cX3_doubledStretchAt 63 = .ok (.iload_n 2, 1) := by decide +kernel
theorem dX3_doubledStretchAt_64 : decode cX3_doubledStretchAt 64 = .ok (.iload_n 2, 1) := by decide +kernel
theorem dX3_doubledStretchAt_65 : decode cX3_doubledStretchAt 65 = .ok (.imul, 1) := by decide +kernel
theorem dX3_doubledStretchAt_66 : decode cX3_doubledStretchAt 66 = .ok (.isub, 1) := by decide +kernel
theorem dX3_doubledStretchAt_67 : decode cX3_doubledStretchAt 67 = .ok (.i2l, 1) := by decide +kernel
theorem dX3_doubledStretchAt_68 : decode cX3_doubledStretchAt 68 = .ok (.lmul, 1) := by decide +kernel
theorem dX3_doubledStretchAt_69 : decode cX3_doubledStretchAt 69 = .ok (.lsub, 1) := by decide +kernel
theorem dX3_doubledStretchAt_70 : decode cX3_doubledStretchAt 70 = .ok (.lreturn, 1) := by decide +kernel
theorem dX4_init_0 : decode cX4_init 0 = .ok (.aload_n 0, 1) := by decide +kernel
theorem dX4_init_1 : decode cX4_init 1 = .ok (.invokespecial 1, 3) := by decide +kernel
theorem dX4_init_4 : decode cX4_init 4 = .ok (.aload_n 0, 1) := by decide +kernel
theorem dX4_init_5 : decode cX4_init 5 = .ok (.sipush 8192, 3) := by decide +kernel
theorem dX4_init_8 : decode cX4_init 8 = .ok (.newarray .int, 2) := by decide +kernel
theorem dX4_init_10 : decode cX4_init 10 = .ok (.putfield 9, 3) := by decide +kernel
theorem dX4_init_13 : decode cX4_init 13 = .ok (.aload_n 0, 1) := by decide +kernel
theorem dX4_init_14 : decode cX4_init 14 = .ok (.sipush 4096, 3) := by decide +kernel
theorem dX4_init_17 : decode cX4_init 17 = .ok (.newarray .int, 2) := by decide +kernel
theorem dX4_init_19 : decode cX4_init 19 = .ok (.putfield 13, 3) := by decide +kernel
theorem dX4_init_22 : decode cX4_init 22 = .ok (.aload_n 0, 1) := by decide +kernel
theorem dX4_init_23 : decode cX4_init 23 = .ok (.sipush 4096, 3) := by decide +kernel
theorem dX4_init_26 : decode cX4_init 26 = .ok (.newarray .int, 2) := by decide +kernel
theorem dX4_init_28 : decode cX4_init 28 = .ok (.putfield 16, 3) := by decide +kernel
theorem dX4_init_31 : decode cX4_init 31 = .ok (.return_, 1) := by decide +kernel
theorem dX4_start_0 : decode cX4_start 0 = .ok (.aload_n 0, 1) := by decide +kernel
theorem dX4_start_1 : decode cX4_start 1 = .ok (.getfield 9, 3) := by decide +kernel
theorem dX4_start_4 : decode cX4_start 4 = .ok (.iconst 0, 1) := by decide +kernel
theorem dX4_start_5 : decode cX4_start 5 = .ok (.invokestatic 19, 3) := by decide +kernel
theorem dX4_start_8 : decode cX4_start 8 = .ok (.aload_n 0, 1) := by decide +kernel
theorem dX4_start_9 : decode cX4_start 9 = .ok (.iconst 0, 1) := by decide +kernel
theorem dX4_start_10 : decode cX4_start 10 = .ok (.putfield 25, 3) := by decide +kernel
theorem dX4_start_13 : decode cX4_start 13 = .ok (.return_, 1) := by decide +kernel
theorem dX4_numberOf_0 : decode cX4_numberOf 0 = .ok (.iload_n 1, 1) := by decide +kernel
theorem dX4_numberOf_1 : decode cX4_numberOf 1 = .ok (.ldc 29, 2) := by decide +kernel
theorem dX4_numberOf_3 : decode cX4_numberOf 3 = .ok (.imul, 1) := by decide +kernel
theorem dX4_numberOf_4 : decode cX4_numberOf 4 = .ok (.bipush 19, 2) := by decide +kernel
theorem dX4_numberOf_6 : decode cX4_numberOf 6 = .ok (.iushr, 1) := by decide +kernel
theorem dX4_numberOf_7 : decode cX4_numberOf 7 = .ok (.istore_n 2, 1) := by decide +kernel
theorem dX4_numberOf_8 : decode cX4_numberOf 8 = .ok (.iconst 0, 1) := by decide +kernel
theorem dX4_numberOf_9 : decode cX4_numberOf 9 = .ok (.istore_n 3, 1) := by decide +kernel
theorem dX4_numberOf_10 : decode cX4_numberOf 10 = .ok (.iload_n 3, 1) := by decide +kernel
theorem dX4_numberOf_11 : decode cX4_numberOf 11 = .ok (.sipush 8192, 3) := by decide +kernel
theorem dX4_numberOf_14 : decode cX4_numberOf 14 = .ok (.if_icmp .ge 64, 3) := by decide +kernel
theorem dX4_numberOf_17 : decode cX4_numberOf 17 = .ok (.aload_n 0, 1) := by decide +kernel
theorem dX4_numberOf_18 : decode cX4_numberOf 18 = .ok (.getfield 9, 3) := by decide +kernel
theorem dX4_numberOf_21 : decode cX4_numberOf 21 = .ok (.iload_n 2, 1) := by decide +kernel
theorem dX4_numberOf_22 : decode cX4_numberOf 22 = .ok (.iaload, 1) := by decide +kernel
theorem dX4_numberOf_23 : decode cX4_numberOf 23 = .ok (.iconst 1, 1) := by decide +kernel
theorem dX4_numberOf_24 : decode cX4_numberOf 24 = .ok (.isub, 1) := by decide +kernel
theorem dX4_numberOf_25 : decode cX4_numberOf 25 = .ok (.istore 4, 2) := by decide +kernel
theorem dX4_numberOf_27 : decode cX4_numberOf 27 = .ok (.iload 4, 2) := by decide +kernel
theorem dX4_numberOf_29 : decode cX4_numberOf 29 = .ok (.ifCond .ge 10, 3) := by decide +kernel
theorem dX4_numberOf_32 : decode cX4_numberOf 32 = .ok (.aload_n 0, 1) := by decide +kernel
theorem dX4_numberOf_33 : decode cX4_numberOf 33 = .ok (.iload_n 1, 1) := by decide +kernel
theorem dX4_numberOf_34 : decode cX4_numberOf 34 = .ok (.iload_n 2, 1) := by decide +kernel
theorem dX4_numberOf_35 : decode cX4_numberOf 35 = .ok (.invokevirtual 30, 3) := by decide +kernel
theorem dX4_numberOf_38 : decode cX4_numberOf 38 = .ok (.ireturn, 1) := by decide +kernel
theorem dX4_numberOf_39 : decode cX4_numberOf 39 = .ok (.aload_n 0, 1) := by decide +kernel
theorem dX4_numberOf_40 : decode cX4_numberOf 40 = .ok (.getfield 13, 3) := by decide +kernel
theorem dX4_numberOf_43 : decode cX4_numberOf 43 = .ok (.iload 4, 2) := by decide +kernel
theorem dX4_numberOf_45 : decode cX4_numberOf 45 = .ok (.iaload, 1) := by decide +kernel
theorem dX4_numberOf_46 : decode cX4_numberOf 46 = .ok (.iload_n 1, 1) := by decide +kernel
theorem dX4_numberOf_47 : decode cX4_numberOf 47 = .ok (.if_icmp .ne 17, 3) := by decide +kernel
theorem dX4_numberOf_50 : decode cX4_numberOf 50 = .ok (.aload_n 0, 1) := by decide +kernel
theorem dX4_numberOf_51 : decode cX4_numberOf 51 = .ok (.getfield 16, 3) := by decide +kernel
theorem dX4_numberOf_54 : decode cX4_numberOf 54 = .ok (.iload 4, 2) := by decide +kernel
theorem dX4_numberOf_56 : decode cX4_numberOf 56 = .ok (.dup2, 1) := by decide +kernel
theorem dX4_numberOf_57 : decode cX4_numberOf 57 = .ok (.iaload, 1) := by decide +kernel
theorem dX4_numberOf_58 : decode cX4_numberOf 58 = .ok (.iconst 1, 1) := by decide +kernel
theorem dX4_numberOf_59 : decode cX4_numberOf 59 = .ok (.iadd, 1) := by decide +kernel
theorem dX4_numberOf_60 : decode cX4_numberOf 60 = .ok (.iastore, 1) := by decide +kernel
theorem dX4_numberOf_61 : decode cX4_numberOf 61 = .ok (.iload 4, 2) := by decide +kernel
theorem dX4_numberOf_63 : decode cX4_numberOf 63 = .ok (.ireturn, 1) := by decide +kernel
theorem dX4_numberOf_64 : decode cX4_numberOf 64 = .ok (.iload_n 2, 1) := by decide +kernel
theorem dX4_numberOf_65 : decode cX4_numberOf 65 = .ok (.iconst 1, 1) := by decide +kernel
theorem dX4_numberOf_66 : decode cX4_numberOf 66 = .ok (.iadd, 1) := by decide +kernel
theorem dX4_numberOf_67 : decode cX4_numberOf 67 = .ok (.sipush 8191, 3) := by decide +kernel
theorem dX4_numberOf_70 : decode cX4_numberOf 70 = .ok (.iand, 1) := by decide +kernel
theorem dX4_numberOf_71 : decode cX4_numberOf 71 = .ok (.istore_n 2, 1) := by decide +kernel
theorem dX4_numberOf_72 : decode cX4_numberOf 72 = .ok (.iinc 3 1, 3) := by decide +kernel
theorem dX4_numberOf_75 : decode cX4_numberOf 75 = .ok (.goto (-65), 3) := by decide +kernel
theorem dX4_numberOf_78 : decode cX4_numberOf 78 = .ok (.iconst 0, 1) := by decide +kernel
theorem dX4_numberOf_79 : decode cX4_numberOf 79 = .ok (.ireturn, 1) := by decide +kernel
theorem dX4_take_0 : decode cX4_take 0 = .ok (.aload_n 0, 1) := by decide +kernel
theorem dX4_take_1 : decode cX4_take 1 = .ok (.getfield 25, 3) := by decide +kernel
theorem dX4_take_4 : decode cX4_take 4 = .ok (.sipush 4096, 3) := by decide +kernel
theorem dX4_take_7 : decode cX4_take 7 = .ok (.if_icmp .lt 5, 3) := by decide +kernel
theorem dX4_take_10 : decode cX4_take 10 = .ok (.iconst 0, 1) := by decide +kernel
theorem dX4_take_11 : decode cX4_take 11 = .ok (.ireturn, 1) := by decide +kernel
theorem dX4_take_12 : decode cX4_take 12 = .ok (.aload_n 0, 1) := by decide +kernel
theorem dX4_take_13 : decode cX4_take 13 = .ok (.getfield 25, 3) := by decide +kernel
theorem dX4_take_16 : decode cX4_take 16 = .ok (.istore_n 3, 1) := by decide +kernel
theorem dX4_take_17 : decode cX4_take 17 = .ok (.aload_n 0, 1) := by decide +kernel
theorem dX4_take_18 : decode cX4_take 18 = .ok (.getfield 13, 3) := by decide +kernel
theorem dX4_take_21 : decode cX4_take 21 = .ok (.iload_n 3, 1) := by decide +kernel
theorem dX4_take_22 : decode cX4_take 22 = .ok (.iload_n 1, 1) := by decide +kernel
theorem dX4_take_23 : decode cX4_take 23 = .ok (.iastore, 1) := by decide +kernel
theorem dX4_take_24 : decode cX4_take 24 = .ok (.aload_n 0, 1) := by decide +kernel
theorem dX4_take_25 : decode cX4_take 25 = .ok (.getfield 16, 3) := by decide +kernel
theorem dX4_take_28 : decode cX4_take 28 = .ok (.iload_n 3, 1) := by decide +kernel
theorem dX4_take_29 : decode cX4_take 29 = .ok (.iconst 1, 1) := by decide +kernel
theorem dX4_take_30 : decode cX4_take 30 = .ok (.iastore, 1) := by decide +kernel
theorem dX4_take_31 : decode cX4_take 31 = .ok (.aload_n 0, 1) := by decide +kernel
theorem dX4_take_32 : decode cX4_take 32 = .ok (.dup, 1) := by decide +kernel
theorem dX4_take_33 : decode cX4_take 33 = .ok (.getfield 25, 3) := by decide +kernel
theorem dX4_take_36 : decode cX4_take 36 = .ok (.iconst 1, 1) := by decide +kernel
theorem dX4_take_37 : decode cX4_take 37 = .ok (.iadd, 1) := by decide +kernel
theorem dX4_take_38 : decode cX4_take 38 = .ok (.putfield 25, 3) := by decide +kernel
theorem dX4_take_41 : decode cX4_take 41 = .ok (.aload_n 0, 1) := by decide +kernel
theorem dX4_take_42 : decode cX4_take 42 = .ok (.getfield 9, 3) := by decide +kernel
theorem dX4_take_45 : decode cX4_take 45 = .ok (.iload_n 2, 1) := by decide +kernel
theorem dX4_take_46 : decode cX4_take 46 = .ok (.aload_n 0, 1) := by decide +kernel
theorem dX4_take_47 : decode cX4_take 47 = .ok (.getfield 25, 3) := by decide +kernel
theorem dX4_take_50 : decode cX4_take 50 = .ok (.iastore, 1) := by decide +kernel
theorem dX4_take_51 : decode cX4_take 51 = .ok (.iload_n 3, 1) := by decide +kernel
theorem dX4_take_52 : decode cX4_take 52 = .ok (.ireturn, 1) := by decide +kernel
theorem dX4_greatest_0 : decode cX4_greatest 0 = .ok (.iconst 0, 1) := by decide +kernel
theorem dX4_greatest_1 : decode cX4_greatest 1 = .ok (.istore_n 1, 1) := by decide +kernel
theorem dX4_greatest_2 : decode cX4_greatest 2 = .ok (.iconst 1, 1) := by decide +kernel
theorem dX4_greatest_3 : decode cX4_greatest 3 = .ok (.istore_n 2, 1) := by decide +kernel
theorem dX4_greatest_4 : decode cX4_greatest 4 = .ok (.iload_n 2, 1) := by decide +kernel
theorem dX4_greatest_5 : decode cX4_greatest 5 = .ok (.aload_n 0, 1) := by decide +kernel
theorem dX4_greatest_6 : decode cX4_greatest 6 = .ok (.getfield 25, 3) := by decide +kernel
theorem dX4_greatest_9 : decode cX4_greatest 9 = .ok (.if_icmp .ge 26, 3) := by decide +kernel
theorem dX4_greatest_12 : decode cX4_greatest 12 = .ok (.aload_n 0, 1) := by decide +kernel
theorem dX4_greatest_13 : decode cX4_greatest 13 = .ok (.getfield 16, 3) := by decide +kernel
theorem dX4_greatest_16 : decode cX4_greatest 16 = .ok (.iload_n 2, 1) := by decide +kernel
theorem dX4_greatest_17 : decode cX4_greatest 17 = .ok (.iaload, 1) := by decide +kernel
theorem dX4_greatest_18 : decode cX4_greatest 18 = .ok (.aload_n 0, 1) := by decide +kernel
theorem dX4_greatest_19 : decode cX4_greatest 19 = .ok (.getfield 16, 3) := by decide +kernel
theorem dX4_greatest_22 : decode cX4_greatest 22 = .ok (.iload_n 1, 1) := by decide +kernel
theorem dX4_greatest_23 : decode cX4_greatest 23 = .ok (.iaload, 1) := by decide +kernel
theorem dX4_greatest_24 : decode cX4_greatest 24 = .ok (.if_icmp .le 5, 3) := by decide +kernel
theorem dX4_greatest_27 : decode cX4_greatest 27 = .ok (.iload_n 2, 1) := by decide +kernel
theorem dX4_greatest_28 : decode cX4_greatest 28 = .ok (.istore_n 1, 1) := by decide +kernel
theorem dX4_greatest_29 : decode cX4_greatest 29 = .ok (.iinc 2 1, 3) := by decide +kernel
theorem dX4_greatest_32 : decode cX4_greatest 32 = .ok (.goto (-28), 3) := by decide +kernel
theorem dX4_greatest_35 : decode cX4_greatest 35 = .ok (.iload_n 1, 1) := by decide +kernel
theorem dX4_greatest_36 : decode cX4_greatest 36 = .ok (.ireturn, 1) := by decide +kernel
theorem dX5_init_0 : decode cX5_init 0 = .ok (.aload_n 0, 1) := by decide +kernel
theorem dX5_init_1 : decode cX5_init 1 = .ok (.invokespecial 3, 3) := by decide +kernel
theorem dX5_init_4 : decode cX5_init 4 = .ok (.aload_n 0, 1) := by decide +kernel
theorem dX5_init_5 : decode cX5_init 5 = .ok (.sipush 200, 3) := by decide +kernel
theorem dX5_init_8 : decode cX5_init 8 = .ok (.newarray .int, 2) := by decide +kernel
theorem dX5_init_10 : decode cX5_init 10 = .ok (.putfield 9, 3) := by decide +kernel
theorem dX5_init_13 : decode cX5_init 13 = .ok (.aload_n 0, 1) := by decide +kernel
theorem dX5_init_14 : decode cX5_init 14 = .ok (.bipush 8, 2) := by decide +kernel
theorem dX5_init_16 : decode cX5_init 16 = .ok (.bipush 6, 2) := by decide +kernel
theorem dX5_init_18 : decode cX5_init 18 = .ok (.multianewarray 15 2, 4) := by decide +kernel
theorem dX5_init_22 : decode cX5_init 22 = .ok (.putfield 17, 3) := by decide +kernel
theorem dX5_init_25 : decode cX5_init 25 = .ok (.return_, 1) := by decide +kernel
theorem dX5_add_0 : decode cX5_add 0 = .ok (.aload_n 0, 1) := by decide +kernel
theorem dX5_add_1 : decode cX5_add 1 = .ok (.getfield 20, 3) := by decide +kernel
theorem dX5_add_4 : decode cX5_add 4 = .ok (.sipush 200, 3) := by decide +kernel
theorem dX5_add_7 : decode cX5_add 7 = .ok (.if_icmp .ge 23, 3) := by decide +kernel
theorem dX5_add_10 : decode cX5_add 10 = .ok (.aload_n 0, 1) := by decide +kernel
theorem dX5_add_11 : decode cX5_add 11 = .ok (.getfield 9, 3) := by decide +kernel
theorem dX5_add_14 : decode cX5_add 14 = .ok (.aload_n 0, 1) := by decide +kernel
theorem dX5_add_15 : decode cX5_add 15 = .ok (.getfield 20, 3) := by decide +kernel
theorem dX5_add_18 : decode cX5_add 18 = .ok (.iload_n 1, 1) := by decide +kernel
theorem dX5_add_19 : decode cX5_add 19 = .ok (.iastore, 1) := by decide +kernel
theorem dX5_add_20 : decode cX5_add 20 = .ok (.aload_n 0, 1) := by decide +kernel
theorem dX5_add_21 : decode cX5_add 21 = .ok (.dup, 1) := by decide +kernel
theorem dX5_add_22 : decode cX5_add 22 = .ok (.getfield 20, 3) := by decide +kernel
theorem dX5_add_25 : decode cX5_add 25 = .ok (.iconst 1, 1) := by decide +kernel
theorem dX5_add_26 : decode cX5_add 26 = .ok (.iadd, 1) := by decide +kernel
theorem dX5_add_27 : decode cX5_add 27 = .ok (.putfield 20, 3) := by decide +kernel
theorem dX5_add_30 : decode cX5_add 30 = .ok (.return_, 1) := by decide +kernel
theorem dX5_tellBodies_0 : decode cX5_tellBodies 0 = .ok (.aload_n 0, 1) := by decide +kernel
theorem dX5_tellBodies_1 : decode cX5_tellBodies 1 = .ok (.iconst 0, 1) := by decide +kernel
theorem dX5_tellBodies_2 : decode cX5_tellBodies 2 = .ok (.putfield 24, 3) := by decide +kernel
theorem dX5_tellBodies_5 : decode cX5_tellBodies 5 = .ok (.iconst 0, 1) := by decide +kernel
theorem dX5_tellBodies_6 : decode cX5_tellBodies 6 = .ok (.istore_n 1, 1) := by decide +kernel
theorem dX5_tellBodies_7 : decode cX5_tellBodies 7 = .ok (.iload_n 1, 1) := by decide +kernel
theorem dX5_tellBodies_8 : decode cX5_tellBodies 8 = .ok (.bipush 8, 2) := by decide +kernel
theorem dX5_tellBodies_10 : decode cX5_tellBodies 10 = .ok (.if_icmp .ge 35, 3) := by decide +kernel
theorem dX5_tellBodies_13 : decode cX5_tellBodies 13 = .ok (.aload_n 0, 1) := by decide +kernel
theorem dX5_tellBodies_14 : decode cX5_tellBodies 14 = .ok (.getfield 24, 3) := by decide +kernel
theorem dX5_tellBodies_17 : decode cX5_tellBodies 17 = .ok (.aload_n 0, 1) := by decide +kernel
theorem dX5_tellBodies_18 : decode cX5_tellBodies 18 = .ok (.getfield 20, 3) := by decide +kernel
theorem dX5_tellBodies_21 : decode cX5_tellBodies 21 = .ok (.if_icmp .ge 24, 3) := by decide +kernel
theorem dX5_tellBodies_24 : decode cX5_tellBodies 24 = .ok (.aload_n 0, 1) := by decide +kernel
theorem dX5_tellBodies_25 : decode cX5_tellBodies 25 = .ok (.aload_n 0, 1) := by decide +kernel
theorem dX5_tellBodies_26 : decode cX5_tellBodies 26 = .ok (.getfield 17, 3) := by decide +kernel
theorem dX5_tellBodies_29 : decode cX5_tellBodies 29 = .ok (.iload_n 1, 1) := by decide +kernel
theorem dX5_tellBodies_30 : decode cX5_tellBodies 30 = .ok (.aaload, 1) := by decide +kernel
theorem dX5_tellBodies_31 : decode cX5_tellBodies 31 = .ok (.invokevirtual 27, 3) := by decide +kernel
theorem dX5_tellBodies_34 : decode cX5_tellBodies 34 = .ok (.ifCond .ne 5, 3) := by decide +kernel
theorem dX5_tellBodies_37 : decode cX5_tellBodies 37 = .ok (.iconst (-1), 1) := by decide +kernel
theorem dX5_tellBodies_38 : decode cX5_tellBodies 38 = .ok (.ireturn, 1) := by decide +kernel
theorem dX5_tellBodies_39 : decode cX5_tellBodies 39 = .ok (.iinc 1 1, 3) := by decide +kernel
theorem dX5_tellBodies_42 : decode cX5_tellBodies 42 = .ok (.goto (-35), 3) := by decide +kernel
theorem dX5_tellBodies_45 : decode cX5_tellBodies 45 = .ok (.aload_n 0, 1) := by decide +kernel
theorem dX5_tellBodies_46 : decode cX5_tellBodies 46 = .ok (.getfield 24, 3) := by decide +kernel
theorem dX5_tellBodies_49 : decode cX5_tellBodies 49 = .ok (.aload_n 0, 1) := by decide +kernel
theorem dX5_tellBodies_50 : decode cX5_tellBodies 50 = .ok (.getfield 20, 3) := by decide +kernel
theorem dX5_tellBodies_53 : decode cX5_tellBodies 53 = .ok (.if_icmp .ge 7, 3) := by decide +kernel
theorem dX5_tellBodies_56 : decode cX5_tellBodies 56 = .ok (.iconst (-1), 1) := by decide +kernel
theorem dX5_tellBodies_57 : decode cX5_tellBodies 57 = .ok (.goto 4, 3) := by decide +kernel
theorem dX5_tellBodies_60 : decode cX5_tellBodies 60 = .ok (.iload_n 1, 1) := by decide +kernel
theorem dX5_tellBodies_61 : decode cX5_tellBodies 61 = .ok (.ireturn, 1) := by decide +kernel
theorem dX5_takeItem_0 : decode cX5_takeItem 0 = .ok (.aload_n 0, 1) := by decide +kernel
theorem dX5_takeItem_1 : decode cX5_takeItem 1 = .ok (.invokevirtual 31, 3) := by decide +kernel
theorem dX5_takeItem_4 : decode cX5_takeItem 4 = .ok (.istore_n 2, 1) := by decide +kernel
theorem dX5_takeItem_5 : decode cX5_takeItem 5 = .ok (.iload_n 2, 1) := by decide +kernel
theorem dX5_takeItem_6 : decode cX5_takeItem 6 = .ok (.ifCond .ge 5, 3) := by decide +kernel
theorem dX5_takeItem_9 : decode cX5_takeItem 9 = .ok (.iconst 0, 1) := by decide +kernel
theorem dX5_takeItem_10 : decode cX5_takeItem 10 = .ok (.ireturn, 1) := by decide +kernel
theorem dX5_takeItem_11 : decode cX5_takeItem 11 = .ok (.aload_n 1, 1) := by decide +kernel
theorem dX5_takeItem_12 : decode cX5_takeItem 12 = .ok (.iconst 0, 1) := by decide +kernel
theorem dX5_takeItem_13 : decode cX5_takeItem 13 = .ok (.iload_n 2, 1) := by decide +kernel
theorem dX5_takeItem_14 : decode cX5_takeItem 14 = .ok (.iastore, 1) := by decide +kernel
theorem dX5_takeItem_15 : decode cX5_takeItem 15 = .ok (.aload_n 1, 1) := by decide +kernel
theorem dX5_takeItem_16 : decode cX5_takeItem 16 = .ok (.iconst 4, 1) := by decide +kernel
theorem dX5_takeItem_17 : decode cX5_takeItem 17 = .ok (.iconst 0, 1) := by decide +kernel
theorem dX5_takeItem_18 : decode cX5_takeItem 18 = .ok (.iastore, 1) := by decide +kernel
theorem dX5_takeItem_19 : decode cX5_takeItem 19 = .ok (.aload_n 1, 1) := by decide +kernel
theorem dX5_takeItem_20 : decode cX5_takeItem 20 = .ok (.iconst 5, 1) := by decide +kernel
theorem dX5_takeItem_21 : decode cX5_takeItem 21 = .ok (.getstatic 35, 3) := by decide +kernel
theorem dX5_takeItem_24 : decode cX5_takeItem 24 = .ok (.iconst 5, 1) := by decide +kernel
theorem dX5_takeItem_25 : decode cX5_takeItem 25 = .ok (.iaload, 1) := by decide +kernel
theorem dX5_takeItem_26 : decode cX5_takeItem 26 = .ok (.iastore, 1) := by decide +kernel
theorem dX5_takeItem_27 : decode cX5_takeItem 27 = .ok (.aload_n 0, 1) := by decide +kernel
theorem dX5_takeItem_28 : decode cX5_takeItem 28 = .ok (.aload_n 1, 1) := by decide +kernel
theorem dX5_takeItem_29 : decode cX5_takeItem 29 = .ok (.iconst 1, 1) := by decide +kernel
theorem dX5_takeItem_30 : decode cX5_takeItem 30 = .ok (.invokevirtual 38, 3) := by decide +kernel
theorem dX5_takeItem_33 : decode cX5_takeItem 33 = .ok (.ifCond .eq 97, 3) := by decide +kernel
theorem dX5_takeItem_36 : decode cX5_takeItem 36 = .ok (.aload_n 0, 1) := by decide +kernel
theorem dX5_takeItem_37 : decode cX5_takeItem 37 = .ok (.bipush 44, 2) := by decide +kernel
theorem dX5_takeItem_39 : decode cX5_takeItem 39 = .ok (.invokevirtual 42, 3) := by decide +kernel
theorem dX5_takeItem_42 : decode cX5_takeItem 42 = .ok (.ifCond .eq 88, 3) := by decide +kernel
theorem dX5_takeItem_45 : decode cX5_takeItem 45 = .ok (.aload_n 0, 1) := by decide +kernel
theorem dX5_takeItem_46 : decode cX5_takeItem 46 = .ok (.aload_n 1, 1) := by decide +kernel
theorem dX5_takeItem_47 : decode cX5_takeItem 47 = .ok (.iconst 2, 1) := by decide +kernel
theorem dX5_takeItem_48 : decode cX5_takeItem 48 = .ok (.invokevirtual 38, 3) := by decide +kernel
theorem dX5_takeItem_51 : decode cX5_takeItem 51 = .ok (.ifCond .eq 79, 3) := by decide +kernel
theorem dX5_takeItem_54 : decode cX5_takeItem 54 = .ok (.aload_n 0, 1) := by decide +kernel
theorem dX5_takeItem_55 : decode cX5_takeItem 55 = .ok (.bipush 119, 2) := by decide +kernel
theorem dX5_takeItem_57 : decode cX5_takeItem 57 = .ok (.invokevirtual 42, 3) := by decide +kernel
theorem dX5_takeItem_60 : decode cX5_takeItem 60 = .ok (.ifCond .eq 70, 3) := by decide +kernel
theorem dX5_takeItem_63 : decode cX5_takeItem 63 = .ok (.aload_n 0, 1) := by decide +kernel
theorem dX5_takeItem_64 : decode cX5_takeItem 64 = .ok (.aload_n 1, 1) := by decide +kernel
theorem dX5_takeItem_65 : decode cX5_takeItem 65 = .ok (.iconst 3, 1) := by decide +kernel
theorem dX5_takeItem_66 : decode cX5_takeItem 66 = .ok (.invokevirtual 38, 3) := by decide +kernel
theorem dX5_takeItem_69 : decode cX5_takeItem 69 = .ok (.ifCond .eq 61, 3) := by decide +kernel
theorem dX5_takeItem_72 : decode cX5_takeItem 72 = .ok (.iload_n 2, 1) := by decide +kernel
theorem dX5_takeItem_73 : decode cX5_takeItem 73 = .ok (.ifCond .eq 21, 3) := by decide +kernel
theorem dX5_takeItem_76 : decode cX5_takeItem 76 = .ok (.aload_n 0, 1) := by decide +kernel
theorem dX5_takeItem_77 : decode cX5_takeItem 77 = .ok (.bipush 111, 2) := by decide +kernel
theorem dX5_takeItem_79 : decode cX5_takeItem 79 = .ok (.invokevirtual 42, 3) := by decide +kernel
theorem dX5_takeItem_82 : decode cX5_takeItem 82 = .ok (.ifCond .eq 48, 3) := by decide +kernel
theorem dX5_takeItem_85 : decode cX5_takeItem 85 = .ok (.aload_n 0, 1) := by decide +kernel
theorem dX5_takeItem_86 : decode cX5_takeItem 86 = .ok (.aload_n 1, 1) := by decide +kernel
theorem dX5_takeItem_87 : decode cX5_takeItem 87 = .ok (.iconst 4, 1) := by decide +kernel
theorem dX5_takeItem_88 : decode cX5_takeItem 88 = .ok (.invokevirtual 38, 3) := by decide +kernel
theorem dX5_takeItem_91 : decode cX5_takeItem 91 = .ok (.ifCond .eq 39, 3) := by decide +kernel
theorem dX5_takeItem_94 : decode cX5_takeItem 94 = .ok (.iload_n 2, 1) := by decide +kernel
theorem dX5_takeItem_95 : decode cX5_takeItem 95 = .ok (.iconst 2, 1) := by decide +kernel
theorem dX5_takeItem_96 : decode cX5_takeItem 96 = .ok (.if_icmp .ne 21, 3) := by decide +kernel
theorem dX5_takeItem_99 : decode cX5_takeItem 99 = .ok (.aload_n 0, 1) := by decide +kernel
theorem dX5_takeItem_100 : decode cX5_takeItem 100 = .ok (.bipush 101, 2) := by decide +kernel
theorem dX5_takeItem_102 : decode cX5_takeItem 102 = .ok (.invokevirtual 42, 3) := by decide +kernel
theorem dX5_takeItem_105 : decode cX5_takeItem 105 = .ok (.ifCond .eq 25, 3) := by decide +kernel
theorem dX5_takeItem_108 : decode cX5_takeItem 108 = .ok (.aload_n 0, 1) := by decide +kernel
theorem dX5_takeItem_109 : decode cX5_takeItem 109 = .ok (.aload_n 1, 1) := by decide +kernel
theorem dX5_takeItem_110 : decode cX5_takeItem 110 = .ok (.iconst 5, 1) := by decide +kernel
theorem dX5_takeItem_111 : decode cX5_takeItem 111 = .ok (.invokevirtual 38, 3) := by decide +kernel
theorem dX5_takeItem_114 : decode cX5_takeItem 114 = .ok (.ifCond .eq 16, 3) := by decide +kernel
theorem dX5_takeItem_117 : decode cX5_takeItem 117 = .ok (.aload_n 0, 1) := by decide +kernel
theorem dX5_takeItem_118 : decode cX5_takeItem 118 = .ok (.bipush 59, 2) := by decide +kernel
theorem dX5_takeItem_120 : decode cX5_takeItem 120 = .ok (.invokevirtual 42, 3) := by decide +kernel
theorem dX5_takeItem_123 : decode cX5_takeItem 123 = .ok (.ifCond .eq 7, 3) := by decide +kernel
theorem dX5_takeItem_126 : decode cX5_takeItem 126 = .ok (.iconst 1, 1) := by decide +kernel
theorem dX5_takeItem_127 : decode cX5_takeItem 127 = .ok (.goto 4, 3) := by decide +kernel
theorem dX5_takeItem_130 : decode cX5_takeItem 130 = .ok (.iconst 0, 1) := by decide +kernel
theorem dX5_takeItem_131 : decode cX5_takeItem 131 = .ok (.ireturn, 1) := by decide +kernel
theorem dX5_takeKind_0 : decode cX5_takeKind 0 = .ok (.aload_n 0, 1) := by decide +kernel
theorem dX5_takeKind_1 : decode cX5_takeKind 1 = .ok (.bipush 112, 2) := by decide +kernel
theorem dX5_takeKind_3 : decode cX5_takeKind 3 = .ok (.invokevirtual 42, 3) := by decide +kernel
theorem dX5_takeKind_6 : decode cX5_takeKind 6 = .ok (.ifCond .eq 5, 3) := by decide +kernel
theorem dX5_takeKind_9 : decode cX5_takeKind 9 = .ok (.iconst 0, 1) := by decide +kernel
theorem dX5_takeKind_10 : decode cX5_takeKind 10 = .ok (.ireturn, 1) := by decide +kernel
theorem dX5_takeKind_11 : decode cX5_takeKind 11 = .ok (.aload_n 0, 1) := by decide +kernel
theorem dX5_takeKind_12 : decode cX5_takeKind 12 = .ok (.bipush 115, 2) := by decide +kernel
theorem dX5_takeKind_14 : decode cX5_takeKind 14 = .ok (.invokevirtual 42, 3) := by decide +kernel
theorem dX5_takeKind_17 : decode cX5_takeKind 17 = .ok (.ifCond .eq 5, 3) := by decide +kernel
theorem dX5_takeKind_20 : decode cX5_takeKind 20 = .ok (.iconst 1, 1) := by decide +kernel
theorem dX5_takeKind_21 : decode cX5_takeKind 21 = .ok (.ireturn, 1) := by decide +kernel
theorem dX5_takeKind_22 : decode cX5_takeKind 22 = .ok (.aload_n 0, 1) := by decide +kernel
theorem dX5_takeKind_23 : decode cX5_takeKind 23 = .ok (.bipush 99, 2) := by decide +kernel
theorem dX5_takeKind_25 : decode cX5_takeKind 25 = .ok (.invokevirtual 42, 3) := by decide +kernel
theorem dX5_takeKind_28 : decode cX5_takeKind 28 = .ok (.ifCond .eq 7, 3) := by decide +kernel
theorem dX5_takeKind_31 : decode cX5_takeKind 31 = .ok (.iconst 2, 1) := by decide +kernel
theorem dX5_takeKind_32 : decode cX5_takeKind 32 = .ok (.goto 4, 3) := by decide +kernel
theorem dX5_takeKind_35 : decode cX5_takeKind 35 = .ok (.iconst (-1), 1) := by decide +kernel
theorem dX5_takeKind_36 : decode cX5_takeKind 36 = .ok (.ireturn, 1) := by decide +kernel
theorem dX5_takeSign_0 : decode cX5_takeSign 0 = .ok (.aload_n 0, 1) := by decide +kernel
theorem dX5_takeSign_1 : decode cX5_takeSign 1 = .ok (.getfield 24, 3) := by decide +kernel
theorem dX5_takeSign_4 : decode cX5_takeSign 4 = .ok (.aload_n 0, 1) := by decide +kernel
theorem dX5_takeSign_5 : decode cX5_takeSign 5 = .ok (.getfield 20, 3) := by decide +kernel
theorem dX5_takeSign_8 : decode cX5_takeSign 8 = .ok (.if_icmp .ge 16, 3) := by decide +kernel
theorem dX5_takeSign_11 : decode cX5_takeSign 11 = .ok (.aload_n 0, 1) := by decide +kernel
theorem dX5_takeSign_12 : decode cX5_takeSign 12 = .ok (.getfield 9, 3) := by decide +kernel
theorem dX5_takeSign_15 : decode cX5_takeSign 15 = .ok (.aload_n 0, 1) := by decide +kernel
theorem dX5_takeSign_16 : decode cX5_takeSign 16 = .ok (.getfield 24, 3) := by decide +kernel
theorem dX5_takeSign_19 : decode cX5_takeSign 19 = .ok (.iaload, 1) := by decide +kernel
theorem dX5_takeSign_20 : decode cX5_takeSign 20 = .ok (.iload_n 1, 1) := by decide +kernel
theorem dX5_takeSign_21 : decode cX5_takeSign 21 = .ok (.if_icmp .eq 5, 3) := by decide +kernel
theorem dX5_takeSign_24 : decode cX5_takeSign 24 = .ok (.iconst 0, 1) := by decide +kernel
theorem dX5_takeSign_25 : decode cX5_takeSign 25 = .ok (.ireturn, 1) := by decide +kernel
theorem dX5_takeSign_26 : decode cX5_takeSign 26 = .ok (.aload_n 0, 1) := by decide +kernel
theorem dX5_takeSign_27 : decode cX5_takeSign 27 = .ok (.dup, 1) := by decide +kernel
theorem dX5_takeSign_28 : decode cX5_takeSign 28 = .ok (.getfield 24, 3) := by decide +kernel
theorem dX5_takeSign_31 : decode cX5_takeSign 31 = .ok (.iconst 1, 1) := by decide +kernel
theorem dX5_takeSign_32 : decode cX5_takeSign 32 = .ok (.iadd, 1) := by decide +kernel
theorem dX5_takeSign_33 : decode cX5_takeSign 33 = .ok (.putfield 24, 3) := by decide +kernel
theorem dX5_takeSign_36 : decode cX5_takeSign 36 = .ok (.iconst 1, 1) := by decide +kernel
theorem dX5_takeSign_37 : decode cX5_takeSign 37 = .ok (.ireturn, 1) := by decide +kernel
theorem dX5_takeNumber_0 : decode cX5_takeNumber 0 = .ok (.getstatic 46, 3) := by decide +kernel
theorem dX5_takeNumber_3 : decode cX5_takeNumber 3 = .ok (.iload_n 2, 1) := by decide +kernel
theorem dX5_takeNumber_4 : decode cX5_takeNumber 4 = .ok (.iaload, 1) := by decide +kernel
theorem dX5_takeNumber_5 : decode cX5_takeNumber 5 = .ok (.ifCond .ge 16, 3) := by decide +kernel
theorem dX5_takeNumber_8 : decode cX5_takeNumber 8 = .ok (.aload_n 0, 1) := by decide +kernel
theorem dX5_takeNumber_9 : decode cX5_takeNumber 9 = .ok (.bipush 45, 2) := by decide +kernel
theorem dX5_takeNumber_11 : decode cX5_takeNumber 11 = .ok (.invokevirtual 42, 3) := by decide +kernel
theorem dX5_takeNumber_14 : decode cX5_takeNumber 14 = .ok (.ifCond .eq 7, 3) := by decide +kernel
theorem dX5_takeNumber_17 : decode cX5_takeNumber 17 = .ok (.iconst 1, 1) := by decide +kernel
theorem dX5_takeNumber_18 : decode cX5_takeNumber 18 = .ok (.goto 4, 3) := by decide +kernel
theorem dX5_takeNumber_21 : decode cX5_takeNumber 21 = .ok (.iconst 0, 1) := by decide +kernel
theorem dX5_takeNumber_22 : decode cX5_takeNumber 22 = .ok (.istore_n 3, 1) := by decide +kernel
theorem dX5_takeNumber_23 : decode cX5_takeNumber 23 = .ok (.iload_n 3, 1) := by decide +kernel
theorem dX5_takeNumber_24 : decode cX5_takeNumber 24 = .ok (.ifCond .ne 18, 3) := by decide +kernel
theorem dX5_takeNumber_27 : decode cX5_takeNumber 27 = .ok (.aload_n 0, 1) := by decide +kernel
theorem dX5_takeNumber_28 : decode cX5_takeNumber 28 = .ok (.bipush 48, 2) := by decide +kernel
theorem dX5_takeNumber_30 : decode cX5_takeNumber 30 = .ok (.invokevirtual 42, 3) := by decide +kernel
theorem dX5_takeNumber_33 : decode cX5_takeNumber 33 = .ok (.ifCond .eq 9, 3) := by decide +kernel
theorem dX5_takeNumber_36 : decode cX5_takeNumber 36 = .ok (.aload_n 1, 1) := by decide +kernel
theorem dX5_takeNumber_37 : decode cX5_takeNumber 37 = .ok (.iload_n 2, 1) := by decide +kernel
theorem dX5_takeNumber_38 : decode cX5_takeNumber 38 = .ok (.iconst 0, 1) := by decide +kernel
theorem dX5_takeNumber_39 : decode cX5_takeNumber 39 = .ok (.iastore, 1) := by decide +kernel
theorem dX5_takeNumber_40 : decode cX5_takeNumber 40 = .ok (.iconst 1, 1) := by decide +kernel
theorem dX5_takeNumber_41 : decode cX5_takeNumber 41 = .ok (.ireturn, 1) := by decide +kernel
theorem dX5_takeNumber_42 : decode cX5_takeNumber 42 = .ok (.aload_n 0, 1) := by decide +kernel
theorem dX5_takeNumber_43 : decode cX5_takeNumber 43 = .ok (.getfield 24, 3) := by decide +kernel
theorem dX5_takeNumber_46 : decode cX5_takeNumber 46 = .ok (.aload_n 0, 1) := by decide +kernel
theorem dX5_takeNumber_47 : decode cX5_takeNumber 47 = .ok (.getfield 20, 3) := by decide +kernel
theorem dX5_takeNumber_50 : decode cX5_takeNumber 50 = .ok (.if_icmp .ge 22, 3) := by decide +kernel
theorem dX5_takeNumber_53 : decode cX5_takeNumber 53 = .ok (.aload_n 0, 1) := by decide +kernel
theorem dX5_takeNumber_54 : decode cX5_takeNumber 54 = .ok (.getfield 9, 3) := by decide +kernel
theorem dX5_takeNumber_57 : decode cX5_takeNumber 57 = .ok (.aload_n 0, 1) := by decide +kernel
theorem dX5_takeNumber_58 : decode cX5_takeNumber 58 = .ok (.getfield 24, 3) := by decide +kernel
theorem dX5_takeNumber_61 : decode cX5_takeNumber 61 = .ok (.iaload, 1) := by decide +kernel
theorem dX5_takeNumber_62 : decode cX5_takeNumber 62 = .ok (.bipush 49, 2) := by decide +kernel
theorem dX5_takeNumber_64 : decode cX5_takeNumber 64 = .ok (.bipush 57, 2) := by decide +kernel
theorem dX5_takeNumber_66 : decode cX5_takeNumber 66 = .ok (.invokestatic 49, 3) := by decide +kernel
theorem dX5_takeNumber_69 : decode cX5_takeNumber 69 = .ok (.ifCond .ne 5, 3) := by decide +kernel
theorem dX5_takeNumber_72 : decode cX5_takeNumber 72 = .ok (.iconst 0, 1) := by decide +kernel
theorem dX5_takeNumber_73 : decode cX5_takeNumber 73 = .ok (.ireturn, 1) := by decide +kernel
theorem dX5_takeNumber_74 : decode cX5_takeNumber 74 = .ok (.iload_n 3, 1) := by decide +kernel
theorem dX5_takeNumber_75 : decode cX5_takeNumber 75 = .ok (.ifCond .eq 12, 3) := by decide +kernel
theorem dX5_takeNumber_78 : decode cX5_takeNumber 78 = .ok (.getstatic 46, 3) := by decide +kernel
theorem dX5_takeNumber_81 : decode cX5_takeNumber 81 = .ok (.iload_n 2, 1) := by decide +kernel
theorem dX5_takeNumber_82 : decode cX5_takeNumber 82 = .ok (.iaload, 1) := by decide +kernel
theorem dX5_takeNumber_83 : decode cX5_takeNumber 83 = .ok (.ineg, 1) := by decide +kernel
theorem dX5_takeNumber_84 : decode cX5_takeNumber 84 = .ok (.goto 8, 3) := by decide +kernel
theorem dX5_takeNumber_87 : decode cX5_takeNumber 87 = .ok (.getstatic 35, 3) := by decide +kernel
theorem dX5_takeNumber_90 : decode cX5_takeNumber 90 = .ok (.iload_n 2, 1) := by decide +kernel
theorem dX5_takeNumber_91 : decode cX5_takeNumber 91 = .ok (.iaload, 1) := by decide +kernel
theorem dX5_takeNumber_92 : decode cX5_takeNumber 92 = .ok (.istore 4, 2) := by decide +kernel
theorem dX5_takeNumber_94 : decode cX5_takeNumber 94 = .ok (.iconst 0, 1) := by decide +kernel
theorem dX5_takeNumber_95 : decode cX5_takeNumber 95 = .ok (.istore 5, 2) := by decide +kernel
theorem dX5_takeNumber_97 : decode cX5_takeNumber 97 = .ok (.aload_n 0, 1) := by decide +kernel
theorem dX5_takeNumber_98 : decode cX5_takeNumber 98 = .ok (.getfield 24, 3) := by decide +kernel
theorem dX5_takeNumber_101 : decode cX5_takeNumber 101 = .ok (.aload_n 0, 1) := by decide +kernel
theorem dX5_takeNumber_102 : decode cX5_takeNumber 102 = .ok (.getfield 20, 3) := by decide +kernel
theorem dX5_takeNumber_105 : decode cX5_takeNumber 105 = .ok (.if_icmp .ge 64, 3) := by decide +kernel
theorem dX5_takeNumber_108 : decode cX5_takeNumber 108 = .ok (.aload_n 0, 1) := by decide +kernel
theorem dX5_takeNumber_109 : decode cX5_takeNumber 109 = .ok (.getfield 9, 3) := by decide +kernel
theorem dX5_takeNumber_112 : decode cX5_takeNumber 112 = .ok (.aload_n 0, 1) := by decide +kernel
theorem dX5_takeNumber_113 : decode cX5_takeNumber 113 = .ok (.getfield 24, 3) := by decide +kernel
theorem dX5_takeNumber_116 : decode cX5_takeNumber 116 = .ok (.iaload, 1) := by decide +kernel
theorem dX5_takeNumber_117 : decode cX5_takeNumber 117 = .ok (.bipush 48, 2) := by decide +kernel
theorem dX5_takeNumber_119 : decode cX5_takeNumber 119 = .ok (.bipush 57, 2) := by decide +kernel
theorem dX5_takeNumber_121 : decode cX5_takeNumber 121 = .ok (.invokestatic 49, 3) := by decide +kernel
theorem dX5_takeNumber_124 : decode cX5_takeNumber 124 = .ok (.ifCond .eq 45, 3) := by decide +kernel
theorem dX5_takeNumber_127 : decode cX5_takeNumber 127 = .ok (.bipush 10, 2) := by decide +kernel
theorem dX5_takeNumber_129 : decode cX5_takeNumber 129 = .ok (.iload 5, 2) := by decide +kernel
theorem dX5_takeNumber_131 : decode cX5_takeNumber 131 = .ok (.imul, 1) := by decide +kernel
theorem dX5_takeNumber_132 : decode cX5_takeNumber 132 = .ok (.aload_n 0, 1) := by decide +kernel
theorem dX5_takeNumber_133 : decode cX5_takeNumber 133 = .ok (.getfield 9, 3) := by decide +kernel
theorem dX5_takeNumber_136 : decode cX5_takeNumber 136 = .ok (.aload_n 0, 1) := by decide +kernel
theorem dX5_takeNumber_137 : decode cX5_takeNumber 137 = .ok (.getfield 24, 3) := by decide +kernel
theorem dX5_takeNumber_140 : decode cX5_takeNumber 140 = .ok (.iaload, 1) := by decide +kernel
theorem dX5_takeNumber_141 : decode cX5_takeNumber 141 = .ok (.iadd, 1) := by decide +kernel
theorem dX5_takeNumber_142 : decode cX5_takeNumber 142 = .ok (.bipush 48, 2) := by decide +kernel
theorem dX5_takeNumber_144 : decode cX5_takeNumber 144 = .ok (.isub, 1) := by decide +kernel
theorem dX5_takeNumber_145 : decode cX5_takeNumber 145 = .ok (.istore 5, 2) := by decide +kernel
theorem dX5_takeNumber_147 : decode cX5_takeNumber 147 = .ok (.iload 5, 2) := by decide +kernel
theorem dX5_takeNumber_149 : decode cX5_takeNumber 149 = .ok (.iload 4, 2) := by decide +kernel
theorem dX5_takeNumber_151 : decode cX5_takeNumber 151 = .ok (.if_icmp .le 5, 3) := by decide +kernel
theorem dX5_takeNumber_154 : decode cX5_takeNumber 154 = .ok (.iconst 0, 1) := by decide +kernel
theorem dX5_takeNumber_155 : decode cX5_takeNumber 155 = .ok (.ireturn, 1) := by decide +kernel
theorem dX5_takeNumber_156 : decode cX5_takeNumber 156 = .ok (.aload_n 0, 1) := by decide +kernel
theorem dX5_takeNumber_157 : decode cX5_takeNumber 157 = .ok (.dup, 1) := by decide +kernel
theorem dX5_takeNumber_158 : decode cX5_takeNumber 158 = .ok (.getfield 24, 3) := by decide +kernel
theorem dX5_takeNumber_161 : decode cX5_takeNumber 161 = .ok (.iconst 1, 1) := by decide +kernel
theorem dX5_takeNumber_162 : decode cX5_takeNumber 162 = .ok (.iadd, 1) := by decide +kernel
theorem dX5_takeNumber_163 : decode cX5_takeNumber 163 = .ok (.putfield 24, 3) := by decide +kernel
theorem dX5_takeNumber_166 : decode cX5_takeNumber 166 = .ok (.goto (-69), 3) := by decide +kernel
theorem dX5_takeNumber_169 : decode cX5_takeNumber 169 = .ok (.aload_n 1, 1) := by decide +kernel
theorem dX5_takeNumber_170 : decode cX5_takeNumber 170 = .ok (.iload_n 2, 1) := by decide +kernel
theorem dX5_takeNumber_171 : decode cX5_takeNumber 171 = .ok (.iload_n 3, 1) := by decide +kernel
theorem dX5_takeNumber_172 : decode cX5_takeNumber 172 = .ok (.ifCond .eq 9, 3) := by decide +kernel
theorem dX5_takeNumber_175 : decode cX5_takeNumber 175 = .ok (.iload 5, 2) := by decide +kernel
theorem dX5_takeNumber_177 : decode cX5_takeNumber 177 = .ok (.ineg, 1) := by decide +kernel
theorem dX5_takeNumber_178 : decode cX5_takeNumber 178 = .ok (.goto 5, 3) := by decide +kernel
theorem dX5_takeNumber_181 : decode cX5_takeNumber 181 = .ok (.iload 5, 2) := by decide +kernel
theorem dX5_takeNumber_183 : decode cX5_takeNumber 183 = .ok (.iastore, 1) := by decide +kernel
theorem dX5_takeNumber_184 : decode cX5_takeNumber 184 = .ok (.iconst 1, 1) := by decide +kernel
theorem dX5_takeNumber_185 : decode cX5_takeNumber 185 = .ok (.ireturn, 1) := by decide +kernel
theorem dX6_init_0 : decode cX6_init 0 = .ok (.aload_n 0, 1) := by decide +kernel
theorem dX6_init_1 : decode cX6_init 1 = .ok (.invokespecial 5, 3) := by decide +kernel
theorem dX6_init_4 : decode cX6_init 4 = .ok (.aload_n 0, 1) := by decide +kernel
theorem dX6_init_5 : decode cX6_init 5 = .ok (.bipush 10, 2) := by decide +kernel
theorem dX6_init_7 : decode cX6_init 7 = .ok (.iconst 4, 1) := by decide +kernel
theorem dX6_init_8 : decode cX6_init 8 = .ok (.multianewarray 11 2, 4) := by decide +kernel
theorem dX6_init_12 : decode cX6_init 12 = .ok (.putfield 13, 3) := by decide +kernel
theorem dX6_init_15 : decode cX6_init 15 = .ok (.aload_n 0, 1) := by decide +kernel
theorem dX6_init_16 : decode cX6_init 16 = .ok (.bipush 8, 2) := by decide +kernel
theorem dX6_init_18 : decode cX6_init 18 = .ok (.iconst 2, 1) := by decide +kernel
theorem dX6_init_19 : decode cX6_init 19 = .ok (.multianewarray 11 2, 4) := by decide +kernel
theorem dX6_init_23 : decode cX6_init 23 = .ok (.putfield 16, 3) := by decide +kernel
theorem dX6_init_26 : decode cX6_init 26 = .ok (.aload_n 0, 1) := by decide +kernel
theorem dX6_init_27 : decode cX6_init 27 = .ok (.bipush 8, 2) := by decide +kernel
theorem dX6_init_29 : decode cX6_init 29 = .ok (.putfield 19, 3) := by decide +kernel
theorem dX6_init_32 : decode cX6_init 32 = .ok (.aload_n 0, 1) := by decide +kernel
theorem dX6_init_33 : decode cX6_init 33 = .ok (.bipush 36, 2) := by decide +kernel
theorem dX6_init_35 : decode cX6_init 35 = .ok (.newarray .int, 2) := by decide +kernel
theorem dX6_init_37 : decode cX6_init 37 = .ok (.putfield 23, 3) := by decide +kernel
theorem dX6_init_40 : decode cX6_init 40 = .ok (.aload_n 0, 1) := by decide +kernel
theorem dX6_init_41 : decode cX6_init 41 = .ok (.bipush 36, 2) := by decide +kernel
theorem dX6_init_43 : decode cX6_init 43 = .ok (.bipush 48, 2) := by decide +kernel
theorem dX6_init_45 : decode cX6_init 45 = .ok (.multianewarray 11 2, 4) := by decide +kernel
theorem dX6_init_49 : decode cX6_init 49 = .ok (.putfield 27, 3) := by decide +kernel
theorem dX6_init_52 : decode cX6_init 52 = .ok (.aload_n 0, 1) := by decide +kernel
theorem dX6_init_53 : decode cX6_init 53 = .ok (.iconst 3, 1) := by decide +kernel
theorem dX6_init_54 : decode cX6_init 54 = .ok (.newarray .int, 2) := by decide +kernel
theorem dX6_init_56 : decode cX6_init 56 = .ok (.putfield 30, 3) := by decide +kernel
theorem dX6_init_59 : decode cX6_init 59 = .ok (.aload_n 0, 1) := by decide +kernel
theorem dX6_init_60 : decode cX6_init 60 = .ok (.sipush 4096, 3) := by decide +kernel
theorem dX6_init_63 : decode cX6_init 63 = .ok (.newarray .int, 2) := by decide +kernel
theorem dX6_init_65 : decode cX6_init 65 = .ok (.putfield 33, 3) := by decide +kernel
theorem dX6_init_68 : decode cX6_init 68 = .ok (.aload_n 0, 1) := by decide +kernel
theorem dX6_init_69 : decode cX6_init 69 = .ok (.sipush 4096, 3) := by decide +kernel
theorem dX6_init_72 : decode cX6_init 72 = .ok (.newarray .int, 2) := by decide +kernel
theorem dX6_init_74 : decode cX6_init 74 = .ok (.putfield 36, 3) := by decide +kernel
theorem dX6_init_77 : decode cX6_init 77 = .ok (.aload_n 0, 1) := by decide +kernel
theorem dX6_init_78 : decode cX6_init 78 = .ok (.iconst 1, 1) := by decide +kernel
theorem dX6_init_79 : decode cX6_init 79 = .ok (.putfield 39, 3) := by decide +kernel
theorem dX6_init_82 : decode cX6_init 82 = .ok (.aload_n 0, 1) := by decide +kernel
theorem dX6_init_83 : decode cX6_init 83 = .ok (.iconst 2, 1) := by decide +kernel
theorem dX6_init_84 : decode cX6_init 84 = .ok (.putfield 42, 3) := by decide +kernel
theorem dX6_init_87 : decode cX6_init 87 = .ok (.aload_n 0, 1) := by decide +kernel
theorem dX6_init_88 : decode cX6_init 88 = .ok (.iconst 1, 1) := by decide +kernel
theorem dX6_init_89 : decode cX6_init 89 = .ok (.putfield 45, 3) := by decide +kernel
theorem dX6_init_92 : decode cX6_init 92 = .ok (.aload_n 0, 1) := by decide +kernel
theorem dX6_init_93 : decode cX6_init 93 = .ok (.aload_n 1, 1) := by decide +kernel
theorem dX6_init_94 : decode cX6_init 94 = .ok (.putfield 49, 3) := by decide +kernel
theorem dX6_init_97 : decode cX6_init 97 = .ok (.aload_n 0, 1) := by decide +kernel
theorem dX6_init_98 : decode cX6_init 98 = .ok (.aload_n 2, 1) := by decide +kernel
theorem dX6_init_99 : decode cX6_init 99 = .ok (.putfield 53, 3) := by decide +kernel
theorem dX6_init_102 : decode cX6_init 102 = .ok (.return_, 1) := by decide +kernel
theorem dX6_addPair_0 : decode cX6_addPair 0 = .ok (.aload_n 0, 1) := by decide +kernel
theorem dX6_addPair_1 : decode cX6_addPair 1 = .ok (.getfield 13, 3) := by decide +kernel
theorem dX6_addPair_4 : decode cX6_addPair 4 = .ok (.aload_n 0, 1) := by decide +kernel
theorem dX6_addPair_5 : decode cX6_addPair 5 = .ok (.getfield 57, 3) := by decide +kernel
theorem dX6_addPair_8 : decode cX6_addPair 8 = .ok (.aaload, 1) := by decide +kernel
theorem dX6_addPair_9 : decode cX6_addPair 9 = .ok (.astore 5, 2) := by decide +kernel
theorem dX6_addPair_11 : decode cX6_addPair 11 = .ok (.aload 5, 2) := by decide +kernel
theorem dX6_addPair_13 : decode cX6_addPair 13 = .ok (.iconst 0, 1) := by decide +kernel
theorem dX6_addPair_14 : decode cX6_addPair 14 = .ok (.iload_n 1, 1) := by decide +kernel
theorem dX6_addPair_15 : decode cX6_addPair 15 = .ok (.iastore, 1) := by decide +kernel
theorem dX6_addPair_16 : decode cX6_addPair 16 = .ok (.aload 5, 2) := by decide +kernel
theorem dX6_addPair_18 : decode cX6_addPair 18 = .ok (.iconst 1, 1) := by decide +kernel
theorem dX6_addPair_19 : decode cX6_addPair 19 = .ok (.iload_n 2, 1) := by decide +kernel
theorem dX6_addPair_20 : decode cX6_addPair 20 = .ok (.iastore, 1) := by decide +kernel
theorem dX6_addPair_21 : decode cX6_addPair 21 = .ok (.aload 5, 2) := by decide +kernel
theorem dX6_addPair_23 : decode cX6_addPair 23 = .ok (.iconst 2, 1) := by decide +kernel
theorem dX6_addPair_24 : decode cX6_addPair 24 = .ok (.iload_n 3, 1) := by decide +kernel
theorem dX6_addPair_25 : decode cX6_addPair 25 = .ok (.iastore, 1) := by decide +kernel
theorem dX6_addPair_26 : decode cX6_addPair 26 = .ok (.aload 5, 2) := by decide +kernel
theorem dX6_addPair_28 : decode cX6_addPair 28 = .ok (.iconst 3, 1) := by decide +kernel
theorem dX6_addPair_29 : decode cX6_addPair 29 = .ok (.iload 4, 2) := by decide +kernel
theorem dX6_addPair_31 : decode cX6_addPair 31 = .ok (.iastore, 1) := by decide +kernel
theorem dX6_addPair_32 : decode cX6_addPair 32 = .ok (.aload_n 0, 1) := by decide +kernel
theorem dX6_addPair_33 : decode cX6_addPair 33 = .ok (.dup, 1) := by decide +kernel
theorem dX6_addPair_34 : decode cX6_addPair 34 = .ok (.getfield 57, 3) := by decide +kernel
theorem dX6_addPair_37 : decode cX6_addPair 37 = .ok (.iconst 1, 1) := by decide +kernel
theorem dX6_addPair_38 : decode cX6_addPair 38 = .ok (.iadd, 1) := by decide +kernel
theorem dX6_addPair_39 : decode cX6_addPair 39 = .ok (.putfield 57, 3) := by decide +kernel
theorem dX6_addPair_42 : decode cX6_addPair 42 = .ok (.aload_n 0, 1) := by decide +kernel
theorem dX6_addPair_43 : decode cX6_addPair 43 = .ok (.iconst 1, 1) := by decide +kernel
theorem dX6_addPair_44 : decode cX6_addPair 44 = .ok (.putfield 45, 3) := by decide +kernel
theorem dX6_addPair_47 : decode cX6_addPair 47 = .ok (.aload_n 0, 1) := by decide +kernel
theorem dX6_addPair_48 : decode cX6_addPair 48 = .ok (.getfield 57, 3) := by decide +kernel
theorem dX6_addPair_51 : decode cX6_addPair 51 = .ok (.ireturn, 1) := by decide +kernel
theorem dX6_addSpot_0 : decode cX6_addSpot 0 = .ok (.aload_n 0, 1) := by decide +kernel
theorem dX6_addSpot_1 : decode cX6_addSpot 1 = .ok (.getfield 16, 3) := by decide +kernel
theorem dX6_addSpot_4 : decode cX6_addSpot 4 = .ok (.aload_n 0, 1) := by decide +kernel
theorem dX6_addSpot_5 : decode cX6_addSpot 5 = .ok (.getfield 60, 3) := by decide +kernel
theorem dX6_addSpot_8 : decode cX6_addSpot 8 = .ok (.aaload, 1) := by decide +kernel
theorem dX6_addSpot_9 : decode cX6_addSpot 9 = .ok (.iconst 0, 1) := by decide +kernel
theorem dX6_addSpot_10 : decode cX6_addSpot 10 = .ok (.iload_n 1, 1) := by decide +kernel
theorem dX6_addSpot_11 : decode cX6_addSpot 11 = .ok (.iastore, 1) := by decide +kernel
theorem dX6_addSpot_12 : decode cX6_addSpot 12 = .ok (.aload_n 0, 1) := by decide +kernel
theorem dX6_addSpot_13 : decode cX6_addSpot 13 = .ok (.getfield 16, 3) := by decide +kernel
theorem dX6_addSpot_16 : decode cX6_addSpot 16 = .ok (.aload_n 0, 1) := by decide +kernel
theorem dX6_addSpot_17 : decode cX6_addSpot 17 = .ok (.getfield 60, 3) := by decide +kernel
theorem dX6_addSpot_20 : decode cX6_addSpot 20 = .ok (.aaload, 1) := by decide +kernel
theorem dX6_addSpot_21 : decode cX6_addSpot 21 = .ok (.iconst 1, 1) := by decide +kernel
theorem dX6_addSpot_22 : decode cX6_addSpot 22 = .ok (.iload_n 2, 1) := by decide +kernel
theorem dX6_addSpot_23 : decode cX6_addSpot 23 = .ok (.iastore, 1) := by decide +kernel
theorem dX6_addSpot_24 : decode cX6_addSpot 24 = .ok (.aload_n 0, 1) := by decide +kernel
theorem dX6_addSpot_25 : decode cX6_addSpot 25 = .ok (.dup, 1) := by decide +kernel
theorem dX6_addSpot_26 : decode cX6_addSpot 26 = .ok (.getfield 60, 3) := by decide +kernel
theorem dX6_addSpot_29 : decode cX6_addSpot 29 = .ok (.iconst 1, 1) := by decide +kernel
theorem dX6_addSpot_30 : decode cX6_addSpot 30 = .ok (.iadd, 1) := by decide +kernel
theorem dX6_addSpot_31 : decode cX6_addSpot 31 = .ok (.putfield 60, 3) := by decide +kernel
theorem dX6_addSpot_34 : decode cX6_addSpot 34 = .ok (.aload_n 0, 1) := by decide +kernel
theorem dX6_addSpot_35 : decode cX6_addSpot 35 = .ok (.iconst 1, 1) := by decide +kernel
theorem dX6_addSpot_36 : decode cX6_addSpot 36 = .ok (.putfield 45, 3) := by decide +kernel
theorem dX6_addSpot_39 : decode cX6_addSpot 39 = .ok (.aload_n 0, 1) := by decide +kernel
theorem dX6_addSpot_40 : decode cX6_addSpot 40 = .ok (.getfield 60, 3) := by decide +kernel
theorem dX6_addSpot_43 : decode cX6_addSpot 43 = .ok (.ireturn, 1) := by decide +kernel
theorem dX6_load_0 : decode cX6_load 0 = .ok (.aload_n 0, 1) := by decide +kernel
theorem dX6_load_1 : decode cX6_load 1 = .ok (.getfield 45, 3) := by decide +kernel
theorem dX6_load_4 : decode cX6_load 4 = .ok (.ifCond .ne 22, 3) := by decide +kernel
theorem dX6_load_7 : decode cX6_load 7 = .ok (.aload_n 0, 1) := by decide +kernel
theorem dX6_load_8 : decode cX6_load 8 = .ok (.getfield 39, 3) := by decide +kernel
theorem dX6_load_11 : decode cX6_load 11 = .ok (.iload_n 1, 1) := by decide +kernel
theorem dX6_load_12 : decode cX6_load 12 = .ok (.if_icmp .ne 14, 3) := by decide +kernel
theorem dX6_load_15 : decode cX6_load 15 = .ok (.aload_n 0, 1) := by decide +kernel
theorem dX6_load_16 : decode cX6_load 16 = .ok (.getfield 42, 3) := by decide +kernel
theorem dX6_load_19 : decode cX6_load 19 = .ok (.iload_n 2, 1) := by decide +kernel
theorem dX6_load_20 : decode cX6_load 20 = .ok (.iconst 1, 1) := by decide +kernel
theorem dX6_load_21 : decode cX6_load 21 = .ok (.iadd, 1) := by decide +kernel
theorem dX6_load_22 : decode cX6_load 22 = .ok (.if_icmp .ne 4, 3) := by decide +kernel
theorem dX6_load_25 : decode cX6_load 25 = .ok (.return_, 1) := by decide +kernel
theorem dX6_load_26 : decode cX6_load 26 = .ok (.aload_n 0, 1) := by decide +kernel
theorem dX6_load_27 : decode cX6_load 27 = .ok (.iload_n 1, 1) := by decide +kernel
theorem dX6_load_28 : decode cX6_load 28 = .ok (.putfield 39, 3) := by decide +kernel
theorem dX6_load_31 : decode cX6_load 31 = .ok (.aload_n 0, 1) := by decide +kernel
theorem dX6_load_32 : decode cX6_load 32 = .ok (.iload_n 2, 1) := by decide +kernel
theorem dX6_load_33 : decode cX6_load 33 = .ok (.iconst 1, 1) := by decide +kernel
theorem dX6_load_34 : decode cX6_load 34 = .ok (.iadd, 1) := by decide +kernel
theorem dX6_load_35 : decode cX6_load 35 = .ok (.putfield 42, 3) := by decide +kernel
theorem dX6_load_38 : decode cX6_load 38 = .ok (.aload_n 0, 1) := by decide +kernel
theorem dX6_load_39 : decode cX6_load 39 = .ok (.iconst 1, 1) := by decide +kernel
theorem dX6_load_40 : decode cX6_load 40 = .ok (.putfield 63, 3) := by decide +kernel
theorem dX6_load_43 : decode cX6_load 43 = .ok (.iconst 0, 1) := by decide +kernel
theorem dX6_load_44 : decode cX6_load 44 = .ok (.istore_n 3, 1) := by decide +kernel
theorem dX6_load_45 : decode cX6_load 45 = .ok (.iload_n 3, 1) := by decide +kernel
theorem dX6_load_46 : decode cX6_load 46 = .ok (.iload_n 1, 1) := by decide +kernel
theorem dX6_load_47 : decode cX6_load 47 = .ok (.if_icmp .ge 22, 3) := by decide +kernel
theorem dX6_load_50 : decode cX6_load 50 = .ok (.aload_n 0, 1) := by decide +kernel
theorem dX6_load_51 : decode cX6_load 51 = .ok (.dup, 1) := by decide +kernel
theorem dX6_load_52 : decode cX6_load 52 = .ok (.getfield 63, 3) := by decide +kernel
theorem dX6_load_55 : decode cX6_load 55 = .ok (.aload_n 0, 1) := by decide +kernel
theorem dX6_load_56 : decode cX6_load 56 = .ok (.getfield 42, 3) := by decide +kernel
theorem dX6_load_59 : decode cX6_load 59 = .ok (.imul, 1) := by decide +kernel
theorem dX6_load_60 : decode cX6_load 60 = .ok (.putfield 63, 3) := by decide +kernel
theorem dX6_load_63 : decode cX6_load 63 = .ok (.iinc 3 1, 3) := by decide +kernel
theorem dX6_load_66 : decode cX6_load 66 = .ok (.goto (-21), 3) := by decide +kernel
theorem dX6_load_69 : decode cX6_load 69 = .ok (.iconst 0, 1) := by decide +kernel
theorem dX6_load_70 : decode cX6_load 70 = .ok (.istore_n 3, 1) := by decide +kernel
theorem dX6_load_71 : decode cX6_load 71 = .ok (.iload_n 3, 1) := by decide +kernel
theorem dX6_load_72 : decode cX6_load 72 = .ok (.iconst 2, 1) := by decide +kernel
theorem dX6_load_73 : decode cX6_load 73 = .ok (.if_icmp .ge 161, 3) := by decide +kernel
theorem dX6_load_76 : decode cX6_load 76 = .ok (.iconst 0, 1) := by decide +kernel
theorem dX6_load_77 : decode cX6_load 77 = .ok (.istore 4, 2) := by decide +kernel
theorem dX6_load_79 : decode cX6_load 79 = .ok (.iload 4, 2) := by decide +kernel
theorem dX6_load_81 : decode cX6_load 81 = .ok (.aload_n 0, 1) := by decide +kernel
theorem dX6_load_82 : decode cX6_load 82 = .ok (.getfield 57, 3) := by decide +kernel
theorem dX6_load_85 : decode cX6_load 85 = .ok (.if_icmp .ge 79, 3) := by decide +kernel
theorem dX6_load_88 : decode cX6_load 88 = .ok (.aload_n 0, 1) := by decide +kernel
theorem dX6_load_89 : decode cX6_load 89 = .ok (.iconst 2, 1) := by decide +kernel
theorem dX6_load_90 : decode cX6_load 90 = .ok (.iload 4, 2) := by decide +kernel
theorem dX6_load_92 : decode cX6_load 92 = .ok (.imul, 1) := by decide +kernel
theorem dX6_load_93 : decode cX6_load 93 = .ok (.iload_n 3, 1) := by decide +kernel
theorem dX6_load_94 : decode cX6_load 94 = .ok (.iadd, 1) := by decide +kernel
theorem dX6_load_95 : decode cX6_load 95 = .ok (.invokevirtual 66, 3) := by decide +kernel
theorem dX6_load_98 : decode cX6_load 98 = .ok (.aload_n 0, 1) := by decide +kernel
theorem dX6_load_99 : decode cX6_load 99 = .ok (.iconst 2, 1) := by decide +kernel
theorem dX6_load_100 : decode cX6_load 100 = .ok (.iload 4, 2) := by decide +kernel
theorem dX6_load_102 : decode cX6_load 102 = .ok (.imul, 1) := by decide +kernel
theorem dX6_load_103 : decode cX6_load 103 = .ok (.iload_n 3, 1) := by decide +kernel
theorem dX6_load_104 : decode cX6_load 104 = .ok (.iadd, 1) := by decide +kernel
theorem dX6_load_105 : decode cX6_load 105 = .ok (.iconst 1, 1) := by decide +kernel
theorem dX6_load_106 : decode cX6_load 106 = .ok (.aload_n 0, 1) := by decide +kernel
theorem dX6_load_107 : decode cX6_load 107 = .ok (.getfield 13, 3) := by decide +kernel
theorem dX6_load_110 : decode cX6_load 110 = .ok (.iload 4, 2) := by decide +kernel
theorem dX6_load_112 : decode cX6_load 112 = .ok (.aaload, 1) := by decide +kernel
theorem dX6_load_113 : decode cX6_load 113 = .ok (.iconst 0, 1) := by decide +kernel
theorem dX6_load_114 : decode cX6_load 114 = .ok (.iaload, 1) := by decide +kernel
theorem dX6_load_115 : decode cX6_load 115 = .ok (.aload_n 0, 1) := by decide +kernel
theorem dX6_load_116 : decode cX6_load 116 = .ok (.getfield 13, 3) := by decide +kernel
theorem dX6_load_119 : decode cX6_load 119 = .ok (.iload 4, 2) := by decide +kernel
theorem dX6_load_121 : decode cX6_load 121 = .ok (.aaload, 1) := by decide +kernel
theorem dX6_load_122 : decode cX6_load 122 = .ok (.iconst 1, 1) := by decide +kernel
theorem dX6_load_123 : decode cX6_load 123 = .ok (.iaload, 1) := by decide +kernel
theorem dX6_load_124 : decode cX6_load 124 = .ok (.iload_n 3, 1) := by decide +kernel
theorem dX6_load_125 : decode cX6_load 125 = .ok (.invokevirtual 70, 3) := by decide +kernel
theorem dX6_load_128 : decode cX6_load 128 = .ok (.aload_n 0, 1) := by decide +kernel
theorem dX6_load_129 : decode cX6_load 129 = .ok (.iconst 2, 1) := by decide +kernel
theorem dX6_load_130 : decode cX6_load 130 = .ok (.iload 4, 2) := by decide +kernel
theorem dX6_load_132 : decode cX6_load 132 = .ok (.imul, 1) := by decide +kernel
theorem dX6_load_133 : decode cX6_load 133 = .ok (.iload_n 3, 1) := by decide +kernel
theorem dX6_load_134 : decode cX6_load 134 = .ok (.iadd, 1) := by decide +kernel
theorem dX6_load_135 : decode cX6_load 135 = .ok (.iconst (-1), 1) := by decide +kernel
theorem dX6_load_136 : decode cX6_load 136 = .ok (.aload_n 0, 1) := by decide +kernel
theorem dX6_load_137 : decode cX6_load 137 = .ok (.getfield 13, 3) := by decide +kernel
theorem dX6_load_140 : decode cX6_load 140 = .ok (.iload 4, 2) := by decide +kernel
theorem dX6_load_142 : decode cX6_load 142 = .ok (.aaload, 1) := by decide +kernel
theorem dX6_load_143 : decode cX6_load 143 = .ok (.iconst 2, 1) := by decide +kernel
theorem dX6_load_144 : decode cX6_load 144 = .ok (.iaload, 1) := by decide +kernel
theorem dX6_load_145 : decode cX6_load 145 = .ok (.aload_n 0, 1) := by decide +kernel
theorem dX6_load_146 : decode cX6_load 146 = .ok (.getfield 13, 3) := by decide +kernel
theorem dX6_load_149 : decode cX6_load 149 = .ok (.iload 4, 2) := by decide +kernel
theorem dX6_load_151 : decode cX6_load 151 = .ok (.aaload, 1) := by decide +kernel
theorem dX6_load_152 : decode cX6_load 152 = .ok (.iconst 3, 1) := by decide +kernel
theorem dX6_load_153 : decode cX6_load 153 = .ok (.iaload, 1) := by decide +kernel
theorem dX6_load_154 : decode cX6_load 154 = .ok (.iload_n 3, 1) := by decide +kernel
theorem dX6_load_155 : decode cX6_load 155 = .ok (.invokevirtual 70, 3) := by decide +kernel
theorem dX6_load_158 : decode cX6_load 158 = .ok (.iinc 4 1, 3) := by decide +kernel
theorem dX6_load_161 : decode cX6_load 161 = .ok (.goto (-82), 3) := by decide +kernel
theorem dX6_load_164 : decode cX6_load 164 = .ok (.iconst 0, 1) := by decide +kernel
theorem dX6_load_165 : decode cX6_load 165 = .ok (.istore 4, 2) := by decide +kernel
theorem dX6_load_167 : decode cX6_load 167 = .ok (.iload 4, 2) := by decide +kernel
theorem dX6_load_169 : decode cX6_load 169 = .ok (.aload_n 0, 1) := by decide +kernel
theorem dX6_load_170 : decode cX6_load 170 = .ok (.getfield 60, 3) := by decide +kernel
theorem dX6_load_173 : decode cX6_load 173 = .ok (.if_icmp .ge 55, 3) := by decide +kernel
theorem dX6_load_176 : decode cX6_load 176 = .ok (.aload_n 0, 1) := by decide +kernel
theorem dX6_load_177 : decode cX6_load 177 = .ok (.bipush 20, 2) := by decide +kernel
theorem dX6_load_179 : decode cX6_load 179 = .ok (.iconst 2, 1) := by decide +kernel
theorem dX6_load_180 : decode cX6_load 180 = .ok (.iload 4, 2) := by decide +kernel
theorem dX6_load_182 : decode cX6_load 182 = .ok (.imul, 1) := by decide +kernel
theorem dX6_load_183 : decode cX6_load 183 = .ok (.iadd, 1) := by decide +kernel
theorem dX6_load_184 : decode cX6_load 184 = .ok (.iload_n 3, 1) := by decide +kernel
theorem dX6_load_185 : decode cX6_load 185 = .ok (.iadd, 1) := by decide +kernel
theorem dX6_load_186 : decode cX6_load 186 = .ok (.invokevirtual 66, 3) := by decide +kernel
theorem dX6_load_189 : decode cX6_load 189 = .ok (.aload_n 0, 1) := by decide +kernel
theorem dX6_load_190 : decode cX6_load 190 = .ok (.bipush 20, 2) := by decide +kernel
theorem dX6_load_192 : decode cX6_load 192 = .ok (.iconst 2, 1) := by decide +kernel
theorem dX6_load_193 : decode cX6_load 193 = .ok (.iload 4, 2) := by decide +kernel
theorem dX6_load_195 : decode cX6_load 195 = .ok (.imul, 1) := by decide +kernel
theorem dX6_load_196 : decode cX6_load 196 = .ok (.iadd, 1) := by decide +kernel
theorem dX6_load_197 : decode cX6_load 197 = .ok (.iload_n 3, 1) := by decide +kernel
theorem dX6_load_198 : decode cX6_load 198 = .ok (.iadd, 1) := by decide +kernel
theorem dX6_load_199 : decode cX6_load 199 = .ok (.iconst 1, 1) := by decide +kernel
theorem dX6_load_200 : decode cX6_load 200 = .ok (.aload_n 0, 1) := by decide +kernel
theorem dX6_load_201 : decode cX6_load 201 = .ok (.getfield 16, 3) := by decide +kernel
theorem dX6_load_204 : decode cX6_load 204 = .ok (.iload 4, 2) := by decide +kernel
theorem dX6_load_206 : decode cX6_load 206 = .ok (.aaload, 1) := by decide +kernel
theorem dX6_load_207 : decode cX6_load 207 = .ok (.iconst 0, 1) := by decide +kernel
theorem dX6_load_208 : decode cX6_load 208 = .ok (.iaload, 1) := by decide +kernel
theorem dX6_load_209 : decode cX6_load 209 = .ok (.aload_n 0, 1) := by decide +kernel
theorem dX6_load_210 : decode cX6_load 210 = .ok (.getfield 16, 3) := by decide +kernel
theorem dX6_load_213 : decode cX6_load 213 = .ok (.iload 4, 2) := by decide +kernel
theorem dX6_load_215 : decode cX6_load 215 = .ok (.aaload, 1) := by decide +kernel
theorem dX6_load_216 : decode cX6_load 216 = .ok (.iconst 1, 1) := by decide +kernel
theorem dX6_load_217 : decode cX6_load 217 = .ok (.iaload, 1) := by decide +kernel
theorem dX6_load_218 : decode cX6_load 218 = .ok (.iload_n 3, 1) := by decide +kernel
theorem dX6_load_219 : decode cX6_load 219 = .ok (.invokevirtual 70, 3) := by decide +kernel
theorem dX6_load_222 : decode cX6_load 222 = .ok (.iinc 4 1, 3) := by decide +kernel
theorem dX6_load_225 : decode cX6_load 225 = .ok (.goto (-58), 3) := by decide +kernel
theorem dX6_load_228 : decode cX6_load 228 = .ok (.iinc 3 1, 3) := by decide +kernel
theorem dX6_load_231 : decode cX6_load 231 = .ok (.goto (-160), 3) := by decide +kernel
theorem dX6_load_234 : decode cX6_load 234 = .ok (.aload_n 0, 1) := by decide +kernel
theorem dX6_load_235 : decode cX6_load 235 = .ok (.iconst 0, 1) := by decide +kernel
theorem dX6_load_236 : decode cX6_load 236 = .ok (.putfield 45, 3) := by decide +kernel
theorem dX6_load_239 : decode cX6_load 239 = .ok (.aload_n 0, 1) := by decide +kernel
theorem dX6_load_240 : decode cX6_load 240 = .ok (.iconst 0, 1) := by decide +kernel
theorem dX6_load_241 : decode cX6_load 241 = .ok (.putfield 74, 3) := by decide +kernel
theorem dX6_load_244 : decode cX6_load 244 = .ok (.return_, 1) := by decide +kernel
theorem dX6_startRow_0 : decode cX6_startRow 0 = .ok (.aload_n 0, 1) := by decide +kernel
theorem dX6_startRow_1 : decode cX6_startRow 1 = .ok (.getfield 23, 3) := by decide +kernel
theorem dX6_startRow_4 : decode cX6_startRow 4 = .ok (.iload_n 1, 1) := by decide +kernel
theorem dX6_startRow_5 : decode cX6_startRow 5 = .ok (.iconst 0, 1) := by decide +kernel
theorem dX6_startRow_6 : decode cX6_startRow 6 = .ok (.iastore, 1) := by decide +kernel
theorem dX6_startRow_7 : decode cX6_startRow 7 = .ok (.aload_n 0, 1) := by decide +kernel
theorem dX6_startRow_8 : decode cX6_startRow 8 = .ok (.getfield 27, 3) := by decide +kernel
theorem dX6_startRow_11 : decode cX6_startRow 11 = .ok (.iload_n 1, 1) := by decide +kernel
theorem dX6_startRow_12 : decode cX6_startRow 12 = .ok (.aaload, 1) := by decide +kernel
theorem dX6_startRow_13 : decode cX6_startRow 13 = .ok (.iconst 0, 1) := by decide +kernel
theorem dX6_startRow_14 : decode cX6_startRow 14 = .ok (.invokestatic 77, 3) := by decide +kernel
theorem dX6_startRow_17 : decode cX6_startRow 17 = .ok (.return_, 1) := by decide +kernel
theorem dX6_addToRow_0 : decode cX6_addToRow 0 = .ok (.aload_n 0, 1) := by decide +kernel
theorem dX6_addToRow_1 : decode cX6_addToRow 1 = .ok (.getfield 23, 3) := by decide +kernel
theorem dX6_addToRow_4 : decode cX6_addToRow 4 = .ok (.iload_n 1, 1) := by decide +kernel
theorem dX6_addToRow_5 : decode cX6_addToRow 5 = .ok (.dup2, 1) := by decide +kernel
theorem dX6_addToRow_6 : decode cX6_addToRow 6 = .ok (.iaload, 1) := by decide +kernel
theorem dX6_addToRow_7 : decode cX6_addToRow 7 = .ok (.iload_n 2, 1) := by decide +kernel
theorem dX6_addToRow_8 : decode cX6_addToRow 8 = .ok (.aload_n 0, 1) := by decide +kernel
theorem dX6_addToRow_9 : decode cX6_addToRow 9 = .ok (.getfield 49, 3) := by decide +kernel
theorem dX6_addToRow_12 : decode cX6_addToRow 12 = .ok (.aload_n 0, 1) := by decide +kernel
theorem dX6_addToRow_13 : decode cX6_addToRow 13 = .ok (.getfield 39, 3) := by decide +kernel
theorem dX6_addToRow_16 : decode cX6_addToRow 16 = .ok (.iload_n 3, 1) := by decide +kernel
theorem dX6_addToRow_17 : decode cX6_addToRow 17 = .ok (.iload 4, 2) := by decide +kernel
theorem dX6_addToRow_19 : decode cX6_addToRow 19 = .ok (.iload 5, 2) := by decide +kernel
theorem dX6_addToRow_21 : decode cX6_addToRow 21 = .ok (.invokevirtual 83, 3) := by decide +kernel
theorem dX6_addToRow_24 : decode cX6_addToRow 24 = .ok (.imul, 1) := by decide +kernel
theorem dX6_addToRow_25 : decode cX6_addToRow 25 = .ok (.iadd, 1) := by decide +kernel
theorem dX6_addToRow_26 : decode cX6_addToRow 26 = .ok (.iastore, 1) := by decide +kernel
theorem dX6_addToRow_27 : decode cX6_addToRow 27 = .ok (.iconst 0, 1) := by decide +kernel
theorem dX6_addToRow_28 : decode cX6_addToRow 28 = .ok (.istore 6, 2) := by decide +kernel
theorem dX6_addToRow_30 : decode cX6_addToRow 30 = .ok (.iload 6, 2) := by decide +kernel
theorem dX6_addToRow_32 : decode cX6_addToRow 32 = .ok (.aload_n 0, 1) := by decide +kernel
theorem dX6_addToRow_33 : decode cX6_addToRow 33 = .ok (.getfield 39, 3) := by decide +kernel
theorem dX6_addToRow_36 : decode cX6_addToRow 36 = .ok (.if_icmp .ge 75, 3) := by decide +kernel
theorem dX6_addToRow_39 : decode cX6_addToRow 39 = .ok (.aload_n 0, 1) := by decide +kernel
theorem dX6_addToRow_40 : decode cX6_addToRow 40 = .ok (.getfield 49, 3) := by decide +kernel
theorem dX6_addToRow_43 : decode cX6_addToRow 43 = .ok (.getfield 89, 3) := by decide +kernel
theorem dX6_addToRow_46 : decode cX6_addToRow 46 = .ok (.iload 6, 2) := by decide +kernel
theorem dX6_addToRow_48 : decode cX6_addToRow 48 = .ok (.aaload, 1) := by decide +kernel
theorem dX6_addToRow_49 : decode cX6_addToRow 49 = .ok (.astore 7, 2) := by decide +kernel
theorem dX6_addToRow_51 : decode cX6_addToRow 51 = .ok (.iconst 0, 1) := by decide +kernel
theorem dX6_addToRow_52 : decode cX6_addToRow 52 = .ok (.istore 8, 2) := by decide +kernel
theorem dX6_addToRow_54 : decode cX6_addToRow 54 = .ok (.iload 8, 2) := by decide +kernel
theorem dX6_addToRow_56 : decode cX6_addToRow 56 = .ok (.aload_n 0, 1) := by decide +kernel
theorem dX6_addToRow_57 : decode cX6_addToRow 57 = .ok (.getfield 42, 3) := by decide +kernel
theorem dX6_addToRow_60 : decode cX6_addToRow 60 = .ok (.if_icmp .ge 45, 3) := by decide +kernel
theorem dX6_addToRow_63 : decode cX6_addToRow 63 = .ok (.aload_n 0, 1) := by decide +kernel
theorem dX6_addToRow_64 : decode cX6_addToRow 64 = .ok (.getfield 27, 3) := by decide +kernel
theorem dX6_addToRow_67 : decode cX6_addToRow 67 = .ok (.iload_n 1, 1) := by decide +kernel
theorem dX6_addToRow_68 : decode cX6_addToRow 68 = .ok (.aaload, 1) := by decide +kernel
theorem dX6_addToRow_69 : decode cX6_addToRow 69 = .ok (.iload 6, 2) := by decide +kernel
theorem dX6_addToRow_71 : decode cX6_addToRow 71 = .ok (.bipush 16, 2) := by decide +kernel
theorem dX6_addToRow_73 : decode cX6_addToRow 73 = .ok (.imul, 1) := by decide +kernel
theorem dX6_addToRow_74 : decode cX6_addToRow 74 = .ok (.iload 8, 2) := by decide +kernel
theorem dX6_addToRow_76 : decode cX6_addToRow 76 = .ok (.iadd, 1) := by decide +kernel
theorem dX6_addToRow_77 : decode cX6_addToRow 77 = .ok (.dup2, 1) := by decide +kernel
theorem dX6_addToRow_78 : decode cX6_addToRow 78 = .ok (.iaload, 1) := by decide +kernel
theorem dX6_addToRow_79 : decode cX6_addToRow 79 = .ok (.iload_n 2, 1) := by decide +kernel
theorem dX6_addToRow_80 : decode cX6_addToRow 80 = .ok (.aload 7, 2) := by decide +kernel
theorem dX6_addToRow_82 : decode cX6_addToRow 82 = .ok (.iconst 0, 1) := by decide +kernel
theorem dX6_addToRow_83 : decode cX6_addToRow 83 = .ok (.iaload, 1) := by decide +kernel
theorem dX6_addToRow_84 : decode cX6_addToRow 84 = .ok (.aload 7, 2) := by decide +kernel
theorem dX6_addToRow_86 : decode cX6_addToRow 86 = .ok (.iload 8, 2) := by decide +kernel
theorem dX6_addToRow_88 : decode cX6_addToRow 88 = .ok (.iload_n 3, 1) := by decide +kernel
theorem dX6_addToRow_89 : decode cX6_addToRow 89 = .ok (.iload 4, 2) := by decide +kernel
theorem dX6_addToRow_91 : decode cX6_addToRow 91 = .ok (.iload 5, 2) := by decide +kernel
theorem dX6_addToRow_93 : decode cX6_addToRow 93 = .ok (.invokestatic 92, 3) := by decide +kernel
theorem dX6_addToRow_96 : decode cX6_addToRow 96 = .ok (.imul, 1) := by decide +kernel
theorem dX6_addToRow_97 : decode cX6_addToRow 97 = .ok (.iadd, 1) := by decide +kernel
theorem dX6_addToRow_98 : decode cX6_addToRow 98 = .ok (.iastore, 1) := by decide +kernel
theorem dX6_addToRow_99 : decode cX6_addToRow 99 = .ok (.iinc 8 1, 3) := by decide +kernel
theorem dX6_addToRow_102 : decode cX6_addToRow 102 = .ok (.goto (-48), 3) := by decide +kernel
theorem dX6_addToRow_105 : decode cX6_addToRow 105 = .ok (.iinc 6 1, 3) := by decide +kernel
theorem dX6_addToRow_108 : decode cX6_addToRow 108 = .ok (.goto (-78), 3) := by decide +kernel
theorem dX6_addToRow_111 : decode cX6_addToRow 111 = .ok (.return_, 1) := by decide +kernel
theorem dX6_aim_0 : decode cX6_aim 0 = .ok (.iload_n 1, 1) := by decide +kernel
theorem dX6_aim_1 : decode cX6_aim 1 = .ok (.istore_n 2, 1) := by decide +kernel
theorem dX6_aim_2 : decode cX6_aim 2 = .ok (.iconst 0, 1) := by decide +kernel
theorem dX6_aim_3 : decode cX6_aim 3 = .ok (.istore_n 3, 1) := by decide +kernel
theorem dX6_aim_4 : decode cX6_aim 4 = .ok (.iload_n 3, 1) := by decide +kernel
theorem dX6_aim_5 : decode cX6_aim 5 = .ok (.aload_n 0, 1) := by decide +kernel
theorem dX6_aim_6 : decode cX6_aim 6 = .ok (.getfield 39, 3) := by decide +kernel
theorem dX6_aim_9 : decode cX6_aim 9 = .ok (.if_icmp .ge 33, 3) := by decide +kernel
theorem dX6_aim_12 : decode cX6_aim 12 = .ok (.aload_n 0, 1) := by decide +kernel
theorem dX6_aim_13 : decode cX6_aim 13 = .ok (.getfield 30, 3) := by decide +kernel
theorem dX6_aim_16 : decode cX6_aim 16 = .ok (.iload_n 3, 1) := by decide +kernel
theorem dX6_aim_17 : decode cX6_aim 17 = .ok (.iload_n 3, 1) := by decide +kernel
theorem dX6_aim_18 : decode cX6_aim 18 = .ok (.bipush 16, 2) := by decide +kernel
theorem dX6_aim_20 : decode cX6_aim 20 = .ok (.imul, 1) := by decide +kernel
theorem dX6_aim_21 : decode cX6_aim 21 = .ok (.iload_n 2, 1) := by decide +kernel
theorem dX6_aim_22 : decode cX6_aim 22 = .ok (.aload_n 0, 1) := by decide +kernel
theorem dX6_aim_23 : decode cX6_aim 23 = .ok (.getfield 42, 3) := by decide +kernel
theorem dX6_aim_26 : decode cX6_aim 26 = .ok (.irem, 1) := by decide +kernel
theorem dX6_aim_27 : decode cX6_aim 27 = .ok (.iadd, 1) := by decide +kernel
theorem dX6_aim_28 : decode cX6_aim 28 = .ok (.iastore, 1) := by decide +kernel
theorem dX6_aim_29 : decode cX6_aim 29 = .ok (.iload_n 2, 1) := by decide +kernel
theorem dX6_aim_30 : decode cX6_aim 30 = .ok (.aload_n 0, 1) := by decide +kernel
theorem dX6_aim_31 : decode cX6_aim 31 = .ok (.getfield 42, 3) := by decide +kernel
theorem dX6_aim_34 : decode cX6_aim 34 = .ok (.idiv, 1) := by decide +kernel
theorem dX6_aim_35 : decode cX6_aim 35 = .ok (.istore_n 2, 1) := by decide +kernel
theorem dX6_aim_36 : decode cX6_aim 36 = .ok (.iinc 3 1, 3) := by decide +kernel
theorem dX6_aim_39 : decode cX6_aim 39 = .ok (.goto (-35), 3) := by decide +kernel
theorem dX6_aim_42 : decode cX6_aim 42 = .ok (.return_, 1) := by decide +kernel
theorem dX6_shownBy_0 : decode cX6_shownBy 0 = .ok (.aload_n 0, 1) := by decide +kernel
theorem dX6_shownBy_1 : decode cX6_shownBy 1 = .ok (.getfield 23, 3) := by decide +kernel
theorem dX6_shownBy_4 : decode cX6_shownBy 4 = .ok (.iload_n 1, 1) := by decide +kernel
theorem dX6_shownBy_5 : decode cX6_shownBy 5 = .ok (.iaload, 1) := by decide +kernel
theorem dX6_shownBy_6 : decode cX6_shownBy 6 = .ok (.istore_n 2, 1) := by decide +kernel
theorem dX6_shownBy_7 : decode cX6_shownBy 7 = .ok (.iconst 0, 1) := by decide +kernel
theorem dX6_shownBy_8 : decode cX6_shownBy 8 = .ok (.istore_n 3, 1) := by decide +kernel
theorem dX6_shownBy_9 : decode cX6_shownBy 9 = .ok (.iload_n 3, 1) := by decide +kernel
theorem dX6_shownBy_10 : decode cX6_shownBy 10 = .ok (.aload_n 0, 1) := by decide +kernel
theorem dX6_shownBy_11 : decode cX6_shownBy 11 = .ok (.getfield 39, 3) := by decide +kernel
theorem dX6_shownBy_14 : decode cX6_shownBy 14 = .ok (.if_icmp .ge 25, 3) := by decide +kernel
theorem dX6_shownBy_17 : decode cX6_shownBy 17 = .ok (.iload_n 2, 1) := by decide +kernel
theorem dX6_shownBy_18 : decode cX6_shownBy 18 = .ok (.aload_n 0, 1) := by decide +kernel
theorem dX6_shownBy_19 : decode cX6_shownBy 19 = .ok (.getfield 27, 3) := by decide +kernel
theorem dX6_shownBy_22 : decode cX6_shownBy 22 = .ok (.iload_n 1, 1) := by decide +kernel
theorem dX6_shownBy_23 : decode cX6_shownBy 23 = .ok (.aaload, 1) := by decide +kernel
theorem dX6_shownBy_24 : decode cX6_shownBy 24 = .ok (.aload_n 0, 1) := by decide +kernel
theorem dX6_shownBy_25 : decode cX6_shownBy 25 = .ok (.getfield 30, 3) := by decide +kernel
theorem dX6_shownBy_28 : decode cX6_shownBy 28 = .ok (.iload_n 3, 1) := by decide +kernel
theorem dX6_shownBy_29 : decode cX6_shownBy 29 = .ok (.iaload, 1) := by decide +kernel
theorem dX6_shownBy_30 : decode cX6_shownBy 30 = .ok (.iaload, 1) := by decide +kernel
theorem dX6_shownBy_31 : decode cX6_shownBy 31 = .ok (.isub, 1) := by decide +kernel
theorem dX6_shownBy_32 : decode cX6_shownBy 32 = .ok (.istore_n 2, 1) := by decide +kernel
theorem dX6_shownBy_33 : decode cX6_shownBy 33 = .ok (.iinc 3 1, 3) := by decide +kernel
theorem dX6_shownBy_36 : decode cX6_shownBy 36 = .ok (.goto (-27), 3) := by decide +kernel
theorem dX6_shownBy_39 : decode cX6_shownBy 39 = .ok (.iload_n 2, 1) := by decide +kernel
theorem dX6_shownBy_40 : decode cX6_shownBy 40 = .ok (.ireturn, 1) := by decide +kernel
theorem dX6_holds_0 : decode cX6_holds 0 = .ok (.aload_n 0, 1) := by decide +kernel
theorem dX6_holds_1 : decode cX6_holds 1 = .ok (.iload_n 1, 1) := by decide +kernel
theorem dX6_holds_2 : decode cX6_holds 2 = .ok (.invokevirtual 96, 3) := by decide +kernel
theorem dX6_holds_5 : decode cX6_holds 5 = .ok (.iconst 0, 1) := by decide +kernel
theorem dX6_holds_6 : decode cX6_holds 6 = .ok (.istore_n 2, 1) := by decide +kernel
theorem dX6_holds_7 : decode cX6_holds 7 = .ok (.iload_n 2, 1) := by decide +kernel
theorem dX6_holds_8 : decode cX6_holds 8 = .ok (.iconst 2, 1) := by decide +kernel
theorem dX6_holds_9 : decode cX6_holds 9 = .ok (.aload_n 0, 1) := by decide +kernel
theorem dX6_holds_10 : decode cX6_holds 10 = .ok (.getfield 57, 3) := by decide +kernel
theorem dX6_holds_13 : decode cX6_holds 13 = .ok (.imul, 1) := by decide +kernel
theorem dX6_holds_14 : decode cX6_holds 14 = .ok (.if_icmp .ge 26, 3) := by decide +kernel
theorem dX6_holds_17 : decode cX6_holds 17 = .ok (.aload_n 0, 1) := by decide +kernel
theorem dX6_holds_18 : decode cX6_holds 18 = .ok (.iload_n 2, 1) := by decide +kernel
theorem dX6_holds_19 : decode cX6_holds 19 = .ok (.invokevirtual 99, 3) := by decide +kernel
theorem dX6_holds_22 : decode cX6_holds 22 = .ok (.invokestatic 103, 3) := by decide +kernel
theorem dX6_holds_25 : decode cX6_holds 25 = .ok (.aload_n 0, 1) := by decide +kernel
theorem dX6_holds_26 : decode cX6_holds 26 = .ok (.getfield 19, 3) := by decide +kernel
theorem dX6_holds_29 : decode cX6_holds 29 = .ok (.if_icmp .le 5, 3) := by decide +kernel
theorem dX6_holds_32 : decode cX6_holds 32 = .ok (.iconst 0, 1) := by decide +kernel
theorem dX6_holds_33 : decode cX6_holds 33 = .ok (.ireturn, 1) := by decide +kernel
theorem dX6_holds_34 : decode cX6_holds 34 = .ok (.iinc 2 1, 3) := by decide +kernel
theorem dX6_holds_37 : decode cX6_holds 37 = .ok (.goto (-30), 3) := by decide +kernel
theorem dX6_holds_40 : decode cX6_holds 40 = .ok (.iconst 1, 1) := by decide +kernel
theorem dX6_holds_41 : decode cX6_holds 41 = .ok (.ireturn, 1) := by decide +kernel
theorem dX6_gather_0 : decode cX6_gather 0 = .ok (.aload_n 0, 1) := by decide +kernel
theorem dX6_gather_1 : decode cX6_gather 1 = .ok (.getfield 74, 3) := by decide +kernel
theorem dX6_gather_4 : decode cX6_gather 4 = .ok (.ifCond .eq 4, 3) := by decide +kernel
theorem dX6_gather_7 : decode cX6_gather 7 = .ok (.return_, 1) := by decide +kernel
theorem dX6_gather_8 : decode cX6_gather 8 = .ok (.aload_n 0, 1) := by decide +kernel
theorem dX6_gather_9 : decode cX6_gather 9 = .ok (.iconst 0, 1) := by decide +kernel
theorem dX6_gather_10 : decode cX6_gather 10 = .ok (.putfield 108, 3) := by decide +kernel
theorem dX6_gather_13 : decode cX6_gather 13 = .ok (.iconst 0, 1) := by decide +kernel
theorem dX6_gather_14 : decode cX6_gather 14 = .ok (.istore_n 1, 1) := by decide +kernel
theorem dX6_gather_15 : decode cX6_gather 15 = .ok (.iload_n 1, 1) := by decide +kernel
theorem dX6_gather_16 : decode cX6_gather 16 = .ok (.aload_n 0, 1) := by decide +kernel
theorem dX6_gather_17 : decode cX6_gather 17 = .ok (.getfield 63, 3) := by decide +kernel
theorem dX6_gather_20 : decode cX6_gather 20 = .ok (.if_icmp .ge 44, 3) := by decide +kernel
theorem dX6_gather_23 : decode cX6_gather 23 = .ok (.iload_n 1, 1) := by decide +kernel
theorem dX6_gather_24 : decode cX6_gather 24 = .ok (.sipush 4096, 3) := by decide +kernel
theorem dX6_gather_27 : decode cX6_gather 27 = .ok (.if_icmp .ge 37, 3) := by decide +kernel
theorem dX6_gather_30 : decode cX6_gather 30 = .ok (.aload_n 0, 1) := by decide +kernel
theorem dX6_gather_31 : decode cX6_gather 31 = .ok (.iload_n 1, 1) := by decide +kernel
theorem dX6_gather_32 : decode cX6_gather 32 = .ok (.invokevirtual 111, 3) := by decide +kernel
theorem dX6_gather_35 : decode cX6_gather 35 = .ok (.ifCond .eq 23, 3) := by decide +kernel
theorem dX6_gather_38 : decode cX6_gather 38 = .ok (.aload_n 0, 1) := by decide +kernel
theorem dX6_gather_39 : decode cX6_gather 39 = .ok (.getfield 33, 3) := by decide +kernel
theorem dX6_gather_42 : decode cX6_gather 42 = .ok (.aload_n 0, 1) := by decide +kernel
theorem dX6_gather_43 : decode cX6_gather 43 = .ok (.getfield 108, 3) := by decide +kernel
theorem dX6_gather_46 : decode cX6_gather 46 = .ok (.iload_n 1, 1) := by decide +kernel
theorem dX6_gather_47 : decode cX6_gather 47 = .ok (.iastore, 1) := by decide +kernel
theorem dX6_gather_48 : decode cX6_gather 48 = .ok (.aload_n 0, 1) := by decide +kernel
theorem dX6_gather_49 : decode cX6_gather 49 = .ok (.dup, 1) := by decide +kernel
theorem dX6_gather_50 : decode cX6_gather 50 = .ok (.getfield 108, 3) := by decide +kernel
theorem dX6_gather_53 : decode cX6_gather 53 = .ok (.iconst 1, 1) := by decide +kernel
theorem dX6_gather_54 : decode cX6_gather 54 = .ok (.iadd, 1) := by decide +kernel
theorem dX6_gather_55 : decode cX6_gather 55 = .ok (.putfield 108, 3) := by decide +kernel
theorem dX6_gather_58 : decode cX6_gather 58 = .ok (.iinc 1 1, 3) := by decide +kernel
theorem dX6_gather_61 : decode cX6_gather 61 = .ok (.goto (-46), 3) := by decide +kernel
theorem dX6_gather_64 : decode cX6_gather 64 = .ok (.aload_n 0, 1) := by decide +kernel
theorem dX6_gather_65 : decode cX6_gather 65 = .ok (.iconst 1, 1) := by decide +kernel
theorem dX6_gather_66 : decode cX6_gather 66 = .ok (.putfield 74, 3) := by decide +kernel
theorem dX6_gather_69 : decode cX6_gather 69 = .ok (.return_, 1) := by decide +kernel
theorem dX6_weightOf_0 : decode cX6_weightOf 0 = .ok (.iload_n 1, 1) := by decide +kernel
theorem dX6_weightOf_1 : decode cX6_weightOf 1 = .ok (.istore_n 3, 1) := by decide +kernel
theorem dX6_weightOf_2 : decode cX6_weightOf 2 = .ok (.iconst 0, 1) := by decide +kernel
theorem dX6_weightOf_3 : decode cX6_weightOf 3 = .ok (.istore 4, 2) := by decide +kernel
theorem dX6_weightOf_5 : decode cX6_weightOf 5 = .ok (.iload 4, 2) := by decide +kernel
theorem dX6_weightOf_7 : decode cX6_weightOf 7 = .ok (.iload_n 2, 1) := by decide +kernel
theorem dX6_weightOf_8 : decode cX6_weightOf 8 = .ok (.if_icmp .ge 16, 3) := by decide +kernel
theorem dX6_weightOf_11 : decode cX6_weightOf 11 = .ok (.iload_n 3, 1) := by decide +kernel
theorem dX6_weightOf_12 : decode cX6_weightOf 12 = .ok (.aload_n 0, 1) := by decide +kernel
theorem dX6_weightOf_13 : decode cX6_weightOf 13 = .ok (.getfield 42, 3) := by decide +kernel
theorem dX6_weightOf_16 : decode cX6_weightOf 16 = .ok (.idiv, 1) := by decide +kernel
theorem dX6_weightOf_17 : decode cX6_weightOf 17 = .ok (.istore_n 3, 1) := by decide +kernel
theorem dX6_weightOf_18 : decode cX6_weightOf 18 = .ok (.iinc 4 1, 3) := by decide +kernel
theorem dX6_weightOf_21 : decode cX6_weightOf 21 = .ok (.goto (-16), 3) := by decide +kernel
theorem dX6_weightOf_24 : decode cX6_weightOf 24 = .ok (.iload_n 3, 1) := by decide +kernel
theorem dX6_weightOf_25 : decode cX6_weightOf 25 = .ok (.aload_n 0, 1) := by decide +kernel
theorem dX6_weightOf_26 : decode cX6_weightOf 26 = .ok (.getfield 42, 3) := by decide +kernel
theorem dX6_weightOf_29 : decode cX6_weightOf 29 = .ok (.irem, 1) := by decide +kernel
theorem dX6_weightOf_30 : decode cX6_weightOf 30 = .ok (.ireturn, 1) := by decide +kernel
theorem dX6_least_0 : decode cX6_least 0 = .ok (.bipush (-9), 2) := by decide +kernel
theorem dX6_least_2 : decode cX6_least 2 = .ok (.istore_n 1, 1) := by decide +kernel
theorem dX6_least_3 : decode cX6_least 3 = .ok (.iconst 0, 1) := by decide +kernel
theorem dX6_least_4 : decode cX6_least 4 = .ok (.istore_n 2, 1) := by decide +kernel
theorem dX6_least_5 : decode cX6_least 5 = .ok (.iconst 0, 1) := by decide +kernel
theorem dX6_least_6 : decode cX6_least 6 = .ok (.istore_n 3, 1) := by decide +kernel
theorem dX6_least_7 : decode cX6_least 7 = .ok (.iload_n 3, 1) := by decide +kernel
theorem dX6_least_8 : decode cX6_least 8 = .ok (.aload_n 0, 1) := by decide +kernel
theorem dX6_least_9 : decode cX6_least 9 = .ok (.getfield 108, 3) := by decide +kernel
theorem dX6_least_12 : decode cX6_least 12 = .ok (.if_icmp .ge 69, 3) := by decide +kernel
theorem dX6_least_15 : decode cX6_least 15 = .ok (.iconst 0, 1) := by decide +kernel
theorem dX6_least_16 : decode cX6_least 16 = .ok (.istore 4, 2) := by decide +kernel
theorem dX6_least_18 : decode cX6_least 18 = .ok (.iconst 0, 1) := by decide +kernel
theorem dX6_least_19 : decode cX6_least 19 = .ok (.istore 5, 2) := by decide +kernel
theorem dX6_least_21 : decode cX6_least 21 = .ok (.iload 5, 2) := by decide +kernel
theorem dX6_least_23 : decode cX6_least 23 = .ok (.aload_n 0, 1) := by decide +kernel
theorem dX6_least_24 : decode cX6_least 24 = .ok (.getfield 39, 3) := by decide +kernel
theorem dX6_least_27 : decode cX6_least 27 = .ok (.if_icmp .ge 26, 3) := by decide +kernel
theorem dX6_least_30 : decode cX6_least 30 = .ok (.iload 4, 2) := by decide +kernel
theorem dX6_least_32 : decode cX6_least 32 = .ok (.aload_n 0, 1) := by decide +kernel
theorem dX6_least_33 : decode cX6_least 33 = .ok (.aload_n 0, 1) := by decide +kernel
theorem dX6_least_34 : decode cX6_least 34 = .ok (.getfield 33, 3) := by decide +kernel
theorem dX6_least_37 : decode cX6_least 37 = .ok (.iload_n 3, 1) := by decide +kernel
theorem dX6_least_38 : decode cX6_least 38 = .ok (.iaload, 1) := by decide +kernel
theorem dX6_least_39 : decode cX6_least 39 = .ok (.iload 5, 2) := by decide +kernel
theorem dX6_least_41 : decode cX6_least 41 = .ok (.invokevirtual 115, 3) := by decide +kernel
theorem dX6_least_44 : decode cX6_least 44 = .ok (.iadd, 1) := by decide +kernel
theorem dX6_least_45 : decode cX6_least 45 = .ok (.istore 4, 2) := by decide +kernel
theorem dX6_least_47 : decode cX6_least 47 = .ok (.iinc 5 1, 3) := by decide +kernel
theorem dX6_least_50 : decode cX6_least 50 = .ok (.goto (-29), 3) := by decide +kernel
theorem dX6_least_53 : decode cX6_least 53 = .ok (.iload_n 1, 1) := by decide +kernel
theorem dX6_least_54 : decode cX6_least 54 = .ok (.bipush (-9), 2) := by decide +kernel
theorem dX6_least_56 : decode cX6_least 56 = .ok (.if_icmp .eq 9, 3) := by decide +kernel
theorem dX6_least_59 : decode cX6_least 59 = .ok (.iload 4, 2) := by decide +kernel
theorem dX6_least_61 : decode cX6_least 61 = .ok (.iload_n 2, 1) := by decide +kernel
theorem dX6_least_62 : decode cX6_least 62 = .ok (.if_icmp .ge 13, 3) := by decide +kernel
theorem dX6_least_65 : decode cX6_least 65 = .ok (.aload_n 0, 1) := by decide +kernel
theorem dX6_least_66 : decode cX6_least 66 = .ok (.getfield 33, 3) := by decide +kernel
theorem dX6_least_69 : decode cX6_least 69 = .ok (.iload_n 3, 1) := by decide +kernel
theorem dX6_least_70 : decode cX6_least 70 = .ok (.iaload, 1) := by decide +kernel
theorem dX6_least_71 : decode cX6_least 71 = .ok (.istore_n 1, 1) := by decide +kernel
theorem dX6_least_72 : decode cX6_least 72 = .ok (.iload 4, 2) := by decide +kernel
theorem dX6_least_74 : decode cX6_least 74 = .ok (.istore_n 2, 1) := by decide +kernel
theorem dX6_least_75 : decode cX6_least 75 = .ok (.iinc 3 1, 3) := by decide +kernel
theorem dX6_least_78 : decode cX6_least 78 = .ok (.goto (-71), 3) := by decide +kernel
theorem dX6_least_81 : decode cX6_least 81 = .ok (.iload_n 1, 1) := by decide +kernel
theorem dX6_least_82 : decode cX6_least 82 = .ok (.ireturn, 1) := by decide +kernel
theorem dX6_sureWeight_0 : decode cX6_sureWeight 0 = .ok (.aload_n 0, 1) := by decide +kernel
theorem dX6_sureWeight_1 : decode cX6_sureWeight 1 = .ok (.getfield 108, 3) := by decide +kernel
theorem dX6_sureWeight_4 : decode cX6_sureWeight 4 = .ok (.ifCond .ne 6, 3) := by decide +kernel
theorem dX6_sureWeight_7 : decode cX6_sureWeight 7 = .ok (.bipush (-9), 2) := by decide +kernel
theorem dX6_sureWeight_9 : decode cX6_sureWeight 9 = .ok (.ireturn, 1) := by decide +kernel
theorem dX6_sureWeight_10 : decode cX6_sureWeight 10 = .ok (.aload_n 0, 1) := by decide +kernel
theorem dX6_sureWeight_11 : decode cX6_sureWeight 11 = .ok (.aload_n 0, 1) := by decide +kernel
theorem dX6_sureWeight_12 : decode cX6_sureWeight 12 = .ok (.getfield 33, 3) := by decide +kernel
theorem dX6_sureWeight_15 : decode cX6_sureWeight 15 = .ok (.iconst 0, 1) := by decide +kernel
theorem dX6_sureWeight_16 : decode cX6_sureWeight 16 = .ok (.iaload, 1) := by decide +kernel
theorem dX6_sureWeight_17 : decode cX6_sureWeight 17 = .ok (.iload_n 1, 1) := by decide +kernel
theorem dX6_sureWeight_18 : decode cX6_sureWeight 18 = .ok (.invokevirtual 115, 3) := by decide +kernel
theorem dX6_sureWeight_21 : decode cX6_sureWeight 21 = .ok (.istore_n 2, 1) := by decide +kernel
theorem dX6_sureWeight_22 : decode cX6_sureWeight 22 = .ok (.iconst 1, 1) := by decide +kernel
theorem dX6_sureWeight_23 : decode cX6_sureWeight 23 = .ok (.istore_n 3, 1) := by decide +kernel
theorem dX6_sureWeight_24 : decode cX6_sureWeight 24 = .ok (.iload_n 3, 1) := by decide +kernel
theorem dX6_sureWeight_25 : decode cX6_sureWeight 25 = .ok (.aload_n 0, 1) := by decide +kernel
theorem dX6_sureWeight_26 : decode cX6_sureWeight 26 = .ok (.getfield 108, 3) := by decide +kernel
theorem dX6_sureWeight_29 : decode cX6_sureWeight 29 = .ok (.if_icmp .ge 27, 3) := by decide +kernel
theorem dX6_sureWeight_32 : decode cX6_sureWeight 32 = .ok (.aload_n 0, 1) := by decide +kernel
theorem dX6_sureWeight_33 : decode cX6_sureWeight 33 = .ok (.aload_n 0, 1) := by decide +kernel
theorem dX6_sureWeight_34 : decode cX6_sureWeight 34 = .ok (.getfield 33, 3) := by decide +kernel
theorem dX6_sureWeight_37 : decode cX6_sureWeight 37 = .ok (.iload_n 3, 1) := by decide +kernel
theorem dX6_sureWeight_38 : decode cX6_sureWeight 38 = .ok (.iaload, 1) := by decide +kernel
theorem dX6_sureWeight_39 : decode cX6_sureWeight 39 = .ok (.iload_n 1, 1) := by decide +kernel
theorem dX6_sureWeight_40 : decode cX6_sureWeight 40 = .ok (.invokevirtual 115, 3) := by decide +kernel
theorem dX6_sureWeight_43 : decode cX6_sureWeight 43 = .ok (.iload_n 2, 1) := by decide +kernel
theorem dX6_sureWeight_44 : decode cX6_sureWeight 44 = .ok (.if_icmp .eq 6, 3) := by decide +kernel
theorem dX6_sureWeight_47 : decode cX6_sureWeight 47 = .ok (.bipush (-9), 2) := by decide +kernel
theorem dX6_sureWeight_49 : decode cX6_sureWeight 49 = .ok (.ireturn, 1) := by decide +kernel
theorem dX6_sureWeight_50 : decode cX6_sureWeight 50 = .ok (.iinc 3 1, 3) := by decide +kernel
theorem dX6_sureWeight_53 : decode cX6_sureWeight 53 = .ok (.goto (-29), 3) := by decide +kernel
theorem dX6_sureWeight_56 : decode cX6_sureWeight 56 = .ok (.iload_n 2, 1) := by decide +kernel
theorem dX6_sureWeight_57 : decode cX6_sureWeight 57 = .ok (.ireturn, 1) := by decide +kernel
theorem dX6_twins_0 : decode cX6_twins 0 = .ok (.aload_n 0, 1) := by decide +kernel
theorem dX6_twins_1 : decode cX6_twins 1 = .ok (.getfield 108, 3) := by decide +kernel
theorem dX6_twins_4 : decode cX6_twins 4 = .ok (.ifCond .le 7, 3) := by decide +kernel
theorem dX6_twins_7 : decode cX6_twins 7 = .ok (.iconst 1, 1) := by decide +kernel
theorem dX6_twins_8 : decode cX6_twins 8 = .ok (.goto 4, 3) := by decide +kernel
theorem dX6_twins_11 : decode cX6_twins 11 = .ok (.iconst 0, 1) := by decide +kernel
theorem dX6_twins_12 : decode cX6_twins 12 = .ok (.istore_n 1, 1) := by decide +kernel
theorem dX6_twins_13 : decode cX6_twins 13 = .ok (.aload_n 0, 1) := by decide +kernel
theorem dX6_twins_14 : decode cX6_twins 14 = .ok (.getfield 36, 3) := by decide +kernel
theorem dX6_twins_17 : decode cX6_twins 17 = .ok (.iconst 0, 1) := by decide +kernel
theorem dX6_twins_18 : decode cX6_twins 18 = .ok (.invokestatic 77, 3) := by decide +kernel
theorem dX6_twins_21 : decode cX6_twins 21 = .ok (.iconst 0, 1) := by decide +kernel
theorem dX6_twins_22 : decode cX6_twins 22 = .ok (.istore_n 2, 1) := by decide +kernel
theorem dX6_twins_23 : decode cX6_twins 23 = .ok (.iload_n 2, 1) := by decide +kernel
theorem dX6_twins_24 : decode cX6_twins 24 = .ok (.aload_n 0, 1) := by decide +kernel
theorem dX6_twins_25 : decode cX6_twins 25 = .ok (.getfield 60, 3) := by decide +kernel
theorem dX6_twins_28 : decode cX6_twins 28 = .ok (.if_icmp .ge 39, 3) := by decide +kernel
theorem dX6_twins_31 : decode cX6_twins 31 = .ok (.aload_n 0, 1) := by decide +kernel
theorem dX6_twins_32 : decode cX6_twins 32 = .ok (.bipush 20, 2) := by decide +kernel
theorem dX6_twins_34 : decode cX6_twins 34 = .ok (.iconst 2, 1) := by decide +kernel
theorem dX6_twins_35 : decode cX6_twins 35 = .ok (.iload_n 2, 1) := by decide +kernel
theorem dX6_twins_36 : decode cX6_twins 36 = .ok (.imul, 1) := by decide +kernel
theorem dX6_twins_37 : decode cX6_twins 37 = .ok (.iadd, 1) := by decide +kernel
theorem dX6_twins_38 : decode cX6_twins 38 = .ok (.invokevirtual 119, 3) := by decide +kernel
theorem dX6_twins_41 : decode cX6_twins 41 = .ok (.aload_n 0, 1) := by decide +kernel
theorem dX6_twins_42 : decode cX6_twins 42 = .ok (.bipush 20, 2) := by decide +kernel
theorem dX6_twins_44 : decode cX6_twins 44 = .ok (.iconst 2, 1) := by decide +kernel
theorem dX6_twins_45 : decode cX6_twins 45 = .ok (.iload_n 2, 1) := by decide +kernel
theorem dX6_twins_46 : decode cX6_twins 46 = .ok (.imul, 1) := by decide +kernel
theorem dX6_twins_47 : decode cX6_twins 47 = .ok (.iadd, 1) := by decide +kernel
theorem dX6_twins_48 : decode cX6_twins 48 = .ok (.iconst 1, 1) := by decide +kernel
theorem dX6_twins_49 : decode cX6_twins 49 = .ok (.iadd, 1) := by decide +kernel
theorem dX6_twins_50 : decode cX6_twins 50 = .ok (.invokevirtual 119, 3) := by decide +kernel
theorem dX6_twins_53 : decode cX6_twins 53 = .ok (.aload_n 0, 1) := by decide +kernel
theorem dX6_twins_54 : decode cX6_twins 54 = .ok (.getfield 53, 3) := by decide +kernel
theorem dX6_twins_57 : decode cX6_twins 57 = .ok (.getfield 122, 3) := by decide +kernel
theorem dX6_twins_60 : decode cX6_twins 60 = .ok (.istore_n 1, 1) := by decide +kernel
theorem dX6_twins_61 : decode cX6_twins 61 = .ok (.iinc 2 1, 3) := by decide +kernel
theorem dX6_twins_64 : decode cX6_twins 64 = .ok (.goto (-41), 3) := by decide +kernel
theorem dX6_twins_67 : decode cX6_twins 67 = .ok (.iload_n 1, 1) := by decide +kernel
theorem dX6_twins_68 : decode cX6_twins 68 = .ok (.ireturn, 1) := by decide +kernel
theorem dX6_nextLook_0 : decode cX6_nextLook 0 = .ok (.bipush (-9), 2) := by decide +kernel
theorem dX6_nextLook_2 : decode cX6_nextLook 2 = .ok (.istore_n 1, 1) := by decide +kernel
theorem dX6_nextLook_3 : decode cX6_nextLook 3 = .ok (.iconst 0, 1) := by decide +kernel
theorem dX6_nextLook_4 : decode cX6_nextLook 4 = .ok (.istore_n 2, 1) := by decide +kernel
theorem dX6_nextLook_5 : decode cX6_nextLook 5 = .ok (.iconst 0, 1) := by decide +kernel
theorem dX6_nextLook_6 : decode cX6_nextLook 6 = .ok (.istore_n 3, 1) := by decide +kernel
theorem dX6_nextLook_7 : decode cX6_nextLook 7 = .ok (.iload_n 3, 1) := by decide +kernel
theorem dX6_nextLook_8 : decode cX6_nextLook 8 = .ok (.aload_n 0, 1) := by decide +kernel
theorem dX6_nextLook_9 : decode cX6_nextLook 9 = .ok (.getfield 60, 3) := by decide +kernel
theorem dX6_nextLook_12 : decode cX6_nextLook 12 = .ok (.if_icmp .ge 80, 3) := by decide +kernel
theorem dX6_nextLook_15 : decode cX6_nextLook 15 = .ok (.aload_n 0, 1) := by decide +kernel
theorem dX6_nextLook_16 : decode cX6_nextLook 16 = .ok (.getfield 108, 3) := by decide +kernel
theorem dX6_nextLook_19 : decode cX6_nextLook 19 = .ok (.ifCond .le 73, 3) := by decide +kernel
theorem dX6_nextLook_22 : decode cX6_nextLook 22 = .ok (.aload_n 0, 1) := by decide +kernel
theorem dX6_nextLook_23 : decode cX6_nextLook 23 = .ok (.getfield 36, 3) := by decide +kernel
theorem dX6_nextLook_26 : decode cX6_nextLook 26 = .ok (.iconst 0, 1) := by decide +kernel
theorem dX6_nextLook_27 : decode cX6_nextLook 27 = .ok (.invokestatic 77, 3) := by decide +kernel
theorem dX6_nextLook_30 : decode cX6_nextLook 30 = .ok (.aload_n 0, 1) := by decide +kernel
theorem dX6_nextLook_31 : decode cX6_nextLook 31 = .ok (.bipush 20, 2) := by decide +kernel
theorem dX6_nextLook_33 : decode cX6_nextLook 33 = .ok (.iconst 2, 1) := by decide +kernel
theorem dX6_nextLook_34 : decode cX6_nextLook 34 = .ok (.iload_n 3, 1) := by decide +kernel
theorem dX6_nextLook_35 : decode cX6_nextLook 35 = .ok (.imul, 1) := by decide +kernel
theorem dX6_nextLook_36 : decode cX6_nextLook 36 = .ok (.iadd, 1) := by decide +kernel
theorem dX6_nextLook_37 : decode cX6_nextLook 37 = .ok (.invokevirtual 119, 3) := by decide +kernel
theorem dX6_nextLook_40 : decode cX6_nextLook 40 = .ok (.aload_n 0, 1) := by decide +kernel
theorem dX6_nextLook_41 : decode cX6_nextLook 41 = .ok (.bipush 20, 2) := by decide +kernel
theorem dX6_nextLook_43 : decode cX6_nextLook 43 = .ok (.iconst 2, 1) := by decide +kernel
theorem dX6_nextLook_44 : decode cX6_nextLook 44 = .ok (.iload_n 3, 1) := by decide +kernel
theorem dX6_nextLook_45 : decode cX6_nextLook 45 = .ok (.imul, 1) := by decide +kernel
theorem dX6_nextLook_46 : decode cX6_nextLook 46 = .ok (.iadd, 1) := by decide +kernel
theorem dX6_nextLook_47 : decode cX6_nextLook 47 = .ok (.iconst 1, 1) := by decide +kernel
theorem dX6_nextLook_48 : decode cX6_nextLook 48 = .ok (.iadd, 1) := by decide +kernel
theorem dX6_nextLook_49 : decode cX6_nextLook 49 = .ok (.invokevirtual 119, 3) := by decide +kernel
theorem dX6_nextLook_52 : decode cX6_nextLook 52 = .ok (.aload_n 0, 1) := by decide +kernel
theorem dX6_nextLook_53 : decode cX6_nextLook 53 = .ok (.getfield 53, 3) := by decide +kernel
theorem dX6_nextLook_56 : decode cX6_nextLook 56 = .ok (.getfield 127, 3) := by decide +kernel
theorem dX6_nextLook_59 : decode cX6_nextLook 59 = .ok (.aload_n 0, 1) := by decide +kernel
theorem dX6_nextLook_60 : decode cX6_nextLook 60 = .ok (.getfield 53, 3) := by decide +kernel
theorem dX6_nextLook_63 : decode cX6_nextLook 63 = .ok (.invokevirtual 130, 3) := by decide +kernel
theorem dX6_nextLook_66 : decode cX6_nextLook 66 = .ok (.iaload, 1) := by decide +kernel
theorem dX6_nextLook_67 : decode cX6_nextLook 67 = .ok (.istore 4, 2) := by decide +kernel
theorem dX6_nextLook_69 : decode cX6_nextLook 69 = .ok (.iload_n 1, 1) := by decide +kernel
theorem dX6_nextLook_70 : decode cX6_nextLook 70 = .ok (.bipush (-9), 2) := by decide +kernel
theorem dX6_nextLook_72 : decode cX6_nextLook 72 = .ok (.if_icmp .eq 9, 3) := by decide +kernel
theorem dX6_nextLook_75 : decode cX6_nextLook 75 = .ok (.iload 4, 2) := by decide +kernel
theorem dX6_nextLook_77 : decode cX6_nextLook 77 = .ok (.iload_n 2, 1) := by decide +kernel
theorem dX6_nextLook_78 : decode cX6_nextLook 78 = .ok (.if_icmp .ge 8, 3) := by decide +kernel
theorem dX6_nextLook_81 : decode cX6_nextLook 81 = .ok (.iload_n 3, 1) := by decide +kernel
theorem dX6_nextLook_82 : decode cX6_nextLook 82 = .ok (.istore_n 1, 1) := by decide +kernel
theorem dX6_nextLook_83 : decode cX6_nextLook 83 = .ok (.iload 4, 2) := by decide +kernel
theorem dX6_nextLook_85 : decode cX6_nextLook 85 = .ok (.istore_n 2, 1) := by decide +kernel
theorem dX6_nextLook_86 : decode cX6_nextLook 86 = .ok (.iinc 3 1, 3) := by decide +kernel
theorem dX6_nextLook_89 : decode cX6_nextLook 89 = .ok (.goto (-82), 3) := by decide +kernel
theorem dX6_nextLook_92 : decode cX6_nextLook 92 = .ok (.iload_n 1, 1) := by decide +kernel
theorem dX6_nextLook_93 : decode cX6_nextLook 93 = .ok (.ireturn, 1) := by decide +kernel
theorem dX6_splitHeaps_0 : decode cX6_splitHeaps 0 = .ok (.aload_n 0, 1) := by decide +kernel
theorem dX6_splitHeaps_1 : decode cX6_splitHeaps 1 = .ok (.getfield 53, 3) := by decide +kernel
theorem dX6_splitHeaps_4 : decode cX6_splitHeaps 4 = .ok (.invokevirtual 134, 3) := by decide +kernel
theorem dX6_splitHeaps_7 : decode cX6_splitHeaps 7 = .ok (.iconst 0, 1) := by decide +kernel
theorem dX6_splitHeaps_8 : decode cX6_splitHeaps 8 = .ok (.istore_n 2, 1) := by decide +kernel
theorem dX6_splitHeaps_9 : decode cX6_splitHeaps 9 = .ok (.iload_n 2, 1) := by decide +kernel
theorem dX6_splitHeaps_10 : decode cX6_splitHeaps 10 = .ok (.aload_n 0, 1) := by decide +kernel
theorem dX6_splitHeaps_11 : decode cX6_splitHeaps 11 = .ok (.getfield 108, 3) := by decide +kernel
theorem dX6_splitHeaps_14 : decode cX6_splitHeaps 14 = .ok (.if_icmp .ge 55, 3) := by decide +kernel
theorem dX6_splitHeaps_17 : decode cX6_splitHeaps 17 = .ok (.aload_n 0, 1) := by decide +kernel
theorem dX6_splitHeaps_18 : decode cX6_splitHeaps 18 = .ok (.aload_n 0, 1) := by decide +kernel
theorem dX6_splitHeaps_19 : decode cX6_splitHeaps 19 = .ok (.getfield 33, 3) := by decide +kernel
theorem dX6_splitHeaps_22 : decode cX6_splitHeaps 22 = .ok (.iload_n 2, 1) := by decide +kernel
theorem dX6_splitHeaps_23 : decode cX6_splitHeaps 23 = .ok (.iaload, 1) := by decide +kernel
theorem dX6_splitHeaps_24 : decode cX6_splitHeaps 24 = .ok (.invokevirtual 96, 3) := by decide +kernel
theorem dX6_splitHeaps_27 : decode cX6_splitHeaps 27 = .ok (.aload_n 0, 1) := by decide +kernel
theorem dX6_splitHeaps_28 : decode cX6_splitHeaps 28 = .ok (.getfield 36, 3) := by decide +kernel
theorem dX6_splitHeaps_31 : decode cX6_splitHeaps 31 = .ok (.iload_n 2, 1) := by decide +kernel
theorem dX6_splitHeaps_32 : decode cX6_splitHeaps 32 = .ok (.aload_n 0, 1) := by decide +kernel
theorem dX6_splitHeaps_33 : decode cX6_splitHeaps 33 = .ok (.getfield 53, 3) := by decide +kernel
theorem dX6_splitHeaps_36 : decode cX6_splitHeaps 36 = .ok (.aload_n 0, 1) := by decide +kernel
theorem dX6_splitHeaps_37 : decode cX6_splitHeaps 37 = .ok (.getfield 36, 3) := by decide +kernel
theorem dX6_splitHeaps_40 : decode cX6_splitHeaps 40 = .ok (.iload_n 2, 1) := by decide +kernel
theorem dX6_splitHeaps_41 : decode cX6_splitHeaps 41 = .ok (.iaload, 1) := by decide +kernel
theorem dX6_splitHeaps_42 : decode cX6_splitHeaps 42 = .ok (.sipush 8192, 3) := by decide +kernel
theorem dX6_splitHeaps_45 : decode cX6_splitHeaps 45 = .ok (.imul, 1) := by decide +kernel
theorem dX6_splitHeaps_46 : decode cX6_splitHeaps 46 = .ok (.aload_n 0, 1) := by decide +kernel
theorem dX6_splitHeaps_47 : decode cX6_splitHeaps 47 = .ok (.iload_n 1, 1) := by decide +kernel
theorem dX6_splitHeaps_48 : decode cX6_splitHeaps 48 = .ok (.invokevirtual 99, 3) := by decide +kernel
theorem dX6_splitHeaps_51 : decode cX6_splitHeaps 51 = .ok (.invokestatic 137, 3) := by decide +kernel
theorem dX6_splitHeaps_54 : decode cX6_splitHeaps 54 = .ok (.iadd, 1) := by decide +kernel
theorem dX6_splitHeaps_55 : decode cX6_splitHeaps 55 = .ok (.sipush 4096, 3) := by decide +kernel
theorem dX6_splitHeaps_58 : decode cX6_splitHeaps 58 = .ok (.iadd, 1) := by decide +kernel
theorem dX6_splitHeaps_59 : decode cX6_splitHeaps 59 = .ok (.invokevirtual 140, 3) := by decide +kernel
theorem dX6_splitHeaps_62 : decode cX6_splitHeaps 62 = .ok (.iastore, 1) := by decide +kernel
theorem dX6_splitHeaps_63 : decode cX6_splitHeaps 63 = .ok (.iinc 2 1, 3) := by decide +kernel
theorem dX6_splitHeaps_66 : decode cX6_splitHeaps 66 = .ok (.goto (-57), 3) := by decide +kernel
theorem dX6_splitHeaps_69 : decode cX6_splitHeaps 69 = .ok (.return_, 1) := by decide +kernel
theorem dX7_init_0 : decode cX7_init 0 = .ok (.aload_n 0, 1) := by decide +kernel
theorem dX7_init_1 : decode cX7_init 1 = .ok (.invokespecial 3, 3) := by decide +kernel
theorem dX7_init_4 : decode cX7_init 4 = .ok (.new 9, 3) := by decide +kernel
theorem dX7_init_7 : decode cX7_init 7 = .ok (.dup, 1) := by decide +kernel
theorem dX7_init_8 : decode cX7_init 8 = .ok (.invokespecial 11, 3) := by decide +kernel
theorem dX7_init_11 : decode cX7_init 11 = .ok (.astore_n 1, 1) := by decide +kernel
theorem dX7_init_12 : decode cX7_init 12 = .ok (.new 12, 3) := by decide +kernel
theorem dX7_init_15 : decode cX7_init 15 = .ok (.dup, 1) := by decide +kernel
theorem dX7_init_16 : decode cX7_init 16 = .ok (.invokespecial 14, 3) := by decide +kernel
theorem dX7_init_19 : decode cX7_init 19 = .ok (.astore_n 2, 1) := by decide +kernel
theorem dX7_init_20 : decode cX7_init 20 = .ok (.new 15, 3) := by decide +kernel
theorem dX7_init_23 : decode cX7_init 23 = .ok (.dup, 1) := by decide +kernel
theorem dX7_init_24 : decode cX7_init 24 = .ok (.aload_n 1, 1) := by decide +kernel
theorem dX7_init_25 : decode cX7_init 25 = .ok (.invokespecial 17, 3) := by decide +kernel
theorem dX7_init_28 : decode cX7_init 28 = .ok (.astore_n 3, 1) := by decide +kernel
theorem dX7_init_29 : decode cX7_init 29 = .ok (.aload_n 0, 1) := by decide +kernel
theorem dX7_init_30 : decode cX7_init 30 = .ok (.aload_n 1, 1) := by decide +kernel
theorem dX7_init_31 : decode cX7_init 31 = .ok (.putfield 20, 3) := by decide +kernel
theorem dX7_init_34 : decode cX7_init 34 = .ok (.aload_n 0, 1) := by decide +kernel
theorem dX7_init_35 : decode cX7_init 35 = .ok (.aload_n 2, 1) := by decide +kernel
theorem dX7_init_36 : decode cX7_init 36 = .ok (.putfield 24, 3) := by decide +kernel
theorem dX7_init_39 : decode cX7_init 39 = .ok (.aload_n 0, 1) := by decide +kernel
theorem dX7_init_40 : decode cX7_init 40 = .ok (.aload_n 3, 1) := by decide +kernel
theorem dX7_init_41 : decode cX7_init 41 = .ok (.putfield 28, 3) := by decide +kernel
theorem dX7_init_44 : decode cX7_init 44 = .ok (.aload_n 0, 1) := by decide +kernel
theorem dX7_init_45 : decode cX7_init 45 = .ok (.new 32, 3) := by decide +kernel
theorem dX7_init_48 : decode cX7_init 48 = .ok (.dup, 1) := by decide +kernel
theorem dX7_init_49 : decode cX7_init 49 = .ok (.invokespecial 34, 3) := by decide +kernel
theorem dX7_init_52 : decode cX7_init 52 = .ok (.putfield 35, 3) := by decide +kernel
theorem dX7_init_55 : decode cX7_init 55 = .ok (.aload_n 0, 1) := by decide +kernel
theorem dX7_init_56 : decode cX7_init 56 = .ok (.new 39, 3) := by decide +kernel
theorem dX7_init_59 : decode cX7_init 59 = .ok (.dup, 1) := by decide +kernel
theorem dX7_init_60 : decode cX7_init 60 = .ok (.invokespecial 41, 3) := by decide +kernel
theorem dX7_init_63 : decode cX7_init 63 = .ok (.putfield 42, 3) := by decide +kernel
theorem dX7_init_66 : decode cX7_init 66 = .ok (.aload_n 0, 1) := by decide +kernel
theorem dX7_init_67 : decode cX7_init 67 = .ok (.new 46, 3) := by decide +kernel
theorem dX7_init_70 : decode cX7_init 70 = .ok (.dup, 1) := by decide +kernel
theorem dX7_init_71 : decode cX7_init 71 = .ok (.aload_n 1, 1) := by decide +kernel
theorem dX7_init_72 : decode cX7_init 72 = .ok (.aload_n 2, 1) := by decide +kernel
theorem dX7_init_73 : decode cX7_init 73 = .ok (.invokespecial 48, 3) := by decide +kernel
theorem dX7_init_76 : decode cX7_init 76 = .ok (.putfield 51, 3) := by decide +kernel
theorem dX7_init_79 : decode cX7_init 79 = .ok (.aload_n 0, 1) := by decide +kernel
theorem dX7_init_80 : decode cX7_init 80 = .ok (.new 55, 3) := by decide +kernel
theorem dX7_init_83 : decode cX7_init 83 = .ok (.dup, 1) := by decide +kernel
theorem dX7_init_84 : decode cX7_init 84 = .ok (.aload_n 3, 1) := by decide +kernel
theorem dX7_init_85 : decode cX7_init 85 = .ok (.aload_n 2, 1) := by decide +kernel
theorem dX7_init_86 : decode cX7_init 86 = .ok (.invokespecial 57, 3) := by decide +kernel
theorem dX7_init_89 : decode cX7_init 89 = .ok (.putfield 60, 3) := by decide +kernel
theorem dX7_init_92 : decode cX7_init 92 = .ok (.return_, 1) := by decide +kernel
theorem dX7_body_0 : decode cX7_body 0 = .ok (.iconst 0, 1) := by decide +kernel
theorem dX7_body_1 : decode cX7_body 1 = .ok (.iload_n 1, 1) := by decide +kernel
theorem dX7_body_2 : decode cX7_body 2 = .ok (.invokestatic 64, 3) := by decide +kernel
theorem dX7_body_5 : decode cX7_body 5 = .ok (.ifCond .eq 28, 3) := by decide +kernel
theorem dX7_body_8 : decode cX7_body 8 = .ok (.iconst 1, 1) := by decide +kernel
theorem dX7_body_9 : decode cX7_body 9 = .ok (.iload_n 2, 1) := by decide +kernel
theorem dX7_body_10 : decode cX7_body 10 = .ok (.invokestatic 64, 3) := by decide +kernel
theorem dX7_body_13 : decode cX7_body 13 = .ok (.ifCond .eq 20, 3) := by decide +kernel
theorem dX7_body_16 : decode cX7_body 16 = .ok (.iconst 2, 1) := by decide +kernel
theorem dX7_body_17 : decode cX7_body 17 = .ok (.iload_n 3, 1) := by decide +kernel
theorem dX7_body_18 : decode cX7_body 18 = .ok (.invokestatic 64, 3) := by decide +kernel
theorem dX7_body_21 : decode cX7_body 21 = .ok (.ifCond .eq 12, 3) := by decide +kernel
theorem dX7_body_24 : decode cX7_body 24 = .ok (.iconst 3, 1) := by decide +kernel
theorem dX7_body_25 : decode cX7_body 25 = .ok (.iload 4, 2) := by decide +kernel
theorem dX7_body_27 : decode cX7_body 27 = .ok (.invokestatic 64, 3) := by decide +kernel
theorem dX7_body_30 : decode cX7_body 30 = .ok (.ifCond .ne 5, 3) := by decide +kernel
theorem dX7_body_33 : decode cX7_body 33 = .ok (.iconst (-1), 1) := by decide +kernel
theorem dX7_body_34 : decode cX7_body 34 = .ok (.ireturn, 1) := by decide +kernel
theorem dX7_body_35 : decode cX7_body 35 = .ok (.aload_n 0, 1) := by decide +kernel
theorem dX7_body_36 : decode cX7_body 36 = .ok (.getfield 20, 3) := by decide +kernel
theorem dX7_body_39 : decode cX7_body 39 = .ok (.getfield 68, 3) := by decide +kernel
theorem dX7_body_42 : decode cX7_body 42 = .ok (.bipush 8, 2) := by decide +kernel
theorem dX7_body_44 : decode cX7_body 44 = .ok (.if_icmp .lt 6, 3) := by decide +kernel
theorem dX7_body_47 : decode cX7_body 47 = .ok (.bipush (-3), 2) := by decide +kernel
theorem dX7_body_49 : decode cX7_body 49 = .ok (.ireturn, 1) := by decide +kernel
theorem dX7_body_50 : decode cX7_body 50 = .ok (.aload_n 0, 1) := by decide +kernel
theorem dX7_body_51 : decode cX7_body 51 = .ok (.invokevirtual 72, 3) := by decide +kernel
theorem dX7_body_54 : decode cX7_body 54 = .ok (.aload_n 0, 1) := by decide +kernel
theorem dX7_body_55 : decode cX7_body 55 = .ok (.getfield 20, 3) := by decide +kernel
theorem dX7_body_58 : decode cX7_body 58 = .ok (.iload_n 1, 1) := by decide +kernel
theorem dX7_body_59 : decode cX7_body 59 = .ok (.iload_n 2, 1) := by decide +kernel
theorem dX7_body_60 : decode cX7_body 60 = .ok (.iload_n 3, 1) := by decide +kernel
theorem dX7_body_61 : decode cX7_body 61 = .ok (.iload 4, 2) := by decide +kernel
theorem dX7_body_63 : decode cX7_body 63 = .ok (.invokevirtual 75, 3) := by decide +kernel
theorem dX7_body_66 : decode cX7_body 66 = .ok (.ireturn, 1) := by decide +kernel
theorem dX7_set_0 : decode cX7_set 0 = .ok (.aload_n 0, 1) := by decide +kernel
theorem dX7_set_1 : decode cX7_set 1 = .ok (.iload_n 1, 1) := by decide +kernel
theorem dX7_set_2 : decode cX7_set 2 = .ok (.invokevirtual 79, 3) := by decide +kernel
theorem dX7_set_5 : decode cX7_set 5 = .ok (.ifCond .eq 20, 3) := by decide +kernel
theorem dX7_set_8 : decode cX7_set 8 = .ok (.iload_n 2, 1) := by decide +kernel
theorem dX7_set_9 : decode cX7_set 9 = .ok (.iconst 0, 1) := by decide +kernel
theorem dX7_set_10 : decode cX7_set 10 = .ok (.iconst 5, 1) := by decide +kernel
theorem dX7_set_11 : decode cX7_set 11 = .ok (.invokestatic 83, 3) := by decide +kernel
theorem dX7_set_14 : decode cX7_set 14 = .ok (.ifCond .eq 11, 3) := by decide +kernel
theorem dX7_set_17 : decode cX7_set 17 = .ok (.iload_n 2, 1) := by decide +kernel
theorem dX7_set_18 : decode cX7_set 18 = .ok (.iload_n 3, 1) := by decide +kernel
theorem dX7_set_19 : decode cX7_set 19 = .ok (.invokestatic 64, 3) := by decide +kernel
theorem dX7_set_22 : decode cX7_set 22 = .ok (.ifCond .ne 6, 3) := by decide +kernel
theorem dX7_set_25 : decode cX7_set 25 = .ok (.ldc 87, 2) := by decide +kernel
theorem dX7_set_27 : decode cX7_set 27 = .ok (.ireturn, 1) := by decide +kernel
theorem dX7_set_28 : decode cX7_set 28 = .ok (.aload_n 0, 1) := by decide +kernel
theorem dX7_set_29 : decode cX7_set 29 = .ok (.invokevirtual 72, 3) := by decide +kernel
theorem dX7_set_32 : decode cX7_set 32 = .ok (.aload_n 0, 1) := by decide +kernel
theorem dX7_set_33 : decode cX7_set 33 = .ok (.getfield 20, 3) := by decide +kernel
theorem dX7_set_36 : decode cX7_set 36 = .ok (.getfield 88, 3) := by decide +kernel
theorem dX7_set_39 : decode cX7_set 39 = .ok (.iload_n 1, 1) := by decide +kernel
theorem dX7_set_40 : decode cX7_set 40 = .ok (.aaload, 1) := by decide +kernel
theorem dX7_set_41 : decode cX7_set 41 = .ok (.iload_n 2, 1) := by decide +kernel
theorem dX7_set_42 : decode cX7_set 42 = .ok (.iaload, 1) := by decide +kernel
theorem dX7_set_43 : decode cX7_set 43 = .ok (.istore 4, 2) := by decide +kernel
theorem dX7_set_45 : decode cX7_set 45 = .ok (.aload_n 0, 1) := by decide +kernel
theorem dX7_set_46 : decode cX7_set 46 = .ok (.getfield 20, 3) := by decide +kernel
theorem dX7_set_49 : decode cX7_set 49 = .ok (.getfield 88, 3) := by decide +kernel
theorem dX7_set_52 : decode cX7_set 52 = .ok (.iload_n 1, 1) := by decide +kernel
theorem dX7_set_53 : decode cX7_set 53 = .ok (.aaload, 1) := by decide +kernel
theorem dX7_set_54 : decode cX7_set 54 = .ok (.iload_n 2, 1) := by decide +kernel
theorem dX7_set_55 : decode cX7_set 55 = .ok (.iload_n 3, 1) := by decide +kernel
theorem dX7_set_56 : decode cX7_set 56 = .ok (.iastore, 1) := by decide +kernel
theorem dX7_set_57 : decode cX7_set 57 = .ok (.iload 4, 2) := by decide +kernel
theorem dX7_set_59 : decode cX7_set 59 = .ok (.ireturn, 1) := by decide +kernel
theorem dX7_drop_0 : decode cX7_drop 0 = .ok (.aload_n 0, 1) := by decide +kernel
theorem dX7_drop_1 : decode cX7_drop 1 = .ok (.getfield 20, 3) := by decide +kernel
theorem dX7_drop_4 : decode cX7_drop 4 = .ok (.getfield 68, 3) := by decide +kernel
theorem dX7_drop_7 : decode cX7_drop 7 = .ok (.ifCond .gt 6, 3) := by decide +kernel
theorem dX7_drop_10 : decode cX7_drop 10 = .ok (.bipush (-2), 2) := by decide +kernel
theorem dX7_drop_12 : decode cX7_drop 12 = .ok (.ireturn, 1) := by decide +kernel
theorem dX7_drop_13 : decode cX7_drop 13 = .ok (.aload_n 0, 1) := by decide +kernel
theorem dX7_drop_14 : decode cX7_drop 14 = .ok (.invokevirtual 72, 3) := by decide +kernel
theorem dX7_drop_17 : decode cX7_drop 17 = .ok (.aload_n 0, 1) := by decide +kernel
theorem dX7_drop_18 : decode cX7_drop 18 = .ok (.getfield 20, 3) := by decide +kernel
theorem dX7_drop_21 : decode cX7_drop 21 = .ok (.dup, 1) := by decide +kernel
theorem dX7_drop_22 : decode cX7_drop 22 = .ok (.getfield 68, 3) := by decide +kernel
theorem dX7_drop_25 : decode cX7_drop 25 = .ok (.iconst 1, 1) := by decide +kernel
theorem dX7_drop_26 : decode cX7_drop 26 = .ok (.isub, 1) := by decide +kernel
theorem dX7_drop_27 : decode cX7_drop 27 = .ok (.putfield 68, 3) := by decide +kernel
theorem dX7_drop_30 : decode cX7_drop 30 = .ok (.aload_n 0, 1) := by decide +kernel
theorem dX7_drop_31 : decode cX7_drop 31 = .ok (.getfield 20, 3) := by decide +kernel
theorem dX7_drop_34 : decode cX7_drop 34 = .ok (.getfield 68, 3) := by decide +kernel
theorem dX7_drop_37 : decode cX7_drop 37 = .ok (.ireturn, 1) := by decide +kernel
theorem dX7_field_0 : decode cX7_field 0 = .ok (.iload_n 1, 1) := by decide +kernel
theorem dX7_field_1 : decode cX7_field 1 = .ok (.iconst 0, 1) := by decide +kernel
theorem dX7_field_2 : decode cX7_field 2 = .ok (.iconst 1, 1) := by decide +kernel
theorem dX7_field_3 : decode cX7_field 3 = .ok (.invokestatic 83, 3) := by decide +kernel
theorem dX7_field_6 : decode cX7_field 6 = .ok (.ifCond .eq 14, 3) := by decide +kernel
theorem dX7_field_9 : decode cX7_field 9 = .ok (.iload_n 2, 1) := by decide +kernel
theorem dX7_field_10 : decode cX7_field 10 = .ok (.bipush (-8), 2) := by decide +kernel
theorem dX7_field_12 : decode cX7_field 12 = .ok (.bipush 8, 2) := by decide +kernel
theorem dX7_field_14 : decode cX7_field 14 = .ok (.invokestatic 83, 3) := by decide +kernel
theorem dX7_field_17 : decode cX7_field 17 = .ok (.ifCond .ne 6, 3) := by decide +kernel
theorem dX7_field_20 : decode cX7_field 20 = .ok (.ldc 87, 2) := by decide +kernel
theorem dX7_field_22 : decode cX7_field 22 = .ok (.ireturn, 1) := by decide +kernel
theorem dX7_field_23 : decode cX7_field 23 = .ok (.aload_n 0, 1) := by decide +kernel
theorem dX7_field_24 : decode cX7_field 24 = .ok (.invokevirtual 72, 3) := by decide +kernel
theorem dX7_field_27 : decode cX7_field 27 = .ok (.iload_n 1, 1) := by decide +kernel
theorem dX7_field_28 : decode cX7_field 28 = .ok (.ifCond .ne 13, 3) := by decide +kernel
theorem dX7_field_31 : decode cX7_field 31 = .ok (.aload_n 0, 1) := by decide +kernel
theorem dX7_field_32 : decode cX7_field 32 = .ok (.getfield 20, 3) := by decide +kernel
theorem dX7_field_35 : decode cX7_field 35 = .ok (.getfield 92, 3) := by decide +kernel
theorem dX7_field_38 : decode cX7_field 38 = .ok (.goto 10, 3) := by decide +kernel
theorem dX7_field_41 : decode cX7_field 41 = .ok (.aload_n 0, 1) := by decide +kernel
theorem dX7_field_42 : decode cX7_field 42 = .ok (.getfield 20, 3) := by decide +kernel
theorem dX7_field_45 : decode cX7_field 45 = .ok (.getfield 95, 3) := by decide +kernel
theorem dX7_field_48 : decode cX7_field 48 = .ok (.istore_n 3, 1) := by decide +kernel
theorem dX7_field_49 : decode cX7_field 49 = .ok (.iload_n 1, 1) := by decide +kernel
theorem dX7_field_50 : decode cX7_field 50 = .ok (.ifCond .ne 14, 3) := by decide +kernel
theorem dX7_field_53 : decode cX7_field 53 = .ok (.aload_n 0, 1) := by decide +kernel
theorem dX7_field_54 : decode cX7_field 54 = .ok (.getfield 20, 3) := by decide +kernel
theorem dX7_field_57 : decode cX7_field 57 = .ok (.iload_n 2, 1) := by decide +kernel
theorem dX7_field_58 : decode cX7_field 58 = .ok (.putfield 92, 3) := by decide +kernel
theorem dX7_field_61 : decode cX7_field 61 = .ok (.goto 11, 3) := by decide +kernel
theorem dX7_field_64 : decode cX7_field 64 = .ok (.aload_n 0, 1) := by decide +kernel
theorem dX7_field_65 : decode cX7_field 65 = .ok (.getfield 20, 3) := by decide +kernel
theorem dX7_field_68 : decode cX7_field 68 = .ok (.iload_n 2, 1) := by decide +kernel
theorem dX7_field_69 : decode cX7_field 69 = .ok (.putfield 95, 3) := by decide +kernel
theorem dX7_field_72 : decode cX7_field 72 = .ok (.iload_n 3, 1) := by decide +kernel
theorem dX7_field_73 : decode cX7_field 73 = .ok (.ireturn, 1) := by decide +kernel
theorem dX7_bend_0 : decode cX7_bend 0 = .ok (.iconst 0, 1) := by decide +kernel
theorem dX7_bend_1 : decode cX7_bend 1 = .ok (.iload_n 1, 1) := by decide +kernel
theorem dX7_bend_2 : decode cX7_bend 2 = .ok (.invokestatic 64, 3) := by decide +kernel
theorem dX7_bend_5 : decode cX7_bend 5 = .ok (.ifCond .eq 22, 3) := by decide +kernel
theorem dX7_bend_8 : decode cX7_bend 8 = .ok (.aload_n 0, 1) := by decide +kernel
theorem dX7_bend_9 : decode cX7_bend 9 = .ok (.iload_n 2, 1) := by decide +kernel
theorem dX7_bend_10 : decode cX7_bend 10 = .ok (.invokevirtual 79, 3) := by decide +kernel
theorem dX7_bend_13 : decode cX7_bend 13 = .ok (.ifCond .eq 14, 3) := by decide +kernel
theorem dX7_bend_16 : decode cX7_bend 16 = .ok (.iload_n 3, 1) := by decide +kernel
theorem dX7_bend_17 : decode cX7_bend 17 = .ok (.iload 4, 2) := by decide +kernel
theorem dX7_bend_19 : decode cX7_bend 19 = .ok (.iload 5, 2) := by decide +kernel
theorem dX7_bend_21 : decode cX7_bend 21 = .ok (.invokestatic 98, 3) := by decide +kernel
theorem dX7_bend_24 : decode cX7_bend 24 = .ok (.ifCond .ne 6, 3) := by decide +kernel
theorem dX7_bend_27 : decode cX7_bend 27 = .ok (.ldc 87, 2) := by decide +kernel
theorem dX7_bend_29 : decode cX7_bend 29 = .ok (.ireturn, 1) := by decide +kernel
theorem dX7_bend_30 : decode cX7_bend 30 = .ok (.aload_n 0, 1) := by decide +kernel
theorem dX7_bend_31 : decode cX7_bend 31 = .ok (.getfield 20, 3) := by decide +kernel
theorem dX7_bend_34 : decode cX7_bend 34 = .ok (.getfield 88, 3) := by decide +kernel
theorem dX7_bend_37 : decode cX7_bend 37 = .ok (.iload_n 2, 1) := by decide +kernel
theorem dX7_bend_38 : decode cX7_bend 38 = .ok (.aaload, 1) := by decide +kernel
theorem dX7_bend_39 : decode cX7_bend 39 = .ok (.astore 6, 2) := by decide +kernel
theorem dX7_bend_41 : decode cX7_bend 41 = .ok (.aload_n 0, 1) := by decide +kernel
theorem dX7_bend_42 : decode cX7_bend 42 = .ok (.dup, 1) := by decide +kernel
theorem dX7_bend_43 : decode cX7_bend 43 = .ok (.getfield 101, 3) := by decide +kernel
theorem dX7_bend_46 : decode cX7_bend 46 = .ok (.iload_n 1, 1) := by decide +kernel
theorem dX7_bend_47 : decode cX7_bend 47 = .ok (.invokestatic 105, 3) := by decide +kernel
theorem dX7_bend_50 : decode cX7_bend 50 = .ok (.i2l, 1) := by decide +kernel
theorem dX7_bend_51 : decode cX7_bend 51 = .ok (.ladd, 1) := by decide +kernel
theorem dX7_bend_52 : decode cX7_bend 52 = .ok (.putfield 101, 3) := by decide +kernel
theorem dX7_bend_55 : decode cX7_bend 55 = .ok (.iload_n 1, 1) := by decide +kernel
theorem dX7_bend_56 : decode cX7_bend 56 = .ok (.aload 6, 2) := by decide +kernel
theorem dX7_bend_58 : decode cX7_bend 58 = .ok (.aload 6, 2) := by decide +kernel
theorem dX7_bend_60 : decode cX7_bend 60 = .ok (.iconst 3, 1) := by decide +kernel
theorem dX7_bend_61 : decode cX7_bend 61 = .ok (.iaload, 1) := by decide +kernel
theorem dX7_bend_62 : decode cX7_bend 62 = .ok (.iload_n 3, 1) := by decide +kernel
theorem dX7_bend_63 : decode cX7_bend 63 = .ok (.iload 4, 2) := by decide +kernel
theorem dX7_bend_65 : decode cX7_bend 65 = .ok (.iload 5, 2) := by decide +kernel
theorem dX7_bend_67 : decode cX7_bend 67 = .ok (.invokestatic 109, 3) := by decide +kernel
theorem dX7_bend_70 : decode cX7_bend 70 = .ok (.ireturn, 1) := by decide +kernel
theorem dX7_from_0 : decode cX7_from 0 = .ok (.iload_n 1, 1) := by decide +kernel
theorem dX7_from_1 : decode cX7_from 1 = .ok (.iload_n 2, 1) := by decide +kernel
theorem dX7_from_2 : decode cX7_from 2 = .ok (.iload_n 3, 1) := by decide +kernel
theorem dX7_from_3 : decode cX7_from 3 = .ok (.invokestatic 98, 3) := by decide +kernel
theorem dX7_from_6 : decode cX7_from 6 = .ok (.ifCond .eq 16, 3) := by decide +kernel
theorem dX7_from_9 : decode cX7_from 9 = .ok (.aload_n 0, 1) := by decide +kernel
theorem dX7_from_10 : decode cX7_from 10 = .ok (.getfield 20, 3) := by decide +kernel
theorem dX7_from_13 : decode cX7_from 13 = .ok (.iload_n 1, 1) := by decide +kernel
theorem dX7_from_14 : decode cX7_from 14 = .ok (.iload_n 2, 1) := by decide +kernel
theorem dX7_from_15 : decode cX7_from 15 = .ok (.iload_n 3, 1) := by decide +kernel
theorem dX7_from_16 : decode cX7_from 16 = .ok (.invokevirtual 113, 3) := by decide +kernel
theorem dX7_from_19 : decode cX7_from 19 = .ok (.goto 5, 3) := by decide +kernel
theorem dX7_from_22 : decode cX7_from 22 = .ok (.ldc 87, 2) := by decide +kernel
theorem dX7_from_24 : decode cX7_from 24 = .ok (.ireturn, 1) := by decide +kernel
theorem dX7_cell_0 : decode cX7_cell 0 = .ok (.iload_n 1, 1) := by decide +kernel
theorem dX7_cell_1 : decode cX7_cell 1 = .ok (.iload_n 2, 1) := by decide +kernel
theorem dX7_cell_2 : decode cX7_cell 2 = .ok (.iload_n 3, 1) := by decide +kernel
theorem dX7_cell_3 : decode cX7_cell 3 = .ok (.invokestatic 98, 3) := by decide +kernel
theorem dX7_cell_6 : decode cX7_cell 6 = .ok (.ifCond .eq 19, 3) := by decide +kernel
theorem dX7_cell_9 : decode cX7_cell 9 = .ok (.aload_n 0, 1) := by decide +kernel
theorem dX7_cell_10 : decode cX7_cell 10 = .ok (.getfield 20, 3) := by decide +kernel
theorem dX7_cell_13 : decode cX7_cell 13 = .ok (.iload_n 1, 1) := by decide +kernel
theorem dX7_cell_14 : decode cX7_cell 14 = .ok (.iload_n 2, 1) := by decide +kernel
theorem dX7_cell_15 : decode cX7_cell 15 = .ok (.iload_n 3, 1) := by decide +kernel
theorem dX7_cell_16 : decode cX7_cell 16 = .ok (.invokevirtual 113, 3) := by decide +kernel
theorem dX7_cell_19 : decode cX7_cell 19 = .ok (.invokestatic 117, 3) := by decide +kernel
theorem dX7_cell_22 : decode cX7_cell 22 = .ok (.goto 5, 3) := by decide +kernel
theorem dX7_cell_25 : decode cX7_cell 25 = .ok (.ldc 87, 2) := by decide +kernel
theorem dX7_cell_27 : decode cX7_cell 27 = .ok (.ireturn, 1) := by decide +kernel
theorem dX7_pictures_0 : decode cX7_pictures 0 = .ok (.iload_n 1, 1) := by decide +kernel
theorem dX7_pictures_1 : decode cX7_pictures 1 = .ok (.iload_n 2, 1) := by decide +kernel
theorem dX7_pictures_2 : decode cX7_pictures 2 = .ok (.bipush 99, 2) := by decide +kernel
theorem dX7_pictures_4 : decode cX7_pictures 4 = .ok (.invokestatic 120, 3) := by decide +kernel
theorem dX7_pictures_7 : decode cX7_pictures 7 = .ok (.ifCond .eq 12, 3) := by decide +kernel
theorem dX7_pictures_10 : decode cX7_pictures 10 = .ok (.iload_n 3, 1) := by decide +kernel
theorem dX7_pictures_11 : decode cX7_pictures 11 = .ok (.iconst 0, 1) := by decide +kernel
theorem dX7_pictures_12 : decode cX7_pictures 12 = .ok (.iconst 1, 1) := by decide +kernel
theorem dX7_pictures_13 : decode cX7_pictures 13 = .ok (.invokestatic 83, 3) := by decide +kernel
theorem dX7_pictures_16 : decode cX7_pictures 16 = .ok (.ifCond .ne 5, 3) := by decide +kernel
theorem dX7_pictures_19 : decode cX7_pictures 19 = .ok (.iconst (-1), 1) := by decide +kernel
theorem dX7_pictures_20 : decode cX7_pictures 20 = .ok (.ireturn, 1) := by decide +kernel
theorem dX7_pictures_21 : decode cX7_pictures 21 = .ok (.aload_n 0, 1) := by decide +kernel
theorem dX7_pictures_22 : decode cX7_pictures 22 = .ok (.iload_n 1, 1) := by decide +kernel
theorem dX7_pictures_23 : decode cX7_pictures 23 = .ok (.iload_n 2, 1) := by decide +kernel
theorem dX7_pictures_24 : decode cX7_pictures 24 = .ok (.invokevirtual 123, 3) := by decide +kernel
theorem dX7_pictures_27 : decode cX7_pictures 27 = .ok (.istore 4, 2) := by decide +kernel
theorem dX7_pictures_29 : decode cX7_pictures 29 = .ok (.iload_n 3, 1) := by decide +kernel
theorem dX7_pictures_30 : decode cX7_pictures 30 = .ok (.ifCond .ne 6, 3) := by decide +kernel
theorem dX7_pictures_33 : decode cX7_pictures 33 = .ok (.iload 4, 2) := by decide +kernel
theorem dX7_pictures_35 : decode cX7_pictures 35 = .ok (.ireturn, 1) := by decide +kernel
theorem dX7_pictures_36 : decode cX7_pictures 36 = .ok (.aload_n 0, 1) := by decide +kernel
theorem dX7_pictures_37 : decode cX7_pictures 37 = .ok (.getfield 35, 3) := by decide +kernel
theorem dX7_pictures_40 : decode cX7_pictures 40 = .ok (.bipush (-9), 2) := by decide +kernel
theorem dX7_pictures_42 : decode cX7_pictures 42 = .ok (.invokevirtual 127, 3) := by decide +kernel
theorem dX7_pictures_45 : decode cX7_pictures 45 = .ok (.ireturn, 1) := by decide +kernel
theorem dX7_group_0 : decode cX7_group 0 = .ok (.iload_n 1, 1) := by decide +kernel
theorem dX7_group_1 : decode cX7_group 1 = .ok (.iload_n 2, 1) := by decide +kernel
theorem dX7_group_2 : decode cX7_group 2 = .ok (.bipush 99, 2) := by decide +kernel
theorem dX7_group_4 : decode cX7_group 4 = .ok (.invokestatic 120, 3) := by decide +kernel
theorem dX7_group_7 : decode cX7_group 7 = .ok (.ifCond .eq 17, 3) := by decide +kernel
theorem dX7_group_10 : decode cX7_group 10 = .ok (.iload_n 3, 1) := by decide +kernel
theorem dX7_group_11 : decode cX7_group 11 = .ok (.ifCond .lt 13, 3) := by decide +kernel
theorem dX7_group_14 : decode cX7_group 14 = .ok (.iload 4, 2) := by decide +kernel
theorem dX7_group_16 : decode cX7_group 16 = .ok (.iconst 0, 1) := by decide +kernel
theorem dX7_group_17 : decode cX7_group 17 = .ok (.iconst 3, 1) := by decide +kernel
theorem dX7_group_18 : decode cX7_group 18 = .ok (.invokestatic 83, 3) := by decide +kernel
theorem dX7_group_21 : decode cX7_group 21 = .ok (.ifCond .ne 6, 3) := by decide +kernel
theorem dX7_group_24 : decode cX7_group 24 = .ok (.ldc 87, 2) := by decide +kernel
theorem dX7_group_26 : decode cX7_group 26 = .ok (.ireturn, 1) := by decide +kernel
theorem dX7_group_27 : decode cX7_group 27 = .ok (.aload_n 0, 1) := by decide +kernel
theorem dX7_group_28 : decode cX7_group 28 = .ok (.iload_n 1, 1) := by decide +kernel
theorem dX7_group_29 : decode cX7_group 29 = .ok (.iload_n 2, 1) := by decide +kernel
theorem dX7_group_30 : decode cX7_group 30 = .ok (.invokevirtual 123, 3) := by decide +kernel
theorem dX7_group_33 : decode cX7_group 33 = .ok (.pop, 1) := by decide +kernel
theorem dX7_group_34 : decode cX7_group 34 = .ok (.iload_n 3, 1) := by decide +kernel
theorem dX7_group_35 : decode cX7_group 35 = .ok (.aload_n 0, 1) := by decide +kernel
theorem dX7_group_36 : decode cX7_group 36 = .ok (.getfield 35, 3) := by decide +kernel
theorem dX7_group_39 : decode cX7_group 39 = .ok (.iload_n 3, 1) := by decide +kernel
theorem dX7_group_40 : decode cX7_group 40 = .ok (.invokevirtual 127, 3) := by decide +kernel
theorem dX7_group_43 : decode cX7_group 43 = .ok (.if_icmp .lt 6, 3) := by decide +kernel
theorem dX7_group_46 : decode cX7_group 46 = .ok (.ldc 87, 2) := by decide +kernel
theorem dX7_group_48 : decode cX7_group 48 = .ok (.ireturn, 1) := by decide +kernel
theorem dX7_group_49 : decode cX7_group 49 = .ok (.aload_n 0, 1) := by decide +kernel
theorem dX7_group_50 : decode cX7_group 50 = .ok (.getfield 35, 3) := by decide +kernel
theorem dX7_group_53 : decode cX7_group 53 = .ok (.getfield 130, 3) := by decide +kernel
theorem dX7_group_56 : decode cX7_group 56 = .ok (.invokestatic 133, 3) := by decide +kernel
theorem dX7_group_59 : decode cX7_group 59 = .ok (.istore 5, 2) := by decide +kernel
theorem dX7_group_61 : decode cX7_group 61 = .ok (.aload_n 0, 1) := by decide +kernel
theorem dX7_group_62 : decode cX7_group 62 = .ok (.getfield 35, 3) := by decide +kernel
theorem dX7_group_65 : decode cX7_group 65 = .ok (.getfield 130, 3) := by decide +kernel
theorem dX7_group_68 : decode cX7_group 68 = .ok (.invokestatic 136, 3) := by decide +kernel
theorem dX7_group_71 : decode cX7_group 71 = .ok (.istore 6, 2) := by decide +kernel
theorem dX7_group_73 : decode cX7_group 73 = .ok (.iload 4, 2) := by decide +kernel
theorem dX7_group_75 : decode cX7_group 75 = .ok (.tableswitch 39 0 2 #[25, 28, 31], 25) := by decide +kernel
theorem dX7_group_100 : decode cX7_group 100 = .ok (.iload 5, 2) := by decide +kernel
theorem dX7_group_102 : decode cX7_group 102 = .ok (.ireturn, 1) := by decide +kernel
theorem dX7_group_103 : decode cX7_group 103 = .ok (.iload 6, 2) := by decide +kernel
theorem dX7_group_105 : decode cX7_group 105 = .ok (.ireturn, 1) := by decide +kernel
theorem dX7_group_106 : decode cX7_group 106 = .ok (.aload_n 0, 1) := by decide +kernel
theorem dX7_group_107 : decode cX7_group 107 = .ok (.getfield 35, 3) := by decide +kernel
theorem dX7_group_110 : decode cX7_group 110 = .ok (.getfield 139, 3) := by decide +kernel
theorem dX7_group_113 : decode cX7_group 113 = .ok (.ireturn, 1) := by decide +kernel
theorem dX7_group_114 : decode cX7_group 114 = .ok (.aload_n 0, 1) := by decide +kernel
theorem dX7_group_115 : decode cX7_group 115 = .ok (.getfield 28, 3) := by decide +kernel
theorem dX7_group_118 : decode cX7_group 118 = .ok (.iload 5, 2) := by decide +kernel
theorem dX7_group_120 : decode cX7_group 120 = .ok (.iload 6, 2) := by decide +kernel
theorem dX7_group_122 : decode cX7_group 122 = .ok (.invokevirtual 142, 3) := by decide +kernel
theorem dX7_group_125 : decode cX7_group 125 = .ok (.ireturn, 1) := by decide +kernel
theorem dX7_parity_0 : decode cX7_parity 0 = .ok (.iload_n 1, 1) := by decide +kernel
theorem dX7_parity_1 : decode cX7_parity 1 = .ok (.iload_n 2, 1) := by decide +kernel
theorem dX7_parity_2 : decode cX7_parity 2 = .ok (.bipush 24, 2) := by decide +kernel
theorem dX7_parity_4 : decode cX7_parity 4 = .ok (.invokestatic 120, 3) := by decide +kernel
theorem dX7_parity_7 : decode cX7_parity 7 = .ok (.ifCond .ne 6, 3) := by decide +kernel
theorem dX7_parity_10 : decode cX7_parity 10 = .ok (.ldc 87, 2) := by decide +kernel
theorem dX7_parity_12 : decode cX7_parity 12 = .ok (.ireturn, 1) := by decide +kernel
theorem dX7_parity_13 : decode cX7_parity 13 = .ok (.aload_n 0, 1) := by decide +kernel
theorem dX7_parity_14 : decode cX7_parity 14 = .ok (.getfield 28, 3) := by decide +kernel
theorem dX7_parity_17 : decode cX7_parity 17 = .ok (.invokevirtual 145, 3) := by decide +kernel
theorem dX7_parity_20 : decode cX7_parity 20 = .ok (.aload_n 0, 1) := by decide +kernel
theorem dX7_parity_21 : decode cX7_parity 21 = .ok (.getfield 28, 3) := by decide +kernel
theorem dX7_parity_24 : decode cX7_parity 24 = .ok (.iload_n 1, 1) := by decide +kernel
theorem dX7_parity_25 : decode cX7_parity 25 = .ok (.iload_n 2, 1) := by decide +kernel
theorem dX7_parity_26 : decode cX7_parity 26 = .ok (.invokevirtual 142, 3) := by decide +kernel
theorem dX7_parity_29 : decode cX7_parity 29 = .ok (.ireturn, 1) := by decide +kernel
theorem dX7_critical_0 : decode cX7_critical 0 = .ok (.iload_n 1, 1) := by decide +kernel
theorem dX7_critical_1 : decode cX7_critical 1 = .ok (.iload_n 2, 1) := by decide +kernel
theorem dX7_critical_2 : decode cX7_critical 2 = .ok (.bipush 24, 2) := by decide +kernel
theorem dX7_critical_4 : decode cX7_critical 4 = .ok (.invokestatic 120, 3) := by decide +kernel
theorem dX7_critical_7 : decode cX7_critical 7 = .ok (.ifCond .ne 5, 3) := by decide +kernel
theorem dX7_critical_10 : decode cX7_critical 10 = .ok (.iconst (-1), 1) := by decide +kernel
theorem dX7_critical_11 : decode cX7_critical 11 = .ok (.ireturn, 1) := by decide +kernel
theorem dX7_critical_12 : decode cX7_critical 12 = .ok (.aload_n 0, 1) := by decide +kernel
theorem dX7_critical_13 : decode cX7_critical 13 = .ok (.getfield 28, 3) := by decide +kernel
theorem dX7_critical_16 : decode cX7_critical 16 = .ok (.invokevirtual 145, 3) := by decide +kernel
theorem dX7_critical_19 : decode cX7_critical 19 = .ok (.aload_n 0, 1) := by decide +kernel
theorem dX7_critical_20 : decode cX7_critical 20 = .ok (.getfield 28, 3) := by decide +kernel
theorem dX7_critical_23 : decode cX7_critical 23 = .ok (.iload_n 1, 1) := by decide +kernel
theorem dX7_critical_24 : decode cX7_critical 24 = .ok (.iload_n 2, 1) := by decide +kernel
theorem dX7_critical_25 : decode cX7_critical 25 = .ok (.invokevirtual 148, 3) := by decide +kernel
theorem dX7_critical_28 : decode cX7_critical 28 = .ok (.ifCond .eq 7, 3) := by decide +kernel
theorem dX7_critical_31 : decode cX7_critical 31 = .ok (.iconst 1, 1) := by decide +kernel
theorem dX7_critical_32 : decode cX7_critical 32 = .ok (.goto 4, 3) := by decide +kernel
theorem dX7_critical_35 : decode cX7_critical 35 = .ok (.iconst 0, 1) := by decide +kernel
theorem dX7_critical_36 : decode cX7_critical 36 = .ok (.ireturn, 1) := by decide +kernel
theorem dX7_rings_0 : decode cX7_rings 0 = .ok (.iload_n 1, 1) := by decide +kernel
theorem dX7_rings_1 : decode cX7_rings 1 = .ok (.iconst 0, 1) := by decide +kernel
theorem dX7_rings_2 : decode cX7_rings 2 = .ok (.iconst 3, 1) := by decide +kernel
theorem dX7_rings_3 : decode cX7_rings 3 = .ok (.invokestatic 83, 3) := by decide +kernel
theorem dX7_rings_6 : decode cX7_rings 6 = .ok (.ifCond .ne 5, 3) := by decide +kernel
theorem dX7_rings_9 : decode cX7_rings 9 = .ok (.iconst (-1), 1) := by decide +kernel
theorem dX7_rings_10 : decode cX7_rings 10 = .ok (.ireturn, 1) := by decide +kernel
theorem dX7_rings_11 : decode cX7_rings 11 = .ok (.aload_n 0, 1) := by decide +kernel
theorem dX7_rings_12 : decode cX7_rings 12 = .ok (.getfield 28, 3) := by decide +kernel
theorem dX7_rings_15 : decode cX7_rings 15 = .ok (.invokevirtual 145, 3) := by decide +kernel
theorem dX7_rings_18 : decode cX7_rings 18 = .ok (.iload_n 1, 1) := by decide +kernel
theorem dX7_rings_19 : decode cX7_rings 19 = .ok (.iconst 2, 1) := by decide +kernel
theorem dX7_rings_20 : decode cX7_rings 20 = .ok (.if_icmp .lt 21, 3) := by decide +kernel
theorem dX7_rings_23 : decode cX7_rings 23 = .ok (.aload_n 0, 1) := by decide +kernel
theorem dX7_rings_24 : decode cX7_rings 24 = .ok (.getfield 28, 3) := by decide +kernel
theorem dX7_rings_27 : decode cX7_rings 27 = .ok (.iload_n 1, 1) := by decide +kernel
theorem dX7_rings_28 : decode cX7_rings 28 = .ok (.iconst 2, 1) := by decide +kernel
theorem dX7_rings_29 : decode cX7_rings 29 = .ok (.if_icmp .ne 7, 3) := by decide +kernel
theorem dX7_rings_32 : decode cX7_rings 32 = .ok (.iconst 1, 1) := by decide +kernel
theorem dX7_rings_33 : decode cX7_rings 33 = .ok (.goto 4, 3) := by decide +kernel
theorem dX7_rings_36 : decode cX7_rings 36 = .ok (.iconst (-1), 1) := by decide +kernel
theorem dX7_rings_37 : decode cX7_rings 37 = .ok (.invokevirtual 151, 3) := by decide +kernel
theorem dX7_rings_40 : decode cX7_rings 40 = .ok (.ireturn, 1) := by decide +kernel
theorem dX7_rings_41 : decode cX7_rings 41 = .ok (.aload_n 0, 1) := by decide +kernel
theorem dX7_rings_42 : decode cX7_rings 42 = .ok (.invokevirtual 154, 3) := by decide +kernel
theorem dX7_rings_45 : decode cX7_rings 45 = .ok (.istore_n 2, 1) := by decide +kernel
theorem dX7_rings_46 : decode cX7_rings 46 = .ok (.iload_n 1, 1) := by decide +kernel
theorem dX7_rings_47 : decode cX7_rings 47 = .ok (.ifCond .ne 7, 3) := by decide +kernel
theorem dX7_rings_50 : decode cX7_rings 50 = .ok (.iload_n 2, 1) := by decide +kernel
theorem dX7_rings_51 : decode cX7_rings 51 = .ok (.goto 12, 3) := by decide +kernel
theorem dX7_rings_54 : decode cX7_rings 54 = .ok (.aload_n 0, 1) := by decide +kernel
theorem dX7_rings_55 : decode cX7_rings 55 = .ok (.getfield 35, 3) := by decide +kernel
theorem dX7_rings_58 : decode cX7_rings 58 = .ok (.bipush (-9), 2) := by decide +kernel
theorem dX7_rings_60 : decode cX7_rings 60 = .ok (.invokevirtual 127, 3) := by decide +kernel
theorem dX7_rings_63 : decode cX7_rings 63 = .ok (.ireturn, 1) := by decide +kernel
theorem dX7_brightest_0 : decode cX7_brightest 0 = .ok (.iload_n 1, 1) := by decide +kernel
theorem dX7_brightest_1 : decode cX7_brightest 1 = .ok (.iconst 0, 1) := by decide +kernel
theorem dX7_brightest_2 : decode cX7_brightest 2 = .ok (.iconst 2, 1) := by decide +kernel
theorem dX7_brightest_3 : decode cX7_brightest 3 = .ok (.invokestatic 83, 3) := by decide +kernel
theorem dX7_brightest_6 : decode cX7_brightest 6 = .ok (.ifCond .ne 6, 3) := by decide +kernel
theorem dX7_brightest_9 : decode cX7_brightest 9 = .ok (.ldc 87, 2) := by decide +kernel
theorem dX7_brightest_11 : decode cX7_brightest 11 = .ok (.ireturn, 1) := by decide +kernel
theorem dX7_brightest_12 : decode cX7_brightest 12 = .ok (.aload_n 0, 1) := by decide +kernel
theorem dX7_brightest_13 : decode cX7_brightest 13 = .ok (.getfield 28, 3) := by decide +kernel
theorem dX7_brightest_16 : decode cX7_brightest 16 = .ok (.invokevirtual 145, 3) := by decide +kernel
theorem dX7_brightest_19 : decode cX7_brightest 19 = .ok (.aload_n 0, 1) := by decide +kernel
theorem dX7_brightest_20 : decode cX7_brightest 20 = .ok (.getfield 24, 3) := by decide +kernel
theorem dX7_brightest_23 : decode cX7_brightest 23 = .ok (.invokevirtual 158, 3) := by decide +kernel
theorem dX7_brightest_26 : decode cX7_brightest 26 = .ok (.iconst 0, 1) := by decide +kernel
theorem dX7_brightest_27 : decode cX7_brightest 27 = .ok (.istore_n 2, 1) := by decide +kernel
theorem dX7_brightest_28 : decode cX7_brightest 28 = .ok (.iload_n 2, 1) := by decide +kernel
theorem dX7_brightest_29 : decode cX7_brightest 29 = .ok (.sipush 2401, 3) := by decide +kernel
theorem dX7_brightest_32 : decode cX7_brightest 32 = .ok (.if_icmp .ge 26, 3) := by decide +kernel
theorem dX7_brightest_35 : decode cX7_brightest 35 = .ok (.aload_n 0, 1) := by decide +kernel
theorem dX7_brightest_36 : decode cX7_brightest 36 = .ok (.getfield 24, 3) := by decide +kernel
theorem dX7_brightest_39 : decode cX7_brightest 39 = .ok (.aload_n 0, 1) := by decide +kernel
theorem dX7_brightest_40 : decode cX7_brightest 40 = .ok (.getfield 28, 3) := by decide +kernel
theorem dX7_brightest_43 : decode cX7_brightest 43 = .ok (.getfield 161, 3) := by decide +kernel
theorem dX7_brightest_46 : decode cX7_brightest 46 = .ok (.iload_n 2, 1) := by decide +kernel
theorem dX7_brightest_47 : decode cX7_brightest 47 = .ok (.iaload, 1) := by decide +kernel
theorem dX7_brightest_48 : decode cX7_brightest 48 = .ok (.invokevirtual 165, 3) := by decide +kernel
theorem dX7_brightest_51 : decode cX7_brightest 51 = .ok (.pop, 1) := by decide +kernel
theorem dX7_brightest_52 : decode cX7_brightest 52 = .ok (.iinc 2 1, 3) := by decide +kernel
theorem dX7_brightest_55 : decode cX7_brightest 55 = .ok (.goto (-27), 3) := by decide +kernel
theorem dX7_brightest_58 : decode cX7_brightest 58 = .ok (.aload_n 0, 1) := by decide +kernel
theorem dX7_brightest_59 : decode cX7_brightest 59 = .ok (.getfield 24, 3) := by decide +kernel
theorem dX7_brightest_62 : decode cX7_brightest 62 = .ok (.invokevirtual 168, 3) := by decide +kernel
theorem dX7_brightest_65 : decode cX7_brightest 65 = .ok (.istore_n 2, 1) := by decide +kernel
theorem dX7_brightest_66 : decode cX7_brightest 66 = .ok (.iload_n 1, 1) := by decide +kernel
theorem dX7_brightest_67 : decode cX7_brightest 67 = .ok (.ifCond .ne 13, 3) := by decide +kernel
theorem dX7_brightest_70 : decode cX7_brightest 70 = .ok (.aload_n 0, 1) := by decide +kernel
theorem dX7_brightest_71 : decode cX7_brightest 71 = .ok (.getfield 24, 3) := by decide +kernel
theorem dX7_brightest_74 : decode cX7_brightest 74 = .ok (.getfield 171, 3) := by decide +kernel
theorem dX7_brightest_77 : decode cX7_brightest 77 = .ok (.iload_n 2, 1) := by decide +kernel
theorem dX7_brightest_78 : decode cX7_brightest 78 = .ok (.iaload, 1) := by decide +kernel
theorem dX7_brightest_79 : decode cX7_brightest 79 = .ok (.ireturn, 1) := by decide +kernel
theorem dX7_brightest_80 : decode cX7_brightest 80 = .ok (.iload_n 1, 1) := by decide +kernel
theorem dX7_brightest_81 : decode cX7_brightest 81 = .ok (.iconst 1, 1) := by decide +kernel
theorem dX7_brightest_82 : decode cX7_brightest 82 = .ok (.if_icmp .ne 23, 3) := by decide +kernel
theorem dX7_brightest_85 : decode cX7_brightest 85 = .ok (.aload_n 0, 1) := by decide +kernel
theorem dX7_brightest_86 : decode cX7_brightest 86 = .ok (.getfield 24, 3) := by decide +kernel
theorem dX7_brightest_89 : decode cX7_brightest 89 = .ok (.getfield 174, 3) := by decide +kernel
theorem dX7_brightest_92 : decode cX7_brightest 92 = .ok (.iload_n 2, 1) := by decide +kernel
theorem dX7_brightest_93 : decode cX7_brightest 93 = .ok (.iaload, 1) := by decide +kernel
theorem dX7_brightest_94 : decode cX7_brightest 94 = .ok (.sipush 8192, 3) := by decide +kernel
theorem dX7_brightest_97 : decode cX7_brightest 97 = .ok (.irem, 1) := by decide +kernel
theorem dX7_brightest_98 : decode cX7_brightest 98 = .ok (.sipush 4096, 3) := by decide +kernel
theorem dX7_brightest_101 : decode cX7_brightest 101 = .ok (.isub, 1) := by decide +kernel
theorem dX7_brightest_102 : decode cX7_brightest 102 = .ok (.goto 20, 3) := by decide +kernel
theorem dX7_brightest_105 : decode cX7_brightest 105 = .ok (.aload_n 0, 1) := by decide +kernel
theorem dX7_brightest_106 : decode cX7_brightest 106 = .ok (.getfield 24, 3) := by decide +kernel
theorem dX7_brightest_109 : decode cX7_brightest 109 = .ok (.getfield 174, 3) := by decide +kernel
theorem dX7_brightest_112 : decode cX7_brightest 112 = .ok (.iload_n 2, 1) := by decide +kernel
theorem dX7_brightest_113 : decode cX7_brightest 113 = .ok (.iaload, 1) := by decide +kernel
theorem dX7_brightest_114 : decode cX7_brightest 114 = .ok (.sipush 8192, 3) := by decide +kernel
theorem dX7_brightest_117 : decode cX7_brightest 117 = .ok (.idiv, 1) := by decide +kernel
theorem dX7_brightest_118 : decode cX7_brightest 118 = .ok (.sipush 4096, 3) := by decide +kernel
theorem dX7_brightest_121 : decode cX7_brightest 121 = .ok (.isub, 1) := by decide +kernel
theorem dX7_brightest_122 : decode cX7_brightest 122 = .ok (.ireturn, 1) := by decide +kernel
theorem dX7_delay_0 : decode cX7_delay 0 = .ok (.iload_n 1, 1) := by decide +kernel
theorem dX7_delay_1 : decode cX7_delay 1 = .ok (.iload_n 2, 1) := by decide +kernel
theorem dX7_delay_2 : decode cX7_delay 2 = .ok (.bipush 24, 2) := by decide +kernel
theorem dX7_delay_4 : decode cX7_delay 4 = .ok (.invokestatic 120, 3) := by decide +kernel
theorem dX7_delay_7 : decode cX7_delay 7 = .ok (.ifCond .eq 27, 3) := by decide +kernel
theorem dX7_delay_10 : decode cX7_delay 10 = .ok (.iload_n 3, 1) := by decide +kernel
theorem dX7_delay_11 : decode cX7_delay 11 = .ok (.iload 4, 2) := by decide +kernel
theorem dX7_delay_13 : decode cX7_delay 13 = .ok (.bipush 24, 2) := by decide +kernel
theorem dX7_delay_15 : decode cX7_delay 15 = .ok (.invokestatic 120, 3) := by decide +kernel
theorem dX7_delay_18 : decode cX7_delay 18 = .ok (.ifCond .eq 16, 3) := by decide +kernel
theorem dX7_delay_21 : decode cX7_delay 21 = .ok (.iload 5, 2) := by decide +kernel
theorem dX7_delay_23 : decode cX7_delay 23 = .ok (.iload 6, 2) := by decide +kernel
theorem dX7_delay_25 : decode cX7_delay 25 = .ok (.sipush 2000, 3) := by decide +kernel
theorem dX7_delay_28 : decode cX7_delay 28 = .ok (.invokestatic 120, 3) := by decide +kernel
theorem dX7_delay_31 : decode cX7_delay 31 = .ok (.ifCond .ne 7, 3) := by decide +kernel
theorem dX7_delay_34 : decode cX7_delay 34 = .ok (.ldc2_w 177, 3) := by decide +kernel
theorem dX7_delay_37 : decode cX7_delay 37 = .ok (.lreturn, 1) := by decide +kernel
theorem dX7_delay_38 : decode cX7_delay 38 = .ok (.aload_n 0, 1) := by decide +kernel
theorem dX7_delay_39 : decode cX7_delay 39 = .ok (.getfield 28, 3) := by decide +kernel
theorem dX7_delay_42 : decode cX7_delay 42 = .ok (.invokevirtual 145, 3) := by decide +kernel
theorem dX7_delay_45 : decode cX7_delay 45 = .ok (.aload_n 0, 1) := by decide +kernel
theorem dX7_delay_46 : decode cX7_delay 46 = .ok (.getfield 28, 3) := by decide +kernel
theorem dX7_delay_49 : decode cX7_delay 49 = .ok (.iload_n 1, 1) := by decide +kernel
theorem dX7_delay_50 : decode cX7_delay 50 = .ok (.iload_n 2, 1) := by decide +kernel
theorem dX7_delay_51 : decode cX7_delay 51 = .ok (.iload_n 3, 1) := by decide +kernel
theorem dX7_delay_52 : decode cX7_delay 52 = .ok (.iload 4, 2) := by decide +kernel
theorem dX7_delay_54 : decode cX7_delay 54 = .ok (.iload 5, 2) := by decide +kernel
theorem dX7_delay_56 : decode cX7_delay 56 = .ok (.iload 6, 2) := by decide +kernel
theorem dX7_delay_58 : decode cX7_delay 58 = .ok (.invokevirtual 179, 3) := by decide +kernel
theorem dX7_delay_61 : decode cX7_delay 61 = .ok (.lreturn, 1) := by decide +kernel
theorem dX7_stretch_0 : decode cX7_stretch 0 = .ok (.iload_n 1, 1) := by decide +kernel
theorem dX7_stretch_1 : decode cX7_stretch 1 = .ok (.iconst 1, 1) := by decide +kernel
theorem dX7_stretch_2 : decode cX7_stretch 2 = .ok (.bipush 24, 2) := by decide +kernel
theorem dX7_stretch_4 : decode cX7_stretch 4 = .ok (.invokestatic 83, 3) := by decide +kernel
theorem dX7_stretch_7 : decode cX7_stretch 7 = .ok (.ifCond .ne 6, 3) := by decide +kernel
theorem dX7_stretch_10 : decode cX7_stretch 10 = .ok (.ldc 87, 2) := by decide +kernel
theorem dX7_stretch_12 : decode cX7_stretch 12 = .ok (.ireturn, 1) := by decide +kernel
theorem dX7_stretch_13 : decode cX7_stretch 13 = .ok (.aload_n 0, 1) := by decide +kernel
theorem dX7_stretch_14 : decode cX7_stretch 14 = .ok (.getfield 28, 3) := by decide +kernel
theorem dX7_stretch_17 : decode cX7_stretch 17 = .ok (.invokevirtual 145, 3) := by decide +kernel
theorem dX7_stretch_20 : decode cX7_stretch 20 = .ok (.aload_n 0, 1) := by decide +kernel
theorem dX7_stretch_21 : decode cX7_stretch 21 = .ok (.getfield 28, 3) := by decide +kernel
theorem dX7_stretch_24 : decode cX7_stretch 24 = .ok (.iload_n 1, 1) := by decide +kernel
theorem dX7_stretch_25 : decode cX7_stretch 25 = .ok (.invokevirtual 183, 3) := by decide +kernel
theorem dX7_stretch_28 : decode cX7_stretch 28 = .ok (.ireturn, 1) := by decide +kernel
theorem dX7_type_0 : decode cX7_type 0 = .ok (.iload_n 3, 1) := by decide +kernel
theorem dX7_type_1 : decode cX7_type 1 = .ok (.iconst 1, 1) := by decide +kernel
theorem dX7_type_2 : decode cX7_type 2 = .ok (.bipush 8, 2) := by decide +kernel
theorem dX7_type_4 : decode cX7_type 4 = .ok (.invokestatic 83, 3) := by decide +kernel
theorem dX7_type_7 : decode cX7_type 7 = .ok (.ifCond .ne 5, 3) := by decide +kernel
theorem dX7_type_10 : decode cX7_type 10 = .ok (.iconst (-1), 1) := by decide +kernel
theorem dX7_type_11 : decode cX7_type 11 = .ok (.ireturn, 1) := by decide +kernel
theorem dX7_type_12 : decode cX7_type 12 = .ok (.aload_n 0, 1) := by decide +kernel
theorem dX7_type_13 : decode cX7_type 13 = .ok (.getfield 42, 3) := by decide +kernel
theorem dX7_type_16 : decode cX7_type 16 = .ok (.getfield 186, 3) := by decide +kernel
theorem dX7_type_19 : decode cX7_type 19 = .ok (.iload_n 3, 1) := by decide +kernel
theorem dX7_type_20 : decode cX7_type 20 = .ok (.iadd, 1) := by decide +kernel
theorem dX7_type_21 : decode cX7_type 21 = .ok (.sipush 200, 3) := by decide +kernel
theorem dX7_type_24 : decode cX7_type 24 = .ok (.if_icmp .le 6, 3) := by decide +kernel
theorem dX7_type_27 : decode cX7_type 27 = .ok (.bipush (-3), 2) := by decide +kernel
theorem dX7_type_29 : decode cX7_type 29 = .ok (.ireturn, 1) := by decide +kernel
theorem dX7_type_30 : decode cX7_type 30 = .ok (.iload_n 3, 1) := by decide +kernel
theorem dX7_type_31 : decode cX7_type 31 = .ok (.iconst 1, 1) := by decide +kernel
theorem dX7_type_32 : decode cX7_type 32 = .ok (.isub, 1) := by decide +kernel
theorem dX7_type_33 : decode cX7_type 33 = .ok (.istore 4, 2) := by decide +kernel
theorem dX7_type_35 : decode cX7_type 35 = .ok (.iload 4, 2) := by decide +kernel
theorem dX7_type_37 : decode cX7_type 37 = .ok (.ifCond .lt 28, 3) := by decide +kernel
theorem dX7_type_40 : decode cX7_type 40 = .ok (.aload_n 0, 1) := by decide +kernel
theorem dX7_type_41 : decode cX7_type 41 = .ok (.getfield 42, 3) := by decide +kernel
theorem dX7_type_44 : decode cX7_type 44 = .ok (.lload_n 1, 1) := by decide +kernel
theorem dX7_type_45 : decode cX7_type 45 = .ok (.bipush 8, 2) := by decide +kernel
theorem dX7_type_47 : decode cX7_type 47 = .ok (.iload 4, 2) := by decide +kernel
theorem dX7_type_49 : decode cX7_type 49 = .ok (.imul, 1) := by decide +kernel
theorem dX7_type_50 : decode cX7_type 50 = .ok (.lushr, 1) := by decide +kernel
theorem dX7_type_51 : decode cX7_type 51 = .ok (.ldc2_w 189, 3) := by decide +kernel
theorem dX7_type_54 : decode cX7_type 54 = .ok (.land, 1) := by decide +kernel
theorem dX7_type_55 : decode cX7_type 55 = .ok (.l2i, 1) := by decide +kernel
theorem dX7_type_56 : decode cX7_type 56 = .ok (.invokevirtual 191, 3) := by decide +kernel
theorem dX7_type_59 : decode cX7_type 59 = .ok (.iinc 4 (-1), 3) := by decide +kernel
theorem dX7_type_62 : decode cX7_type 62 = .ok (.goto (-27), 3) := by decide +kernel
theorem dX7_type_65 : decode cX7_type 65 = .ok (.aload_n 0, 1) := by decide +kernel
theorem dX7_type_66 : decode cX7_type 66 = .ok (.getfield 42, 3) := by decide +kernel
theorem dX7_type_69 : decode cX7_type 69 = .ok (.getfield 186, 3) := by decide +kernel
theorem dX7_type_72 : decode cX7_type 72 = .ok (.ireturn, 1) := by decide +kernel
end
section
theorem dX7_clear_0 : decode cX7_clear 0 = .ok (.aload_n 0, 1) := by decide +kernel
theorem dX7_clear_1 : decode cX7_clear 1 = .ok (.getfield 42, 3) := by decide +kernel
theorem dX7_clear_4 : decode cX7_clear 4 = .ok (.getfield 186, 3) := by decide +kernel
theorem dX7_clear_7 : decode cX7_clear 7 = .ok (.istore_n 1, 1) := by decide +kernel
theorem dX7_clear_8 : decode cX7_clear 8 = .ok (.aload_n 0, 1) := by decide +kernel
theorem dX7_clear_9 : decode cX7_clear 9 = .ok (.getfield 42, 3) := by decide +kernel
theorem dX7_clear_12 : decode cX7_clear 12 = .ok (.iconst 0, 1) := by decide +kernel
theorem dX7_clear_13 : decode cX7_clear 13 = .ok (.putfield 186, 3) := by decide +kernel
theorem dX7_clear_16 : decode cX7_clear 16 = .ok (.iload_n 1, 1) := by decide +kernel
theorem dX7_clear_17 : decode cX7_clear 17 = .ok (.ireturn, 1) := by decide +kernel
theorem dX7_read_0 : decode cX7_read 0 = .ok (.aload_n 0, 1) := by decide +kernel
theorem dX7_read_1 : decode cX7_read 1 = .ok (.getfield 42, 3) := by decide +kernel
theorem dX7_read_4 : decode cX7_read 4 = .ok (.invokevirtual 194, 3) := by decide +kernel
theorem dX7_read_7 : decode cX7_read 7 = .ok (.istore_n 1, 1) := by decide +kernel
theorem dX7_read_8 : decode cX7_read 8 = .ok (.iload_n 1, 1) := by decide +kernel
theorem dX7_read_9 : decode cX7_read 9 = .ok (.ifCond .ge 14, 3) := by decide +kernel
theorem dX7_read_12 : decode cX7_read 12 = .ok (.bipush (-10), 2) := by decide +kernel
theorem dX7_read_14 : decode cX7_read 14 = .ok (.aload_n 0, 1) := by decide +kernel
theorem dX7_read_15 : decode cX7_read 15 = .ok (.getfield 42, 3) := by decide +kernel
theorem dX7_read_18 : decode cX7_read 18 = .ok (.getfield 197, 3) := by decide +kernel
theorem dX7_read_21 : decode cX7_read 21 = .ok (.isub, 1) := by decide +kernel
theorem dX7_read_22 : decode cX7_read 22 = .ok (.ireturn, 1) := by decide +kernel
theorem dX7_read_23 : decode cX7_read 23 = .ok (.aload_n 0, 1) := by decide +kernel
theorem dX7_read_24 : decode cX7_read 24 = .ok (.invokevirtual 72, 3) := by decide +kernel
theorem dX7_read_27 : decode cX7_read 27 = .ok (.aload_n 0, 1) := by decide +kernel
theorem dX7_read_28 : decode cX7_read 28 = .ok (.getfield 20, 3) := by decide +kernel
theorem dX7_read_31 : decode cX7_read 31 = .ok (.getfield 88, 3) := by decide +kernel
theorem dX7_read_34 : decode cX7_read 34 = .ok (.astore_n 2, 1) := by decide +kernel
theorem dX7_read_35 : decode cX7_read 35 = .ok (.aload_n 0, 1) := by decide +kernel
theorem dX7_read_36 : decode cX7_read 36 = .ok (.getfield 20, 3) := by decide +kernel
theorem dX7_read_39 : decode cX7_read 39 = .ok (.aload_n 0, 1) := by decide +kernel
theorem dX7_read_40 : decode cX7_read 40 = .ok (.getfield 42, 3) := by decide +kernel
theorem dX7_read_43 : decode cX7_read 43 = .ok (.getfield 200, 3) := by decide +kernel
theorem dX7_read_46 : decode cX7_read 46 = .ok (.putfield 88, 3) := by decide +kernel
theorem dX7_read_49 : decode cX7_read 49 = .ok (.aload_n 0, 1) := by decide +kernel
theorem dX7_read_50 : decode cX7_read 50 = .ok (.getfield 20, 3) := by decide +kernel
theorem dX7_read_53 : decode cX7_read 53 = .ok (.iload_n 1, 1) := by decide +kernel
theorem dX7_read_54 : decode cX7_read 54 = .ok (.putfield 68, 3) := by decide +kernel
theorem dX7_read_57 : decode cX7_read 57 = .ok (.aload_n 0, 1) := by decide +kernel
theorem dX7_read_58 : decode cX7_read 58 = .ok (.getfield 42, 3) := by decide +kernel
theorem dX7_read_61 : decode cX7_read 61 = .ok (.aload_n 2, 1) := by decide +kernel
theorem dX7_read_62 : decode cX7_read 62 = .ok (.putfield 200, 3) := by decide +kernel
theorem dX7_read_65 : decode cX7_read 65 = .ok (.aload_n 0, 1) := by decide +kernel
theorem dX7_read_66 : decode cX7_read 66 = .ok (.getfield 42, 3) := by decide +kernel
theorem dX7_read_69 : decode cX7_read 69 = .ok (.iconst 0, 1) := by decide +kernel
theorem dX7_read_70 : decode cX7_read 70 = .ok (.putfield 186, 3) := by decide +kernel
theorem dX7_read_73 : decode cX7_read 73 = .ok (.iload_n 1, 1) := by decide +kernel
theorem dX7_read_74 : decode cX7_read 74 = .ok (.ireturn, 1) := by decide +kernel
theorem dX7_pair_0 : decode cX7_pair 0 = .ok (.iload_n 1, 1) := by decide +kernel
theorem dX7_pair_1 : decode cX7_pair 1 = .ok (.iload_n 2, 1) := by decide +kernel
theorem dX7_pair_2 : decode cX7_pair 2 = .ok (.bipush 30, 2) := by decide +kernel
theorem dX7_pair_4 : decode cX7_pair 4 = .ok (.invokestatic 120, 3) := by decide +kernel
theorem dX7_pair_7 : decode cX7_pair 7 = .ok (.ifCond .eq 14, 3) := by decide +kernel
theorem dX7_pair_10 : decode cX7_pair 10 = .ok (.iload_n 3, 1) := by decide +kernel
theorem dX7_pair_11 : decode cX7_pair 11 = .ok (.iload 4, 2) := by decide +kernel
theorem dX7_pair_13 : decode cX7_pair 13 = .ok (.bipush 30, 2) := by decide +kernel
theorem dX7_pair_15 : decode cX7_pair 15 = .ok (.invokestatic 120, 3) := by decide +kernel
theorem dX7_pair_18 : decode cX7_pair 18 = .ok (.ifCond .ne 5, 3) := by decide +kernel
theorem dX7_pair_21 : decode cX7_pair 21 = .ok (.iconst (-1), 1) := by decide +kernel
theorem dX7_pair_22 : decode cX7_pair 22 = .ok (.ireturn, 1) := by decide +kernel
theorem dX7_pair_23 : decode cX7_pair 23 = .ok (.aload_n 0, 1) := by decide +kernel
theorem dX7_pair_24 : decode cX7_pair 24 = .ok (.getfield 51, 3) := by decide +kernel
theorem dX7_pair_27 : decode cX7_pair 27 = .ok (.getfield 201, 3) := by decide +kernel
theorem dX7_pair_30 : decode cX7_pair 30 = .ok (.bipush 10, 2) := by decide +kernel
theorem dX7_pair_32 : decode cX7_pair 32 = .ok (.if_icmp .lt 6, 3) := by decide +kernel
theorem dX7_pair_35 : decode cX7_pair 35 = .ok (.bipush (-3), 2) := by decide +kernel
theorem dX7_pair_37 : decode cX7_pair 37 = .ok (.ireturn, 1) := by decide +kernel
theorem dX7_pair_38 : decode cX7_pair 38 = .ok (.aload_n 0, 1) := by decide +kernel
theorem dX7_pair_39 : decode cX7_pair 39 = .ok (.getfield 51, 3) := by decide +kernel
theorem dX7_pair_42 : decode cX7_pair 42 = .ok (.iload_n 1, 1) := by decide +kernel
theorem dX7_pair_43 : decode cX7_pair 43 = .ok (.iload_n 2, 1) := by decide +kernel
theorem dX7_pair_44 : decode cX7_pair 44 = .ok (.iload_n 3, 1) := by decide +kernel
theorem dX7_pair_45 : decode cX7_pair 45 = .ok (.iload 4, 2) := by decide +kernel
theorem dX7_pair_47 : decode cX7_pair 47 = .ok (.invokevirtual 204, 3) := by decide +kernel
theorem dX7_pair_50 : decode cX7_pair 50 = .ok (.ireturn, 1) := by decide +kernel
theorem dX7_wipe_0 : decode cX7_wipe 0 = .ok (.aload_n 0, 1) := by decide +kernel
theorem dX7_wipe_1 : decode cX7_wipe 1 = .ok (.getfield 51, 3) := by decide +kernel
theorem dX7_wipe_4 : decode cX7_wipe 4 = .ok (.getfield 201, 3) := by decide +kernel
theorem dX7_wipe_7 : decode cX7_wipe 7 = .ok (.istore_n 1, 1) := by decide +kernel
theorem dX7_wipe_8 : decode cX7_wipe 8 = .ok (.aload_n 0, 1) := by decide +kernel
theorem dX7_wipe_9 : decode cX7_wipe 9 = .ok (.getfield 51, 3) := by decide +kernel
theorem dX7_wipe_12 : decode cX7_wipe 12 = .ok (.iconst 0, 1) := by decide +kernel
theorem dX7_wipe_13 : decode cX7_wipe 13 = .ok (.putfield 201, 3) := by decide +kernel
theorem dX7_wipe_16 : decode cX7_wipe 16 = .ok (.aload_n 0, 1) := by decide +kernel
theorem dX7_wipe_17 : decode cX7_wipe 17 = .ok (.getfield 51, 3) := by decide +kernel
theorem dX7_wipe_20 : decode cX7_wipe 20 = .ok (.iconst 1, 1) := by decide +kernel
theorem dX7_wipe_21 : decode cX7_wipe 21 = .ok (.putfield 207, 3) := by decide +kernel
theorem dX7_wipe_24 : decode cX7_wipe 24 = .ok (.iload_n 1, 1) := by decide +kernel
theorem dX7_wipe_25 : decode cX7_wipe 25 = .ok (.ireturn, 1) := by decide +kernel
theorem dX7_tolerance_0 : decode cX7_tolerance 0 = .ok (.iload_n 1, 1) := by decide +kernel
theorem dX7_tolerance_1 : decode cX7_tolerance 1 = .ok (.iconst 0, 1) := by decide +kernel
theorem dX7_tolerance_2 : decode cX7_tolerance 2 = .ok (.iconst 1, 1) := by decide +kernel
theorem dX7_tolerance_3 : decode cX7_tolerance 3 = .ok (.invokestatic 83, 3) := by decide +kernel
theorem dX7_tolerance_6 : decode cX7_tolerance 6 = .ok (.ifCond .eq 22, 3) := by decide +kernel
theorem dX7_tolerance_9 : decode cX7_tolerance 9 = .ok (.iload_n 2, 1) := by decide +kernel
theorem dX7_tolerance_10 : decode cX7_tolerance 10 = .ok (.iconst 0, 1) := by decide +kernel
theorem dX7_tolerance_11 : decode cX7_tolerance 11 = .ok (.iload_n 1, 1) := by decide +kernel
theorem dX7_tolerance_12 : decode cX7_tolerance 12 = .ok (.ifCond .ne 8, 3) := by decide +kernel
theorem dX7_tolerance_15 : decode cX7_tolerance 15 = .ok (.bipush 64, 2) := by decide +kernel
theorem dX7_tolerance_17 : decode cX7_tolerance 17 = .ok (.goto 5, 3) := by decide +kernel
theorem dX7_tolerance_20 : decode cX7_tolerance 20 = .ok (.bipush 99, 2) := by decide +kernel
theorem dX7_tolerance_22 : decode cX7_tolerance 22 = .ok (.invokestatic 83, 3) := by decide +kernel
theorem dX7_tolerance_25 : decode cX7_tolerance 25 = .ok (.ifCond .ne 5, 3) := by decide +kernel
theorem dX7_tolerance_28 : decode cX7_tolerance 28 = .ok (.iconst (-1), 1) := by decide +kernel
theorem dX7_tolerance_29 : decode cX7_tolerance 29 = .ok (.ireturn, 1) := by decide +kernel
theorem dX7_tolerance_30 : decode cX7_tolerance 30 = .ok (.iload_n 1, 1) := by decide +kernel
theorem dX7_tolerance_31 : decode cX7_tolerance 31 = .ok (.ifCond .ne 13, 3) := by decide +kernel
theorem dX7_tolerance_34 : decode cX7_tolerance 34 = .ok (.aload_n 0, 1) := by decide +kernel
theorem dX7_tolerance_35 : decode cX7_tolerance 35 = .ok (.getfield 51, 3) := by decide +kernel
theorem dX7_tolerance_38 : decode cX7_tolerance 38 = .ok (.getfield 211, 3) := by decide +kernel
theorem dX7_tolerance_41 : decode cX7_tolerance 41 = .ok (.goto 10, 3) := by decide +kernel
theorem dX7_tolerance_44 : decode cX7_tolerance 44 = .ok (.aload_n 0, 1) := by decide +kernel
theorem dX7_tolerance_45 : decode cX7_tolerance 45 = .ok (.getfield 60, 3) := by decide +kernel
theorem dX7_tolerance_48 : decode cX7_tolerance 48 = .ok (.getfield 214, 3) := by decide +kernel
theorem dX7_tolerance_51 : decode cX7_tolerance 51 = .ok (.istore_n 3, 1) := by decide +kernel
theorem dX7_tolerance_52 : decode cX7_tolerance 52 = .ok (.iload_n 1, 1) := by decide +kernel
theorem dX7_tolerance_53 : decode cX7_tolerance 53 = .ok (.ifCond .ne 22, 3) := by decide +kernel
theorem dX7_tolerance_56 : decode cX7_tolerance 56 = .ok (.aload_n 0, 1) := by decide +kernel
theorem dX7_tolerance_57 : decode cX7_tolerance 57 = .ok (.getfield 51, 3) := by decide +kernel
theorem dX7_tolerance_60 : decode cX7_tolerance 60 = .ok (.iload_n 2, 1) := by decide +kernel
theorem dX7_tolerance_61 : decode cX7_tolerance 61 = .ok (.putfield 211, 3) := by decide +kernel
theorem dX7_tolerance_64 : decode cX7_tolerance 64 = .ok (.aload_n 0, 1) := by decide +kernel
theorem dX7_tolerance_65 : decode cX7_tolerance 65 = .ok (.getfield 51, 3) := by decide +kernel
theorem dX7_tolerance_68 : decode cX7_tolerance 68 = .ok (.iconst 1, 1) := by decide +kernel
theorem dX7_tolerance_69 : decode cX7_tolerance 69 = .ok (.putfield 207, 3) := by decide +kernel
theorem dX7_tolerance_72 : decode cX7_tolerance 72 = .ok (.goto 11, 3) := by decide +kernel
theorem dX7_tolerance_75 : decode cX7_tolerance 75 = .ok (.aload_n 0, 1) := by decide +kernel
theorem dX7_tolerance_76 : decode cX7_tolerance 76 = .ok (.getfield 60, 3) := by decide +kernel
theorem dX7_tolerance_79 : decode cX7_tolerance 79 = .ok (.iload_n 2, 1) := by decide +kernel
theorem dX7_tolerance_80 : decode cX7_tolerance 80 = .ok (.putfield 214, 3) := by decide +kernel
theorem dX7_tolerance_83 : decode cX7_tolerance 83 = .ok (.iload_n 3, 1) := by decide +kernel
theorem dX7_tolerance_84 : decode cX7_tolerance 84 = .ok (.ireturn, 1) := by decide +kernel
theorem dX7_fits_0 : decode cX7_fits 0 = .ok (.aload_n 0, 1) := by decide +kernel
theorem dX7_fits_1 : decode cX7_fits 1 = .ok (.iload_n 1, 1) := by decide +kernel
theorem dX7_fits_2 : decode cX7_fits 2 = .ok (.iload_n 2, 1) := by decide +kernel
theorem dX7_fits_3 : decode cX7_fits 3 = .ok (.invokevirtual 217, 3) := by decide +kernel
theorem dX7_fits_6 : decode cX7_fits 6 = .ok (.ifCond .ne 5, 3) := by decide +kernel
theorem dX7_fits_9 : decode cX7_fits 9 = .ok (.iconst (-1), 1) := by decide +kernel
theorem dX7_fits_10 : decode cX7_fits 10 = .ok (.ireturn, 1) := by decide +kernel
theorem dX7_fits_11 : decode cX7_fits 11 = .ok (.aload_n 0, 1) := by decide +kernel
theorem dX7_fits_12 : decode cX7_fits 12 = .ok (.getfield 51, 3) := by decide +kernel
theorem dX7_fits_15 : decode cX7_fits 15 = .ok (.iload_n 1, 1) := by decide +kernel
theorem dX7_fits_16 : decode cX7_fits 16 = .ok (.iload_n 2, 1) := by decide +kernel
theorem dX7_fits_17 : decode cX7_fits 17 = .ok (.invokevirtual 220, 3) := by decide +kernel
theorem dX7_fits_20 : decode cX7_fits 20 = .ok (.iload_n 3, 1) := by decide +kernel
theorem dX7_fits_21 : decode cX7_fits 21 = .ok (.iconst 0, 1) := by decide +kernel
theorem dX7_fits_22 : decode cX7_fits 22 = .ok (.aload_n 0, 1) := by decide +kernel
theorem dX7_fits_23 : decode cX7_fits 23 = .ok (.getfield 51, 3) := by decide +kernel
theorem dX7_fits_26 : decode cX7_fits 26 = .ok (.getfield 224, 3) := by decide +kernel
theorem dX7_fits_29 : decode cX7_fits 29 = .ok (.iconst 1, 1) := by decide +kernel
theorem dX7_fits_30 : decode cX7_fits 30 = .ok (.isub, 1) := by decide +kernel
theorem dX7_fits_31 : decode cX7_fits 31 = .ok (.invokestatic 83, 3) := by decide +kernel
theorem dX7_fits_34 : decode cX7_fits 34 = .ok (.ifCond .ne 5, 3) := by decide +kernel
theorem dX7_fits_37 : decode cX7_fits 37 = .ok (.iconst (-1), 1) := by decide +kernel
theorem dX7_fits_38 : decode cX7_fits 38 = .ok (.ireturn, 1) := by decide +kernel
theorem dX7_fits_39 : decode cX7_fits 39 = .ok (.aload_n 0, 1) := by decide +kernel
theorem dX7_fits_40 : decode cX7_fits 40 = .ok (.getfield 51, 3) := by decide +kernel
theorem dX7_fits_43 : decode cX7_fits 43 = .ok (.iload_n 3, 1) := by decide +kernel
theorem dX7_fits_44 : decode cX7_fits 44 = .ok (.invokevirtual 227, 3) := by decide +kernel
theorem dX7_fits_47 : decode cX7_fits 47 = .ok (.ifCond .eq 7, 3) := by decide +kernel
theorem dX7_fits_50 : decode cX7_fits 50 = .ok (.iconst 1, 1) := by decide +kernel
theorem dX7_fits_51 : decode cX7_fits 51 = .ok (.goto 4, 3) := by decide +kernel
theorem dX7_fits_54 : decode cX7_fits 54 = .ok (.iconst 0, 1) := by decide +kernel
theorem dX7_fits_55 : decode cX7_fits 55 = .ok (.ireturn, 1) := by decide +kernel
theorem dX7_models_0 : decode cX7_models 0 = .ok (.aload_n 0, 1) := by decide +kernel
theorem dX7_models_1 : decode cX7_models 1 = .ok (.iload_n 1, 1) := by decide +kernel
theorem dX7_models_2 : decode cX7_models 2 = .ok (.iload_n 2, 1) := by decide +kernel
theorem dX7_models_3 : decode cX7_models 3 = .ok (.invokevirtual 217, 3) := by decide +kernel
theorem dX7_models_6 : decode cX7_models 6 = .ok (.ifCond .eq 12, 3) := by decide +kernel
theorem dX7_models_9 : decode cX7_models 9 = .ok (.iload_n 3, 1) := by decide +kernel
theorem dX7_models_10 : decode cX7_models 10 = .ok (.iconst 0, 1) := by decide +kernel
theorem dX7_models_11 : decode cX7_models 11 = .ok (.iconst 3, 1) := by decide +kernel
theorem dX7_models_12 : decode cX7_models 12 = .ok (.invokestatic 83, 3) := by decide +kernel
theorem dX7_models_15 : decode cX7_models 15 = .ok (.ifCond .ne 5, 3) := by decide +kernel
theorem dX7_models_18 : decode cX7_models 18 = .ok (.iconst (-1), 1) := by decide +kernel
theorem dX7_models_19 : decode cX7_models 19 = .ok (.ireturn, 1) := by decide +kernel
theorem dX7_models_20 : decode cX7_models 20 = .ok (.aload_n 0, 1) := by decide +kernel
theorem dX7_models_21 : decode cX7_models 21 = .ok (.getfield 51, 3) := by decide +kernel
theorem dX7_models_24 : decode cX7_models 24 = .ok (.iload_n 1, 1) := by decide +kernel
theorem dX7_models_25 : decode cX7_models 25 = .ok (.iload_n 2, 1) := by decide +kernel
theorem dX7_models_26 : decode cX7_models 26 = .ok (.invokevirtual 220, 3) := by decide +kernel
theorem dX7_models_29 : decode cX7_models 29 = .ok (.aload_n 0, 1) := by decide +kernel
theorem dX7_models_30 : decode cX7_models 30 = .ok (.getfield 51, 3) := by decide +kernel
theorem dX7_models_33 : decode cX7_models 33 = .ok (.invokevirtual 230, 3) := by decide +kernel
theorem dX7_models_36 : decode cX7_models 36 = .ok (.iload_n 3, 1) := by decide +kernel
theorem dX7_models_37 : decode cX7_models 37 = .ok (.tableswitch 51 0 2 #[27, 35, 43], 27) := by decide +kernel
theorem dX7_models_64 : decode cX7_models 64 = .ok (.aload_n 0, 1) := by decide +kernel
theorem dX7_models_65 : decode cX7_models 65 = .ok (.getfield 51, 3) := by decide +kernel
theorem dX7_models_68 : decode cX7_models 68 = .ok (.getfield 233, 3) := by decide +kernel
theorem dX7_models_71 : decode cX7_models 71 = .ok (.ireturn, 1) := by decide +kernel
theorem dX7_models_72 : decode cX7_models 72 = .ok (.aload_n 0, 1) := by decide +kernel
theorem dX7_models_73 : decode cX7_models 73 = .ok (.getfield 51, 3) := by decide +kernel
theorem dX7_models_76 : decode cX7_models 76 = .ok (.invokevirtual 236, 3) := by decide +kernel
theorem dX7_models_79 : decode cX7_models 79 = .ok (.ireturn, 1) := by decide +kernel
theorem dX7_models_80 : decode cX7_models 80 = .ok (.aload_n 0, 1) := by decide +kernel
theorem dX7_models_81 : decode cX7_models 81 = .ok (.getfield 51, 3) := by decide +kernel
theorem dX7_models_84 : decode cX7_models 84 = .ok (.invokevirtual 239, 3) := by decide +kernel
theorem dX7_models_87 : decode cX7_models 87 = .ok (.ireturn, 1) := by decide +kernel
theorem dX7_models_88 : decode cX7_models 88 = .ok (.aload_n 0, 1) := by decide +kernel
theorem dX7_models_89 : decode cX7_models 89 = .ok (.getfield 51, 3) := by decide +kernel
theorem dX7_models_92 : decode cX7_models 92 = .ok (.invokevirtual 242, 3) := by decide +kernel
theorem dX7_models_95 : decode cX7_models 95 = .ok (.ireturn, 1) := by decide +kernel
theorem dX7_sure_0 : decode cX7_sure 0 = .ok (.aload_n 0, 1) := by decide +kernel
theorem dX7_sure_1 : decode cX7_sure 1 = .ok (.iload_n 1, 1) := by decide +kernel
theorem dX7_sure_2 : decode cX7_sure 2 = .ok (.iload_n 2, 1) := by decide +kernel
theorem dX7_sure_3 : decode cX7_sure 3 = .ok (.invokevirtual 217, 3) := by decide +kernel
theorem dX7_sure_6 : decode cX7_sure 6 = .ok (.ifCond .eq 14, 3) := by decide +kernel
theorem dX7_sure_9 : decode cX7_sure 9 = .ok (.iload_n 3, 1) := by decide +kernel
theorem dX7_sure_10 : decode cX7_sure 10 = .ok (.iconst 0, 1) := by decide +kernel
theorem dX7_sure_11 : decode cX7_sure 11 = .ok (.iload_n 1, 1) := by decide +kernel
theorem dX7_sure_12 : decode cX7_sure 12 = .ok (.iconst 1, 1) := by decide +kernel
theorem dX7_sure_13 : decode cX7_sure 13 = .ok (.isub, 1) := by decide +kernel
theorem dX7_sure_14 : decode cX7_sure 14 = .ok (.invokestatic 83, 3) := by decide +kernel
theorem dX7_sure_17 : decode cX7_sure 17 = .ok (.ifCond .ne 5, 3) := by decide +kernel
theorem dX7_sure_20 : decode cX7_sure 20 = .ok (.iconst (-1), 1) := by decide +kernel
theorem dX7_sure_21 : decode cX7_sure 21 = .ok (.ireturn, 1) := by decide +kernel
theorem dX7_sure_22 : decode cX7_sure 22 = .ok (.aload_n 0, 1) := by decide +kernel
theorem dX7_sure_23 : decode cX7_sure 23 = .ok (.getfield 51, 3) := by decide +kernel
theorem dX7_sure_26 : decode cX7_sure 26 = .ok (.iload_n 1, 1) := by decide +kernel
theorem dX7_sure_27 : decode cX7_sure 27 = .ok (.iload_n 2, 1) := by decide +kernel
theorem dX7_sure_28 : decode cX7_sure 28 = .ok (.invokevirtual 220, 3) := by decide +kernel
theorem dX7_sure_31 : decode cX7_sure 31 = .ok (.aload_n 0, 1) := by decide +kernel
theorem dX7_sure_32 : decode cX7_sure 32 = .ok (.getfield 51, 3) := by decide +kernel
theorem dX7_sure_35 : decode cX7_sure 35 = .ok (.invokevirtual 230, 3) := by decide +kernel
theorem dX7_sure_38 : decode cX7_sure 38 = .ok (.aload_n 0, 1) := by decide +kernel
theorem dX7_sure_39 : decode cX7_sure 39 = .ok (.getfield 51, 3) := by decide +kernel
theorem dX7_sure_42 : decode cX7_sure 42 = .ok (.iload_n 3, 1) := by decide +kernel
theorem dX7_sure_43 : decode cX7_sure 43 = .ok (.invokevirtual 245, 3) := by decide +kernel
theorem dX7_sure_46 : decode cX7_sure 46 = .ok (.ireturn, 1) := by decide +kernel
theorem dX7_spot_0 : decode cX7_spot 0 = .ok (.iload_n 1, 1) := by decide +kernel
theorem dX7_spot_1 : decode cX7_spot 1 = .ok (.iload_n 2, 1) := by decide +kernel
theorem dX7_spot_2 : decode cX7_spot 2 = .ok (.bipush 30, 2) := by decide +kernel
theorem dX7_spot_4 : decode cX7_spot 4 = .ok (.invokestatic 120, 3) := by decide +kernel
theorem dX7_spot_7 : decode cX7_spot 7 = .ok (.ifCond .ne 5, 3) := by decide +kernel
theorem dX7_spot_10 : decode cX7_spot 10 = .ok (.iconst (-1), 1) := by decide +kernel
theorem dX7_spot_11 : decode cX7_spot 11 = .ok (.ireturn, 1) := by decide +kernel
theorem dX7_spot_12 : decode cX7_spot 12 = .ok (.aload_n 0, 1) := by decide +kernel
theorem dX7_spot_13 : decode cX7_spot 13 = .ok (.getfield 51, 3) := by decide +kernel
theorem dX7_spot_16 : decode cX7_spot 16 = .ok (.getfield 248, 3) := by decide +kernel
theorem dX7_spot_19 : decode cX7_spot 19 = .ok (.bipush 8, 2) := by decide +kernel
theorem dX7_spot_21 : decode cX7_spot 21 = .ok (.if_icmp .lt 6, 3) := by decide +kernel
theorem dX7_spot_24 : decode cX7_spot 24 = .ok (.bipush (-3), 2) := by decide +kernel
theorem dX7_spot_26 : decode cX7_spot 26 = .ok (.ireturn, 1) := by decide +kernel
theorem dX7_spot_27 : decode cX7_spot 27 = .ok (.aload_n 0, 1) := by decide +kernel
theorem dX7_spot_28 : decode cX7_spot 28 = .ok (.getfield 51, 3) := by decide +kernel
theorem dX7_spot_31 : decode cX7_spot 31 = .ok (.iload_n 1, 1) := by decide +kernel
theorem dX7_spot_32 : decode cX7_spot 32 = .ok (.iload_n 2, 1) := by decide +kernel
theorem dX7_spot_33 : decode cX7_spot 33 = .ok (.invokevirtual 251, 3) := by decide +kernel
theorem dX7_spot_36 : decode cX7_spot 36 = .ok (.ireturn, 1) := by decide +kernel
theorem dX7_forget_0 : decode cX7_forget 0 = .ok (.aload_n 0, 1) := by decide +kernel
theorem dX7_forget_1 : decode cX7_forget 1 = .ok (.getfield 51, 3) := by decide +kernel
theorem dX7_forget_4 : decode cX7_forget 4 = .ok (.getfield 248, 3) := by decide +kernel
theorem dX7_forget_7 : decode cX7_forget 7 = .ok (.istore_n 1, 1) := by decide +kernel
theorem dX7_forget_8 : decode cX7_forget 8 = .ok (.aload_n 0, 1) := by decide +kernel
theorem dX7_forget_9 : decode cX7_forget 9 = .ok (.getfield 51, 3) := by decide +kernel
theorem dX7_forget_12 : decode cX7_forget 12 = .ok (.iconst 0, 1) := by decide +kernel
theorem dX7_forget_13 : decode cX7_forget 13 = .ok (.putfield 248, 3) := by decide +kernel
theorem dX7_forget_16 : decode cX7_forget 16 = .ok (.aload_n 0, 1) := by decide +kernel
theorem dX7_forget_17 : decode cX7_forget 17 = .ok (.getfield 51, 3) := by decide +kernel
theorem dX7_forget_20 : decode cX7_forget 20 = .ok (.iconst 1, 1) := by decide +kernel
theorem dX7_forget_21 : decode cX7_forget 21 = .ok (.putfield 207, 3) := by decide +kernel
theorem dX7_forget_24 : decode cX7_forget 24 = .ok (.iload_n 1, 1) := by decide +kernel
theorem dX7_forget_25 : decode cX7_forget 25 = .ok (.ireturn, 1) := by decide +kernel
theorem dX7_bright_0 : decode cX7_bright 0 = .ok (.iload_n 1, 1) := by decide +kernel
theorem dX7_bright_1 : decode cX7_bright 1 = .ok (.iload_n 2, 1) := by decide +kernel
theorem dX7_bright_2 : decode cX7_bright 2 = .ok (.bipush 24, 2) := by decide +kernel
theorem dX7_bright_4 : decode cX7_bright 4 = .ok (.invokestatic 120, 3) := by decide +kernel
theorem dX7_bright_7 : decode cX7_bright 7 = .ok (.ifCond .eq 19, 3) := by decide +kernel
theorem dX7_bright_10 : decode cX7_bright 10 = .ok (.iload_n 3, 1) := by decide +kernel
theorem dX7_bright_11 : decode cX7_bright 11 = .ok (.bipush (-9), 2) := by decide +kernel
theorem dX7_bright_13 : decode cX7_bright 13 = .ok (.if_icmp .eq 16, 3) := by decide +kernel
theorem dX7_bright_16 : decode cX7_bright 16 = .ok (.iload_n 3, 1) := by decide +kernel
theorem dX7_bright_17 : decode cX7_bright 17 = .ok (.iconst 0, 1) := by decide +kernel
theorem dX7_bright_18 : decode cX7_bright 18 = .ok (.bipush 99, 2) := by decide +kernel
theorem dX7_bright_20 : decode cX7_bright 20 = .ok (.invokestatic 83, 3) := by decide +kernel
theorem dX7_bright_23 : decode cX7_bright 23 = .ok (.ifCond .ne 6, 3) := by decide +kernel
theorem dX7_bright_26 : decode cX7_bright 26 = .ok (.bipush (-2), 2) := by decide +kernel
theorem dX7_bright_28 : decode cX7_bright 28 = .ok (.ireturn, 1) := by decide +kernel
theorem dX7_bright_29 : decode cX7_bright 29 = .ok (.iload_n 1, 1) := by decide +kernel
theorem dX7_bright_30 : decode cX7_bright 30 = .ok (.iload_n 2, 1) := by decide +kernel
theorem dX7_bright_31 : decode cX7_bright 31 = .ok (.invokestatic 254, 3) := by decide +kernel
theorem dX7_bright_34 : decode cX7_bright 34 = .ok (.istore 4, 2) := by decide +kernel
theorem dX7_bright_36 : decode cX7_bright 36 = .ok (.aload_n 0, 1) := by decide +kernel
theorem dX7_bright_37 : decode cX7_bright 37 = .ok (.getfield 60, 3) := by decide +kernel
theorem dX7_bright_40 : decode cX7_bright 40 = .ok (.getfield 257, 3) := by decide +kernel
theorem dX7_bright_43 : decode cX7_bright 43 = .ok (.iload 4, 2) := by decide +kernel
theorem dX7_bright_45 : decode cX7_bright 45 = .ok (.iaload, 1) := by decide +kernel
theorem dX7_bright_46 : decode cX7_bright 46 = .ok (.istore 5, 2) := by decide +kernel
theorem dX7_bright_48 : decode cX7_bright 48 = .ok (.aload_n 0, 1) := by decide +kernel
theorem dX7_bright_49 : decode cX7_bright 49 = .ok (.getfield 60, 3) := by decide +kernel
theorem dX7_bright_52 : decode cX7_bright 52 = .ok (.getfield 257, 3) := by decide +kernel
theorem dX7_bright_55 : decode cX7_bright 55 = .ok (.iload 4, 2) := by decide +kernel
theorem dX7_bright_57 : decode cX7_bright 57 = .ok (.iload_n 3, 1) := by decide +kernel
theorem dX7_bright_58 : decode cX7_bright 58 = .ok (.iastore, 1) := by decide +kernel
theorem dX7_bright_59 : decode cX7_bright 59 = .ok (.iload 5, 2) := by decide +kernel
theorem dX7_bright_61 : decode cX7_bright 61 = .ok (.ireturn, 1) := by decide +kernel
theorem dX7_far_0 : decode cX7_far 0 = .ok (.iload_n 1, 1) := by decide +kernel
theorem dX7_far_1 : decode cX7_far 1 = .ok (.iload_n 2, 1) := by decide +kernel
theorem dX7_far_2 : decode cX7_far 2 = .ok (.bipush 99, 2) := by decide +kernel
theorem dX7_far_4 : decode cX7_far 4 = .ok (.invokestatic 120, 3) := by decide +kernel
theorem dX7_far_7 : decode cX7_far 7 = .ok (.ifCond .ne 5, 3) := by decide +kernel
theorem dX7_far_10 : decode cX7_far 10 = .ok (.iconst (-1), 1) := by decide +kernel
theorem dX7_far_11 : decode cX7_far 11 = .ok (.ireturn, 1) := by decide +kernel
theorem dX7_far_12 : decode cX7_far 12 = .ok (.aload_n 0, 1) := by decide +kernel
theorem dX7_far_13 : decode cX7_far 13 = .ok (.getfield 28, 3) := by decide +kernel
theorem dX7_far_16 : decode cX7_far 16 = .ok (.invokevirtual 145, 3) := by decide +kernel
theorem dX7_far_19 : decode cX7_far 19 = .ok (.aload_n 0, 1) := by decide +kernel
theorem dX7_far_20 : decode cX7_far 20 = .ok (.getfield 60, 3) := by decide +kernel
theorem dX7_far_23 : decode cX7_far 23 = .ok (.iload_n 1, 1) := by decide +kernel
theorem dX7_far_24 : decode cX7_far 24 = .ok (.iload_n 2, 1) := by decide +kernel
theorem dX7_far_25 : decode cX7_far 25 = .ok (.invokestatic 260, 3) := by decide +kernel
theorem dX7_far_28 : decode cX7_far 28 = .ok (.invokevirtual 263, 3) := by decide +kernel
theorem dX7_far_31 : decode cX7_far 31 = .ok (.ireturn, 1) := by decide +kernel
theorem dX7_contradicts_0 : decode cX7_contradicts 0 = .ok (.aload_n 0, 1) := by decide +kernel
theorem dX7_contradicts_1 : decode cX7_contradicts 1 = .ok (.getfield 28, 3) := by decide +kernel
theorem dX7_contradicts_4 : decode cX7_contradicts 4 = .ok (.invokevirtual 145, 3) := by decide +kernel
theorem dX7_contradicts_7 : decode cX7_contradicts 7 = .ok (.aload_n 0, 1) := by decide +kernel
theorem dX7_contradicts_8 : decode cX7_contradicts 8 = .ok (.getfield 60, 3) := by decide +kernel
theorem dX7_contradicts_11 : decode cX7_contradicts 11 = .ok (.invokevirtual 266, 3) := by decide +kernel
theorem dX7_contradicts_14 : decode cX7_contradicts 14 = .ok (.ireturn, 1) := by decide +kernel
theorem dX7_filled_0 : decode cX7_filled 0 = .ok (.iload_n 1, 1) := by decide +kernel
theorem dX7_filled_1 : decode cX7_filled 1 = .ok (.iload_n 2, 1) := by decide +kernel
theorem dX7_filled_2 : decode cX7_filled 2 = .ok (.bipush 24, 2) := by decide +kernel
theorem dX7_filled_4 : decode cX7_filled 4 = .ok (.invokestatic 120, 3) := by decide +kernel
theorem dX7_filled_7 : decode cX7_filled 7 = .ok (.ifCond .ne 5, 3) := by decide +kernel
theorem dX7_filled_10 : decode cX7_filled 10 = .ok (.iconst (-1), 1) := by decide +kernel
theorem dX7_filled_11 : decode cX7_filled 11 = .ok (.ireturn, 1) := by decide +kernel
theorem dX7_filled_12 : decode cX7_filled 12 = .ok (.iload_n 1, 1) := by decide +kernel
theorem dX7_filled_13 : decode cX7_filled 13 = .ok (.iload_n 2, 1) := by decide +kernel
theorem dX7_filled_14 : decode cX7_filled 14 = .ok (.invokestatic 254, 3) := by decide +kernel
theorem dX7_filled_17 : decode cX7_filled 17 = .ok (.istore_n 3, 1) := by decide +kernel
theorem dX7_filled_18 : decode cX7_filled 18 = .ok (.aload_n 0, 1) := by decide +kernel
theorem dX7_filled_19 : decode cX7_filled 19 = .ok (.getfield 60, 3) := by decide +kernel
theorem dX7_filled_22 : decode cX7_filled 22 = .ok (.getfield 257, 3) := by decide +kernel
theorem dX7_filled_25 : decode cX7_filled 25 = .ok (.iload_n 3, 1) := by decide +kernel
theorem dX7_filled_26 : decode cX7_filled 26 = .ok (.iaload, 1) := by decide +kernel
theorem dX7_filled_27 : decode cX7_filled 27 = .ok (.bipush (-9), 2) := by decide +kernel
theorem dX7_filled_29 : decode cX7_filled 29 = .ok (.if_icmp .eq 13, 3) := by decide +kernel
theorem dX7_filled_32 : decode cX7_filled 32 = .ok (.aload_n 0, 1) := by decide +kernel
theorem dX7_filled_33 : decode cX7_filled 33 = .ok (.getfield 60, 3) := by decide +kernel
theorem dX7_filled_36 : decode cX7_filled 36 = .ok (.getfield 257, 3) := by decide +kernel
theorem dX7_filled_39 : decode cX7_filled 39 = .ok (.iload_n 3, 1) := by decide +kernel
theorem dX7_filled_40 : decode cX7_filled 40 = .ok (.iaload, 1) := by decide +kernel
theorem dX7_filled_41 : decode cX7_filled 41 = .ok (.ireturn, 1) := by decide +kernel
theorem dX7_filled_42 : decode cX7_filled 42 = .ok (.aload_n 0, 1) := by decide +kernel
theorem dX7_filled_43 : decode cX7_filled 43 = .ok (.getfield 28, 3) := by decide +kernel
theorem dX7_filled_46 : decode cX7_filled 46 = .ok (.invokevirtual 145, 3) := by decide +kernel
theorem dX7_filled_49 : decode cX7_filled 49 = .ok (.aload_n 0, 1) := by decide +kernel
theorem dX7_filled_50 : decode cX7_filled 50 = .ok (.getfield 60, 3) := by decide +kernel
theorem dX7_filled_53 : decode cX7_filled 53 = .ok (.aload_n 0, 1) := by decide +kernel
theorem dX7_filled_54 : decode cX7_filled 54 = .ok (.getfield 28, 3) := by decide +kernel
theorem dX7_filled_57 : decode cX7_filled 57 = .ok (.getfield 161, 3) := by decide +kernel
theorem dX7_filled_60 : decode cX7_filled 60 = .ok (.iload_n 3, 1) := by decide +kernel
theorem dX7_filled_61 : decode cX7_filled 61 = .ok (.iaload, 1) := by decide +kernel
theorem dX7_filled_62 : decode cX7_filled 62 = .ok (.invokevirtual 263, 3) := by decide +kernel
theorem dX7_filled_65 : decode cX7_filled 65 = .ok (.ireturn, 1) := by decide +kernel
theorem dX7_count_0 : decode cX7_count 0 = .ok (.iload_n 1, 1) := by decide +kernel
theorem dX7_count_1 : decode cX7_count 1 = .ok (.tableswitch 87 0 5 #[39, 47, 55, 63, 71, 79], 39) := by decide +kernel
theorem dX7_count_40 : decode cX7_count 40 = .ok (.aload_n 0, 1) := by decide +kernel
theorem dX7_count_41 : decode cX7_count 41 = .ok (.getfield 20, 3) := by decide +kernel
theorem dX7_count_44 : decode cX7_count 44 = .ok (.getfield 68, 3) := by decide +kernel
theorem dX7_count_47 : decode cX7_count 47 = .ok (.ireturn, 1) := by decide +kernel
theorem dX7_count_48 : decode cX7_count 48 = .ok (.aload_n 0, 1) := by decide +kernel
theorem dX7_count_49 : decode cX7_count 49 = .ok (.getfield 51, 3) := by decide +kernel
theorem dX7_count_52 : decode cX7_count 52 = .ok (.getfield 201, 3) := by decide +kernel
theorem dX7_count_55 : decode cX7_count 55 = .ok (.ireturn, 1) := by decide +kernel
theorem dX7_count_56 : decode cX7_count 56 = .ok (.aload_n 0, 1) := by decide +kernel
theorem dX7_count_57 : decode cX7_count 57 = .ok (.getfield 51, 3) := by decide +kernel
theorem dX7_count_60 : decode cX7_count 60 = .ok (.getfield 248, 3) := by decide +kernel
theorem dX7_count_63 : decode cX7_count 63 = .ok (.ireturn, 1) := by decide +kernel
theorem dX7_count_64 : decode cX7_count 64 = .ok (.aload_n 0, 1) := by decide +kernel
theorem dX7_count_65 : decode cX7_count 65 = .ok (.getfield 60, 3) := by decide +kernel
theorem dX7_count_68 : decode cX7_count 68 = .ok (.invokevirtual 269, 3) := by decide +kernel
theorem dX7_count_71 : decode cX7_count 71 = .ok (.ireturn, 1) := by decide +kernel
theorem dX7_count_72 : decode cX7_count 72 = .ok (.aload_n 0, 1) := by decide +kernel
theorem dX7_count_73 : decode cX7_count 73 = .ok (.getfield 42, 3) := by decide +kernel
theorem dX7_count_76 : decode cX7_count 76 = .ok (.getfield 186, 3) := by decide +kernel
theorem dX7_count_79 : decode cX7_count 79 = .ok (.ireturn, 1) := by decide +kernel
theorem dX7_count_80 : decode cX7_count 80 = .ok (.aload_n 0, 1) := by decide +kernel
theorem dX7_count_81 : decode cX7_count 81 = .ok (.getfield 20, 3) := by decide +kernel
theorem dX7_count_84 : decode cX7_count 84 = .ok (.invokevirtual 272, 3) := by decide +kernel
theorem dX7_count_87 : decode cX7_count 87 = .ok (.ireturn, 1) := by decide +kernel
theorem dX7_count_88 : decode cX7_count 88 = .ok (.iconst (-1), 1) := by decide +kernel
theorem dX7_count_89 : decode cX7_count 89 = .ok (.ireturn, 1) := by decide +kernel
theorem dX7_trace_0 : decode cX7_trace 0 = .ok (.aload_n 0, 1) := by decide +kernel
theorem dX7_trace_1 : decode cX7_trace 1 = .ok (.getfield 101, 3) := by decide +kernel
theorem dX7_trace_4 : decode cX7_trace 4 = .ok (.lreturn, 1) := by decide +kernel
theorem dX7_within_0 : decode cX7_within 0 = .ok (.iload_n 0, 1) := by decide +kernel
theorem dX7_within_1 : decode cX7_within 1 = .ok (.iload_n 1, 1) := by decide +kernel
theorem dX7_within_2 : decode cX7_within 2 = .ok (.if_icmp .lt 12, 3) := by decide +kernel
theorem dX7_within_5 : decode cX7_within 5 = .ok (.iload_n 0, 1) := by decide +kernel
theorem dX7_within_6 : decode cX7_within 6 = .ok (.iload_n 2, 1) := by decide +kernel
theorem dX7_within_7 : decode cX7_within 7 = .ok (.if_icmp .gt 7, 3) := by decide +kernel
theorem dX7_within_10 : decode cX7_within 10 = .ok (.iconst 1, 1) := by decide +kernel
theorem dX7_within_11 : decode cX7_within 11 = .ok (.goto 4, 3) := by decide +kernel
theorem dX7_within_14 : decode cX7_within 14 = .ok (.iconst 0, 1) := by decide +kernel
theorem dX7_within_15 : decode cX7_within 15 = .ok (.ireturn, 1) := by decide +kernel
theorem dX7_isWithin_0 : decode cX7_isWithin 0 = .ok (.iload_n 0, 1) := by decide +kernel
theorem dX7_isWithin_1 : decode cX7_isWithin 1 = .ok (.iload_n 2, 1) := by decide +kernel
theorem dX7_isWithin_2 : decode cX7_isWithin 2 = .ok (.ineg, 1) := by decide +kernel
theorem dX7_isWithin_3 : decode cX7_isWithin 3 = .ok (.iload_n 2, 1) := by decide +kernel
theorem dX7_isWithin_4 : decode cX7_isWithin 4 = .ok (.invokestatic 83, 3) := by decide +kernel
theorem dX7_isWithin_7 : decode cX7_isWithin 7 = .ok (.ifCond .eq 17, 3) := by decide +kernel
theorem dX7_isWithin_10 : decode cX7_isWithin 10 = .ok (.iload_n 1, 1) := by decide +kernel
theorem dX7_isWithin_11 : decode cX7_isWithin 11 = .ok (.iload_n 2, 1) := by decide +kernel
theorem dX7_isWithin_12 : decode cX7_isWithin 12 = .ok (.ineg, 1) := by decide +kernel
theorem dX7_isWithin_13 : decode cX7_isWithin 13 = .ok (.iload_n 2, 1) := by decide +kernel
theorem dX7_isWithin_14 : decode cX7_isWithin 14 = .ok (.invokestatic 83, 3) := by decide +kernel
theorem dX7_isWithin_17 : decode cX7_isWithin 17 = .ok (.ifCond .eq 7, 3) := by decide +kernel
theorem dX7_isWithin_20 : decode cX7_isWithin 20 = .ok (.iconst 1, 1) := by decide +kernel
theorem dX7_isWithin_21 : decode cX7_isWithin 21 = .ok (.goto 4, 3) := by decide +kernel
theorem dX7_isWithin_24 : decode cX7_isWithin 24 = .ok (.iconst 0, 1) := by decide +kernel
theorem dX7_isWithin_25 : decode cX7_isWithin 25 = .ok (.ireturn, 1) := by decide +kernel
theorem dX7_isAsked_0 : decode cX7_isAsked 0 = .ok (.iload_n 0, 1) := by decide +kernel
theorem dX7_isAsked_1 : decode cX7_isAsked 1 = .ok (.iload_n 1, 1) := by decide +kernel
theorem dX7_isAsked_2 : decode cX7_isAsked 2 = .ok (.bipush 60, 2) := by decide +kernel
theorem dX7_isAsked_4 : decode cX7_isAsked 4 = .ok (.invokestatic 120, 3) := by decide +kernel
theorem dX7_isAsked_7 : decode cX7_isAsked 7 = .ok (.ifCond .eq 16, 3) := by decide +kernel
theorem dX7_isAsked_10 : decode cX7_isAsked 10 = .ok (.iload_n 2, 1) := by decide +kernel
theorem dX7_isAsked_11 : decode cX7_isAsked 11 = .ok (.iconst 0, 1) := by decide +kernel
theorem dX7_isAsked_12 : decode cX7_isAsked 12 = .ok (.iconst 1, 1) := by decide +kernel
theorem dX7_isAsked_13 : decode cX7_isAsked 13 = .ok (.invokestatic 83, 3) := by decide +kernel
theorem dX7_isAsked_16 : decode cX7_isAsked 16 = .ok (.ifCond .eq 7, 3) := by decide +kernel
theorem dX7_isAsked_19 : decode cX7_isAsked 19 = .ok (.iconst 1, 1) := by decide +kernel
theorem dX7_isAsked_20 : decode cX7_isAsked 20 = .ok (.goto 4, 3) := by decide +kernel
theorem dX7_isAsked_23 : decode cX7_isAsked 23 = .ok (.iconst 0, 1) := by decide +kernel
theorem dX7_isAsked_24 : decode cX7_isAsked 24 = .ok (.ireturn, 1) := by decide +kernel
theorem dX7_isFeature_0 : decode cX7_isFeature 0 = .ok (.iload_n 1, 1) := by decide +kernel
theorem dX7_isFeature_1 : decode cX7_isFeature 1 = .ok (.getstatic 275, 3) := by decide +kernel
theorem dX7_isFeature_4 : decode cX7_isFeature 4 = .ok (.iload_n 0, 1) := by decide +kernel
theorem dX7_isFeature_5 : decode cX7_isFeature 5 = .ok (.iaload, 1) := by decide +kernel
theorem dX7_isFeature_6 : decode cX7_isFeature 6 = .ok (.getstatic 278, 3) := by decide +kernel
theorem dX7_isFeature_9 : decode cX7_isFeature 9 = .ok (.iload_n 0, 1) := by decide +kernel
theorem dX7_isFeature_10 : decode cX7_isFeature 10 = .ok (.iaload, 1) := by decide +kernel
theorem dX7_isFeature_11 : decode cX7_isFeature 11 = .ok (.invokestatic 83, 3) := by decide +kernel
theorem dX7_isFeature_14 : decode cX7_isFeature 14 = .ok (.ireturn, 1) := by decide +kernel
theorem dX7_isBody_0 : decode cX7_isBody 0 = .ok (.iload_n 1, 1) := by decide +kernel
theorem dX7_isBody_1 : decode cX7_isBody 1 = .ok (.iconst 0, 1) := by decide +kernel
theorem dX7_isBody_2 : decode cX7_isBody 2 = .ok (.aload_n 0, 1) := by decide +kernel
theorem dX7_isBody_3 : decode cX7_isBody 3 = .ok (.getfield 20, 3) := by decide +kernel
theorem dX7_isBody_6 : decode cX7_isBody 6 = .ok (.getfield 68, 3) := by decide +kernel
theorem dX7_isBody_9 : decode cX7_isBody 9 = .ok (.iconst 1, 1) := by decide +kernel
theorem dX7_isBody_10 : decode cX7_isBody 10 = .ok (.isub, 1) := by decide +kernel
theorem dX7_isBody_11 : decode cX7_isBody 11 = .ok (.invokestatic 83, 3) := by decide +kernel
theorem dX7_isBody_14 : decode cX7_isBody 14 = .ok (.ireturn, 1) := by decide +kernel
theorem dX7_isTrial_0 : decode cX7_isTrial 0 = .ok (.iload_n 1, 1) := by decide +kernel
theorem dX7_isTrial_1 : decode cX7_isTrial 1 = .ok (.iconst 1, 1) := by decide +kernel
theorem dX7_isTrial_2 : decode cX7_isTrial 2 = .ok (.iconst 3, 1) := by decide +kernel
theorem dX7_isTrial_3 : decode cX7_isTrial 3 = .ok (.invokestatic 83, 3) := by decide +kernel
theorem dX7_isTrial_6 : decode cX7_isTrial 6 = .ok (.ifCond .eq 28, 3) := by decide +kernel
theorem dX7_isTrial_9 : decode cX7_isTrial 9 = .ok (.iload_n 1, 1) := by decide +kernel
theorem dX7_isTrial_10 : decode cX7_isTrial 10 = .ok (.aload_n 0, 1) := by decide +kernel
theorem dX7_isTrial_11 : decode cX7_isTrial 11 = .ok (.getfield 20, 3) := by decide +kernel
theorem dX7_isTrial_14 : decode cX7_isTrial 14 = .ok (.getfield 68, 3) := by decide +kernel
theorem dX7_isTrial_17 : decode cX7_isTrial 17 = .ok (.if_icmp .gt 17, 3) := by decide +kernel
theorem dX7_isTrial_20 : decode cX7_isTrial 20 = .ok (.iload_n 2, 1) := by decide +kernel
theorem dX7_isTrial_21 : decode cX7_isTrial 21 = .ok (.iconst 1, 1) := by decide +kernel
theorem dX7_isTrial_22 : decode cX7_isTrial 22 = .ok (.bipush 15, 2) := by decide +kernel
theorem dX7_isTrial_24 : decode cX7_isTrial 24 = .ok (.invokestatic 83, 3) := by decide +kernel
theorem dX7_isTrial_27 : decode cX7_isTrial 27 = .ok (.ifCond .eq 7, 3) := by decide +kernel
theorem dX7_isTrial_30 : decode cX7_isTrial 30 = .ok (.iconst 1, 1) := by decide +kernel
theorem dX7_isTrial_31 : decode cX7_isTrial 31 = .ok (.goto 4, 3) := by decide +kernel
theorem dX7_isTrial_34 : decode cX7_isTrial 34 = .ok (.iconst 0, 1) := by decide +kernel
theorem dX7_isTrial_35 : decode cX7_isTrial 35 = .ok (.ireturn, 1) := by decide +kernel
theorem dX7_lensChanges_0 : decode cX7_lensChanges 0 = .ok (.aload_n 0, 1) := by decide +kernel
theorem dX7_lensChanges_1 : decode cX7_lensChanges 1 = .ok (.getfield 28, 3) := by decide +kernel
theorem dX7_lensChanges_4 : decode cX7_lensChanges 4 = .ok (.iconst 1, 1) := by decide +kernel
theorem dX7_lensChanges_5 : decode cX7_lensChanges 5 = .ok (.putfield 281, 3) := by decide +kernel
theorem dX7_lensChanges_8 : decode cX7_lensChanges 8 = .ok (.aload_n 0, 1) := by decide +kernel
theorem dX7_lensChanges_9 : decode cX7_lensChanges 9 = .ok (.getfield 51, 3) := by decide +kernel
theorem dX7_lensChanges_12 : decode cX7_lensChanges 12 = .ok (.iconst 1, 1) := by decide +kernel
theorem dX7_lensChanges_13 : decode cX7_lensChanges 13 = .ok (.putfield 207, 3) := by decide +kernel
theorem dX7_lensChanges_16 : decode cX7_lensChanges 16 = .ok (.return_, 1) := by decide +kernel
theorem dX7_markPictures_0 : decode cX7_markPictures 0 = .ok (.aload_n 0, 1) := by decide +kernel
theorem dX7_markPictures_1 : decode cX7_markPictures 1 = .ok (.getfield 28, 3) := by decide +kernel
theorem dX7_markPictures_4 : decode cX7_markPictures 4 = .ok (.invokevirtual 145, 3) := by decide +kernel
theorem dX7_markPictures_7 : decode cX7_markPictures 7 = .ok (.iload_n 1, 1) := by decide +kernel
theorem dX7_markPictures_8 : decode cX7_markPictures 8 = .ok (.iload_n 2, 1) := by decide +kernel
theorem dX7_markPictures_9 : decode cX7_markPictures 9 = .ok (.invokestatic 260, 3) := by decide +kernel
theorem dX7_markPictures_12 : decode cX7_markPictures 12 = .ok (.istore_n 3, 1) := by decide +kernel
theorem dX7_markPictures_13 : decode cX7_markPictures 13 = .ok (.iconst 0, 1) := by decide +kernel
theorem dX7_markPictures_14 : decode cX7_markPictures 14 = .ok (.istore 4, 2) := by decide +kernel
theorem dX7_markPictures_16 : decode cX7_markPictures 16 = .ok (.iconst 0, 1) := by decide +kernel
theorem dX7_markPictures_17 : decode cX7_markPictures 17 = .ok (.istore 5, 2) := by decide +kernel
theorem dX7_markPictures_19 : decode cX7_markPictures 19 = .ok (.iload 5, 2) := by decide +kernel
theorem dX7_markPictures_21 : decode cX7_markPictures 21 = .ok (.sipush 2401, 3) := by decide +kernel
theorem dX7_markPictures_24 : decode cX7_markPictures 24 = .ok (.if_icmp .ge 57, 3) := by decide +kernel
theorem dX7_markPictures_27 : decode cX7_markPictures 27 = .ok (.aload_n 0, 1) := by decide +kernel
theorem dX7_markPictures_28 : decode cX7_markPictures 28 = .ok (.getfield 28, 3) := by decide +kernel
theorem dX7_markPictures_31 : decode cX7_markPictures 31 = .ok (.getfield 161, 3) := by decide +kernel
theorem dX7_markPictures_34 : decode cX7_markPictures 34 = .ok (.iload 5, 2) := by decide +kernel
theorem dX7_markPictures_36 : decode cX7_markPictures 36 = .ok (.iaload, 1) := by decide +kernel
theorem dX7_markPictures_37 : decode cX7_markPictures 37 = .ok (.iload_n 3, 1) := by decide +kernel
theorem dX7_markPictures_38 : decode cX7_markPictures 38 = .ok (.if_icmp .ne 7, 3) := by decide +kernel
theorem dX7_markPictures_41 : decode cX7_markPictures 41 = .ok (.iconst 1, 1) := by decide +kernel
theorem dX7_markPictures_42 : decode cX7_markPictures 42 = .ok (.goto 4, 3) := by decide +kernel
theorem dX7_markPictures_45 : decode cX7_markPictures 45 = .ok (.iconst 0, 1) := by decide +kernel
theorem dX7_markPictures_46 : decode cX7_markPictures 46 = .ok (.istore 6, 2) := by decide +kernel
theorem dX7_markPictures_48 : decode cX7_markPictures 48 = .ok (.aload_n 0, 1) := by decide +kernel
theorem dX7_markPictures_49 : decode cX7_markPictures 49 = .ok (.getfield 35, 3) := by decide +kernel
theorem dX7_markPictures_52 : decode cX7_markPictures 52 = .ok (.getfield 282, 3) := by decide +kernel
theorem dX7_markPictures_55 : decode cX7_markPictures 55 = .ok (.iload 5, 2) := by decide +kernel
theorem dX7_markPictures_57 : decode cX7_markPictures 57 = .ok (.iload 6, 2) := by decide +kernel
theorem dX7_markPictures_59 : decode cX7_markPictures 59 = .ok (.bastore, 1) := by decide +kernel
theorem dX7_markPictures_60 : decode cX7_markPictures 60 = .ok (.iload 4, 2) := by decide +kernel
theorem dX7_markPictures_62 : decode cX7_markPictures 62 = .ok (.iload 6, 2) := by decide +kernel
theorem dX7_markPictures_64 : decode cX7_markPictures 64 = .ok (.ifCond .eq 7, 3) := by decide +kernel
theorem dX7_markPictures_67 : decode cX7_markPictures 67 = .ok (.iconst 1, 1) := by decide +kernel
theorem dX7_markPictures_68 : decode cX7_markPictures 68 = .ok (.goto 4, 3) := by decide +kernel
theorem dX7_markPictures_71 : decode cX7_markPictures 71 = .ok (.iconst 0, 1) := by decide +kernel
theorem dX7_markPictures_72 : decode cX7_markPictures 72 = .ok (.iadd, 1) := by decide +kernel
theorem dX7_markPictures_73 : decode cX7_markPictures 73 = .ok (.istore 4, 2) := by decide +kernel
theorem dX7_markPictures_75 : decode cX7_markPictures 75 = .ok (.iinc 5 1, 3) := by decide +kernel
theorem dX7_markPictures_78 : decode cX7_markPictures 78 = .ok (.goto (-59), 3) := by decide +kernel
theorem dX7_markPictures_81 : decode cX7_markPictures 81 = .ok (.iload 4, 2) := by decide +kernel
theorem dX7_markPictures_83 : decode cX7_markPictures 83 = .ok (.ireturn, 1) := by decide +kernel
theorem dX7_markCriticals_0 : decode cX7_markCriticals 0 = .ok (.iconst 0, 1) := by decide +kernel
theorem dX7_markCriticals_1 : decode cX7_markCriticals 1 = .ok (.istore_n 1, 1) := by decide +kernel
theorem dX7_markCriticals_2 : decode cX7_markCriticals 2 = .ok (.iconst 0, 1) := by decide +kernel
theorem dX7_markCriticals_3 : decode cX7_markCriticals 3 = .ok (.istore_n 2, 1) := by decide +kernel
theorem dX7_markCriticals_4 : decode cX7_markCriticals 4 = .ok (.iload_n 2, 1) := by decide +kernel
theorem dX7_markCriticals_5 : decode cX7_markCriticals 5 = .ok (.sipush 2401, 3) := by decide +kernel
theorem dX7_markCriticals_8 : decode cX7_markCriticals 8 = .ok (.if_icmp .ge 47, 3) := by decide +kernel
theorem dX7_markCriticals_11 : decode cX7_markCriticals 11 = .ok (.aload_n 0, 1) := by decide +kernel
theorem dX7_markCriticals_12 : decode cX7_markCriticals 12 = .ok (.getfield 28, 3) := by decide +kernel
theorem dX7_markCriticals_15 : decode cX7_markCriticals 15 = .ok (.iload_n 2, 1) := by decide +kernel
theorem dX7_markCriticals_16 : decode cX7_markCriticals 16 = .ok (.invokestatic 133, 3) := by decide +kernel
theorem dX7_markCriticals_19 : decode cX7_markCriticals 19 = .ok (.iload_n 2, 1) := by decide +kernel
theorem dX7_markCriticals_20 : decode cX7_markCriticals 20 = .ok (.invokestatic 136, 3) := by decide +kernel
theorem dX7_markCriticals_23 : decode cX7_markCriticals 23 = .ok (.invokevirtual 148, 3) := by decide +kernel
theorem dX7_markCriticals_26 : decode cX7_markCriticals 26 = .ok (.istore_n 3, 1) := by decide +kernel
theorem dX7_markCriticals_27 : decode cX7_markCriticals 27 = .ok (.aload_n 0, 1) := by decide +kernel
theorem dX7_markCriticals_28 : decode cX7_markCriticals 28 = .ok (.getfield 35, 3) := by decide +kernel
theorem dX7_markCriticals_31 : decode cX7_markCriticals 31 = .ok (.getfield 282, 3) := by decide +kernel
theorem dX7_markCriticals_34 : decode cX7_markCriticals 34 = .ok (.iload_n 2, 1) := by decide +kernel
theorem dX7_markCriticals_35 : decode cX7_markCriticals 35 = .ok (.iload_n 3, 1) := by decide +kernel
theorem dX7_markCriticals_36 : decode cX7_markCriticals 36 = .ok (.bastore, 1) := by decide +kernel
theorem dX7_markCriticals_37 : decode cX7_markCriticals 37 = .ok (.iload_n 1, 1) := by decide +kernel
theorem dX7_markCriticals_38 : decode cX7_markCriticals 38 = .ok (.iload_n 3, 1) := by decide +kernel
theorem dX7_markCriticals_39 : decode cX7_markCriticals 39 = .ok (.ifCond .eq 7, 3) := by decide +kernel
theorem dX7_markCriticals_42 : decode cX7_markCriticals 42 = .ok (.iconst 1, 1) := by decide +kernel
theorem dX7_markCriticals_43 : decode cX7_markCriticals 43 = .ok (.goto 4, 3) := by decide +kernel
theorem dX7_markCriticals_46 : decode cX7_markCriticals 46 = .ok (.iconst 0, 1) := by decide +kernel
theorem dX7_markCriticals_47 : decode cX7_markCriticals 47 = .ok (.iadd, 1) := by decide +kernel
theorem dX7_markCriticals_48 : decode cX7_markCriticals 48 = .ok (.istore_n 1, 1) := by decide +kernel
theorem dX7_markCriticals_49 : decode cX7_markCriticals 49 = .ok (.iinc 2 1, 3) := by decide +kernel
theorem dX7_markCriticals_52 : decode cX7_markCriticals 52 = .ok (.goto (-48), 3) := by decide +kernel
theorem dX7_markCriticals_55 : decode cX7_markCriticals 55 = .ok (.iload_n 1, 1) := by decide +kernel
theorem dX7_markCriticals_56 : decode cX7_markCriticals 56 = .ok (.ireturn, 1) := by decide +kernel
theorem dX7_pixelAt_0 : decode cX7_pixelAt 0 = .ok (.iload_n 1, 1) := by decide +kernel
theorem dX7_pixelAt_1 : decode cX7_pixelAt 1 = .ok (.bipush 24, 2) := by decide +kernel
theorem dX7_pixelAt_3 : decode cX7_pixelAt 3 = .ok (.iadd, 1) := by decide +kernel
theorem dX7_pixelAt_4 : decode cX7_pixelAt 4 = .ok (.bipush 49, 2) := by decide +kernel
theorem dX7_pixelAt_6 : decode cX7_pixelAt 6 = .ok (.imul, 1) := by decide +kernel
theorem dX7_pixelAt_7 : decode cX7_pixelAt 7 = .ok (.iload_n 0, 1) := by decide +kernel
theorem dX7_pixelAt_8 : decode cX7_pixelAt 8 = .ok (.iadd, 1) := by decide +kernel
theorem dX7_pixelAt_9 : decode cX7_pixelAt 9 = .ok (.bipush 24, 2) := by decide +kernel
theorem dX7_pixelAt_11 : decode cX7_pixelAt 11 = .ok (.iadd, 1) := by decide +kernel
theorem dX7_pixelAt_12 : decode cX7_pixelAt 12 = .ok (.ireturn, 1) := by decide +kernel
theorem dX7_xOf_0 : decode cX7_xOf 0 = .ok (.iload_n 0, 1) := by decide +kernel
theorem dX7_xOf_1 : decode cX7_xOf 1 = .ok (.bipush 49, 2) := by decide +kernel
theorem dX7_xOf_3 : decode cX7_xOf 3 = .ok (.irem, 1) := by decide +kernel
theorem dX7_xOf_4 : decode cX7_xOf 4 = .ok (.bipush 24, 2) := by decide +kernel
theorem dX7_xOf_6 : decode cX7_xOf 6 = .ok (.isub, 1) := by decide +kernel
theorem dX7_xOf_7 : decode cX7_xOf 7 = .ok (.ireturn, 1) := by decide +kernel
theorem dX7_yOf_0 : decode cX7_yOf 0 = .ok (.iload_n 0, 1) := by decide +kernel
theorem dX7_yOf_1 : decode cX7_yOf 1 = .ok (.bipush 49, 2) := by decide +kernel
theorem dX7_yOf_3 : decode cX7_yOf 3 = .ok (.idiv, 1) := by decide +kernel
theorem dX7_yOf_4 : decode cX7_yOf 4 = .ok (.bipush 24, 2) := by decide +kernel
theorem dX7_yOf_6 : decode cX7_yOf 6 = .ok (.isub, 1) := by decide +kernel
theorem dX7_yOf_7 : decode cX7_yOf 7 = .ok (.ireturn, 1) := by decide +kernel
theorem dX7_cellOf_0 : decode cX7_cellOf 0 = .ok (.iload_n 0, 1) := by decide +kernel
theorem dX7_cellOf_1 : decode cX7_cellOf 1 = .ok (.bipush 8, 2) := by decide +kernel
theorem dX7_cellOf_3 : decode cX7_cellOf 3 = .ok (.iadd, 1) := by decide +kernel
theorem dX7_cellOf_4 : decode cX7_cellOf 4 = .ok (.bipush 16, 2) := by decide +kernel
theorem dX7_cellOf_6 : decode cX7_cellOf 6 = .ok (.invokestatic 286, 3) := by decide +kernel
theorem dX7_cellOf_9 : decode cX7_cellOf 9 = .ok (.ireturn, 1) := by decide +kernel
theorem dX7_keyOf_0 : decode cX7_keyOf 0 = .ok (.iload_n 1, 1) := by decide +kernel
theorem dX7_keyOf_1 : decode cX7_keyOf 1 = .ok (.sipush 4096, 3) := by decide +kernel
theorem dX7_keyOf_4 : decode cX7_keyOf 4 = .ok (.iadd, 1) := by decide +kernel
theorem dX7_keyOf_5 : decode cX7_keyOf 5 = .ok (.sipush 8192, 3) := by decide +kernel
theorem dX7_keyOf_8 : decode cX7_keyOf 8 = .ok (.imul, 1) := by decide +kernel
theorem dX7_keyOf_9 : decode cX7_keyOf 9 = .ok (.iload_n 0, 1) := by decide +kernel
theorem dX7_keyOf_10 : decode cX7_keyOf 10 = .ok (.iadd, 1) := by decide +kernel
theorem dX7_keyOf_11 : decode cX7_keyOf 11 = .ok (.sipush 4096, 3) := by decide +kernel
theorem dX7_keyOf_14 : decode cX7_keyOf 14 = .ok (.iadd, 1) := by decide +kernel
theorem dX7_keyOf_15 : decode cX7_keyOf 15 = .ok (.ireturn, 1) := by decide +kernel
theorem dX8_init_0 : decode cX8_init 0 = .ok (.aload_n 0, 1) := by decide +kernel
theorem dX8_init_1 : decode cX8_init 1 = .ok (.invokespecial 1, 3) := by decide +kernel
theorem dX8_init_4 : decode cX8_init 4 = .ok (.aload_n 0, 1) := by decide +kernel
theorem dX8_init_5 : decode cX8_init 5 = .ok (.bipush 96, 2) := by decide +kernel
theorem dX8_init_7 : decode cX8_init 7 = .ok (.newarray .int, 2) := by decide +kernel
theorem dX8_init_9 : decode cX8_init 9 = .ok (.putfield 7, 3) := by decide +kernel
theorem dX8_init_12 : decode cX8_init 12 = .ok (.aload_n 0, 1) := by decide +kernel
theorem dX8_init_13 : decode cX8_init 13 = .ok (.sipush 200, 3) := by decide +kernel
theorem dX8_init_16 : decode cX8_init 16 = .ok (.newarray .byte, 2) := by decide +kernel
theorem dX8_init_18 : decode cX8_init 18 = .ok (.putfield 13, 3) := by decide +kernel
theorem dX8_init_21 : decode cX8_init 21 = .ok (.aload_n 0, 1) := by decide +kernel
theorem dX8_init_22 : decode cX8_init 22 = .ok (.bipush 40, 2) := by decide +kernel
theorem dX8_init_24 : decode cX8_init 24 = .ok (.newarray .int, 2) := by decide +kernel
theorem dX8_init_26 : decode cX8_init 26 = .ok (.putfield 17, 3) := by decide +kernel
theorem dX8_init_29 : decode cX8_init 29 = .ok (.aload_n 0, 1) := by decide +kernel
theorem dX8_init_30 : decode cX8_init 30 = .ok (.bipush 8, 2) := by decide +kernel
theorem dX8_init_32 : decode cX8_init 32 = .ok (.putfield 20, 3) := by decide +kernel
theorem dX8_init_35 : decode cX8_init 35 = .ok (.aload_n 0, 1) := by decide +kernel
theorem dX8_init_36 : decode cX8_init 36 = .ok (.iconst 5, 1) := by decide +kernel
theorem dX8_init_37 : decode cX8_init 37 = .ok (.putfield 24, 3) := by decide +kernel
theorem dX8_init_40 : decode cX8_init 40 = .ok (.aload_n 0, 1) := by decide +kernel
theorem dX8_init_41 : decode cX8_init 41 = .ok (.bipush 8, 2) := by decide +kernel
theorem dX8_init_43 : decode cX8_init 43 = .ok (.newarray .int, 2) := by decide +kernel
theorem dX8_init_45 : decode cX8_init 45 = .ok (.putfield 27, 3) := by decide +kernel
theorem dX8_init_48 : decode cX8_init 48 = .ok (.aload_n 0, 1) := by decide +kernel
theorem dX8_init_49 : decode cX8_init 49 = .ok (.bipush 8, 2) := by decide +kernel
theorem dX8_init_51 : decode cX8_init 51 = .ok (.newarray .int, 2) := by decide +kernel
theorem dX8_init_53 : decode cX8_init 53 = .ok (.putfield 30, 3) := by decide +kernel
theorem dX8_init_56 : decode cX8_init 56 = .ok (.aload_n 0, 1) := by decide +kernel
theorem dX8_init_57 : decode cX8_init 57 = .ok (.sipush 2401, 3) := by decide +kernel
theorem dX8_init_60 : decode cX8_init 60 = .ok (.newarray .int, 2) := by decide +kernel
theorem dX8_init_62 : decode cX8_init 62 = .ok (.putfield 33, 3) := by decide +kernel
theorem dX8_init_65 : decode cX8_init 65 = .ok (.aload_n 0, 1) := by decide +kernel
theorem dX8_init_66 : decode cX8_init 66 = .ok (.sipush 2601, 3) := by decide +kernel
theorem dX8_init_69 : decode cX8_init 69 = .ok (.newarray .int, 2) := by decide +kernel
theorem dX8_init_71 : decode cX8_init 71 = .ok (.putfield 36, 3) := by decide +kernel
theorem dX8_init_74 : decode cX8_init 74 = .ok (.aload_n 0, 1) := by decide +kernel
theorem dX8_init_75 : decode cX8_init 75 = .ok (.sipush 2601, 3) := by decide +kernel
theorem dX8_init_78 : decode cX8_init 78 = .ok (.newarray .int, 2) := by decide +kernel
theorem dX8_init_80 : decode cX8_init 80 = .ok (.putfield 39, 3) := by decide +kernel
theorem dX8_init_83 : decode cX8_init 83 = .ok (.aload_n 0, 1) := by decide +kernel
theorem dX8_init_84 : decode cX8_init 84 = .ok (.sipush 2401, 3) := by decide +kernel
theorem dX8_init_87 : decode cX8_init 87 = .ok (.newarray .boolean, 2) := by decide +kernel
theorem dX8_init_89 : decode cX8_init 89 = .ok (.putfield 42, 3) := by decide +kernel
theorem dX8_init_92 : decode cX8_init 92 = .ok (.aload_n 0, 1) := by decide +kernel
theorem dX8_init_93 : decode cX8_init 93 = .ok (.sipush 2401, 3) := by decide +kernel
theorem dX8_init_96 : decode cX8_init 96 = .ok (.newarray .int, 2) := by decide +kernel
theorem dX8_init_98 : decode cX8_init 98 = .ok (.putfield 46, 3) := by decide +kernel
theorem dX8_init_101 : decode cX8_init 101 = .ok (.aload_n 0, 1) := by decide +kernel
theorem dX8_init_102 : decode cX8_init 102 = .ok (.sipush 2401, 3) := by decide +kernel
theorem dX8_init_105 : decode cX8_init 105 = .ok (.newarray .int, 2) := by decide +kernel
theorem dX8_init_107 : decode cX8_init 107 = .ok (.putfield 49, 3) := by decide +kernel
theorem dX8_init_110 : decode cX8_init 110 = .ok (.aload_n 0, 1) := by decide +kernel
theorem dX8_init_111 : decode cX8_init 111 = .ok (.sipush 2401, 3) := by decide +kernel
theorem dX8_init_114 : decode cX8_init 114 = .ok (.newarray .int, 2) := by decide +kernel
theorem dX8_init_116 : decode cX8_init 116 = .ok (.putfield 52, 3) := by decide +kernel
theorem dX8_init_119 : decode cX8_init 119 = .ok (.aload_n 0, 1) := by decide +kernel
theorem dX8_init_120 : decode cX8_init 120 = .ok (.sipush 2401, 3) := by decide +kernel
theorem dX8_init_123 : decode cX8_init 123 = .ok (.newarray .int, 2) := by decide +kernel
theorem dX8_init_125 : decode cX8_init 125 = .ok (.putfield 55, 3) := by decide +kernel
theorem dX8_init_128 : decode cX8_init 128 = .ok (.aload_n 0, 1) := by decide +kernel
theorem dX8_init_129 : decode cX8_init 129 = .ok (.sipush 4096, 3) := by decide +kernel
theorem dX8_init_132 : decode cX8_init 132 = .ok (.newarray .int, 2) := by decide +kernel
theorem dX8_init_134 : decode cX8_init 134 = .ok (.putfield 58, 3) := by decide +kernel
theorem dX8_init_137 : decode cX8_init 137 = .ok (.aload_n 0, 1) := by decide +kernel
theorem dX8_init_138 : decode cX8_init 138 = .ok (.ldc 61, 2) := by decide +kernel
theorem dX8_init_140 : decode cX8_init 140 = .ok (.newarray .int, 2) := by decide +kernel
theorem dX8_init_142 : decode cX8_init 142 = .ok (.putfield 62, 3) := by decide +kernel
theorem dX8_init_145 : decode cX8_init 145 = .ok (.aload_n 0, 1) := by decide +kernel
theorem dX8_init_146 : decode cX8_init 146 = .ok (.ldc 61, 2) := by decide +kernel
theorem dX8_init_148 : decode cX8_init 148 = .ok (.newarray .int, 2) := by decide +kernel
theorem dX8_init_150 : decode cX8_init 150 = .ok (.putfield 65, 3) := by decide +kernel
theorem dX8_init_153 : decode cX8_init 153 = .ok (.aload_n 0, 1) := by decide +kernel
theorem dX8_init_154 : decode cX8_init 154 = .ok (.sipush 8192, 3) := by decide +kernel
theorem dX8_init_157 : decode cX8_init 157 = .ok (.newarray .int, 2) := by decide +kernel
theorem dX8_init_159 : decode cX8_init 159 = .ok (.putfield 68, 3) := by decide +kernel
theorem dX8_init_162 : decode cX8_init 162 = .ok (.aload_n 0, 1) := by decide +kernel
theorem dX8_init_163 : decode cX8_init 163 = .ok (.sipush 4096, 3) := by decide +kernel
theorem dX8_init_166 : decode cX8_init 166 = .ok (.newarray .int, 2) := by decide +kernel
theorem dX8_init_168 : decode cX8_init 168 = .ok (.putfield 71, 3) := by decide +kernel
theorem dX8_init_171 : decode cX8_init 171 = .ok (.iconst 0, 1) := by decide +kernel
theorem dX8_init_172 : decode cX8_init 172 = .ok (.istore_n 1, 1) := by decide +kernel
theorem dX8_init_173 : decode cX8_init 173 = .ok (.iload_n 1, 1) := by decide +kernel
theorem dX8_init_174 : decode cX8_init 174 = .ok (.sipush 2401, 3) := by decide +kernel
theorem dX8_init_177 : decode cX8_init 177 = .ok (.if_icmp .ge 17, 3) := by decide +kernel
theorem dX8_init_180 : decode cX8_init 180 = .ok (.aload_n 0, 1) := by decide +kernel
theorem dX8_init_181 : decode cX8_init 181 = .ok (.getfield 33, 3) := by decide +kernel
theorem dX8_init_184 : decode cX8_init 184 = .ok (.iload_n 1, 1) := by decide +kernel
theorem dX8_init_185 : decode cX8_init 185 = .ok (.bipush (-9), 2) := by decide +kernel
theorem dX8_init_187 : decode cX8_init 187 = .ok (.iastore, 1) := by decide +kernel
theorem dX8_init_188 : decode cX8_init 188 = .ok (.iinc 1 1, 3) := by decide +kernel
theorem dX8_init_191 : decode cX8_init 191 = .ok (.goto (-18), 3) := by decide +kernel
theorem dX8_init_194 : decode cX8_init 194 = .ok (.return_, 1) := by decide +kernel
theorem dX8_in_0 : decode cX8_in 0 = .ok (.iload_n 0, 1) := by decide +kernel
theorem dX8_in_1 : decode cX8_in 1 = .ok (.iload_n 1, 1) := by decide +kernel
theorem dX8_in_2 : decode cX8_in 2 = .ok (.if_icmp .lt 12, 3) := by decide +kernel
theorem dX8_in_5 : decode cX8_in 5 = .ok (.iload_n 0, 1) := by decide +kernel
theorem dX8_in_6 : decode cX8_in 6 = .ok (.iload_n 2, 1) := by decide +kernel
theorem dX8_in_7 : decode cX8_in 7 = .ok (.if_icmp .gt 7, 3) := by decide +kernel
theorem dX8_in_10 : decode cX8_in 10 = .ok (.iconst 1, 1) := by decide +kernel
theorem dX8_in_11 : decode cX8_in 11 = .ok (.goto 4, 3) := by decide +kernel
theorem dX8_in_14 : decode cX8_in 14 = .ok (.iconst 0, 1) := by decide +kernel
theorem dX8_in_15 : decode cX8_in 15 = .ok (.ireturn, 1) := by decide +kernel
theorem dX8_isNear_0 : decode cX8_isNear 0 = .ok (.iload_n 0, 1) := by decide +kernel
theorem dX8_isNear_1 : decode cX8_isNear 1 = .ok (.iload_n 2, 1) := by decide +kernel
theorem dX8_isNear_2 : decode cX8_isNear 2 = .ok (.ineg, 1) := by decide +kernel
theorem dX8_isNear_3 : decode cX8_isNear 3 = .ok (.iload_n 2, 1) := by decide +kernel
theorem dX8_isNear_4 : decode cX8_isNear 4 = .ok (.invokestatic 74, 3) := by decide +kernel
theorem dX8_isNear_7 : decode cX8_isNear 7 = .ok (.ifCond .eq 17, 3) := by decide +kernel
theorem dX8_isNear_10 : decode cX8_isNear 10 = .ok (.iload_n 1, 1) := by decide +kernel
theorem dX8_isNear_11 : decode cX8_isNear 11 = .ok (.iload_n 2, 1) := by decide +kernel
theorem dX8_isNear_12 : decode cX8_isNear 12 = .ok (.ineg, 1) := by decide +kernel
theorem dX8_isNear_13 : decode cX8_isNear 13 = .ok (.iload_n 2, 1) := by decide +kernel
theorem dX8_isNear_14 : decode cX8_isNear 14 = .ok (.invokestatic 74, 3) := by decide +kernel
theorem dX8_isNear_17 : decode cX8_isNear 17 = .ok (.ifCond .eq 7, 3) := by decide +kernel
theorem dX8_isNear_20 : decode cX8_isNear 20 = .ok (.iconst 1, 1) := by decide +kernel
theorem dX8_isNear_21 : decode cX8_isNear 21 = .ok (.goto 4, 3) := by decide +kernel
theorem dX8_isNear_24 : decode cX8_isNear 24 = .ok (.iconst 0, 1) := by decide +kernel
theorem dX8_isNear_25 : decode cX8_isNear 25 = .ok (.ireturn, 1) := by decide +kernel
theorem dX8_floored_0 : decode cX8_floored 0 = .ok (.lload_n 0, 1) := by decide +kernel
theorem dX8_floored_1 : decode cX8_floored 1 = .ok (.iload_n 2, 1) := by decide +kernel
theorem dX8_floored_2 : decode cX8_floored 2 = .ok (.i2l, 1) := by decide +kernel
theorem dX8_floored_3 : decode cX8_floored 3 = .ok (.ldiv, 1) := by decide +kernel
theorem dX8_floored_4 : decode cX8_floored 4 = .ok (.lstore_n 3, 1) := by decide +kernel
theorem dX8_floored_5 : decode cX8_floored 5 = .ok (.lload_n 0, 1) := by decide +kernel
theorem dX8_floored_6 : decode cX8_floored 6 = .ok (.iload_n 2, 1) := by decide +kernel
theorem dX8_floored_7 : decode cX8_floored 7 = .ok (.i2l, 1) := by decide +kernel
theorem dX8_floored_8 : decode cX8_floored 8 = .ok (.lrem, 1) := by decide +kernel
theorem dX8_floored_9 : decode cX8_floored 9 = .ok (.lconst 0, 1) := by decide +kernel
theorem dX8_floored_10 : decode cX8_floored 10 = .ok (.lcmp, 1) := by decide +kernel
theorem dX8_floored_11 : decode cX8_floored 11 = .ok (.ifCond .ge 9, 3) := by decide +kernel
theorem dX8_floored_14 : decode cX8_floored 14 = .ok (.lload_n 3, 1) := by decide +kernel
theorem dX8_floored_15 : decode cX8_floored 15 = .ok (.lconst 1, 1) := by decide +kernel
theorem dX8_floored_16 : decode cX8_floored 16 = .ok (.lsub, 1) := by decide +kernel
theorem dX8_floored_17 : decode cX8_floored 17 = .ok (.goto 4, 3) := by decide +kernel
theorem dX8_floored_20 : decode cX8_floored 20 = .ok (.lload_n 3, 1) := by decide +kernel
theorem dX8_floored_21 : decode cX8_floored 21 = .ok (.l2i, 1) := by decide +kernel
theorem dX8_floored_22 : decode cX8_floored 22 = .ok (.ireturn, 1) := by decide +kernel
theorem dX8_isTold_0 : decode cX8_isTold 0 = .ok (.iload_n 0, 1) := by decide +kernel
theorem dX8_isTold_1 : decode cX8_isTold 1 = .ok (.ifCond .ne 12, 3) := by decide +kernel
theorem dX8_isTold_4 : decode cX8_isTold 4 = .ok (.iload_n 1, 1) := by decide +kernel
theorem dX8_isTold_5 : decode cX8_isTold 5 = .ok (.iconst 0, 1) := by decide +kernel
theorem dX8_isTold_6 : decode cX8_isTold 6 = .ok (.iconst 2, 1) := by decide +kernel
theorem dX8_isTold_7 : decode cX8_isTold 7 = .ok (.invokestatic 74, 3) := by decide +kernel
theorem dX8_isTold_10 : decode cX8_isTold 10 = .ok (.goto 58, 3) := by decide +kernel
theorem dX8_isTold_13 : decode cX8_isTold 13 = .ok (.iload_n 0, 1) := by decide +kernel
theorem dX8_isTold_14 : decode cX8_isTold 14 = .ok (.iconst 3, 1) := by decide +kernel
theorem dX8_isTold_15 : decode cX8_isTold 15 = .ok (.if_icmp .ge 14, 3) := by decide +kernel
theorem dX8_isTold_18 : decode cX8_isTold 18 = .ok (.iload_n 1, 1) := by decide +kernel
theorem dX8_isTold_19 : decode cX8_isTold 19 = .ok (.bipush (-40), 2) := by decide +kernel
theorem dX8_isTold_21 : decode cX8_isTold 21 = .ok (.bipush 40, 2) := by decide +kernel
theorem dX8_isTold_23 : decode cX8_isTold 23 = .ok (.invokestatic 74, 3) := by decide +kernel
theorem dX8_isTold_26 : decode cX8_isTold 26 = .ok (.goto 42, 3) := by decide +kernel
theorem dX8_isTold_29 : decode cX8_isTold 29 = .ok (.iload_n 0, 1) := by decide +kernel
theorem dX8_isTold_30 : decode cX8_isTold 30 = .ok (.iconst 3, 1) := by decide +kernel
theorem dX8_isTold_31 : decode cX8_isTold 31 = .ok (.if_icmp .ne 14, 3) := by decide +kernel
theorem dX8_isTold_34 : decode cX8_isTold 34 = .ok (.iload_n 1, 1) := by decide +kernel
theorem dX8_isTold_35 : decode cX8_isTold 35 = .ok (.iconst 0, 1) := by decide +kernel
theorem dX8_isTold_36 : decode cX8_isTold 36 = .ok (.sipush 400, 3) := by decide +kernel
theorem dX8_isTold_39 : decode cX8_isTold 39 = .ok (.invokestatic 74, 3) := by decide +kernel
theorem dX8_isTold_42 : decode cX8_isTold 42 = .ok (.goto 26, 3) := by decide +kernel
theorem dX8_isTold_45 : decode cX8_isTold 45 = .ok (.iload_n 0, 1) := by decide +kernel
theorem dX8_isTold_46 : decode cX8_isTold 46 = .ok (.iconst 4, 1) := by decide +kernel
theorem dX8_isTold_47 : decode cX8_isTold 47 = .ok (.if_icmp .ne 14, 3) := by decide +kernel
theorem dX8_isTold_50 : decode cX8_isTold 50 = .ok (.iload_n 1, 1) := by decide +kernel
theorem dX8_isTold_51 : decode cX8_isTold 51 = .ok (.iconst 0, 1) := by decide +kernel
theorem dX8_isTold_52 : decode cX8_isTold 52 = .ok (.sipush 900, 3) := by decide +kernel
theorem dX8_isTold_55 : decode cX8_isTold 55 = .ok (.invokestatic 74, 3) := by decide +kernel
theorem dX8_isTold_58 : decode cX8_isTold 58 = .ok (.goto 10, 3) := by decide +kernel
theorem dX8_isTold_61 : decode cX8_isTold 61 = .ok (.iload_n 1, 1) := by decide +kernel
theorem dX8_isTold_62 : decode cX8_isTold 62 = .ok (.iconst 0, 1) := by decide +kernel
theorem dX8_isTold_63 : decode cX8_isTold 63 = .ok (.bipush 90, 2) := by decide +kernel
theorem dX8_isTold_65 : decode cX8_isTold 65 = .ok (.invokestatic 74, 3) := by decide +kernel
theorem dX8_isTold_68 : decode cX8_isTold 68 = .ok (.ireturn, 1) := by decide +kernel
theorem dX8_isBody_0 : decode cX8_isBody 0 = .ok (.iload_n 1, 1) := by decide +kernel
theorem dX8_isBody_1 : decode cX8_isBody 1 = .ok (.iconst 0, 1) := by decide +kernel
theorem dX8_isBody_2 : decode cX8_isBody 2 = .ok (.aload_n 0, 1) := by decide +kernel
theorem dX8_isBody_3 : decode cX8_isBody 3 = .ok (.getfield 78, 3) := by decide +kernel
theorem dX8_isBody_6 : decode cX8_isBody 6 = .ok (.iconst 1, 1) := by decide +kernel
theorem dX8_isBody_7 : decode cX8_isBody 7 = .ok (.isub, 1) := by decide +kernel
theorem dX8_isBody_8 : decode cX8_isBody 8 = .ok (.invokestatic 74, 3) := by decide +kernel
theorem dX8_isBody_11 : decode cX8_isBody 11 = .ok (.ireturn, 1) := by decide +kernel
theorem dX8_body_0 : decode cX8_body 0 = .ok (.iload_n 1, 1) := by decide +kernel
theorem dX8_body_1 : decode cX8_body 1 = .ok (.iconst 0, 1) := by decide +kernel
theorem dX8_body_2 : decode cX8_body 2 = .ok (.iconst 2, 1) := by decide +kernel
theorem dX8_body_3 : decode cX8_body 3 = .ok (.invokestatic 74, 3) := by decide +kernel
theorem dX8_body_6 : decode cX8_body 6 = .ok (.ifCond .eq 25, 3) := by decide +kernel
theorem dX8_body_9 : decode cX8_body 9 = .ok (.iload_n 2, 1) := by decide +kernel
theorem dX8_body_10 : decode cX8_body 10 = .ok (.iload_n 3, 1) := by decide +kernel
theorem dX8_body_11 : decode cX8_body 11 = .ok (.bipush 40, 2) := by decide +kernel
theorem dX8_body_13 : decode cX8_body 13 = .ok (.invokestatic 81, 3) := by decide +kernel
theorem dX8_body_16 : decode cX8_body 16 = .ok (.ifCond .eq 15, 3) := by decide +kernel
theorem dX8_body_19 : decode cX8_body 19 = .ok (.iload 4, 2) := by decide +kernel
theorem dX8_body_21 : decode cX8_body 21 = .ok (.iconst 0, 1) := by decide +kernel
theorem dX8_body_22 : decode cX8_body 22 = .ok (.sipush 400, 3) := by decide +kernel
theorem dX8_body_25 : decode cX8_body 25 = .ok (.invokestatic 74, 3) := by decide +kernel
theorem dX8_body_28 : decode cX8_body 28 = .ok (.ifCond .ne 5, 3) := by decide +kernel
theorem dX8_body_31 : decode cX8_body 31 = .ok (.iconst (-1), 1) := by decide +kernel
theorem dX8_body_32 : decode cX8_body 32 = .ok (.ireturn, 1) := by decide +kernel
theorem dX8_body_33 : decode cX8_body 33 = .ok (.aload_n 0, 1) := by decide +kernel
theorem dX8_body_34 : decode cX8_body 34 = .ok (.getfield 78, 3) := by decide +kernel
theorem dX8_body_37 : decode cX8_body 37 = .ok (.bipush 8, 2) := by decide +kernel
theorem dX8_body_39 : decode cX8_body 39 = .ok (.if_icmp .ne 6, 3) := by decide +kernel
theorem dX8_body_42 : decode cX8_body 42 = .ok (.bipush (-3), 2) := by decide +kernel
theorem dX8_body_44 : decode cX8_body 44 = .ok (.ireturn, 1) := by decide +kernel
theorem dX8_body_45 : decode cX8_body 45 = .ok (.bipush 6, 2) := by decide +kernel
theorem dX8_body_47 : decode cX8_body 47 = .ok (.aload_n 0, 1) := by decide +kernel
theorem dX8_body_48 : decode cX8_body 48 = .ok (.getfield 78, 3) := by decide +kernel
theorem dX8_body_51 : decode cX8_body 51 = .ok (.imul, 1) := by decide +kernel
theorem dX8_body_52 : decode cX8_body 52 = .ok (.istore 5, 2) := by decide +kernel
theorem dX8_body_54 : decode cX8_body 54 = .ok (.aload_n 0, 1) := by decide +kernel
theorem dX8_body_55 : decode cX8_body 55 = .ok (.getfield 7, 3) := by decide +kernel
theorem dX8_body_58 : decode cX8_body 58 = .ok (.iload 5, 2) := by decide +kernel
theorem dX8_body_60 : decode cX8_body 60 = .ok (.iload_n 1, 1) := by decide +kernel
theorem dX8_body_61 : decode cX8_body 61 = .ok (.iastore, 1) := by decide +kernel
theorem dX8_body_62 : decode cX8_body 62 = .ok (.aload_n 0, 1) := by decide +kernel
theorem dX8_body_63 : decode cX8_body 63 = .ok (.getfield 7, 3) := by decide +kernel
theorem dX8_body_66 : decode cX8_body 66 = .ok (.iload 5, 2) := by decide +kernel
theorem dX8_body_68 : decode cX8_body 68 = .ok (.iconst 1, 1) := by decide +kernel
theorem dX8_body_69 : decode cX8_body 69 = .ok (.iadd, 1) := by decide +kernel
theorem dX8_body_70 : decode cX8_body 70 = .ok (.iload_n 2, 1) := by decide +kernel
theorem dX8_body_71 : decode cX8_body 71 = .ok (.iastore, 1) := by decide +kernel
theorem dX8_body_72 : decode cX8_body 72 = .ok (.aload_n 0, 1) := by decide +kernel
theorem dX8_body_73 : decode cX8_body 73 = .ok (.getfield 7, 3) := by decide +kernel
theorem dX8_body_76 : decode cX8_body 76 = .ok (.iload 5, 2) := by decide +kernel
theorem dX8_body_78 : decode cX8_body 78 = .ok (.iconst 2, 1) := by decide +kernel
theorem dX8_body_79 : decode cX8_body 79 = .ok (.iadd, 1) := by decide +kernel
theorem dX8_body_80 : decode cX8_body 80 = .ok (.iload_n 3, 1) := by decide +kernel
theorem dX8_body_81 : decode cX8_body 81 = .ok (.iastore, 1) := by decide +kernel
theorem dX8_body_82 : decode cX8_body 82 = .ok (.aload_n 0, 1) := by decide +kernel
theorem dX8_body_83 : decode cX8_body 83 = .ok (.getfield 7, 3) := by decide +kernel
theorem dX8_body_86 : decode cX8_body 86 = .ok (.iload 5, 2) := by decide +kernel
theorem dX8_body_88 : decode cX8_body 88 = .ok (.iconst 3, 1) := by decide +kernel
theorem dX8_body_89 : decode cX8_body 89 = .ok (.iadd, 1) := by decide +kernel
theorem dX8_body_90 : decode cX8_body 90 = .ok (.iload 4, 2) := by decide +kernel
theorem dX8_body_92 : decode cX8_body 92 = .ok (.iastore, 1) := by decide +kernel
theorem dX8_body_93 : decode cX8_body 93 = .ok (.aload_n 0, 1) := by decide +kernel
theorem dX8_body_94 : decode cX8_body 94 = .ok (.getfield 7, 3) := by decide +kernel
theorem dX8_body_97 : decode cX8_body 97 = .ok (.iload 5, 2) := by decide +kernel
theorem dX8_body_99 : decode cX8_body 99 = .ok (.iconst 4, 1) := by decide +kernel
theorem dX8_body_100 : decode cX8_body 100 = .ok (.iadd, 1) := by decide +kernel
theorem dX8_body_101 : decode cX8_body 101 = .ok (.iconst 0, 1) := by decide +kernel
theorem dX8_body_102 : decode cX8_body 102 = .ok (.iastore, 1) := by decide +kernel
theorem dX8_body_103 : decode cX8_body 103 = .ok (.aload_n 0, 1) := by decide +kernel
theorem dX8_body_104 : decode cX8_body 104 = .ok (.getfield 7, 3) := by decide +kernel
theorem dX8_body_107 : decode cX8_body 107 = .ok (.iload 5, 2) := by decide +kernel
theorem dX8_body_109 : decode cX8_body 109 = .ok (.iconst 5, 1) := by decide +kernel
theorem dX8_body_110 : decode cX8_body 110 = .ok (.iadd, 1) := by decide +kernel
theorem dX8_body_111 : decode cX8_body 111 = .ok (.bipush 90, 2) := by decide +kernel
theorem dX8_body_113 : decode cX8_body 113 = .ok (.iastore, 1) := by decide +kernel
theorem dX8_body_114 : decode cX8_body 114 = .ok (.aload_n 0, 1) := by decide +kernel
theorem dX8_body_115 : decode cX8_body 115 = .ok (.dup, 1) := by decide +kernel
theorem dX8_body_116 : decode cX8_body 116 = .ok (.getfield 78, 3) := by decide +kernel
theorem dX8_body_119 : decode cX8_body 119 = .ok (.iconst 1, 1) := by decide +kernel
theorem dX8_body_120 : decode cX8_body 120 = .ok (.iadd, 1) := by decide +kernel
theorem dX8_body_121 : decode cX8_body 121 = .ok (.putfield 78, 3) := by decide +kernel
theorem dX8_body_124 : decode cX8_body 124 = .ok (.aload_n 0, 1) := by decide +kernel
theorem dX8_body_125 : decode cX8_body 125 = .ok (.getfield 78, 3) := by decide +kernel
theorem dX8_body_128 : decode cX8_body 128 = .ok (.iconst 1, 1) := by decide +kernel
theorem dX8_body_129 : decode cX8_body 129 = .ok (.isub, 1) := by decide +kernel
theorem dX8_body_130 : decode cX8_body 130 = .ok (.ireturn, 1) := by decide +kernel
theorem dX8_set_0 : decode cX8_set 0 = .ok (.aload_n 0, 1) := by decide +kernel
theorem dX8_set_1 : decode cX8_set 1 = .ok (.iload_n 1, 1) := by decide +kernel
theorem dX8_set_2 : decode cX8_set 2 = .ok (.invokevirtual 84, 3) := by decide +kernel
theorem dX8_set_5 : decode cX8_set 5 = .ok (.ifCond .eq 20, 3) := by decide +kernel
theorem dX8_set_8 : decode cX8_set 8 = .ok (.iload_n 2, 1) := by decide +kernel
theorem dX8_set_9 : decode cX8_set 9 = .ok (.iconst 0, 1) := by decide +kernel
theorem dX8_set_10 : decode cX8_set 10 = .ok (.iconst 5, 1) := by decide +kernel
theorem dX8_set_11 : decode cX8_set 11 = .ok (.invokestatic 74, 3) := by decide +kernel
theorem dX8_set_14 : decode cX8_set 14 = .ok (.ifCond .eq 11, 3) := by decide +kernel
theorem dX8_set_17 : decode cX8_set 17 = .ok (.iload_n 2, 1) := by decide +kernel
theorem dX8_set_18 : decode cX8_set 18 = .ok (.iload_n 3, 1) := by decide +kernel
theorem dX8_set_19 : decode cX8_set 19 = .ok (.invokestatic 88, 3) := by decide +kernel
theorem dX8_set_22 : decode cX8_set 22 = .ok (.ifCond .ne 6, 3) := by decide +kernel
theorem dX8_set_25 : decode cX8_set 25 = .ok (.ldc 92, 2) := by decide +kernel
theorem dX8_set_27 : decode cX8_set 27 = .ok (.ireturn, 1) := by decide +kernel
theorem dX8_set_28 : decode cX8_set 28 = .ok (.aload_n 0, 1) := by decide +kernel
theorem dX8_set_29 : decode cX8_set 29 = .ok (.getfield 7, 3) := by decide +kernel
theorem dX8_set_32 : decode cX8_set 32 = .ok (.bipush 6, 2) := by decide +kernel
theorem dX8_set_34 : decode cX8_set 34 = .ok (.iload_n 1, 1) := by decide +kernel
theorem dX8_set_35 : decode cX8_set 35 = .ok (.imul, 1) := by decide +kernel
theorem dX8_set_36 : decode cX8_set 36 = .ok (.iload_n 2, 1) := by decide +kernel
theorem dX8_set_37 : decode cX8_set 37 = .ok (.iadd, 1) := by decide +kernel
theorem dX8_set_38 : decode cX8_set 38 = .ok (.iaload, 1) := by decide +kernel
theorem dX8_set_39 : decode cX8_set 39 = .ok (.istore 4, 2) := by decide +kernel
theorem dX8_set_41 : decode cX8_set 41 = .ok (.aload_n 0, 1) := by decide +kernel
theorem dX8_set_42 : decode cX8_set 42 = .ok (.getfield 7, 3) := by decide +kernel
theorem dX8_set_45 : decode cX8_set 45 = .ok (.bipush 6, 2) := by decide +kernel
theorem dX8_set_47 : decode cX8_set 47 = .ok (.iload_n 1, 1) := by decide +kernel
theorem dX8_set_48 : decode cX8_set 48 = .ok (.imul, 1) := by decide +kernel
theorem dX8_set_49 : decode cX8_set 49 = .ok (.iload_n 2, 1) := by decide +kernel
theorem dX8_set_50 : decode cX8_set 50 = .ok (.iadd, 1) := by decide +kernel
theorem dX8_set_51 : decode cX8_set 51 = .ok (.iload_n 3, 1) := by decide +kernel
theorem dX8_set_52 : decode cX8_set 52 = .ok (.iastore, 1) := by decide +kernel
theorem dX8_set_53 : decode cX8_set 53 = .ok (.iload 4, 2) := by decide +kernel
theorem dX8_set_55 : decode cX8_set 55 = .ok (.ireturn, 1) := by decide +kernel
theorem dX8_drop_0 : decode cX8_drop 0 = .ok (.aload_n 0, 1) := by decide +kernel
theorem dX8_drop_1 : decode cX8_drop 1 = .ok (.getfield 78, 3) := by decide +kernel
theorem dX8_drop_4 : decode cX8_drop 4 = .ok (.ifCond .ne 6, 3) := by decide +kernel
theorem dX8_drop_7 : decode cX8_drop 7 = .ok (.bipush (-2), 2) := by decide +kernel
theorem dX8_drop_9 : decode cX8_drop 9 = .ok (.ireturn, 1) := by decide +kernel
theorem dX8_drop_10 : decode cX8_drop 10 = .ok (.aload_n 0, 1) := by decide +kernel
theorem dX8_drop_11 : decode cX8_drop 11 = .ok (.dup, 1) := by decide +kernel
theorem dX8_drop_12 : decode cX8_drop 12 = .ok (.getfield 78, 3) := by decide +kernel
theorem dX8_drop_15 : decode cX8_drop 15 = .ok (.iconst 1, 1) := by decide +kernel
theorem dX8_drop_16 : decode cX8_drop 16 = .ok (.isub, 1) := by decide +kernel
theorem dX8_drop_17 : decode cX8_drop 17 = .ok (.putfield 78, 3) := by decide +kernel
theorem dX8_drop_20 : decode cX8_drop 20 = .ok (.aload_n 0, 1) := by decide +kernel
theorem dX8_drop_21 : decode cX8_drop 21 = .ok (.getfield 78, 3) := by decide +kernel
theorem dX8_drop_24 : decode cX8_drop 24 = .ok (.ireturn, 1) := by decide +kernel
theorem dX8_field_0 : decode cX8_field 0 = .ok (.iload_n 1, 1) := by decide +kernel
theorem dX8_field_1 : decode cX8_field 1 = .ok (.iconst 0, 1) := by decide +kernel
theorem dX8_field_2 : decode cX8_field 2 = .ok (.iconst 1, 1) := by decide +kernel
theorem dX8_field_3 : decode cX8_field 3 = .ok (.invokestatic 74, 3) := by decide +kernel
theorem dX8_field_6 : decode cX8_field 6 = .ok (.ifCond .eq 14, 3) := by decide +kernel
theorem dX8_field_9 : decode cX8_field 9 = .ok (.iload_n 2, 1) := by decide +kernel
theorem dX8_field_10 : decode cX8_field 10 = .ok (.bipush (-8), 2) := by decide +kernel
theorem dX8_field_12 : decode cX8_field 12 = .ok (.bipush 8, 2) := by decide +kernel
theorem dX8_field_14 : decode cX8_field 14 = .ok (.invokestatic 74, 3) := by decide +kernel
theorem dX8_field_17 : decode cX8_field 17 = .ok (.ifCond .ne 6, 3) := by decide +kernel
theorem dX8_field_20 : decode cX8_field 20 = .ok (.ldc 92, 2) := by decide +kernel
theorem dX8_field_22 : decode cX8_field 22 = .ok (.ireturn, 1) := by decide +kernel
theorem dX8_field_23 : decode cX8_field 23 = .ok (.iload_n 1, 1) := by decide +kernel
theorem dX8_field_24 : decode cX8_field 24 = .ok (.ifCond .ne 10, 3) := by decide +kernel
theorem dX8_field_27 : decode cX8_field 27 = .ok (.aload_n 0, 1) := by decide +kernel
theorem dX8_field_28 : decode cX8_field 28 = .ok (.getfield 93, 3) := by decide +kernel
theorem dX8_field_31 : decode cX8_field 31 = .ok (.goto 7, 3) := by decide +kernel
theorem dX8_field_34 : decode cX8_field 34 = .ok (.aload_n 0, 1) := by decide +kernel
theorem dX8_field_35 : decode cX8_field 35 = .ok (.getfield 96, 3) := by decide +kernel
theorem dX8_field_38 : decode cX8_field 38 = .ok (.istore_n 3, 1) := by decide +kernel
theorem dX8_field_39 : decode cX8_field 39 = .ok (.aload_n 0, 1) := by decide +kernel
theorem dX8_field_40 : decode cX8_field 40 = .ok (.iload_n 1, 1) := by decide +kernel
theorem dX8_field_41 : decode cX8_field 41 = .ok (.ifCond .ne 7, 3) := by decide +kernel
theorem dX8_field_44 : decode cX8_field 44 = .ok (.iload_n 2, 1) := by decide +kernel
theorem dX8_field_45 : decode cX8_field 45 = .ok (.goto 7, 3) := by decide +kernel
theorem dX8_field_48 : decode cX8_field 48 = .ok (.aload_n 0, 1) := by decide +kernel
theorem dX8_field_49 : decode cX8_field 49 = .ok (.getfield 93, 3) := by decide +kernel
theorem dX8_field_52 : decode cX8_field 52 = .ok (.putfield 93, 3) := by decide +kernel
theorem dX8_field_55 : decode cX8_field 55 = .ok (.aload_n 0, 1) := by decide +kernel
theorem dX8_field_56 : decode cX8_field 56 = .ok (.iload_n 1, 1) := by decide +kernel
theorem dX8_field_57 : decode cX8_field 57 = .ok (.iconst 1, 1) := by decide +kernel
theorem dX8_field_58 : decode cX8_field 58 = .ok (.if_icmp .ne 7, 3) := by decide +kernel
theorem dX8_field_61 : decode cX8_field 61 = .ok (.iload_n 2, 1) := by decide +kernel
theorem dX8_field_62 : decode cX8_field 62 = .ok (.goto 7, 3) := by decide +kernel
theorem dX8_field_65 : decode cX8_field 65 = .ok (.aload_n 0, 1) := by decide +kernel
theorem dX8_field_66 : decode cX8_field 66 = .ok (.getfield 96, 3) := by decide +kernel
theorem dX8_field_69 : decode cX8_field 69 = .ok (.putfield 96, 3) := by decide +kernel
theorem dX8_field_72 : decode cX8_field 72 = .ok (.iload_n 3, 1) := by decide +kernel
theorem dX8_field_73 : decode cX8_field 73 = .ok (.ireturn, 1) := by decide +kernel
theorem dX8_bendOf_0 : decode cX8_bendOf 0 = .ok (.iload_n 3, 1) := by decide +kernel
theorem dX8_bendOf_1 : decode cX8_bendOf 1 = .ok (.aload_n 0, 1) := by decide +kernel
theorem dX8_bendOf_2 : decode cX8_bendOf 2 = .ok (.getfield 7, 3) := by decide +kernel
theorem dX8_bendOf_5 : decode cX8_bendOf 5 = .ok (.bipush 6, 2) := by decide +kernel
theorem dX8_bendOf_7 : decode cX8_bendOf 7 = .ok (.iload_n 2, 1) := by decide +kernel
theorem dX8_bendOf_8 : decode cX8_bendOf 8 = .ok (.imul, 1) := by decide +kernel
theorem dX8_bendOf_9 : decode cX8_bendOf 9 = .ok (.iconst 1, 1) := by decide +kernel
theorem dX8_bendOf_10 : decode cX8_bendOf 10 = .ok (.iadd, 1) := by decide +kernel
theorem dX8_bendOf_11 : decode cX8_bendOf 11 = .ok (.iaload, 1) := by decide +kernel
theorem dX8_bendOf_12 : decode cX8_bendOf 12 = .ok (.isub, 1) := by decide +kernel
theorem dX8_bendOf_13 : decode cX8_bendOf 13 = .ok (.istore 6, 2) := by decide +kernel
theorem dX8_bendOf_15 : decode cX8_bendOf 15 = .ok (.iload 4, 2) := by decide +kernel
theorem dX8_bendOf_17 : decode cX8_bendOf 17 = .ok (.aload_n 0, 1) := by decide +kernel
theorem dX8_bendOf_18 : decode cX8_bendOf 18 = .ok (.getfield 7, 3) := by decide +kernel
theorem dX8_bendOf_21 : decode cX8_bendOf 21 = .ok (.bipush 6, 2) := by decide +kernel
theorem dX8_bendOf_23 : decode cX8_bendOf 23 = .ok (.iload_n 2, 1) := by decide +kernel
theorem dX8_bendOf_24 : decode cX8_bendOf 24 = .ok (.imul, 1) := by decide +kernel
theorem dX8_bendOf_25 : decode cX8_bendOf 25 = .ok (.iconst 2, 1) := by decide +kernel
theorem dX8_bendOf_26 : decode cX8_bendOf 26 = .ok (.iadd, 1) := by decide +kernel
theorem dX8_bendOf_27 : decode cX8_bendOf 27 = .ok (.iaload, 1) := by decide +kernel
theorem dX8_bendOf_28 : decode cX8_bendOf 28 = .ok (.isub, 1) := by decide +kernel
theorem dX8_bendOf_29 : decode cX8_bendOf 29 = .ok (.istore 7, 2) := by decide +kernel
theorem dX8_bendOf_31 : decode cX8_bendOf 31 = .ok (.iload 6, 2) := by decide +kernel
theorem dX8_bendOf_33 : decode cX8_bendOf 33 = .ok (.iload 6, 2) := by decide +kernel
theorem dX8_bendOf_35 : decode cX8_bendOf 35 = .ok (.imul, 1) := by decide +kernel
theorem dX8_bendOf_36 : decode cX8_bendOf 36 = .ok (.iload 7, 2) := by decide +kernel
theorem dX8_bendOf_38 : decode cX8_bendOf 38 = .ok (.iload 7, 2) := by decide +kernel
theorem dX8_bendOf_40 : decode cX8_bendOf 40 = .ok (.imul, 1) := by decide +kernel
theorem dX8_bendOf_41 : decode cX8_bendOf 41 = .ok (.iadd, 1) := by decide +kernel
theorem dX8_bendOf_42 : decode cX8_bendOf 42 = .ok (.istore 8, 2) := by decide +kernel
theorem dX8_bendOf_44 : decode cX8_bendOf 44 = .ok (.iload 5, 2) := by decide +kernel
theorem dX8_bendOf_46 : decode cX8_bendOf 46 = .ok (.ifCond .ne 8, 3) := by decide +kernel
theorem dX8_bendOf_49 : decode cX8_bendOf 49 = .ok (.iload 6, 2) := by decide +kernel
theorem dX8_bendOf_51 : decode cX8_bendOf 51 = .ok (.goto 5, 3) := by decide +kernel
theorem dX8_bendOf_54 : decode cX8_bendOf 54 = .ok (.iload 7, 2) := by decide +kernel
theorem dX8_bendOf_56 : decode cX8_bendOf 56 = .ok (.istore 9, 2) := by decide +kernel
theorem dX8_bendOf_58 : decode cX8_bendOf 58 = .ok (.iload 8, 2) := by decide +kernel
theorem dX8_bendOf_60 : decode cX8_bendOf 60 = .ok (.ifCond .eq 36, 3) := by decide +kernel
theorem dX8_bendOf_63 : decode cX8_bendOf 63 = .ok (.iload_n 1, 1) := by decide +kernel
theorem dX8_bendOf_64 : decode cX8_bendOf 64 = .ok (.iconst 2, 1) := by decide +kernel
theorem dX8_bendOf_65 : decode cX8_bendOf 65 = .ok (.if_icmp .ne 33, 3) := by decide +kernel
theorem dX8_bendOf_68 : decode cX8_bendOf 68 = .ok (.iload 8, 2) := by decide +kernel
theorem dX8_bendOf_70 : decode cX8_bendOf 70 = .ok (.aload_n 0, 1) := by decide +kernel
theorem dX8_bendOf_71 : decode cX8_bendOf 71 = .ok (.getfield 7, 3) := by decide +kernel
theorem dX8_bendOf_74 : decode cX8_bendOf 74 = .ok (.bipush 6, 2) := by decide +kernel
theorem dX8_bendOf_76 : decode cX8_bendOf 76 = .ok (.iload_n 2, 1) := by decide +kernel
theorem dX8_bendOf_77 : decode cX8_bendOf 77 = .ok (.imul, 1) := by decide +kernel
theorem dX8_bendOf_78 : decode cX8_bendOf 78 = .ok (.iconst 5, 1) := by decide +kernel
theorem dX8_bendOf_79 : decode cX8_bendOf 79 = .ok (.iadd, 1) := by decide +kernel
theorem dX8_bendOf_80 : decode cX8_bendOf 80 = .ok (.iaload, 1) := by decide +kernel
theorem dX8_bendOf_81 : decode cX8_bendOf 81 = .ok (.aload_n 0, 1) := by decide +kernel
theorem dX8_bendOf_82 : decode cX8_bendOf 82 = .ok (.getfield 7, 3) := by decide +kernel
theorem dX8_bendOf_85 : decode cX8_bendOf 85 = .ok (.bipush 6, 2) := by decide +kernel
theorem dX8_bendOf_87 : decode cX8_bendOf 87 = .ok (.iload_n 2, 1) := by decide +kernel
theorem dX8_bendOf_88 : decode cX8_bendOf 88 = .ok (.imul, 1) := by decide +kernel
theorem dX8_bendOf_89 : decode cX8_bendOf 89 = .ok (.iconst 5, 1) := by decide +kernel
theorem dX8_bendOf_90 : decode cX8_bendOf 90 = .ok (.iadd, 1) := by decide +kernel
theorem dX8_bendOf_91 : decode cX8_bendOf 91 = .ok (.iaload, 1) := by decide +kernel
theorem dX8_bendOf_92 : decode cX8_bendOf 92 = .ok (.imul, 1) := by decide +kernel
theorem dX8_bendOf_93 : decode cX8_bendOf 93 = .ok (.if_icmp .le 5, 3) := by decide +kernel
theorem dX8_bendOf_96 : decode cX8_bendOf 96 = .ok (.iconst 0, 1) := by decide +kernel
theorem dX8_bendOf_97 : decode cX8_bendOf 97 = .ok (.ireturn, 1) := by decide +kernel
theorem dX8_bendOf_98 : decode cX8_bendOf 98 = .ok (.bipush 16, 2) := by decide +kernel
theorem dX8_bendOf_100 : decode cX8_bendOf 100 = .ok (.aload_n 0, 1) := by decide +kernel
theorem dX8_bendOf_101 : decode cX8_bendOf 101 = .ok (.getfield 7, 3) := by decide +kernel
theorem dX8_bendOf_104 : decode cX8_bendOf 104 = .ok (.bipush 6, 2) := by decide +kernel
theorem dX8_bendOf_106 : decode cX8_bendOf 106 = .ok (.iload_n 2, 1) := by decide +kernel
theorem dX8_bendOf_107 : decode cX8_bendOf 107 = .ok (.imul, 1) := by decide +kernel
theorem dX8_bendOf_108 : decode cX8_bendOf 108 = .ok (.iconst 3, 1) := by decide +kernel
theorem dX8_bendOf_109 : decode cX8_bendOf 109 = .ok (.iadd, 1) := by decide +kernel
theorem dX8_bendOf_110 : decode cX8_bendOf 110 = .ok (.iaload, 1) := by decide +kernel
theorem dX8_bendOf_111 : decode cX8_bendOf 111 = .ok (.imul, 1) := by decide +kernel
theorem dX8_bendOf_112 : decode cX8_bendOf 112 = .ok (.iload 9, 2) := by decide +kernel
theorem dX8_bendOf_114 : decode cX8_bendOf 114 = .ok (.imul, 1) := by decide +kernel
theorem dX8_bendOf_115 : decode cX8_bendOf 115 = .ok (.iload 8, 2) := by decide +kernel
theorem dX8_bendOf_117 : decode cX8_bendOf 117 = .ok (.idiv, 1) := by decide +kernel
theorem dX8_bendOf_118 : decode cX8_bendOf 118 = .ok (.istore 10, 2) := by decide +kernel
theorem dX8_bendOf_120 : decode cX8_bendOf 120 = .ok (.iload_n 1, 1) := by decide +kernel
theorem dX8_bendOf_121 : decode cX8_bendOf 121 = .ok (.ifCond .ne 8, 3) := by decide +kernel
theorem dX8_bendOf_124 : decode cX8_bendOf 124 = .ok (.iload 10, 2) := by decide +kernel
theorem dX8_bendOf_126 : decode cX8_bendOf 126 = .ok (.goto 27, 3) := by decide +kernel
theorem dX8_bendOf_129 : decode cX8_bendOf 129 = .ok (.iload 10, 2) := by decide +kernel
theorem dX8_bendOf_131 : decode cX8_bendOf 131 = .ok (.i2l, 1) := by decide +kernel
theorem dX8_bendOf_132 : decode cX8_bendOf 132 = .ok (.iload 8, 2) := by decide +kernel
theorem dX8_bendOf_134 : decode cX8_bendOf 134 = .ok (.i2l, 1) := by decide +kernel
theorem dX8_bendOf_135 : decode cX8_bendOf 135 = .ok (.lmul, 1) := by decide +kernel
theorem dX8_bendOf_136 : decode cX8_bendOf 136 = .ok (.iload 8, 2) := by decide +kernel
theorem dX8_bendOf_138 : decode cX8_bendOf 138 = .ok (.aload_n 0, 1) := by decide +kernel
theorem dX8_bendOf_139 : decode cX8_bendOf 139 = .ok (.getfield 7, 3) := by decide +kernel
theorem dX8_bendOf_142 : decode cX8_bendOf 142 = .ok (.bipush 6, 2) := by decide +kernel
theorem dX8_bendOf_144 : decode cX8_bendOf 144 = .ok (.iload_n 2, 1) := by decide +kernel
theorem dX8_bendOf_145 : decode cX8_bendOf 145 = .ok (.imul, 1) := by decide +kernel
theorem dX8_bendOf_146 : decode cX8_bendOf 146 = .ok (.iconst 4, 1) := by decide +kernel
theorem dX8_bendOf_147 : decode cX8_bendOf 147 = .ok (.iadd, 1) := by decide +kernel
theorem dX8_bendOf_148 : decode cX8_bendOf 148 = .ok (.iaload, 1) := by decide +kernel
theorem dX8_bendOf_149 : decode cX8_bendOf 149 = .ok (.iadd, 1) := by decide +kernel
theorem dX8_bendOf_150 : decode cX8_bendOf 150 = .ok (.i2l, 1) := by decide +kernel
theorem dX8_bendOf_151 : decode cX8_bendOf 151 = .ok (.ldiv, 1) := by decide +kernel
theorem dX8_bendOf_152 : decode cX8_bendOf 152 = .ok (.l2i, 1) := by decide +kernel
theorem dX8_bendOf_153 : decode cX8_bendOf 153 = .ok (.ireturn, 1) := by decide +kernel
theorem dX8_bend_0 : decode cX8_bend 0 = .ok (.iload_n 1, 1) := by decide +kernel
theorem dX8_bend_1 : decode cX8_bend 1 = .ok (.iconst 0, 1) := by decide +kernel
theorem dX8_bend_2 : decode cX8_bend 2 = .ok (.iconst 2, 1) := by decide +kernel
theorem dX8_bend_3 : decode cX8_bend 3 = .ok (.invokestatic 74, 3) := by decide +kernel
theorem dX8_bend_6 : decode cX8_bend 6 = .ok (.ifCond .eq 32, 3) := by decide +kernel
theorem dX8_bend_9 : decode cX8_bend 9 = .ok (.aload_n 0, 1) := by decide +kernel
theorem dX8_bend_10 : decode cX8_bend 10 = .ok (.iload_n 2, 1) := by decide +kernel
theorem dX8_bend_11 : decode cX8_bend 11 = .ok (.invokevirtual 84, 3) := by decide +kernel
theorem dX8_bend_14 : decode cX8_bend 14 = .ok (.ifCond .eq 24, 3) := by decide +kernel
theorem dX8_bend_17 : decode cX8_bend 17 = .ok (.iload_n 3, 1) := by decide +kernel
theorem dX8_bend_18 : decode cX8_bend 18 = .ok (.iload 4, 2) := by decide +kernel
theorem dX8_bend_20 : decode cX8_bend 20 = .ok (.bipush 60, 2) := by decide +kernel
theorem dX8_bend_22 : decode cX8_bend 22 = .ok (.invokestatic 81, 3) := by decide +kernel
theorem dX8_bend_25 : decode cX8_bend 25 = .ok (.ifCond .eq 13, 3) := by decide +kernel
theorem dX8_bend_28 : decode cX8_bend 28 = .ok (.iload 5, 2) := by decide +kernel
theorem dX8_bend_30 : decode cX8_bend 30 = .ok (.iconst 0, 1) := by decide +kernel
theorem dX8_bend_31 : decode cX8_bend 31 = .ok (.iconst 1, 1) := by decide +kernel
theorem dX8_bend_32 : decode cX8_bend 32 = .ok (.invokestatic 74, 3) := by decide +kernel
theorem dX8_bend_35 : decode cX8_bend 35 = .ok (.ifCond .ne 6, 3) := by decide +kernel
theorem dX8_bend_38 : decode cX8_bend 38 = .ok (.ldc 92, 2) := by decide +kernel
theorem dX8_bend_40 : decode cX8_bend 40 = .ok (.ireturn, 1) := by decide +kernel
theorem dX8_bend_41 : decode cX8_bend 41 = .ok (.aload_n 0, 1) := by decide +kernel
theorem dX8_bend_42 : decode cX8_bend 42 = .ok (.dup, 1) := by decide +kernel
theorem dX8_bend_43 : decode cX8_bend 43 = .ok (.getfield 99, 3) := by decide +kernel
theorem dX8_bend_46 : decode cX8_bend 46 = .ok (.iload_n 1, 1) := by decide +kernel
theorem dX8_bend_47 : decode cX8_bend 47 = .ok (.ifCond .ne 7, 3) := by decide +kernel
theorem dX8_bend_50 : decode cX8_bend 50 = .ok (.lconst 1, 1) := by decide +kernel
theorem dX8_bend_51 : decode cX8_bend 51 = .ok (.goto 17, 3) := by decide +kernel
theorem dX8_bend_54 : decode cX8_bend 54 = .ok (.iload_n 1, 1) := by decide +kernel
theorem dX8_bend_55 : decode cX8_bend 55 = .ok (.iconst 1, 1) := by decide +kernel
theorem dX8_bend_56 : decode cX8_bend 56 = .ok (.if_icmp .ne 9, 3) := by decide +kernel
theorem dX8_bend_59 : decode cX8_bend 59 = .ok (.ldc2_w 103, 3) := by decide +kernel
theorem dX8_bend_62 : decode cX8_bend 62 = .ok (.goto 6, 3) := by decide +kernel
theorem dX8_bend_65 : decode cX8_bend 65 = .ok (.ldc2_w 105, 3) := by decide +kernel
theorem dX8_bend_68 : decode cX8_bend 68 = .ok (.ladd, 1) := by decide +kernel
theorem dX8_bend_69 : decode cX8_bend 69 = .ok (.putfield 99, 3) := by decide +kernel
theorem dX8_bend_72 : decode cX8_bend 72 = .ok (.aload_n 0, 1) := by decide +kernel
theorem dX8_bend_73 : decode cX8_bend 73 = .ok (.iload_n 1, 1) := by decide +kernel
theorem dX8_bend_74 : decode cX8_bend 74 = .ok (.iload_n 2, 1) := by decide +kernel
theorem dX8_bend_75 : decode cX8_bend 75 = .ok (.iload_n 3, 1) := by decide +kernel
theorem dX8_bend_76 : decode cX8_bend 76 = .ok (.iload 4, 2) := by decide +kernel
theorem dX8_bend_78 : decode cX8_bend 78 = .ok (.iload 5, 2) := by decide +kernel
theorem dX8_bend_80 : decode cX8_bend 80 = .ok (.invokevirtual 107, 3) := by decide +kernel
theorem dX8_bend_83 : decode cX8_bend 83 = .ok (.ireturn, 1) := by decide +kernel
theorem dX8_fromOf_0 : decode cX8_fromOf 0 = .ok (.iload_n 3, 1) := by decide +kernel
theorem dX8_fromOf_1 : decode cX8_fromOf 1 = .ok (.ifCond .ne 24, 3) := by decide +kernel
theorem dX8_fromOf_4 : decode cX8_fromOf 4 = .ok (.bipush 16, 2) := by decide +kernel
theorem dX8_fromOf_6 : decode cX8_fromOf 6 = .ok (.iload_n 1, 1) := by decide +kernel
theorem dX8_fromOf_7 : decode cX8_fromOf 7 = .ok (.imul, 1) := by decide +kernel
theorem dX8_fromOf_8 : decode cX8_fromOf 8 = .ok (.aload_n 0, 1) := by decide +kernel
theorem dX8_fromOf_9 : decode cX8_fromOf 9 = .ok (.getfield 93, 3) := by decide +kernel
theorem dX8_fromOf_12 : decode cX8_fromOf 12 = .ok (.iload_n 1, 1) := by decide +kernel
theorem dX8_fromOf_13 : decode cX8_fromOf 13 = .ok (.imul, 1) := by decide +kernel
theorem dX8_fromOf_14 : decode cX8_fromOf 14 = .ok (.isub, 1) := by decide +kernel
theorem dX8_fromOf_15 : decode cX8_fromOf 15 = .ok (.aload_n 0, 1) := by decide +kernel
theorem dX8_fromOf_16 : decode cX8_fromOf 16 = .ok (.getfield 96, 3) := by decide +kernel
theorem dX8_fromOf_19 : decode cX8_fromOf 19 = .ok (.iload_n 2, 1) := by decide +kernel
theorem dX8_fromOf_20 : decode cX8_fromOf 20 = .ok (.imul, 1) := by decide +kernel
theorem dX8_fromOf_21 : decode cX8_fromOf 21 = .ok (.isub, 1) := by decide +kernel
theorem dX8_fromOf_22 : decode cX8_fromOf 22 = .ok (.goto 21, 3) := by decide +kernel
theorem dX8_fromOf_25 : decode cX8_fromOf 25 = .ok (.bipush 16, 2) := by decide +kernel
theorem dX8_fromOf_27 : decode cX8_fromOf 27 = .ok (.iload_n 2, 1) := by decide +kernel
theorem dX8_fromOf_28 : decode cX8_fromOf 28 = .ok (.imul, 1) := by decide +kernel
theorem dX8_fromOf_29 : decode cX8_fromOf 29 = .ok (.aload_n 0, 1) := by decide +kernel
theorem dX8_fromOf_30 : decode cX8_fromOf 30 = .ok (.getfield 96, 3) := by decide +kernel
theorem dX8_fromOf_33 : decode cX8_fromOf 33 = .ok (.iload_n 1, 1) := by decide +kernel
theorem dX8_fromOf_34 : decode cX8_fromOf 34 = .ok (.imul, 1) := by decide +kernel
theorem dX8_fromOf_35 : decode cX8_fromOf 35 = .ok (.isub, 1) := by decide +kernel
theorem dX8_fromOf_36 : decode cX8_fromOf 36 = .ok (.aload_n 0, 1) := by decide +kernel
theorem dX8_fromOf_37 : decode cX8_fromOf 37 = .ok (.getfield 93, 3) := by decide +kernel
theorem dX8_fromOf_40 : decode cX8_fromOf 40 = .ok (.iload_n 2, 1) := by decide +kernel
theorem dX8_fromOf_41 : decode cX8_fromOf 41 = .ok (.imul, 1) := by decide +kernel
theorem dX8_fromOf_42 : decode cX8_fromOf 42 = .ok (.iadd, 1) := by decide +kernel
theorem dX8_fromOf_43 : decode cX8_fromOf 43 = .ok (.istore 4, 2) := by decide +kernel
theorem dX8_fromOf_45 : decode cX8_fromOf 45 = .ok (.iconst 0, 1) := by decide +kernel
theorem dX8_fromOf_46 : decode cX8_fromOf 46 = .ok (.istore 5, 2) := by decide +kernel
theorem dX8_fromOf_48 : decode cX8_fromOf 48 = .ok (.iload 5, 2) := by decide +kernel
theorem dX8_fromOf_50 : decode cX8_fromOf 50 = .ok (.aload_n 0, 1) := by decide +kernel
theorem dX8_fromOf_51 : decode cX8_fromOf 51 = .ok (.getfield 78, 3) := by decide +kernel
theorem dX8_fromOf_54 : decode cX8_fromOf 54 = .ok (.if_icmp .ge 33, 3) := by decide +kernel
theorem dX8_fromOf_57 : decode cX8_fromOf 57 = .ok (.iload 4, 2) := by decide +kernel
theorem dX8_fromOf_59 : decode cX8_fromOf 59 = .ok (.aload_n 0, 1) := by decide +kernel
theorem dX8_fromOf_60 : decode cX8_fromOf 60 = .ok (.aload_n 0, 1) := by decide +kernel
theorem dX8_fromOf_61 : decode cX8_fromOf 61 = .ok (.getfield 7, 3) := by decide +kernel
theorem dX8_fromOf_64 : decode cX8_fromOf 64 = .ok (.bipush 6, 2) := by decide +kernel
theorem dX8_fromOf_66 : decode cX8_fromOf 66 = .ok (.iload 5, 2) := by decide +kernel
theorem dX8_fromOf_68 : decode cX8_fromOf 68 = .ok (.imul, 1) := by decide +kernel
theorem dX8_fromOf_69 : decode cX8_fromOf 69 = .ok (.iaload, 1) := by decide +kernel
theorem dX8_fromOf_70 : decode cX8_fromOf 70 = .ok (.iload 5, 2) := by decide +kernel
theorem dX8_fromOf_72 : decode cX8_fromOf 72 = .ok (.iload_n 1, 1) := by decide +kernel
theorem dX8_fromOf_73 : decode cX8_fromOf 73 = .ok (.iload_n 2, 1) := by decide +kernel
theorem dX8_fromOf_74 : decode cX8_fromOf 74 = .ok (.iload_n 3, 1) := by decide +kernel
theorem dX8_fromOf_75 : decode cX8_fromOf 75 = .ok (.invokevirtual 107, 3) := by decide +kernel
theorem dX8_fromOf_78 : decode cX8_fromOf 78 = .ok (.isub, 1) := by decide +kernel
theorem dX8_fromOf_79 : decode cX8_fromOf 79 = .ok (.istore 4, 2) := by decide +kernel
theorem dX8_fromOf_81 : decode cX8_fromOf 81 = .ok (.iinc 5 1, 3) := by decide +kernel
theorem dX8_fromOf_84 : decode cX8_fromOf 84 = .ok (.goto (-36), 3) := by decide +kernel
theorem dX8_fromOf_87 : decode cX8_fromOf 87 = .ok (.iload 4, 2) := by decide +kernel
theorem dX8_fromOf_89 : decode cX8_fromOf 89 = .ok (.ireturn, 1) := by decide +kernel
theorem dX8_from_0 : decode cX8_from 0 = .ok (.iload_n 1, 1) := by decide +kernel
theorem dX8_from_1 : decode cX8_from 1 = .ok (.iload_n 2, 1) := by decide +kernel
theorem dX8_from_2 : decode cX8_from 2 = .ok (.bipush 60, 2) := by decide +kernel
theorem dX8_from_4 : decode cX8_from 4 = .ok (.invokestatic 81, 3) := by decide +kernel
theorem dX8_from_7 : decode cX8_from 7 = .ok (.ifCond .eq 22, 3) := by decide +kernel
theorem dX8_from_10 : decode cX8_from 10 = .ok (.iload_n 3, 1) := by decide +kernel
theorem dX8_from_11 : decode cX8_from 11 = .ok (.iconst 0, 1) := by decide +kernel
theorem dX8_from_12 : decode cX8_from 12 = .ok (.iconst 1, 1) := by decide +kernel
theorem dX8_from_13 : decode cX8_from 13 = .ok (.invokestatic 74, 3) := by decide +kernel
theorem dX8_from_16 : decode cX8_from 16 = .ok (.ifCond .eq 13, 3) := by decide +kernel
theorem dX8_from_19 : decode cX8_from 19 = .ok (.aload_n 0, 1) := by decide +kernel
theorem dX8_from_20 : decode cX8_from 20 = .ok (.iload_n 1, 1) := by decide +kernel
theorem dX8_from_21 : decode cX8_from 21 = .ok (.iload_n 2, 1) := by decide +kernel
theorem dX8_from_22 : decode cX8_from 22 = .ok (.iload_n 3, 1) := by decide +kernel
theorem dX8_from_23 : decode cX8_from 23 = .ok (.invokevirtual 111, 3) := by decide +kernel
theorem dX8_from_26 : decode cX8_from 26 = .ok (.goto 5, 3) := by decide +kernel
theorem dX8_from_29 : decode cX8_from 29 = .ok (.ldc 92, 2) := by decide +kernel
theorem dX8_from_31 : decode cX8_from 31 = .ok (.ireturn, 1) := by decide +kernel
theorem dX8_cellOf_0 : decode cX8_cellOf 0 = .ok (.aload_n 0, 1) := by decide +kernel
theorem dX8_cellOf_1 : decode cX8_cellOf 1 = .ok (.iload_n 1, 1) := by decide +kernel
theorem dX8_cellOf_2 : decode cX8_cellOf 2 = .ok (.iload_n 2, 1) := by decide +kernel
theorem dX8_cellOf_3 : decode cX8_cellOf 3 = .ok (.iload_n 3, 1) := by decide +kernel
theorem dX8_cellOf_4 : decode cX8_cellOf 4 = .ok (.invokevirtual 111, 3) := by decide +kernel
theorem dX8_cellOf_7 : decode cX8_cellOf 7 = .ok (.i2l, 1) := by decide +kernel
theorem dX8_cellOf_8 : decode cX8_cellOf 8 = .ok (.ldc2_w 115, 3) := by decide +kernel
theorem dX8_cellOf_11 : decode cX8_cellOf 11 = .ok (.ladd, 1) := by decide +kernel
theorem dX8_cellOf_12 : decode cX8_cellOf 12 = .ok (.bipush 16, 2) := by decide +kernel
theorem dX8_cellOf_14 : decode cX8_cellOf 14 = .ok (.invokestatic 117, 3) := by decide +kernel
theorem dX8_cellOf_17 : decode cX8_cellOf 17 = .ok (.ireturn, 1) := by decide +kernel
theorem dX8_cell_0 : decode cX8_cell 0 = .ok (.iload_n 1, 1) := by decide +kernel
theorem dX8_cell_1 : decode cX8_cell 1 = .ok (.iload_n 2, 1) := by decide +kernel
theorem dX8_cell_2 : decode cX8_cell 2 = .ok (.bipush 60, 2) := by decide +kernel
theorem dX8_cell_4 : decode cX8_cell 4 = .ok (.invokestatic 81, 3) := by decide +kernel
theorem dX8_cell_7 : decode cX8_cell 7 = .ok (.ifCond .eq 22, 3) := by decide +kernel
theorem dX8_cell_10 : decode cX8_cell 10 = .ok (.iload_n 3, 1) := by decide +kernel
theorem dX8_cell_11 : decode cX8_cell 11 = .ok (.iconst 0, 1) := by decide +kernel
theorem dX8_cell_12 : decode cX8_cell 12 = .ok (.iconst 1, 1) := by decide +kernel
theorem dX8_cell_13 : decode cX8_cell 13 = .ok (.invokestatic 74, 3) := by decide +kernel
theorem dX8_cell_16 : decode cX8_cell 16 = .ok (.ifCond .eq 13, 3) := by decide +kernel
theorem dX8_cell_19 : decode cX8_cell 19 = .ok (.aload_n 0, 1) := by decide +kernel
theorem dX8_cell_20 : decode cX8_cell 20 = .ok (.iload_n 1, 1) := by decide +kernel
theorem dX8_cell_21 : decode cX8_cell 21 = .ok (.iload_n 2, 1) := by decide +kernel
theorem dX8_cell_22 : decode cX8_cell 22 = .ok (.iload_n 3, 1) := by decide +kernel
theorem dX8_cell_23 : decode cX8_cell 23 = .ok (.invokevirtual 121, 3) := by decide +kernel
theorem dX8_cell_26 : decode cX8_cell 26 = .ok (.goto 5, 3) := by decide +kernel
theorem dX8_cell_29 : decode cX8_cell 29 = .ok (.ldc 92, 2) := by decide +kernel
theorem dX8_cell_31 : decode cX8_cell 31 = .ok (.ireturn, 1) := by decide +kernel
theorem dX8_at_0 : decode cX8_at 0 = .ok (.bipush 51, 2) := by decide +kernel
theorem dX8_at_2 : decode cX8_at 2 = .ok (.iload_n 1, 1) := by decide +kernel
theorem dX8_at_3 : decode cX8_at 3 = .ok (.bipush 25, 2) := by decide +kernel
theorem dX8_at_5 : decode cX8_at 5 = .ok (.iadd, 1) := by decide +kernel
theorem dX8_at_6 : decode cX8_at 6 = .ok (.imul, 1) := by decide +kernel
theorem dX8_at_7 : decode cX8_at 7 = .ok (.iload_n 0, 1) := by decide +kernel
theorem dX8_at_8 : decode cX8_at 8 = .ok (.iadd, 1) := by decide +kernel
theorem dX8_at_9 : decode cX8_at 9 = .ok (.bipush 25, 2) := by decide +kernel
theorem dX8_at_11 : decode cX8_at 11 = .ok (.iadd, 1) := by decide +kernel
theorem dX8_at_12 : decode cX8_at 12 = .ok (.ireturn, 1) := by decide +kernel
theorem dX8_findPlane_0 : decode cX8_findPlane 0 = .ok (.bipush (-25), 2) := by decide +kernel
theorem dX8_findPlane_2 : decode cX8_findPlane 2 = .ok (.istore_n 1, 1) := by decide +kernel
theorem dX8_findPlane_3 : decode cX8_findPlane 3 = .ok (.iload_n 1, 1) := by decide +kernel
theorem dX8_findPlane_4 : decode cX8_findPlane 4 = .ok (.bipush 26, 2) := by decide +kernel
theorem dX8_findPlane_6 : decode cX8_findPlane 6 = .ok (.if_icmp .ge 58, 3) := by decide +kernel
theorem dX8_findPlane_9 : decode cX8_findPlane 9 = .ok (.bipush (-25), 2) := by decide +kernel
theorem dX8_findPlane_11 : decode cX8_findPlane 11 = .ok (.istore_n 2, 1) := by decide +kernel
theorem dX8_findPlane_12 : decode cX8_findPlane 12 = .ok (.iload_n 2, 1) := by decide +kernel
theorem dX8_findPlane_13 : decode cX8_findPlane 13 = .ok (.bipush 26, 2) := by decide +kernel
theorem dX8_findPlane_15 : decode cX8_findPlane 15 = .ok (.if_icmp .ge 43, 3) := by decide +kernel
theorem dX8_findPlane_18 : decode cX8_findPlane 18 = .ok (.aload_n 0, 1) := by decide +kernel
theorem dX8_findPlane_19 : decode cX8_findPlane 19 = .ok (.getfield 36, 3) := by decide +kernel
theorem dX8_findPlane_22 : decode cX8_findPlane 22 = .ok (.iload_n 2, 1) := by decide +kernel
theorem dX8_findPlane_23 : decode cX8_findPlane 23 = .ok (.iload_n 1, 1) := by decide +kernel
theorem dX8_findPlane_24 : decode cX8_findPlane 24 = .ok (.invokestatic 124, 3) := by decide +kernel
theorem dX8_findPlane_27 : decode cX8_findPlane 27 = .ok (.aload_n 0, 1) := by decide +kernel
theorem dX8_findPlane_28 : decode cX8_findPlane 28 = .ok (.iload_n 2, 1) := by decide +kernel
theorem dX8_findPlane_29 : decode cX8_findPlane 29 = .ok (.iload_n 1, 1) := by decide +kernel
theorem dX8_findPlane_30 : decode cX8_findPlane 30 = .ok (.iconst 0, 1) := by decide +kernel
theorem dX8_findPlane_31 : decode cX8_findPlane 31 = .ok (.invokevirtual 111, 3) := by decide +kernel
theorem dX8_findPlane_34 : decode cX8_findPlane 34 = .ok (.iastore, 1) := by decide +kernel
theorem dX8_findPlane_35 : decode cX8_findPlane 35 = .ok (.aload_n 0, 1) := by decide +kernel
theorem dX8_findPlane_36 : decode cX8_findPlane 36 = .ok (.getfield 39, 3) := by decide +kernel
theorem dX8_findPlane_39 : decode cX8_findPlane 39 = .ok (.iload_n 2, 1) := by decide +kernel
theorem dX8_findPlane_40 : decode cX8_findPlane 40 = .ok (.iload_n 1, 1) := by decide +kernel
theorem dX8_findPlane_41 : decode cX8_findPlane 41 = .ok (.invokestatic 124, 3) := by decide +kernel
theorem dX8_findPlane_44 : decode cX8_findPlane 44 = .ok (.aload_n 0, 1) := by decide +kernel
theorem dX8_findPlane_45 : decode cX8_findPlane 45 = .ok (.iload_n 2, 1) := by decide +kernel
theorem dX8_findPlane_46 : decode cX8_findPlane 46 = .ok (.iload_n 1, 1) := by decide +kernel
theorem dX8_findPlane_47 : decode cX8_findPlane 47 = .ok (.iconst 1, 1) := by decide +kernel
theorem dX8_findPlane_48 : decode cX8_findPlane 48 = .ok (.invokevirtual 111, 3) := by decide +kernel
theorem dX8_findPlane_51 : decode cX8_findPlane 51 = .ok (.iastore, 1) := by decide +kernel
theorem dX8_findPlane_52 : decode cX8_findPlane 52 = .ok (.iinc 2 1, 3) := by decide +kernel
theorem dX8_findPlane_55 : decode cX8_findPlane 55 = .ok (.goto (-43), 3) := by decide +kernel
theorem dX8_findPlane_58 : decode cX8_findPlane 58 = .ok (.iinc 1 1, 3) := by decide +kernel
theorem dX8_findPlane_61 : decode cX8_findPlane 61 = .ok (.goto (-58), 3) := by decide +kernel
theorem dX8_findPlane_64 : decode cX8_findPlane 64 = .ok (.return_, 1) := by decide +kernel
theorem dX8_findAround_0 : decode cX8_findAround 0 = .ok (.iload_n 2, 1) := by decide +kernel
theorem dX8_findAround_1 : decode cX8_findAround 1 = .ok (.iconst 1, 1) := by decide +kernel
theorem dX8_findAround_2 : decode cX8_findAround 2 = .ok (.isub, 1) := by decide +kernel
theorem dX8_findAround_3 : decode cX8_findAround 3 = .ok (.istore_n 3, 1) := by decide +kernel
theorem dX8_findAround_4 : decode cX8_findAround 4 = .ok (.iload_n 3, 1) := by decide +kernel
theorem dX8_findAround_5 : decode cX8_findAround 5 = .ok (.iload_n 2, 1) := by decide +kernel
theorem dX8_findAround_6 : decode cX8_findAround 6 = .ok (.iconst 2, 1) := by decide +kernel
theorem dX8_findAround_7 : decode cX8_findAround 7 = .ok (.iadd, 1) := by decide +kernel
theorem dX8_findAround_8 : decode cX8_findAround 8 = .ok (.if_icmp .gt 77, 3) := by decide +kernel
theorem dX8_findAround_11 : decode cX8_findAround 11 = .ok (.iload_n 1, 1) := by decide +kernel
theorem dX8_findAround_12 : decode cX8_findAround 12 = .ok (.iconst 1, 1) := by decide +kernel
theorem dX8_findAround_13 : decode cX8_findAround 13 = .ok (.isub, 1) := by decide +kernel
theorem dX8_findAround_14 : decode cX8_findAround 14 = .ok (.istore 4, 2) := by decide +kernel
theorem dX8_findAround_16 : decode cX8_findAround 16 = .ok (.iload 4, 2) := by decide +kernel
theorem dX8_findAround_18 : decode cX8_findAround 18 = .ok (.iload_n 1, 1) := by decide +kernel
theorem dX8_findAround_19 : decode cX8_findAround 19 = .ok (.iconst 2, 1) := by decide +kernel
theorem dX8_findAround_20 : decode cX8_findAround 20 = .ok (.iadd, 1) := by decide +kernel
theorem dX8_findAround_21 : decode cX8_findAround 21 = .ok (.if_icmp .gt 58, 3) := by decide +kernel
theorem dX8_findAround_24 : decode cX8_findAround 24 = .ok (.iload 4, 2) := by decide +kernel
theorem dX8_findAround_26 : decode cX8_findAround 26 = .ok (.iload_n 3, 1) := by decide +kernel
theorem dX8_findAround_27 : decode cX8_findAround 27 = .ok (.bipush 25, 2) := by decide +kernel
theorem dX8_findAround_29 : decode cX8_findAround 29 = .ok (.invokestatic 81, 3) := by decide +kernel
theorem dX8_findAround_32 : decode cX8_findAround 32 = .ok (.ifCond .eq 41, 3) := by decide +kernel
theorem dX8_findAround_35 : decode cX8_findAround 35 = .ok (.aload_n 0, 1) := by decide +kernel
theorem dX8_findAround_36 : decode cX8_findAround 36 = .ok (.getfield 36, 3) := by decide +kernel
theorem dX8_findAround_39 : decode cX8_findAround 39 = .ok (.iload 4, 2) := by decide +kernel
theorem dX8_findAround_41 : decode cX8_findAround 41 = .ok (.iload_n 3, 1) := by decide +kernel
theorem dX8_findAround_42 : decode cX8_findAround 42 = .ok (.invokestatic 124, 3) := by decide +kernel
theorem dX8_findAround_45 : decode cX8_findAround 45 = .ok (.aload_n 0, 1) := by decide +kernel
theorem dX8_findAround_46 : decode cX8_findAround 46 = .ok (.iload 4, 2) := by decide +kernel
theorem dX8_findAround_48 : decode cX8_findAround 48 = .ok (.iload_n 3, 1) := by decide +kernel
theorem dX8_findAround_49 : decode cX8_findAround 49 = .ok (.iconst 0, 1) := by decide +kernel
theorem dX8_findAround_50 : decode cX8_findAround 50 = .ok (.invokevirtual 111, 3) := by decide +kernel
theorem dX8_findAround_53 : decode cX8_findAround 53 = .ok (.iastore, 1) := by decide +kernel
theorem dX8_findAround_54 : decode cX8_findAround 54 = .ok (.aload_n 0, 1) := by decide +kernel
theorem dX8_findAround_55 : decode cX8_findAround 55 = .ok (.getfield 39, 3) := by decide +kernel
theorem dX8_findAround_58 : decode cX8_findAround 58 = .ok (.iload 4, 2) := by decide +kernel
theorem dX8_findAround_60 : decode cX8_findAround 60 = .ok (.iload_n 3, 1) := by decide +kernel
theorem dX8_findAround_61 : decode cX8_findAround 61 = .ok (.invokestatic 124, 3) := by decide +kernel
theorem dX8_findAround_64 : decode cX8_findAround 64 = .ok (.aload_n 0, 1) := by decide +kernel
theorem dX8_findAround_65 : decode cX8_findAround 65 = .ok (.iload 4, 2) := by decide +kernel
theorem dX8_findAround_67 : decode cX8_findAround 67 = .ok (.iload_n 3, 1) := by decide +kernel
theorem dX8_findAround_68 : decode cX8_findAround 68 = .ok (.iconst 1, 1) := by decide +kernel
theorem dX8_findAround_69 : decode cX8_findAround 69 = .ok (.invokevirtual 111, 3) := by decide +kernel
theorem dX8_findAround_72 : decode cX8_findAround 72 = .ok (.iastore, 1) := by decide +kernel
theorem dX8_findAround_73 : decode cX8_findAround 73 = .ok (.iinc 4 1, 3) := by decide +kernel
theorem dX8_findAround_76 : decode cX8_findAround 76 = .ok (.goto (-60), 3) := by decide +kernel
theorem dX8_findAround_79 : decode cX8_findAround 79 = .ok (.iinc 3 1, 3) := by decide +kernel
theorem dX8_findAround_82 : decode cX8_findAround 82 = .ok (.goto (-78), 3) := by decide +kernel
theorem dX8_findAround_85 : decode cX8_findAround 85 = .ok (.return_, 1) := by decide +kernel
theorem dX8_findTold_0 : decode cX8_findTold 0 = .ok (.iconst 0, 1) := by decide +kernel
theorem dX8_findTold_1 : decode cX8_findTold 1 = .ok (.istore_n 1, 1) := by decide +kernel
theorem dX8_findTold_2 : decode cX8_findTold 2 = .ok (.iload_n 1, 1) := by decide +kernel
theorem dX8_findTold_3 : decode cX8_findTold 3 = .ok (.sipush 2401, 3) := by decide +kernel
theorem dX8_findTold_6 : decode cX8_findTold 6 = .ok (.if_icmp .ge 102, 3) := by decide +kernel
theorem dX8_findTold_9 : decode cX8_findTold 9 = .ok (.aload_n 0, 1) := by decide +kernel
theorem dX8_findTold_10 : decode cX8_findTold 10 = .ok (.getfield 33, 3) := by decide +kernel
theorem dX8_findTold_13 : decode cX8_findTold 13 = .ok (.iload_n 1, 1) := by decide +kernel
theorem dX8_findTold_14 : decode cX8_findTold 14 = .ok (.iaload, 1) := by decide +kernel
theorem dX8_findTold_15 : decode cX8_findTold 15 = .ok (.bipush (-9), 2) := by decide +kernel
theorem dX8_findTold_17 : decode cX8_findTold 17 = .ok (.if_icmp .eq 85, 3) := by decide +kernel
theorem dX8_findTold_20 : decode cX8_findTold 20 = .ok (.aload_n 0, 1) := by decide +kernel
theorem dX8_findTold_21 : decode cX8_findTold 21 = .ok (.getfield 36, 3) := by decide +kernel
theorem dX8_findTold_24 : decode cX8_findTold 24 = .ok (.iload_n 1, 1) := by decide +kernel
theorem dX8_findTold_25 : decode cX8_findTold 25 = .ok (.bipush 49, 2) := by decide +kernel
theorem dX8_findTold_27 : decode cX8_findTold 27 = .ok (.irem, 1) := by decide +kernel
theorem dX8_findTold_28 : decode cX8_findTold 28 = .ok (.bipush 24, 2) := by decide +kernel
theorem dX8_findTold_30 : decode cX8_findTold 30 = .ok (.isub, 1) := by decide +kernel
theorem dX8_findTold_31 : decode cX8_findTold 31 = .ok (.iload_n 1, 1) := by decide +kernel
theorem dX8_findTold_32 : decode cX8_findTold 32 = .ok (.bipush 49, 2) := by decide +kernel
theorem dX8_findTold_34 : decode cX8_findTold 34 = .ok (.idiv, 1) := by decide +kernel
theorem dX8_findTold_35 : decode cX8_findTold 35 = .ok (.bipush 24, 2) := by decide +kernel
theorem dX8_findTold_37 : decode cX8_findTold 37 = .ok (.isub, 1) := by decide +kernel
theorem dX8_findTold_38 : decode cX8_findTold 38 = .ok (.invokestatic 124, 3) := by decide +kernel
theorem dX8_findTold_41 : decode cX8_findTold 41 = .ok (.aload_n 0, 1) := by decide +kernel
theorem dX8_findTold_42 : decode cX8_findTold 42 = .ok (.iload_n 1, 1) := by decide +kernel
theorem dX8_findTold_43 : decode cX8_findTold 43 = .ok (.bipush 49, 2) := by decide +kernel
theorem dX8_findTold_45 : decode cX8_findTold 45 = .ok (.irem, 1) := by decide +kernel
theorem dX8_findTold_46 : decode cX8_findTold 46 = .ok (.bipush 24, 2) := by decide +kernel
theorem dX8_findTold_48 : decode cX8_findTold 48 = .ok (.isub, 1) := by decide +kernel
theorem dX8_findTold_49 : decode cX8_findTold 49 = .ok (.iload_n 1, 1) := by decide +kernel
theorem dX8_findTold_50 : decode cX8_findTold 50 = .ok (.bipush 49, 2) := by decide +kernel
theorem dX8_findTold_52 : decode cX8_findTold 52 = .ok (.idiv, 1) := by decide +kernel
theorem dX8_findTold_53 : decode cX8_findTold 53 = .ok (.bipush 24, 2) := by decide +kernel
theorem dX8_findTold_55 : decode cX8_findTold 55 = .ok (.isub, 1) := by decide +kernel
theorem dX8_findTold_56 : decode cX8_findTold 56 = .ok (.iconst 0, 1) := by decide +kernel
theorem dX8_findTold_57 : decode cX8_findTold 57 = .ok (.invokevirtual 111, 3) := by decide +kernel
theorem dX8_findTold_60 : decode cX8_findTold 60 = .ok (.iastore, 1) := by decide +kernel
theorem dX8_findTold_61 : decode cX8_findTold 61 = .ok (.aload_n 0, 1) := by decide +kernel
theorem dX8_findTold_62 : decode cX8_findTold 62 = .ok (.getfield 39, 3) := by decide +kernel
theorem dX8_findTold_65 : decode cX8_findTold 65 = .ok (.iload_n 1, 1) := by decide +kernel
theorem dX8_findTold_66 : decode cX8_findTold 66 = .ok (.bipush 49, 2) := by decide +kernel
theorem dX8_findTold_68 : decode cX8_findTold 68 = .ok (.irem, 1) := by decide +kernel
theorem dX8_findTold_69 : decode cX8_findTold 69 = .ok (.bipush 24, 2) := by decide +kernel
theorem dX8_findTold_71 : decode cX8_findTold 71 = .ok (.isub, 1) := by decide +kernel
theorem dX8_findTold_72 : decode cX8_findTold 72 = .ok (.iload_n 1, 1) := by decide +kernel
theorem dX8_findTold_73 : decode cX8_findTold 73 = .ok (.bipush 49, 2) := by decide +kernel
theorem dX8_findTold_75 : decode cX8_findTold 75 = .ok (.idiv, 1) := by decide +kernel
theorem dX8_findTold_76 : decode cX8_findTold 76 = .ok (.bipush 24, 2) := by decide +kernel
theorem dX8_findTold_78 : decode cX8_findTold 78 = .ok (.isub, 1) := by decide +kernel
theorem dX8_findTold_79 : decode cX8_findTold 79 = .ok (.invokestatic 124, 3) := by decide +kernel
theorem dX8_findTold_82 : decode cX8_findTold 82 = .ok (.aload_n 0, 1) := by decide +kernel
theorem dX8_findTold_83 : decode cX8_findTold 83 = .ok (.iload_n 1, 1) := by decide +kernel
theorem dX8_findTold_84 : decode cX8_findTold 84 = .ok (.bipush 49, 2) := by decide +kernel
theorem dX8_findTold_86 : decode cX8_findTold 86 = .ok (.irem, 1) := by decide +kernel
theorem dX8_findTold_87 : decode cX8_findTold 87 = .ok (.bipush 24, 2) := by decide +kernel
theorem dX8_findTold_89 : decode cX8_findTold 89 = .ok (.isub, 1) := by decide +kernel
theorem dX8_findTold_90 : decode cX8_findTold 90 = .ok (.iload_n 1, 1) := by decide +kernel
theorem dX8_findTold_91 : decode cX8_findTold 91 = .ok (.bipush 49, 2) := by decide +kernel
theorem dX8_findTold_93 : decode cX8_findTold 93 = .ok (.idiv, 1) := by decide +kernel
theorem dX8_findTold_94 : decode cX8_findTold 94 = .ok (.bipush 24, 2) := by decide +kernel
theorem dX8_findTold_96 : decode cX8_findTold 96 = .ok (.isub, 1) := by decide +kernel
theorem dX8_findTold_97 : decode cX8_findTold 97 = .ok (.iconst 1, 1) := by decide +kernel
theorem dX8_findTold_98 : decode cX8_findTold 98 = .ok (.invokevirtual 111, 3) := by decide +kernel
theorem dX8_findTold_101 : decode cX8_findTold 101 = .ok (.iastore, 1) := by decide +kernel
theorem dX8_findTold_102 : decode cX8_findTold 102 = .ok (.iinc 1 1, 3) := by decide +kernel
theorem dX8_findTold_105 : decode cX8_findTold 105 = .ok (.goto (-103), 3) := by decide +kernel
theorem dX8_findTold_108 : decode cX8_findTold 108 = .ok (.return_, 1) := by decide +kernel
theorem dX8_cellX_0 : decode cX8_cellX 0 = .ok (.aload_n 0, 1) := by decide +kernel
theorem dX8_cellX_1 : decode cX8_cellX 1 = .ok (.getfield 36, 3) := by decide +kernel
theorem dX8_cellX_4 : decode cX8_cellX 4 = .ok (.iload_n 1, 1) := by decide +kernel
theorem dX8_cellX_5 : decode cX8_cellX 5 = .ok (.iload_n 2, 1) := by decide +kernel
theorem dX8_cellX_6 : decode cX8_cellX 6 = .ok (.invokestatic 124, 3) := by decide +kernel
theorem dX8_cellX_9 : decode cX8_cellX 9 = .ok (.iaload, 1) := by decide +kernel
theorem dX8_cellX_10 : decode cX8_cellX 10 = .ok (.i2l, 1) := by decide +kernel
theorem dX8_cellX_11 : decode cX8_cellX 11 = .ok (.ldc2_w 115, 3) := by decide +kernel
theorem dX8_cellX_14 : decode cX8_cellX 14 = .ok (.ladd, 1) := by decide +kernel
theorem dX8_cellX_15 : decode cX8_cellX 15 = .ok (.bipush 16, 2) := by decide +kernel
theorem dX8_cellX_17 : decode cX8_cellX 17 = .ok (.invokestatic 117, 3) := by decide +kernel
theorem dX8_cellX_20 : decode cX8_cellX 20 = .ok (.ireturn, 1) := by decide +kernel
theorem dX8_cellY_0 : decode cX8_cellY 0 = .ok (.aload_n 0, 1) := by decide +kernel
theorem dX8_cellY_1 : decode cX8_cellY 1 = .ok (.getfield 39, 3) := by decide +kernel
theorem dX8_cellY_4 : decode cX8_cellY 4 = .ok (.iload_n 1, 1) := by decide +kernel
theorem dX8_cellY_5 : decode cX8_cellY 5 = .ok (.iload_n 2, 1) := by decide +kernel
theorem dX8_cellY_6 : decode cX8_cellY 6 = .ok (.invokestatic 124, 3) := by decide +kernel
theorem dX8_cellY_9 : decode cX8_cellY 9 = .ok (.iaload, 1) := by decide +kernel
theorem dX8_cellY_10 : decode cX8_cellY 10 = .ok (.i2l, 1) := by decide +kernel
theorem dX8_cellY_11 : decode cX8_cellY 11 = .ok (.ldc2_w 115, 3) := by decide +kernel
theorem dX8_cellY_14 : decode cX8_cellY 14 = .ok (.ladd, 1) := by decide +kernel
theorem dX8_cellY_15 : decode cX8_cellY 15 = .ok (.bipush 16, 2) := by decide +kernel
theorem dX8_cellY_17 : decode cX8_cellY 17 = .ok (.invokestatic 117, 3) := by decide +kernel
theorem dX8_cellY_20 : decode cX8_cellY 20 = .ok (.ireturn, 1) := by decide +kernel
theorem dX8_signOf_0 : decode cX8_signOf 0 = .ok (.lload_n 0, 1) := by decide +kernel
theorem dX8_signOf_1 : decode cX8_signOf 1 = .ok (.lconst 0, 1) := by decide +kernel
theorem dX8_signOf_2 : decode cX8_signOf 2 = .ok (.lcmp, 1) := by decide +kernel
theorem dX8_signOf_3 : decode cX8_signOf 3 = .ok (.ifCond .le 7, 3) := by decide +kernel
theorem dX8_signOf_6 : decode cX8_signOf 6 = .ok (.iconst 1, 1) := by decide +kernel
theorem dX8_signOf_7 : decode cX8_signOf 7 = .ok (.goto 14, 3) := by decide +kernel
theorem dX8_signOf_10 : decode cX8_signOf 10 = .ok (.lload_n 0, 1) := by decide +kernel
theorem dX8_signOf_11 : decode cX8_signOf 11 = .ok (.lconst 0, 1) := by decide +kernel
theorem dX8_signOf_12 : decode cX8_signOf 12 = .ok (.lcmp, 1) := by decide +kernel
theorem dX8_signOf_13 : decode cX8_signOf 13 = .ok (.ifCond .ge 7, 3) := by decide +kernel
theorem dX8_signOf_16 : decode cX8_signOf 16 = .ok (.iconst (-1), 1) := by decide +kernel
theorem dX8_signOf_17 : decode cX8_signOf 17 = .ok (.goto 4, 3) := by decide +kernel
theorem dX8_signOf_20 : decode cX8_signOf 20 = .ok (.iconst 0, 1) := by decide +kernel
theorem dX8_signOf_21 : decode cX8_signOf 21 = .ok (.ireturn, 1) := by decide +kernel
theorem dX8_parityOf_0 : decode cX8_parityOf 0 = .ok (.aload_n 0, 1) := by decide +kernel
theorem dX8_parityOf_1 : decode cX8_parityOf 1 = .ok (.getfield 36, 3) := by decide +kernel
theorem dX8_parityOf_4 : decode cX8_parityOf 4 = .ok (.iload_n 1, 1) := by decide +kernel
theorem dX8_parityOf_5 : decode cX8_parityOf 5 = .ok (.iconst 1, 1) := by decide +kernel
theorem dX8_parityOf_6 : decode cX8_parityOf 6 = .ok (.iadd, 1) := by decide +kernel
theorem dX8_parityOf_7 : decode cX8_parityOf 7 = .ok (.iload_n 2, 1) := by decide +kernel
theorem dX8_parityOf_8 : decode cX8_parityOf 8 = .ok (.invokestatic 124, 3) := by decide +kernel
theorem dX8_parityOf_11 : decode cX8_parityOf 11 = .ok (.iaload, 1) := by decide +kernel
theorem dX8_parityOf_12 : decode cX8_parityOf 12 = .ok (.aload_n 0, 1) := by decide +kernel
theorem dX8_parityOf_13 : decode cX8_parityOf 13 = .ok (.getfield 36, 3) := by decide +kernel
theorem dX8_parityOf_16 : decode cX8_parityOf 16 = .ok (.iload_n 1, 1) := by decide +kernel
theorem dX8_parityOf_17 : decode cX8_parityOf 17 = .ok (.iconst 1, 1) := by decide +kernel
theorem dX8_parityOf_18 : decode cX8_parityOf 18 = .ok (.isub, 1) := by decide +kernel
theorem dX8_parityOf_19 : decode cX8_parityOf 19 = .ok (.iload_n 2, 1) := by decide +kernel
theorem dX8_parityOf_20 : decode cX8_parityOf 20 = .ok (.invokestatic 124, 3) := by decide +kernel
theorem dX8_parityOf_23 : decode cX8_parityOf 23 = .ok (.iaload, 1) := by decide +kernel
theorem dX8_parityOf_24 : decode cX8_parityOf 24 = .ok (.isub, 1) := by decide +kernel
theorem dX8_parityOf_25 : decode cX8_parityOf 25 = .ok (.i2l, 1) := by decide +kernel
theorem dX8_parityOf_26 : decode cX8_parityOf 26 = .ok (.lstore_n 3, 1) := by decide +kernel
theorem dX8_parityOf_27 : decode cX8_parityOf 27 = .ok (.aload_n 0, 1) := by decide +kernel
theorem dX8_parityOf_28 : decode cX8_parityOf 28 = .ok (.getfield 39, 3) := by decide +kernel
theorem dX8_parityOf_31 : decode cX8_parityOf 31 = .ok (.iload_n 1, 1) := by decide +kernel
theorem dX8_parityOf_32 : decode cX8_parityOf 32 = .ok (.iconst 1, 1) := by decide +kernel
theorem dX8_parityOf_33 : decode cX8_parityOf 33 = .ok (.iadd, 1) := by decide +kernel
theorem dX8_parityOf_34 : decode cX8_parityOf 34 = .ok (.iload_n 2, 1) := by decide +kernel
theorem dX8_parityOf_35 : decode cX8_parityOf 35 = .ok (.invokestatic 124, 3) := by decide +kernel
theorem dX8_parityOf_38 : decode cX8_parityOf 38 = .ok (.iaload, 1) := by decide +kernel
theorem dX8_parityOf_39 : decode cX8_parityOf 39 = .ok (.aload_n 0, 1) := by decide +kernel
theorem dX8_parityOf_40 : decode cX8_parityOf 40 = .ok (.getfield 39, 3) := by decide +kernel
theorem dX8_parityOf_43 : decode cX8_parityOf 43 = .ok (.iload_n 1, 1) := by decide +kernel
theorem dX8_parityOf_44 : decode cX8_parityOf 44 = .ok (.iconst 1, 1) := by decide +kernel
theorem dX8_parityOf_45 : decode cX8_parityOf 45 = .ok (.isub, 1) := by decide +kernel
theorem dX8_parityOf_46 : decode cX8_parityOf 46 = .ok (.iload_n 2, 1) := by decide +kernel
theorem dX8_parityOf_47 : decode cX8_parityOf 47 = .ok (.invokestatic 124, 3) := by decide +kernel
theorem dX8_parityOf_50 : decode cX8_parityOf 50 = .ok (.iaload, 1) := by decide +kernel
theorem dX8_parityOf_51 : decode cX8_parityOf 51 = .ok (.isub, 1) := by decide +kernel
theorem dX8_parityOf_52 : decode cX8_parityOf 52 = .ok (.i2l, 1) := by decide +kernel
theorem dX8_parityOf_53 : decode cX8_parityOf 53 = .ok (.lstore 5, 2) := by decide +kernel
theorem dX8_parityOf_55 : decode cX8_parityOf 55 = .ok (.aload_n 0, 1) := by decide +kernel
theorem dX8_parityOf_56 : decode cX8_parityOf 56 = .ok (.getfield 36, 3) := by decide +kernel
theorem dX8_parityOf_59 : decode cX8_parityOf 59 = .ok (.iload_n 1, 1) := by decide +kernel
theorem dX8_parityOf_60 : decode cX8_parityOf 60 = .ok (.iload_n 2, 1) := by decide +kernel
theorem dX8_parityOf_61 : decode cX8_parityOf 61 = .ok (.iconst 1, 1) := by decide +kernel
theorem dX8_parityOf_62 : decode cX8_parityOf 62 = .ok (.iadd, 1) := by decide +kernel
theorem dX8_parityOf_63 : decode cX8_parityOf 63 = .ok (.invokestatic 124, 3) := by decide +kernel
theorem dX8_parityOf_66 : decode cX8_parityOf 66 = .ok (.iaload, 1) := by decide +kernel
theorem dX8_parityOf_67 : decode cX8_parityOf 67 = .ok (.aload_n 0, 1) := by decide +kernel
theorem dX8_parityOf_68 : decode cX8_parityOf 68 = .ok (.getfield 36, 3) := by decide +kernel
theorem dX8_parityOf_71 : decode cX8_parityOf 71 = .ok (.iload_n 1, 1) := by decide +kernel
theorem dX8_parityOf_72 : decode cX8_parityOf 72 = .ok (.iload_n 2, 1) := by decide +kernel
theorem dX8_parityOf_73 : decode cX8_parityOf 73 = .ok (.iconst 1, 1) := by decide +kernel
theorem dX8_parityOf_74 : decode cX8_parityOf 74 = .ok (.isub, 1) := by decide +kernel
theorem dX8_parityOf_75 : decode cX8_parityOf 75 = .ok (.invokestatic 124, 3) := by decide +kernel
theorem dX8_parityOf_78 : decode cX8_parityOf 78 = .ok (.iaload, 1) := by decide +kernel
theorem dX8_parityOf_79 : decode cX8_parityOf 79 = .ok (.isub, 1) := by decide +kernel
theorem dX8_parityOf_80 : decode cX8_parityOf 80 = .ok (.i2l, 1) := by decide +kernel
theorem dX8_parityOf_81 : decode cX8_parityOf 81 = .ok (.lstore 7, 2) := by decide +kernel
theorem dX8_parityOf_83 : decode cX8_parityOf 83 = .ok (.aload_n 0, 1) := by decide +kernel
theorem dX8_parityOf_84 : decode cX8_parityOf 84 = .ok (.getfield 39, 3) := by decide +kernel
theorem dX8_parityOf_87 : decode cX8_parityOf 87 = .ok (.iload_n 1, 1) := by decide +kernel
theorem dX8_parityOf_88 : decode cX8_parityOf 88 = .ok (.iload_n 2, 1) := by decide +kernel
theorem dX8_parityOf_89 : decode cX8_parityOf 89 = .ok (.iconst 1, 1) := by decide +kernel
theorem dX8_parityOf_90 : decode cX8_parityOf 90 = .ok (.iadd, 1) := by decide +kernel
theorem dX8_parityOf_91 : decode cX8_parityOf 91 = .ok (.invokestatic 124, 3) := by decide +kernel
theorem dX8_parityOf_94 : decode cX8_parityOf 94 = .ok (.iaload, 1) := by decide +kernel
theorem dX8_parityOf_95 : decode cX8_parityOf 95 = .ok (.aload_n 0, 1) := by decide +kernel
theorem dX8_parityOf_96 : decode cX8_parityOf 96 = .ok (.getfield 39, 3) := by decide +kernel
theorem dX8_parityOf_99 : decode cX8_parityOf 99 = .ok (.iload_n 1, 1) := by decide +kernel
theorem dX8_parityOf_100 : decode cX8_parityOf 100 = .ok (.iload_n 2, 1) := by decide +kernel
theorem dX8_parityOf_101 : decode cX8_parityOf 101 = .ok (.iconst 1, 1) := by decide +kernel
theorem dX8_parityOf_102 : decode cX8_parityOf 102 = .ok (.isub, 1) := by decide +kernel
theorem dX8_parityOf_103 : decode cX8_parityOf 103 = .ok (.invokestatic 124, 3) := by decide +kernel
theorem dX8_parityOf_106 : decode cX8_parityOf 106 = .ok (.iaload, 1) := by decide +kernel
theorem dX8_parityOf_107 : decode cX8_parityOf 107 = .ok (.isub, 1) := by decide +kernel
theorem dX8_parityOf_108 : decode cX8_parityOf 108 = .ok (.i2l, 1) := by decide +kernel
theorem dX8_parityOf_109 : decode cX8_parityOf 109 = .ok (.lstore 9, 2) := by decide +kernel
theorem dX8_parityOf_111 : decode cX8_parityOf 111 = .ok (.lload_n 3, 1) := by decide +kernel
theorem dX8_parityOf_112 : decode cX8_parityOf 112 = .ok (.lload 9, 2) := by decide +kernel
theorem dX8_parityOf_114 : decode cX8_parityOf 114 = .ok (.lmul, 1) := by decide +kernel
theorem dX8_parityOf_115 : decode cX8_parityOf 115 = .ok (.lload 5, 2) := by decide +kernel
theorem dX8_parityOf_117 : decode cX8_parityOf 117 = .ok (.lload 7, 2) := by decide +kernel
theorem dX8_parityOf_119 : decode cX8_parityOf 119 = .ok (.lmul, 1) := by decide +kernel
theorem dX8_parityOf_120 : decode cX8_parityOf 120 = .ok (.lsub, 1) := by decide +kernel
theorem dX8_parityOf_121 : decode cX8_parityOf 121 = .ok (.invokestatic 128, 3) := by decide +kernel
theorem dX8_parityOf_124 : decode cX8_parityOf 124 = .ok (.ireturn, 1) := by decide +kernel
theorem dX8_isPixel_0 : decode cX8_isPixel 0 = .ok (.iload_n 0, 1) := by decide +kernel
theorem dX8_isPixel_1 : decode cX8_isPixel 1 = .ok (.iload_n 1, 1) := by decide +kernel
theorem dX8_isPixel_2 : decode cX8_isPixel 2 = .ok (.bipush 24, 2) := by decide +kernel
theorem dX8_isPixel_4 : decode cX8_isPixel 4 = .ok (.invokestatic 81, 3) := by decide +kernel
theorem dX8_isPixel_7 : decode cX8_isPixel 7 = .ok (.ireturn, 1) := by decide +kernel
theorem dX8_pixel_0 : decode cX8_pixel 0 = .ok (.bipush 49, 2) := by decide +kernel
theorem dX8_pixel_2 : decode cX8_pixel 2 = .ok (.iload_n 1, 1) := by decide +kernel
theorem dX8_pixel_3 : decode cX8_pixel 3 = .ok (.bipush 24, 2) := by decide +kernel
theorem dX8_pixel_5 : decode cX8_pixel 5 = .ok (.iadd, 1) := by decide +kernel
theorem dX8_pixel_6 : decode cX8_pixel 6 = .ok (.imul, 1) := by decide +kernel
theorem dX8_pixel_7 : decode cX8_pixel 7 = .ok (.iload_n 0, 1) := by decide +kernel
theorem dX8_pixel_8 : decode cX8_pixel 8 = .ok (.iadd, 1) := by decide +kernel
theorem dX8_pixel_9 : decode cX8_pixel 9 = .ok (.bipush 24, 2) := by decide +kernel
theorem dX8_pixel_11 : decode cX8_pixel 11 = .ok (.iadd, 1) := by decide +kernel
theorem dX8_pixel_12 : decode cX8_pixel 12 = .ok (.ireturn, 1) := by decide +kernel
theorem dX8_spread_0 : decode cX8_spread 0 = .ok (.iconst 1, 1) := by decide +kernel
theorem dX8_spread_1 : decode cX8_spread 1 = .ok (.istore_n 2, 1) := by decide +kernel
theorem dX8_spread_2 : decode cX8_spread 2 = .ok (.aload_n 0, 1) := by decide +kernel
theorem dX8_spread_3 : decode cX8_spread 3 = .ok (.getfield 49, 3) := by decide +kernel
theorem dX8_spread_6 : decode cX8_spread 6 = .ok (.iconst 0, 1) := by decide +kernel
theorem dX8_spread_7 : decode cX8_spread 7 = .ok (.iload_n 1, 1) := by decide +kernel
theorem dX8_spread_8 : decode cX8_spread 8 = .ok (.iastore, 1) := by decide +kernel
theorem dX8_spread_9 : decode cX8_spread 9 = .ok (.aload_n 0, 1) := by decide +kernel
theorem dX8_spread_10 : decode cX8_spread 10 = .ok (.getfield 46, 3) := by decide +kernel
theorem dX8_spread_13 : decode cX8_spread 13 = .ok (.iload_n 1, 1) := by decide +kernel
theorem dX8_spread_14 : decode cX8_spread 14 = .ok (.aload_n 0, 1) := by decide +kernel
theorem dX8_spread_15 : decode cX8_spread 15 = .ok (.getfield 132, 3) := by decide +kernel
theorem dX8_spread_18 : decode cX8_spread 18 = .ok (.iastore, 1) := by decide +kernel
theorem dX8_spread_19 : decode cX8_spread 19 = .ok (.iconst 0, 1) := by decide +kernel
theorem dX8_spread_20 : decode cX8_spread 20 = .ok (.istore_n 3, 1) := by decide +kernel
theorem dX8_spread_21 : decode cX8_spread 21 = .ok (.iload_n 3, 1) := by decide +kernel
theorem dX8_spread_22 : decode cX8_spread 22 = .ok (.iload_n 2, 1) := by decide +kernel
theorem dX8_spread_23 : decode cX8_spread 23 = .ok (.if_icmp .ge 149, 3) := by decide +kernel
theorem dX8_spread_26 : decode cX8_spread 26 = .ok (.aload_n 0, 1) := by decide +kernel
theorem dX8_spread_27 : decode cX8_spread 27 = .ok (.getfield 49, 3) := by decide +kernel
theorem dX8_spread_30 : decode cX8_spread 30 = .ok (.iload_n 3, 1) := by decide +kernel
theorem dX8_spread_31 : decode cX8_spread 31 = .ok (.iaload, 1) := by decide +kernel
theorem dX8_spread_32 : decode cX8_spread 32 = .ok (.bipush 49, 2) := by decide +kernel
theorem dX8_spread_34 : decode cX8_spread 34 = .ok (.irem, 1) := by decide +kernel
theorem dX8_spread_35 : decode cX8_spread 35 = .ok (.bipush 24, 2) := by decide +kernel
theorem dX8_spread_37 : decode cX8_spread 37 = .ok (.isub, 1) := by decide +kernel
theorem dX8_spread_38 : decode cX8_spread 38 = .ok (.istore 4, 2) := by decide +kernel
theorem dX8_spread_40 : decode cX8_spread 40 = .ok (.aload_n 0, 1) := by decide +kernel
theorem dX8_spread_41 : decode cX8_spread 41 = .ok (.getfield 49, 3) := by decide +kernel
theorem dX8_spread_44 : decode cX8_spread 44 = .ok (.iload_n 3, 1) := by decide +kernel
theorem dX8_spread_45 : decode cX8_spread 45 = .ok (.iaload, 1) := by decide +kernel
theorem dX8_spread_46 : decode cX8_spread 46 = .ok (.bipush 49, 2) := by decide +kernel
theorem dX8_spread_48 : decode cX8_spread 48 = .ok (.idiv, 1) := by decide +kernel
theorem dX8_spread_49 : decode cX8_spread 49 = .ok (.bipush 24, 2) := by decide +kernel
theorem dX8_spread_51 : decode cX8_spread 51 = .ok (.isub, 1) := by decide +kernel
theorem dX8_spread_52 : decode cX8_spread 52 = .ok (.istore 5, 2) := by decide +kernel
theorem dX8_spread_54 : decode cX8_spread 54 = .ok (.iconst 0, 1) := by decide +kernel
theorem dX8_spread_55 : decode cX8_spread 55 = .ok (.istore 6, 2) := by decide +kernel
theorem dX8_spread_57 : decode cX8_spread 57 = .ok (.iload 6, 2) := by decide +kernel
theorem dX8_spread_59 : decode cX8_spread 59 = .ok (.bipush 9, 2) := by decide +kernel
theorem dX8_spread_61 : decode cX8_spread 61 = .ok (.if_icmp .ge 105, 3) := by decide +kernel
theorem dX8_spread_64 : decode cX8_spread 64 = .ok (.iload 4, 2) := by decide +kernel
theorem dX8_spread_66 : decode cX8_spread 66 = .ok (.iload 6, 2) := by decide +kernel
theorem dX8_spread_68 : decode cX8_spread 68 = .ok (.iconst 3, 1) := by decide +kernel
theorem dX8_spread_69 : decode cX8_spread 69 = .ok (.irem, 1) := by decide +kernel
theorem dX8_spread_70 : decode cX8_spread 70 = .ok (.iadd, 1) := by decide +kernel
theorem dX8_spread_71 : decode cX8_spread 71 = .ok (.iconst 1, 1) := by decide +kernel
theorem dX8_spread_72 : decode cX8_spread 72 = .ok (.isub, 1) := by decide +kernel
theorem dX8_spread_73 : decode cX8_spread 73 = .ok (.istore 7, 2) := by decide +kernel
theorem dX8_spread_75 : decode cX8_spread 75 = .ok (.iload 5, 2) := by decide +kernel
theorem dX8_spread_77 : decode cX8_spread 77 = .ok (.iload 6, 2) := by decide +kernel
theorem dX8_spread_79 : decode cX8_spread 79 = .ok (.iconst 3, 1) := by decide +kernel
theorem dX8_spread_80 : decode cX8_spread 80 = .ok (.idiv, 1) := by decide +kernel
theorem dX8_spread_81 : decode cX8_spread 81 = .ok (.iadd, 1) := by decide +kernel
theorem dX8_spread_82 : decode cX8_spread 82 = .ok (.iconst 1, 1) := by decide +kernel
theorem dX8_spread_83 : decode cX8_spread 83 = .ok (.isub, 1) := by decide +kernel
theorem dX8_spread_84 : decode cX8_spread 84 = .ok (.istore 8, 2) := by decide +kernel
theorem dX8_spread_86 : decode cX8_spread 86 = .ok (.iload 7, 2) := by decide +kernel
theorem dX8_spread_88 : decode cX8_spread 88 = .ok (.iload 8, 2) := by decide +kernel
theorem dX8_spread_90 : decode cX8_spread 90 = .ok (.invokestatic 135, 3) := by decide +kernel
theorem dX8_spread_93 : decode cX8_spread 93 = .ok (.ifCond .eq 67, 3) := by decide +kernel
theorem dX8_spread_96 : decode cX8_spread 96 = .ok (.aload_n 0, 1) := by decide +kernel
theorem dX8_spread_97 : decode cX8_spread 97 = .ok (.getfield 42, 3) := by decide +kernel
theorem dX8_spread_100 : decode cX8_spread 100 = .ok (.iload 7, 2) := by decide +kernel
theorem dX8_spread_102 : decode cX8_spread 102 = .ok (.iload 8, 2) := by decide +kernel
theorem dX8_spread_104 : decode cX8_spread 104 = .ok (.invokestatic 138, 3) := by decide +kernel
theorem dX8_spread_107 : decode cX8_spread 107 = .ok (.baload, 1) := by decide +kernel
theorem dX8_spread_108 : decode cX8_spread 108 = .ok (.ifCond .eq 52, 3) := by decide +kernel
theorem dX8_spread_111 : decode cX8_spread 111 = .ok (.aload_n 0, 1) := by decide +kernel
theorem dX8_spread_112 : decode cX8_spread 112 = .ok (.getfield 46, 3) := by decide +kernel
theorem dX8_spread_115 : decode cX8_spread 115 = .ok (.iload 7, 2) := by decide +kernel
theorem dX8_spread_117 : decode cX8_spread 117 = .ok (.iload 8, 2) := by decide +kernel
theorem dX8_spread_119 : decode cX8_spread 119 = .ok (.invokestatic 138, 3) := by decide +kernel
theorem dX8_spread_122 : decode cX8_spread 122 = .ok (.iaload, 1) := by decide +kernel
theorem dX8_spread_123 : decode cX8_spread 123 = .ok (.bipush (-9), 2) := by decide +kernel
theorem dX8_spread_125 : decode cX8_spread 125 = .ok (.if_icmp .ne 35, 3) := by decide +kernel
theorem dX8_spread_128 : decode cX8_spread 128 = .ok (.aload_n 0, 1) := by decide +kernel
theorem dX8_spread_129 : decode cX8_spread 129 = .ok (.getfield 46, 3) := by decide +kernel
theorem dX8_spread_132 : decode cX8_spread 132 = .ok (.iload 7, 2) := by decide +kernel
theorem dX8_spread_134 : decode cX8_spread 134 = .ok (.iload 8, 2) := by decide +kernel
theorem dX8_spread_136 : decode cX8_spread 136 = .ok (.invokestatic 138, 3) := by decide +kernel
theorem dX8_spread_139 : decode cX8_spread 139 = .ok (.aload_n 0, 1) := by decide +kernel
theorem dX8_spread_140 : decode cX8_spread 140 = .ok (.getfield 132, 3) := by decide +kernel
theorem dX8_spread_143 : decode cX8_spread 143 = .ok (.iastore, 1) := by decide +kernel
theorem dX8_spread_144 : decode cX8_spread 144 = .ok (.aload_n 0, 1) := by decide +kernel
theorem dX8_spread_145 : decode cX8_spread 145 = .ok (.getfield 49, 3) := by decide +kernel
theorem dX8_spread_148 : decode cX8_spread 148 = .ok (.iload_n 2, 1) := by decide +kernel
theorem dX8_spread_149 : decode cX8_spread 149 = .ok (.iload 7, 2) := by decide +kernel
theorem dX8_spread_151 : decode cX8_spread 151 = .ok (.iload 8, 2) := by decide +kernel
theorem dX8_spread_153 : decode cX8_spread 153 = .ok (.invokestatic 138, 3) := by decide +kernel
theorem dX8_spread_156 : decode cX8_spread 156 = .ok (.iastore, 1) := by decide +kernel
theorem dX8_spread_157 : decode cX8_spread 157 = .ok (.iinc 2 1, 3) := by decide +kernel
theorem dX8_spread_160 : decode cX8_spread 160 = .ok (.iinc 6 1, 3) := by decide +kernel
theorem dX8_spread_163 : decode cX8_spread 163 = .ok (.goto (-106), 3) := by decide +kernel
theorem dX8_spread_166 : decode cX8_spread 166 = .ok (.iinc 3 1, 3) := by decide +kernel
theorem dX8_spread_169 : decode cX8_spread 169 = .ok (.goto (-148), 3) := by decide +kernel
theorem dX8_spread_172 : decode cX8_spread 172 = .ok (.aload_n 0, 1) := by decide +kernel
theorem dX8_spread_173 : decode cX8_spread 173 = .ok (.getfield 52, 3) := by decide +kernel
theorem dX8_spread_176 : decode cX8_spread 176 = .ok (.aload_n 0, 1) := by decide +kernel
theorem dX8_spread_177 : decode cX8_spread 177 = .ok (.getfield 132, 3) := by decide +kernel
theorem dX8_spread_180 : decode cX8_spread 180 = .ok (.iload_n 1, 1) := by decide +kernel
theorem dX8_spread_181 : decode cX8_spread 181 = .ok (.iastore, 1) := by decide +kernel
theorem dX8_spread_182 : decode cX8_spread 182 = .ok (.aload_n 0, 1) := by decide +kernel
theorem dX8_spread_183 : decode cX8_spread 183 = .ok (.getfield 55, 3) := by decide +kernel
theorem dX8_spread_186 : decode cX8_spread 186 = .ok (.aload_n 0, 1) := by decide +kernel
theorem dX8_spread_187 : decode cX8_spread 187 = .ok (.getfield 132, 3) := by decide +kernel
theorem dX8_spread_190 : decode cX8_spread 190 = .ok (.iload_n 2, 1) := by decide +kernel
theorem dX8_spread_191 : decode cX8_spread 191 = .ok (.iastore, 1) := by decide +kernel
theorem dX8_spread_192 : decode cX8_spread 192 = .ok (.aload_n 0, 1) := by decide +kernel
theorem dX8_spread_193 : decode cX8_spread 193 = .ok (.dup, 1) := by decide +kernel
theorem dX8_spread_194 : decode cX8_spread 194 = .ok (.getfield 132, 3) := by decide +kernel
theorem dX8_spread_197 : decode cX8_spread 197 = .ok (.iconst 1, 1) := by decide +kernel
theorem dX8_spread_198 : decode cX8_spread 198 = .ok (.iadd, 1) := by decide +kernel
theorem dX8_spread_199 : decode cX8_spread 199 = .ok (.putfield 132, 3) := by decide +kernel
theorem dX8_spread_202 : decode cX8_spread 202 = .ok (.return_, 1) := by decide +kernel
theorem dX8_findGroups_0 : decode cX8_findGroups 0 = .ok (.aload_n 0, 1) := by decide +kernel
theorem dX8_findGroups_1 : decode cX8_findGroups 1 = .ok (.iconst 0, 1) := by decide +kernel
theorem dX8_findGroups_2 : decode cX8_findGroups 2 = .ok (.putfield 132, 3) := by decide +kernel
theorem dX8_findGroups_5 : decode cX8_findGroups 5 = .ok (.iconst 0, 1) := by decide +kernel
theorem dX8_findGroups_6 : decode cX8_findGroups 6 = .ok (.istore_n 1, 1) := by decide +kernel
theorem dX8_findGroups_7 : decode cX8_findGroups 7 = .ok (.iload_n 1, 1) := by decide +kernel
theorem dX8_findGroups_8 : decode cX8_findGroups 8 = .ok (.sipush 2401, 3) := by decide +kernel
theorem dX8_findGroups_11 : decode cX8_findGroups 11 = .ok (.if_icmp .ge 17, 3) := by decide +kernel
theorem dX8_findGroups_14 : decode cX8_findGroups 14 = .ok (.aload_n 0, 1) := by decide +kernel
theorem dX8_findGroups_15 : decode cX8_findGroups 15 = .ok (.getfield 46, 3) := by decide +kernel
theorem dX8_findGroups_18 : decode cX8_findGroups 18 = .ok (.iload_n 1, 1) := by decide +kernel
theorem dX8_findGroups_19 : decode cX8_findGroups 19 = .ok (.bipush (-9), 2) := by decide +kernel
theorem dX8_findGroups_21 : decode cX8_findGroups 21 = .ok (.iastore, 1) := by decide +kernel
theorem dX8_findGroups_22 : decode cX8_findGroups 22 = .ok (.iinc 1 1, 3) := by decide +kernel
theorem dX8_findGroups_25 : decode cX8_findGroups 25 = .ok (.goto (-18), 3) := by decide +kernel
theorem dX8_findGroups_28 : decode cX8_findGroups 28 = .ok (.iconst 0, 1) := by decide +kernel
theorem dX8_findGroups_29 : decode cX8_findGroups 29 = .ok (.istore_n 1, 1) := by decide +kernel
theorem dX8_findGroups_30 : decode cX8_findGroups 30 = .ok (.iload_n 1, 1) := by decide +kernel
theorem dX8_findGroups_31 : decode cX8_findGroups 31 = .ok (.sipush 2401, 3) := by decide +kernel
theorem dX8_findGroups_34 : decode cX8_findGroups 34 = .ok (.if_icmp .ge 34, 3) := by decide +kernel
theorem dX8_findGroups_37 : decode cX8_findGroups 37 = .ok (.aload_n 0, 1) := by decide +kernel
theorem dX8_findGroups_38 : decode cX8_findGroups 38 = .ok (.getfield 42, 3) := by decide +kernel
theorem dX8_findGroups_41 : decode cX8_findGroups 41 = .ok (.iload_n 1, 1) := by decide +kernel
theorem dX8_findGroups_42 : decode cX8_findGroups 42 = .ok (.baload, 1) := by decide +kernel
theorem dX8_findGroups_43 : decode cX8_findGroups 43 = .ok (.ifCond .eq 19, 3) := by decide +kernel
theorem dX8_findGroups_46 : decode cX8_findGroups 46 = .ok (.aload_n 0, 1) := by decide +kernel
theorem dX8_findGroups_47 : decode cX8_findGroups 47 = .ok (.getfield 46, 3) := by decide +kernel
theorem dX8_findGroups_50 : decode cX8_findGroups 50 = .ok (.iload_n 1, 1) := by decide +kernel
theorem dX8_findGroups_51 : decode cX8_findGroups 51 = .ok (.iaload, 1) := by decide +kernel
theorem dX8_findGroups_52 : decode cX8_findGroups 52 = .ok (.bipush (-9), 2) := by decide +kernel
theorem dX8_findGroups_54 : decode cX8_findGroups 54 = .ok (.if_icmp .ne 8, 3) := by decide +kernel
theorem dX8_findGroups_57 : decode cX8_findGroups 57 = .ok (.aload_n 0, 1) := by decide +kernel
theorem dX8_findGroups_58 : decode cX8_findGroups 58 = .ok (.iload_n 1, 1) := by decide +kernel
theorem dX8_findGroups_59 : decode cX8_findGroups 59 = .ok (.invokevirtual 141, 3) := by decide +kernel
theorem dX8_findGroups_62 : decode cX8_findGroups 62 = .ok (.iinc 1 1, 3) := by decide +kernel
theorem dX8_findGroups_65 : decode cX8_findGroups 65 = .ok (.goto (-35), 3) := by decide +kernel
theorem dX8_findGroups_68 : decode cX8_findGroups 68 = .ok (.return_, 1) := by decide +kernel
theorem dX8_findPictures_0 : decode cX8_findPictures 0 = .ok (.aload_n 0, 1) := by decide +kernel
theorem dX8_findPictures_1 : decode cX8_findPictures 1 = .ok (.invokevirtual 145, 3) := by decide +kernel
theorem dX8_findPictures_4 : decode cX8_findPictures 4 = .ok (.iconst 0, 1) := by decide +kernel
theorem dX8_findPictures_5 : decode cX8_findPictures 5 = .ok (.istore_n 3, 1) := by decide +kernel
theorem dX8_findPictures_6 : decode cX8_findPictures 6 = .ok (.iconst 0, 1) := by decide +kernel
theorem dX8_findPictures_7 : decode cX8_findPictures 7 = .ok (.istore 4, 2) := by decide +kernel
theorem dX8_findPictures_9 : decode cX8_findPictures 9 = .ok (.iload 4, 2) := by decide +kernel
theorem dX8_findPictures_11 : decode cX8_findPictures 11 = .ok (.sipush 2401, 3) := by decide +kernel
theorem dX8_findPictures_14 : decode cX8_findPictures 14 = .ok (.if_icmp .ge 87, 3) := by decide +kernel
theorem dX8_findPictures_17 : decode cX8_findPictures 17 = .ok (.aload_n 0, 1) := by decide +kernel
theorem dX8_findPictures_18 : decode cX8_findPictures 18 = .ok (.getfield 42, 3) := by decide +kernel
theorem dX8_findPictures_21 : decode cX8_findPictures 21 = .ok (.iload 4, 2) := by decide +kernel
theorem dX8_findPictures_23 : decode cX8_findPictures 23 = .ok (.aload_n 0, 1) := by decide +kernel
theorem dX8_findPictures_24 : decode cX8_findPictures 24 = .ok (.iload 4, 2) := by decide +kernel
theorem dX8_findPictures_26 : decode cX8_findPictures 26 = .ok (.bipush 49, 2) := by decide +kernel
theorem dX8_findPictures_28 : decode cX8_findPictures 28 = .ok (.irem, 1) := by decide +kernel
theorem dX8_findPictures_29 : decode cX8_findPictures 29 = .ok (.bipush 24, 2) := by decide +kernel
theorem dX8_findPictures_31 : decode cX8_findPictures 31 = .ok (.isub, 1) := by decide +kernel
theorem dX8_findPictures_32 : decode cX8_findPictures 32 = .ok (.iload 4, 2) := by decide +kernel
theorem dX8_findPictures_34 : decode cX8_findPictures 34 = .ok (.bipush 49, 2) := by decide +kernel
theorem dX8_findPictures_36 : decode cX8_findPictures 36 = .ok (.idiv, 1) := by decide +kernel
theorem dX8_findPictures_37 : decode cX8_findPictures 37 = .ok (.bipush 24, 2) := by decide +kernel
theorem dX8_findPictures_39 : decode cX8_findPictures 39 = .ok (.isub, 1) := by decide +kernel
theorem dX8_findPictures_40 : decode cX8_findPictures 40 = .ok (.invokevirtual 148, 3) := by decide +kernel
theorem dX8_findPictures_43 : decode cX8_findPictures 43 = .ok (.iload_n 1, 1) := by decide +kernel
theorem dX8_findPictures_44 : decode cX8_findPictures 44 = .ok (.if_icmp .ne 31, 3) := by decide +kernel
theorem dX8_findPictures_47 : decode cX8_findPictures 47 = .ok (.aload_n 0, 1) := by decide +kernel
theorem dX8_findPictures_48 : decode cX8_findPictures 48 = .ok (.iload 4, 2) := by decide +kernel
theorem dX8_findPictures_50 : decode cX8_findPictures 50 = .ok (.bipush 49, 2) := by decide +kernel
theorem dX8_findPictures_52 : decode cX8_findPictures 52 = .ok (.irem, 1) := by decide +kernel
theorem dX8_findPictures_53 : decode cX8_findPictures 53 = .ok (.bipush 24, 2) := by decide +kernel
theorem dX8_findPictures_55 : decode cX8_findPictures 55 = .ok (.isub, 1) := by decide +kernel
theorem dX8_findPictures_56 : decode cX8_findPictures 56 = .ok (.iload 4, 2) := by decide +kernel
theorem dX8_findPictures_58 : decode cX8_findPictures 58 = .ok (.bipush 49, 2) := by decide +kernel
theorem dX8_findPictures_60 : decode cX8_findPictures 60 = .ok (.idiv, 1) := by decide +kernel
theorem dX8_findPictures_61 : decode cX8_findPictures 61 = .ok (.bipush 24, 2) := by decide +kernel
theorem dX8_findPictures_63 : decode cX8_findPictures 63 = .ok (.isub, 1) := by decide +kernel
theorem dX8_findPictures_64 : decode cX8_findPictures 64 = .ok (.invokevirtual 151, 3) := by decide +kernel
theorem dX8_findPictures_67 : decode cX8_findPictures 67 = .ok (.iload_n 2, 1) := by decide +kernel
theorem dX8_findPictures_68 : decode cX8_findPictures 68 = .ok (.if_icmp .ne 7, 3) := by decide +kernel
theorem dX8_findPictures_71 : decode cX8_findPictures 71 = .ok (.iconst 1, 1) := by decide +kernel
theorem dX8_findPictures_72 : decode cX8_findPictures 72 = .ok (.goto 4, 3) := by decide +kernel
theorem dX8_findPictures_75 : decode cX8_findPictures 75 = .ok (.iconst 0, 1) := by decide +kernel
theorem dX8_findPictures_76 : decode cX8_findPictures 76 = .ok (.bastore, 1) := by decide +kernel
theorem dX8_findPictures_77 : decode cX8_findPictures 77 = .ok (.iload_n 3, 1) := by decide +kernel
theorem dX8_findPictures_78 : decode cX8_findPictures 78 = .ok (.aload_n 0, 1) := by decide +kernel
theorem dX8_findPictures_79 : decode cX8_findPictures 79 = .ok (.getfield 42, 3) := by decide +kernel
theorem dX8_findPictures_82 : decode cX8_findPictures 82 = .ok (.iload 4, 2) := by decide +kernel
theorem dX8_findPictures_84 : decode cX8_findPictures 84 = .ok (.baload, 1) := by decide +kernel
theorem dX8_findPictures_85 : decode cX8_findPictures 85 = .ok (.ifCond .eq 7, 3) := by decide +kernel
theorem dX8_findPictures_88 : decode cX8_findPictures 88 = .ok (.iconst 1, 1) := by decide +kernel
theorem dX8_findPictures_89 : decode cX8_findPictures 89 = .ok (.goto 4, 3) := by decide +kernel
theorem dX8_findPictures_92 : decode cX8_findPictures 92 = .ok (.iconst 0, 1) := by decide +kernel
theorem dX8_findPictures_93 : decode cX8_findPictures 93 = .ok (.iadd, 1) := by decide +kernel
theorem dX8_findPictures_94 : decode cX8_findPictures 94 = .ok (.istore_n 3, 1) := by decide +kernel
theorem dX8_findPictures_95 : decode cX8_findPictures 95 = .ok (.iinc 4 1, 3) := by decide +kernel
theorem dX8_findPictures_98 : decode cX8_findPictures 98 = .ok (.goto (-89), 3) := by decide +kernel
theorem dX8_findPictures_101 : decode cX8_findPictures 101 = .ok (.iload_n 3, 1) := by decide +kernel
theorem dX8_findPictures_102 : decode cX8_findPictures 102 = .ok (.ireturn, 1) := by decide +kernel
theorem dX8_pictures_0 : decode cX8_pictures 0 = .ok (.iload_n 1, 1) := by decide +kernel
theorem dX8_pictures_1 : decode cX8_pictures 1 = .ok (.iload_n 2, 1) := by decide +kernel
theorem dX8_pictures_2 : decode cX8_pictures 2 = .ok (.bipush 99, 2) := by decide +kernel
theorem dX8_pictures_4 : decode cX8_pictures 4 = .ok (.invokestatic 81, 3) := by decide +kernel
theorem dX8_pictures_7 : decode cX8_pictures 7 = .ok (.ifCond .eq 12, 3) := by decide +kernel
theorem dX8_pictures_10 : decode cX8_pictures 10 = .ok (.iload_n 3, 1) := by decide +kernel
theorem dX8_pictures_11 : decode cX8_pictures 11 = .ok (.iconst 0, 1) := by decide +kernel
theorem dX8_pictures_12 : decode cX8_pictures 12 = .ok (.iconst 1, 1) := by decide +kernel
theorem dX8_pictures_13 : decode cX8_pictures 13 = .ok (.invokestatic 74, 3) := by decide +kernel
theorem dX8_pictures_16 : decode cX8_pictures 16 = .ok (.ifCond .ne 5, 3) := by decide +kernel
theorem dX8_pictures_19 : decode cX8_pictures 19 = .ok (.iconst (-1), 1) := by decide +kernel
theorem dX8_pictures_20 : decode cX8_pictures 20 = .ok (.ireturn, 1) := by decide +kernel
theorem dX8_pictures_21 : decode cX8_pictures 21 = .ok (.aload_n 0, 1) := by decide +kernel
theorem dX8_pictures_22 : decode cX8_pictures 22 = .ok (.iload_n 1, 1) := by decide +kernel
theorem dX8_pictures_23 : decode cX8_pictures 23 = .ok (.iload_n 2, 1) := by decide +kernel
theorem dX8_pictures_24 : decode cX8_pictures 24 = .ok (.invokevirtual 154, 3) := by decide +kernel
theorem dX8_pictures_27 : decode cX8_pictures 27 = .ok (.istore 4, 2) := by decide +kernel
theorem dX8_pictures_29 : decode cX8_pictures 29 = .ok (.aload_n 0, 1) := by decide +kernel
theorem dX8_pictures_30 : decode cX8_pictures 30 = .ok (.invokevirtual 157, 3) := by decide +kernel
theorem dX8_pictures_33 : decode cX8_pictures 33 = .ok (.iload_n 3, 1) := by decide +kernel
theorem dX8_pictures_34 : decode cX8_pictures 34 = .ok (.ifCond .ne 8, 3) := by decide +kernel
theorem dX8_pictures_37 : decode cX8_pictures 37 = .ok (.iload 4, 2) := by decide +kernel
theorem dX8_pictures_39 : decode cX8_pictures 39 = .ok (.goto 7, 3) := by decide +kernel
theorem dX8_pictures_42 : decode cX8_pictures 42 = .ok (.aload_n 0, 1) := by decide +kernel
theorem dX8_pictures_43 : decode cX8_pictures 43 = .ok (.getfield 132, 3) := by decide +kernel
theorem dX8_pictures_46 : decode cX8_pictures 46 = .ok (.ireturn, 1) := by decide +kernel
theorem dX8_group_0 : decode cX8_group 0 = .ok (.iload_n 1, 1) := by decide +kernel
theorem dX8_group_1 : decode cX8_group 1 = .ok (.iload_n 2, 1) := by decide +kernel
theorem dX8_group_2 : decode cX8_group 2 = .ok (.bipush 99, 2) := by decide +kernel
theorem dX8_group_4 : decode cX8_group 4 = .ok (.invokestatic 81, 3) := by decide +kernel
theorem dX8_group_7 : decode cX8_group 7 = .ok (.ifCond .eq 17, 3) := by decide +kernel
theorem dX8_group_10 : decode cX8_group 10 = .ok (.iload 4, 2) := by decide +kernel
theorem dX8_group_12 : decode cX8_group 12 = .ok (.iconst 0, 1) := by decide +kernel
theorem dX8_group_13 : decode cX8_group 13 = .ok (.iconst 3, 1) := by decide +kernel
theorem dX8_group_14 : decode cX8_group 14 = .ok (.invokestatic 74, 3) := by decide +kernel
theorem dX8_group_17 : decode cX8_group 17 = .ok (.ifCond .eq 7, 3) := by decide +kernel
theorem dX8_group_20 : decode cX8_group 20 = .ok (.iload_n 3, 1) := by decide +kernel
theorem dX8_group_21 : decode cX8_group 21 = .ok (.ifCond .ge 6, 3) := by decide +kernel
theorem dX8_group_24 : decode cX8_group 24 = .ok (.ldc 92, 2) := by decide +kernel
theorem dX8_group_26 : decode cX8_group 26 = .ok (.ireturn, 1) := by decide +kernel
theorem dX8_group_27 : decode cX8_group 27 = .ok (.aload_n 0, 1) := by decide +kernel
theorem dX8_group_28 : decode cX8_group 28 = .ok (.iload_n 1, 1) := by decide +kernel
theorem dX8_group_29 : decode cX8_group 29 = .ok (.iload_n 2, 1) := by decide +kernel
theorem dX8_group_30 : decode cX8_group 30 = .ok (.invokevirtual 154, 3) := by decide +kernel
theorem dX8_group_33 : decode cX8_group 33 = .ok (.istore 5, 2) := by decide +kernel
theorem dX8_group_35 : decode cX8_group 35 = .ok (.aload_n 0, 1) := by decide +kernel
theorem dX8_group_36 : decode cX8_group 36 = .ok (.invokevirtual 157, 3) := by decide +kernel
theorem dX8_group_39 : decode cX8_group 39 = .ok (.iload_n 3, 1) := by decide +kernel
theorem dX8_group_40 : decode cX8_group 40 = .ok (.aload_n 0, 1) := by decide +kernel
theorem dX8_group_41 : decode cX8_group 41 = .ok (.getfield 132, 3) := by decide +kernel
theorem dX8_group_44 : decode cX8_group 44 = .ok (.if_icmp .ge 8, 3) := by decide +kernel
theorem dX8_group_47 : decode cX8_group 47 = .ok (.iload 5, 2) := by decide +kernel
theorem dX8_group_49 : decode cX8_group 49 = .ok (.ifCond .ne 6, 3) := by decide +kernel
theorem dX8_group_52 : decode cX8_group 52 = .ok (.ldc 92, 2) := by decide +kernel
theorem dX8_group_54 : decode cX8_group 54 = .ok (.ireturn, 1) := by decide +kernel
theorem dX8_group_55 : decode cX8_group 55 = .ok (.aload_n 0, 1) := by decide +kernel
theorem dX8_group_56 : decode cX8_group 56 = .ok (.getfield 52, 3) := by decide +kernel
theorem dX8_group_59 : decode cX8_group 59 = .ok (.iload_n 3, 1) := by decide +kernel
theorem dX8_group_60 : decode cX8_group 60 = .ok (.iaload, 1) := by decide +kernel
theorem dX8_group_61 : decode cX8_group 61 = .ok (.bipush 49, 2) := by decide +kernel
theorem dX8_group_63 : decode cX8_group 63 = .ok (.irem, 1) := by decide +kernel
theorem dX8_group_64 : decode cX8_group 64 = .ok (.bipush 24, 2) := by decide +kernel
theorem dX8_group_66 : decode cX8_group 66 = .ok (.isub, 1) := by decide +kernel
theorem dX8_group_67 : decode cX8_group 67 = .ok (.istore 6, 2) := by decide +kernel
theorem dX8_group_69 : decode cX8_group 69 = .ok (.aload_n 0, 1) := by decide +kernel
theorem dX8_group_70 : decode cX8_group 70 = .ok (.getfield 52, 3) := by decide +kernel
theorem dX8_group_73 : decode cX8_group 73 = .ok (.iload_n 3, 1) := by decide +kernel
theorem dX8_group_74 : decode cX8_group 74 = .ok (.iaload, 1) := by decide +kernel
theorem dX8_group_75 : decode cX8_group 75 = .ok (.bipush 49, 2) := by decide +kernel
theorem dX8_group_77 : decode cX8_group 77 = .ok (.idiv, 1) := by decide +kernel
theorem dX8_group_78 : decode cX8_group 78 = .ok (.bipush 24, 2) := by decide +kernel
theorem dX8_group_80 : decode cX8_group 80 = .ok (.isub, 1) := by decide +kernel
theorem dX8_group_81 : decode cX8_group 81 = .ok (.istore 7, 2) := by decide +kernel
theorem dX8_group_83 : decode cX8_group 83 = .ok (.iload 4, 2) := by decide +kernel
theorem dX8_group_85 : decode cX8_group 85 = .ok (.ifCond .ne 8, 3) := by decide +kernel
theorem dX8_group_88 : decode cX8_group 88 = .ok (.iload 6, 2) := by decide +kernel
theorem dX8_group_90 : decode cX8_group 90 = .ok (.goto 37, 3) := by decide +kernel
theorem dX8_group_93 : decode cX8_group 93 = .ok (.iload 4, 2) := by decide +kernel
theorem dX8_group_95 : decode cX8_group 95 = .ok (.iconst 1, 1) := by decide +kernel
theorem dX8_group_96 : decode cX8_group 96 = .ok (.if_icmp .ne 8, 3) := by decide +kernel
theorem dX8_group_99 : decode cX8_group 99 = .ok (.iload 7, 2) := by decide +kernel
theorem dX8_group_101 : decode cX8_group 101 = .ok (.goto 26, 3) := by decide +kernel
theorem dX8_group_104 : decode cX8_group 104 = .ok (.iload 4, 2) := by decide +kernel
theorem dX8_group_106 : decode cX8_group 106 = .ok (.iconst 2, 1) := by decide +kernel
theorem dX8_group_107 : decode cX8_group 107 = .ok (.if_icmp .ne 12, 3) := by decide +kernel
theorem dX8_group_110 : decode cX8_group 110 = .ok (.aload_n 0, 1) := by decide +kernel
theorem dX8_group_111 : decode cX8_group 111 = .ok (.getfield 55, 3) := by decide +kernel
theorem dX8_group_114 : decode cX8_group 114 = .ok (.iload_n 3, 1) := by decide +kernel
theorem dX8_group_115 : decode cX8_group 115 = .ok (.iaload, 1) := by decide +kernel
theorem dX8_group_116 : decode cX8_group 116 = .ok (.goto 11, 3) := by decide +kernel
theorem dX8_group_119 : decode cX8_group 119 = .ok (.aload_n 0, 1) := by decide +kernel
theorem dX8_group_120 : decode cX8_group 120 = .ok (.iload 6, 2) := by decide +kernel
theorem dX8_group_122 : decode cX8_group 122 = .ok (.iload 7, 2) := by decide +kernel
theorem dX8_group_124 : decode cX8_group 124 = .ok (.invokevirtual 160, 3) := by decide +kernel
theorem dX8_group_127 : decode cX8_group 127 = .ok (.ireturn, 1) := by decide +kernel
theorem dX8_parity_0 : decode cX8_parity 0 = .ok (.iload_n 1, 1) := by decide +kernel
theorem dX8_parity_1 : decode cX8_parity 1 = .ok (.iload_n 2, 1) := by decide +kernel
theorem dX8_parity_2 : decode cX8_parity 2 = .ok (.invokestatic 135, 3) := by decide +kernel
theorem dX8_parity_5 : decode cX8_parity 5 = .ok (.ifCond .ne 6, 3) := by decide +kernel
theorem dX8_parity_8 : decode cX8_parity 8 = .ok (.ldc 92, 2) := by decide +kernel
theorem dX8_parity_10 : decode cX8_parity 10 = .ok (.ireturn, 1) := by decide +kernel
theorem dX8_parity_11 : decode cX8_parity 11 = .ok (.aload_n 0, 1) := by decide +kernel
theorem dX8_parity_12 : decode cX8_parity 12 = .ok (.iload_n 1, 1) := by decide +kernel
theorem dX8_parity_13 : decode cX8_parity 13 = .ok (.iload_n 2, 1) := by decide +kernel
theorem dX8_parity_14 : decode cX8_parity 14 = .ok (.invokevirtual 163, 3) := by decide +kernel
theorem dX8_parity_17 : decode cX8_parity 17 = .ok (.aload_n 0, 1) := by decide +kernel
theorem dX8_parity_18 : decode cX8_parity 18 = .ok (.iload_n 1, 1) := by decide +kernel
theorem dX8_parity_19 : decode cX8_parity 19 = .ok (.iload_n 2, 1) := by decide +kernel
theorem dX8_parity_20 : decode cX8_parity 20 = .ok (.invokevirtual 160, 3) := by decide +kernel
theorem dX8_parity_23 : decode cX8_parity 23 = .ok (.ireturn, 1) := by decide +kernel
theorem dX8_critical_0 : decode cX8_critical 0 = .ok (.iload_n 1, 1) := by decide +kernel
theorem dX8_critical_1 : decode cX8_critical 1 = .ok (.iload_n 2, 1) := by decide +kernel
theorem dX8_critical_2 : decode cX8_critical 2 = .ok (.invokestatic 135, 3) := by decide +kernel
theorem dX8_critical_5 : decode cX8_critical 5 = .ok (.ifCond .ne 5, 3) := by decide +kernel
theorem dX8_critical_8 : decode cX8_critical 8 = .ok (.iconst (-1), 1) := by decide +kernel
theorem dX8_critical_9 : decode cX8_critical 9 = .ok (.ireturn, 1) := by decide +kernel
theorem dX8_critical_10 : decode cX8_critical 10 = .ok (.aload_n 0, 1) := by decide +kernel
theorem dX8_critical_11 : decode cX8_critical 11 = .ok (.iload_n 1, 1) := by decide +kernel
theorem dX8_critical_12 : decode cX8_critical 12 = .ok (.iload_n 2, 1) := by decide +kernel
theorem dX8_critical_13 : decode cX8_critical 13 = .ok (.invokevirtual 163, 3) := by decide +kernel
theorem dX8_critical_16 : decode cX8_critical 16 = .ok (.aload_n 0, 1) := by decide +kernel
theorem dX8_critical_17 : decode cX8_critical 17 = .ok (.iload_n 1, 1) := by decide +kernel
theorem dX8_critical_18 : decode cX8_critical 18 = .ok (.iload_n 2, 1) := by decide +kernel
theorem dX8_critical_19 : decode cX8_critical 19 = .ok (.invokevirtual 167, 3) := by decide +kernel
theorem dX8_critical_22 : decode cX8_critical 22 = .ok (.ifCond .eq 7, 3) := by decide +kernel
theorem dX8_critical_25 : decode cX8_critical 25 = .ok (.iconst 1, 1) := by decide +kernel
theorem dX8_critical_26 : decode cX8_critical 26 = .ok (.goto 4, 3) := by decide +kernel
theorem dX8_critical_29 : decode cX8_critical 29 = .ok (.iconst 0, 1) := by decide +kernel
theorem dX8_critical_30 : decode cX8_critical 30 = .ok (.ireturn, 1) := by decide +kernel
theorem dX8_criticalNow_0 : decode cX8_criticalNow 0 = .ok (.aload_n 0, 1) := by decide +kernel
theorem dX8_criticalNow_1 : decode cX8_criticalNow 1 = .ok (.iload_n 1, 1) := by decide +kernel
theorem dX8_criticalNow_2 : decode cX8_criticalNow 2 = .ok (.iload_n 2, 1) := by decide +kernel
theorem dX8_criticalNow_3 : decode cX8_criticalNow 3 = .ok (.invokevirtual 160, 3) := by decide +kernel
theorem dX8_criticalNow_6 : decode cX8_criticalNow 6 = .ok (.istore_n 3, 1) := by decide +kernel
theorem dX8_criticalNow_7 : decode cX8_criticalNow 7 = .ok (.iload_n 1, 1) := by decide +kernel
theorem dX8_criticalNow_8 : decode cX8_criticalNow 8 = .ok (.bipush 24, 2) := by decide +kernel
theorem dX8_criticalNow_10 : decode cX8_criticalNow 10 = .ok (.if_icmp .ge 19, 3) := by decide +kernel
theorem dX8_criticalNow_13 : decode cX8_criticalNow 13 = .ok (.aload_n 0, 1) := by decide +kernel
theorem dX8_criticalNow_14 : decode cX8_criticalNow 14 = .ok (.iload_n 1, 1) := by decide +kernel
theorem dX8_criticalNow_15 : decode cX8_criticalNow 15 = .ok (.iconst 1, 1) := by decide +kernel
theorem dX8_criticalNow_16 : decode cX8_criticalNow 16 = .ok (.iadd, 1) := by decide +kernel
theorem dX8_criticalNow_17 : decode cX8_criticalNow 17 = .ok (.iload_n 2, 1) := by decide +kernel
theorem dX8_criticalNow_18 : decode cX8_criticalNow 18 = .ok (.invokevirtual 160, 3) := by decide +kernel
theorem dX8_criticalNow_21 : decode cX8_criticalNow 21 = .ok (.iload_n 3, 1) := by decide +kernel
theorem dX8_criticalNow_22 : decode cX8_criticalNow 22 = .ok (.if_icmp .eq 7, 3) := by decide +kernel
theorem dX8_criticalNow_25 : decode cX8_criticalNow 25 = .ok (.iconst 1, 1) := by decide +kernel
theorem dX8_criticalNow_26 : decode cX8_criticalNow 26 = .ok (.goto 4, 3) := by decide +kernel
theorem dX8_criticalNow_29 : decode cX8_criticalNow 29 = .ok (.iconst 0, 1) := by decide +kernel
theorem dX8_criticalNow_30 : decode cX8_criticalNow 30 = .ok (.istore 4, 2) := by decide +kernel
theorem dX8_criticalNow_32 : decode cX8_criticalNow 32 = .ok (.iload 4, 2) := by decide +kernel
theorem dX8_criticalNow_34 : decode cX8_criticalNow 34 = .ok (.ifCond .ne 21, 3) := by decide +kernel
theorem dX8_criticalNow_37 : decode cX8_criticalNow 37 = .ok (.iload_n 2, 1) := by decide +kernel
theorem dX8_criticalNow_38 : decode cX8_criticalNow 38 = .ok (.bipush 24, 2) := by decide +kernel
theorem dX8_criticalNow_40 : decode cX8_criticalNow 40 = .ok (.if_icmp .ge 19, 3) := by decide +kernel
theorem dX8_criticalNow_43 : decode cX8_criticalNow 43 = .ok (.aload_n 0, 1) := by decide +kernel
theorem dX8_criticalNow_44 : decode cX8_criticalNow 44 = .ok (.iload_n 1, 1) := by decide +kernel
theorem dX8_criticalNow_45 : decode cX8_criticalNow 45 = .ok (.iload_n 2, 1) := by decide +kernel
theorem dX8_criticalNow_46 : decode cX8_criticalNow 46 = .ok (.iconst 1, 1) := by decide +kernel
theorem dX8_criticalNow_47 : decode cX8_criticalNow 47 = .ok (.iadd, 1) := by decide +kernel
theorem dX8_criticalNow_48 : decode cX8_criticalNow 48 = .ok (.invokevirtual 160, 3) := by decide +kernel
theorem dX8_criticalNow_51 : decode cX8_criticalNow 51 = .ok (.iload_n 3, 1) := by decide +kernel
theorem dX8_criticalNow_52 : decode cX8_criticalNow 52 = .ok (.if_icmp .eq 7, 3) := by decide +kernel
theorem dX8_criticalNow_55 : decode cX8_criticalNow 55 = .ok (.iconst 1, 1) := by decide +kernel
theorem dX8_criticalNow_56 : decode cX8_criticalNow 56 = .ok (.goto 4, 3) := by decide +kernel
theorem dX8_criticalNow_59 : decode cX8_criticalNow 59 = .ok (.iconst 0, 1) := by decide +kernel
theorem dX8_criticalNow_60 : decode cX8_criticalNow 60 = .ok (.ireturn, 1) := by decide +kernel
theorem dX8_rings_0 : decode cX8_rings 0 = .ok (.iload_n 1, 1) := by decide +kernel
theorem dX8_rings_1 : decode cX8_rings 1 = .ok (.iconst 0, 1) := by decide +kernel
theorem dX8_rings_2 : decode cX8_rings 2 = .ok (.iconst 3, 1) := by decide +kernel
theorem dX8_rings_3 : decode cX8_rings 3 = .ok (.invokestatic 74, 3) := by decide +kernel
theorem dX8_rings_6 : decode cX8_rings 6 = .ok (.ifCond .ne 5, 3) := by decide +kernel
theorem dX8_rings_9 : decode cX8_rings 9 = .ok (.iconst (-1), 1) := by decide +kernel
theorem dX8_rings_10 : decode cX8_rings 10 = .ok (.ireturn, 1) := by decide +kernel
theorem dX8_rings_11 : decode cX8_rings 11 = .ok (.aload_n 0, 1) := by decide +kernel
theorem dX8_rings_12 : decode cX8_rings 12 = .ok (.invokevirtual 145, 3) := by decide +kernel
theorem dX8_rings_15 : decode cX8_rings 15 = .ok (.iconst 0, 1) := by decide +kernel
theorem dX8_rings_16 : decode cX8_rings 16 = .ok (.istore_n 2, 1) := by decide +kernel
theorem dX8_rings_17 : decode cX8_rings 17 = .ok (.iconst 0, 1) := by decide +kernel
theorem dX8_rings_18 : decode cX8_rings 18 = .ok (.istore_n 3, 1) := by decide +kernel
theorem dX8_rings_19 : decode cX8_rings 19 = .ok (.iload_n 3, 1) := by decide +kernel
theorem dX8_rings_20 : decode cX8_rings 20 = .ok (.sipush 2401, 3) := by decide +kernel
theorem dX8_rings_23 : decode cX8_rings 23 = .ok (.if_icmp .ge 92, 3) := by decide +kernel
theorem dX8_rings_26 : decode cX8_rings 26 = .ok (.iload_n 3, 1) := by decide +kernel
theorem dX8_rings_27 : decode cX8_rings 27 = .ok (.bipush 49, 2) := by decide +kernel
theorem dX8_rings_29 : decode cX8_rings 29 = .ok (.irem, 1) := by decide +kernel
theorem dX8_rings_30 : decode cX8_rings 30 = .ok (.bipush 24, 2) := by decide +kernel
theorem dX8_rings_32 : decode cX8_rings 32 = .ok (.isub, 1) := by decide +kernel
theorem dX8_rings_33 : decode cX8_rings 33 = .ok (.istore 4, 2) := by decide +kernel
theorem dX8_rings_35 : decode cX8_rings 35 = .ok (.iload_n 3, 1) := by decide +kernel
theorem dX8_rings_36 : decode cX8_rings 36 = .ok (.bipush 49, 2) := by decide +kernel
theorem dX8_rings_38 : decode cX8_rings 38 = .ok (.idiv, 1) := by decide +kernel
theorem dX8_rings_39 : decode cX8_rings 39 = .ok (.bipush 24, 2) := by decide +kernel
theorem dX8_rings_41 : decode cX8_rings 41 = .ok (.isub, 1) := by decide +kernel
theorem dX8_rings_42 : decode cX8_rings 42 = .ok (.istore 5, 2) := by decide +kernel
theorem dX8_rings_44 : decode cX8_rings 44 = .ok (.aload_n 0, 1) := by decide +kernel
theorem dX8_rings_45 : decode cX8_rings 45 = .ok (.getfield 42, 3) := by decide +kernel
theorem dX8_rings_48 : decode cX8_rings 48 = .ok (.iload_n 3, 1) := by decide +kernel
theorem dX8_rings_49 : decode cX8_rings 49 = .ok (.iload_n 1, 1) := by decide +kernel
theorem dX8_rings_50 : decode cX8_rings 50 = .ok (.iconst 2, 1) := by decide +kernel
theorem dX8_rings_51 : decode cX8_rings 51 = .ok (.if_icmp .ge 14, 3) := by decide +kernel
theorem dX8_rings_54 : decode cX8_rings 54 = .ok (.aload_n 0, 1) := by decide +kernel
theorem dX8_rings_55 : decode cX8_rings 55 = .ok (.iload 4, 2) := by decide +kernel
theorem dX8_rings_57 : decode cX8_rings 57 = .ok (.iload 5, 2) := by decide +kernel
theorem dX8_rings_59 : decode cX8_rings 59 = .ok (.invokevirtual 167, 3) := by decide +kernel
theorem dX8_rings_62 : decode cX8_rings 62 = .ok (.goto 29, 3) := by decide +kernel
theorem dX8_rings_65 : decode cX8_rings 65 = .ok (.aload_n 0, 1) := by decide +kernel
theorem dX8_rings_66 : decode cX8_rings 66 = .ok (.iload 4, 2) := by decide +kernel
theorem dX8_rings_68 : decode cX8_rings 68 = .ok (.iload 5, 2) := by decide +kernel
theorem dX8_rings_70 : decode cX8_rings 70 = .ok (.invokevirtual 160, 3) := by decide +kernel
theorem dX8_rings_73 : decode cX8_rings 73 = .ok (.iload_n 1, 1) := by decide +kernel
theorem dX8_rings_74 : decode cX8_rings 74 = .ok (.iconst 2, 1) := by decide +kernel
theorem dX8_rings_75 : decode cX8_rings 75 = .ok (.if_icmp .ne 7, 3) := by decide +kernel
theorem dX8_rings_78 : decode cX8_rings 78 = .ok (.iconst 1, 1) := by decide +kernel
theorem dX8_rings_79 : decode cX8_rings 79 = .ok (.goto 4, 3) := by decide +kernel
theorem dX8_rings_82 : decode cX8_rings 82 = .ok (.iconst (-1), 1) := by decide +kernel
theorem dX8_rings_83 : decode cX8_rings 83 = .ok (.if_icmp .ne 7, 3) := by decide +kernel
theorem dX8_rings_86 : decode cX8_rings 86 = .ok (.iconst 1, 1) := by decide +kernel
theorem dX8_rings_87 : decode cX8_rings 87 = .ok (.goto 4, 3) := by decide +kernel
theorem dX8_rings_90 : decode cX8_rings 90 = .ok (.iconst 0, 1) := by decide +kernel
theorem dX8_rings_91 : decode cX8_rings 91 = .ok (.bastore, 1) := by decide +kernel
theorem dX8_rings_92 : decode cX8_rings 92 = .ok (.iload_n 2, 1) := by decide +kernel
theorem dX8_rings_93 : decode cX8_rings 93 = .ok (.aload_n 0, 1) := by decide +kernel
theorem dX8_rings_94 : decode cX8_rings 94 = .ok (.getfield 42, 3) := by decide +kernel
theorem dX8_rings_97 : decode cX8_rings 97 = .ok (.iload_n 3, 1) := by decide +kernel
theorem dX8_rings_98 : decode cX8_rings 98 = .ok (.baload, 1) := by decide +kernel
theorem dX8_rings_99 : decode cX8_rings 99 = .ok (.ifCond .eq 7, 3) := by decide +kernel
theorem dX8_rings_102 : decode cX8_rings 102 = .ok (.iconst 1, 1) := by decide +kernel
theorem dX8_rings_103 : decode cX8_rings 103 = .ok (.goto 4, 3) := by decide +kernel
theorem dX8_rings_106 : decode cX8_rings 106 = .ok (.iconst 0, 1) := by decide +kernel
theorem dX8_rings_107 : decode cX8_rings 107 = .ok (.iadd, 1) := by decide +kernel
theorem dX8_rings_108 : decode cX8_rings 108 = .ok (.istore_n 2, 1) := by decide +kernel
theorem dX8_rings_109 : decode cX8_rings 109 = .ok (.iinc 3 1, 3) := by decide +kernel
theorem dX8_rings_112 : decode cX8_rings 112 = .ok (.goto (-93), 3) := by decide +kernel
theorem dX8_rings_115 : decode cX8_rings 115 = .ok (.iload_n 1, 1) := by decide +kernel
theorem dX8_rings_116 : decode cX8_rings 116 = .ok (.iconst 1, 1) := by decide +kernel
theorem dX8_rings_117 : decode cX8_rings 117 = .ok (.if_icmp .eq 5, 3) := by decide +kernel
theorem dX8_rings_120 : decode cX8_rings 120 = .ok (.iload_n 2, 1) := by decide +kernel
theorem dX8_rings_121 : decode cX8_rings 121 = .ok (.ireturn, 1) := by decide +kernel
theorem dX8_rings_122 : decode cX8_rings 122 = .ok (.aload_n 0, 1) := by decide +kernel
theorem dX8_rings_123 : decode cX8_rings 123 = .ok (.invokevirtual 157, 3) := by decide +kernel
theorem dX8_rings_126 : decode cX8_rings 126 = .ok (.aload_n 0, 1) := by decide +kernel
theorem dX8_rings_127 : decode cX8_rings 127 = .ok (.getfield 132, 3) := by decide +kernel
theorem dX8_rings_130 : decode cX8_rings 130 = .ok (.ireturn, 1) := by decide +kernel
theorem dX8_brightest_0 : decode cX8_brightest 0 = .ok (.iload_n 1, 1) := by decide +kernel
theorem dX8_brightest_1 : decode cX8_brightest 1 = .ok (.iconst 0, 1) := by decide +kernel
theorem dX8_brightest_2 : decode cX8_brightest 2 = .ok (.iconst 2, 1) := by decide +kernel
theorem dX8_brightest_3 : decode cX8_brightest 3 = .ok (.invokestatic 74, 3) := by decide +kernel
theorem dX8_brightest_6 : decode cX8_brightest 6 = .ok (.ifCond .ne 6, 3) := by decide +kernel
theorem dX8_brightest_9 : decode cX8_brightest 9 = .ok (.ldc 92, 2) := by decide +kernel
theorem dX8_brightest_11 : decode cX8_brightest 11 = .ok (.ireturn, 1) := by decide +kernel
theorem dX8_brightest_12 : decode cX8_brightest 12 = .ok (.aload_n 0, 1) := by decide +kernel
theorem dX8_brightest_13 : decode cX8_brightest 13 = .ok (.invokevirtual 145, 3) := by decide +kernel
theorem dX8_brightest_16 : decode cX8_brightest 16 = .ok (.iconst 0, 1) := by decide +kernel
theorem dX8_brightest_17 : decode cX8_brightest 17 = .ok (.istore_n 2, 1) := by decide +kernel
theorem dX8_brightest_18 : decode cX8_brightest 18 = .ok (.iload_n 2, 1) := by decide +kernel
theorem dX8_brightest_19 : decode cX8_brightest 19 = .ok (.sipush 2401, 3) := by decide +kernel
theorem dX8_brightest_22 : decode cX8_brightest 22 = .ok (.if_icmp .ge 17, 3) := by decide +kernel
theorem dX8_brightest_25 : decode cX8_brightest 25 = .ok (.aload_n 0, 1) := by decide +kernel
theorem dX8_brightest_26 : decode cX8_brightest 26 = .ok (.getfield 46, 3) := by decide +kernel
theorem dX8_brightest_29 : decode cX8_brightest 29 = .ok (.iload_n 2, 1) := by decide +kernel
theorem dX8_brightest_30 : decode cX8_brightest 30 = .ok (.bipush (-9), 2) := by decide +kernel
theorem dX8_brightest_32 : decode cX8_brightest 32 = .ok (.iastore, 1) := by decide +kernel
theorem dX8_brightest_33 : decode cX8_brightest 33 = .ok (.iinc 2 1, 3) := by decide +kernel
theorem dX8_brightest_36 : decode cX8_brightest 36 = .ok (.goto (-18), 3) := by decide +kernel
theorem dX8_brightest_39 : decode cX8_brightest 39 = .ok (.iconst 0, 1) := by decide +kernel
theorem dX8_brightest_40 : decode cX8_brightest 40 = .ok (.istore_n 2, 1) := by decide +kernel
theorem dX8_brightest_41 : decode cX8_brightest 41 = .ok (.iconst 0, 1) := by decide +kernel
theorem dX8_brightest_42 : decode cX8_brightest 42 = .ok (.istore_n 3, 1) := by decide +kernel
theorem dX8_brightest_43 : decode cX8_brightest 43 = .ok (.iconst 0, 1) := by decide +kernel
theorem dX8_brightest_44 : decode cX8_brightest 44 = .ok (.istore 4, 2) := by decide +kernel
theorem dX8_brightest_46 : decode cX8_brightest 46 = .ok (.iload 4, 2) := by decide +kernel
theorem dX8_brightest_48 : decode cX8_brightest 48 = .ok (.sipush 2401, 3) := by decide +kernel
theorem dX8_brightest_51 : decode cX8_brightest 51 = .ok (.if_icmp .ge 200, 3) := by decide +kernel
theorem dX8_brightest_54 : decode cX8_brightest 54 = .ok (.aload_n 0, 1) := by decide +kernel
theorem dX8_brightest_55 : decode cX8_brightest 55 = .ok (.getfield 46, 3) := by decide +kernel
theorem dX8_brightest_58 : decode cX8_brightest 58 = .ok (.iload 4, 2) := by decide +kernel
theorem dX8_brightest_60 : decode cX8_brightest 60 = .ok (.iaload, 1) := by decide +kernel
theorem dX8_brightest_61 : decode cX8_brightest 61 = .ok (.bipush (-9), 2) := by decide +kernel
theorem dX8_brightest_63 : decode cX8_brightest 63 = .ok (.if_icmp .ne 182, 3) := by decide +kernel
theorem dX8_brightest_66 : decode cX8_brightest 66 = .ok (.iconst 0, 1) := by decide +kernel
theorem dX8_brightest_67 : decode cX8_brightest 67 = .ok (.istore 5, 2) := by decide +kernel
theorem dX8_brightest_69 : decode cX8_brightest 69 = .ok (.iload 4, 2) := by decide +kernel
theorem dX8_brightest_71 : decode cX8_brightest 71 = .ok (.istore 6, 2) := by decide +kernel
theorem dX8_brightest_73 : decode cX8_brightest 73 = .ok (.iload 6, 2) := by decide +kernel
theorem dX8_brightest_75 : decode cX8_brightest 75 = .ok (.sipush 2401, 3) := by decide +kernel
theorem dX8_brightest_78 : decode cX8_brightest 78 = .ok (.if_icmp .ge 141, 3) := by decide +kernel
theorem dX8_brightest_81 : decode cX8_brightest 81 = .ok (.aload_n 0, 1) := by decide +kernel
theorem dX8_brightest_82 : decode cX8_brightest 82 = .ok (.iload 6, 2) := by decide +kernel
theorem dX8_brightest_84 : decode cX8_brightest 84 = .ok (.bipush 49, 2) := by decide +kernel
theorem dX8_brightest_86 : decode cX8_brightest 86 = .ok (.irem, 1) := by decide +kernel
theorem dX8_brightest_87 : decode cX8_brightest 87 = .ok (.bipush 24, 2) := by decide +kernel
theorem dX8_brightest_89 : decode cX8_brightest 89 = .ok (.isub, 1) := by decide +kernel
theorem dX8_brightest_90 : decode cX8_brightest 90 = .ok (.iload 6, 2) := by decide +kernel
theorem dX8_brightest_92 : decode cX8_brightest 92 = .ok (.bipush 49, 2) := by decide +kernel
theorem dX8_brightest_94 : decode cX8_brightest 94 = .ok (.idiv, 1) := by decide +kernel
theorem dX8_brightest_95 : decode cX8_brightest 95 = .ok (.bipush 24, 2) := by decide +kernel
theorem dX8_brightest_97 : decode cX8_brightest 97 = .ok (.isub, 1) := by decide +kernel
theorem dX8_brightest_98 : decode cX8_brightest 98 = .ok (.invokevirtual 148, 3) := by decide +kernel
theorem dX8_brightest_101 : decode cX8_brightest 101 = .ok (.aload_n 0, 1) := by decide +kernel
theorem dX8_brightest_102 : decode cX8_brightest 102 = .ok (.iload 4, 2) := by decide +kernel
theorem dX8_brightest_104 : decode cX8_brightest 104 = .ok (.bipush 49, 2) := by decide +kernel
theorem dX8_brightest_106 : decode cX8_brightest 106 = .ok (.irem, 1) := by decide +kernel
theorem dX8_brightest_107 : decode cX8_brightest 107 = .ok (.bipush 24, 2) := by decide +kernel
theorem dX8_brightest_109 : decode cX8_brightest 109 = .ok (.isub, 1) := by decide +kernel
theorem dX8_brightest_110 : decode cX8_brightest 110 = .ok (.iload 4, 2) := by decide +kernel
theorem dX8_brightest_112 : decode cX8_brightest 112 = .ok (.bipush 49, 2) := by decide +kernel
theorem dX8_brightest_114 : decode cX8_brightest 114 = .ok (.idiv, 1) := by decide +kernel
theorem dX8_brightest_115 : decode cX8_brightest 115 = .ok (.bipush 24, 2) := by decide +kernel
theorem dX8_brightest_117 : decode cX8_brightest 117 = .ok (.isub, 1) := by decide +kernel
theorem dX8_brightest_118 : decode cX8_brightest 118 = .ok (.invokevirtual 148, 3) := by decide +kernel
theorem dX8_brightest_121 : decode cX8_brightest 121 = .ok (.if_icmp .ne 50, 3) := by decide +kernel
theorem dX8_brightest_124 : decode cX8_brightest 124 = .ok (.aload_n 0, 1) := by decide +kernel
theorem dX8_brightest_125 : decode cX8_brightest 125 = .ok (.iload 6, 2) := by decide +kernel
theorem dX8_brightest_127 : decode cX8_brightest 127 = .ok (.bipush 49, 2) := by decide +kernel
theorem dX8_brightest_129 : decode cX8_brightest 129 = .ok (.irem, 1) := by decide +kernel
theorem dX8_brightest_130 : decode cX8_brightest 130 = .ok (.bipush 24, 2) := by decide +kernel
theorem dX8_brightest_132 : decode cX8_brightest 132 = .ok (.isub, 1) := by decide +kernel
theorem dX8_brightest_133 : decode cX8_brightest 133 = .ok (.iload 6, 2) := by decide +kernel
theorem dX8_brightest_135 : decode cX8_brightest 135 = .ok (.bipush 49, 2) := by decide +kernel
theorem dX8_brightest_137 : decode cX8_brightest 137 = .ok (.idiv, 1) := by decide +kernel
theorem dX8_brightest_138 : decode cX8_brightest 138 = .ok (.bipush 24, 2) := by decide +kernel
theorem dX8_brightest_140 : decode cX8_brightest 140 = .ok (.isub, 1) := by decide +kernel
theorem dX8_brightest_141 : decode cX8_brightest 141 = .ok (.invokevirtual 151, 3) := by decide +kernel
theorem dX8_brightest_144 : decode cX8_brightest 144 = .ok (.aload_n 0, 1) := by decide +kernel
theorem dX8_brightest_145 : decode cX8_brightest 145 = .ok (.iload 4, 2) := by decide +kernel
theorem dX8_brightest_147 : decode cX8_brightest 147 = .ok (.bipush 49, 2) := by decide +kernel
theorem dX8_brightest_149 : decode cX8_brightest 149 = .ok (.irem, 1) := by decide +kernel
theorem dX8_brightest_150 : decode cX8_brightest 150 = .ok (.bipush 24, 2) := by decide +kernel
theorem dX8_brightest_152 : decode cX8_brightest 152 = .ok (.isub, 1) := by decide +kernel
theorem dX8_brightest_153 : decode cX8_brightest 153 = .ok (.iload 4, 2) := by decide +kernel
theorem dX8_brightest_155 : decode cX8_brightest 155 = .ok (.bipush 49, 2) := by decide +kernel
theorem dX8_brightest_157 : decode cX8_brightest 157 = .ok (.idiv, 1) := by decide +kernel
theorem dX8_brightest_158 : decode cX8_brightest 158 = .ok (.bipush 24, 2) := by decide +kernel
theorem dX8_brightest_160 : decode cX8_brightest 160 = .ok (.isub, 1) := by decide +kernel
theorem dX8_brightest_161 : decode cX8_brightest 161 = .ok (.invokevirtual 151, 3) := by decide +kernel
theorem dX8_brightest_164 : decode cX8_brightest 164 = .ok (.if_icmp .ne 7, 3) := by decide +kernel
theorem dX8_brightest_167 : decode cX8_brightest 167 = .ok (.iconst 1, 1) := by decide +kernel
theorem dX8_brightest_168 : decode cX8_brightest 168 = .ok (.goto 4, 3) := by decide +kernel
theorem dX8_brightest_171 : decode cX8_brightest 171 = .ok (.iconst 0, 1) := by decide +kernel
theorem dX8_brightest_172 : decode cX8_brightest 172 = .ok (.istore 7, 2) := by decide +kernel
theorem dX8_brightest_174 : decode cX8_brightest 174 = .ok (.aload_n 0, 1) := by decide +kernel
theorem dX8_brightest_175 : decode cX8_brightest 175 = .ok (.getfield 46, 3) := by decide +kernel
theorem dX8_brightest_178 : decode cX8_brightest 178 = .ok (.iload 6, 2) := by decide +kernel
theorem dX8_brightest_180 : decode cX8_brightest 180 = .ok (.iload 7, 2) := by decide +kernel
theorem dX8_brightest_182 : decode cX8_brightest 182 = .ok (.ifCond .eq 8, 3) := by decide +kernel
theorem dX8_brightest_185 : decode cX8_brightest 185 = .ok (.iload 4, 2) := by decide +kernel
theorem dX8_brightest_187 : decode cX8_brightest 187 = .ok (.goto 10, 3) := by decide +kernel
theorem dX8_brightest_190 : decode cX8_brightest 190 = .ok (.aload_n 0, 1) := by decide +kernel
theorem dX8_brightest_191 : decode cX8_brightest 191 = .ok (.getfield 46, 3) := by decide +kernel
theorem dX8_brightest_194 : decode cX8_brightest 194 = .ok (.iload 6, 2) := by decide +kernel
theorem dX8_brightest_196 : decode cX8_brightest 196 = .ok (.iaload, 1) := by decide +kernel
theorem dX8_brightest_197 : decode cX8_brightest 197 = .ok (.iastore, 1) := by decide +kernel
theorem dX8_brightest_198 : decode cX8_brightest 198 = .ok (.iload 5, 2) := by decide +kernel
theorem dX8_brightest_200 : decode cX8_brightest 200 = .ok (.iload 7, 2) := by decide +kernel
theorem dX8_brightest_202 : decode cX8_brightest 202 = .ok (.ifCond .eq 7, 3) := by decide +kernel
theorem dX8_brightest_205 : decode cX8_brightest 205 = .ok (.iconst 1, 1) := by decide +kernel
theorem dX8_brightest_206 : decode cX8_brightest 206 = .ok (.goto 4, 3) := by decide +kernel
theorem dX8_brightest_209 : decode cX8_brightest 209 = .ok (.iconst 0, 1) := by decide +kernel
theorem dX8_brightest_210 : decode cX8_brightest 210 = .ok (.iadd, 1) := by decide +kernel
theorem dX8_brightest_211 : decode cX8_brightest 211 = .ok (.istore 5, 2) := by decide +kernel
theorem dX8_brightest_213 : decode cX8_brightest 213 = .ok (.iinc 6 1, 3) := by decide +kernel
theorem dX8_brightest_216 : decode cX8_brightest 216 = .ok (.goto (-143), 3) := by decide +kernel
theorem dX8_brightest_219 : decode cX8_brightest 219 = .ok (.iload 5, 2) := by decide +kernel
theorem dX8_brightest_221 : decode cX8_brightest 221 = .ok (.iload_n 3, 1) := by decide +kernel
theorem dX8_brightest_222 : decode cX8_brightest 222 = .ok (.if_icmp .le 8, 3) := by decide +kernel
theorem dX8_brightest_225 : decode cX8_brightest 225 = .ok (.iload 4, 2) := by decide +kernel
theorem dX8_brightest_227 : decode cX8_brightest 227 = .ok (.goto 4, 3) := by decide +kernel
theorem dX8_brightest_230 : decode cX8_brightest 230 = .ok (.iload_n 2, 1) := by decide +kernel
theorem dX8_brightest_231 : decode cX8_brightest 231 = .ok (.istore_n 2, 1) := by decide +kernel
theorem dX8_brightest_232 : decode cX8_brightest 232 = .ok (.iload 5, 2) := by decide +kernel
theorem dX8_brightest_234 : decode cX8_brightest 234 = .ok (.iload_n 3, 1) := by decide +kernel
theorem dX8_brightest_235 : decode cX8_brightest 235 = .ok (.if_icmp .le 8, 3) := by decide +kernel
theorem dX8_brightest_238 : decode cX8_brightest 238 = .ok (.iload 5, 2) := by decide +kernel
theorem dX8_brightest_240 : decode cX8_brightest 240 = .ok (.goto 4, 3) := by decide +kernel
theorem dX8_brightest_243 : decode cX8_brightest 243 = .ok (.iload_n 3, 1) := by decide +kernel
theorem dX8_brightest_244 : decode cX8_brightest 244 = .ok (.istore_n 3, 1) := by decide +kernel
theorem dX8_brightest_245 : decode cX8_brightest 245 = .ok (.iinc 4 1, 3) := by decide +kernel
theorem dX8_brightest_248 : decode cX8_brightest 248 = .ok (.goto (-202), 3) := by decide +kernel
theorem dX8_brightest_251 : decode cX8_brightest 251 = .ok (.iload_n 1, 1) := by decide +kernel
theorem dX8_brightest_252 : decode cX8_brightest 252 = .ok (.ifCond .ne 7, 3) := by decide +kernel
theorem dX8_brightest_255 : decode cX8_brightest 255 = .ok (.iload_n 3, 1) := by decide +kernel
theorem dX8_brightest_256 : decode cX8_brightest 256 = .ok (.goto 47, 3) := by decide +kernel
theorem dX8_brightest_259 : decode cX8_brightest 259 = .ok (.iload_n 1, 1) := by decide +kernel
theorem dX8_brightest_260 : decode cX8_brightest 260 = .ok (.iconst 1, 1) := by decide +kernel
theorem dX8_brightest_261 : decode cX8_brightest 261 = .ok (.if_icmp .ne 24, 3) := by decide +kernel
theorem dX8_brightest_264 : decode cX8_brightest 264 = .ok (.aload_n 0, 1) := by decide +kernel
theorem dX8_brightest_265 : decode cX8_brightest 265 = .ok (.iload_n 2, 1) := by decide +kernel
theorem dX8_brightest_266 : decode cX8_brightest 266 = .ok (.bipush 49, 2) := by decide +kernel
theorem dX8_brightest_268 : decode cX8_brightest 268 = .ok (.irem, 1) := by decide +kernel
theorem dX8_brightest_269 : decode cX8_brightest 269 = .ok (.bipush 24, 2) := by decide +kernel
theorem dX8_brightest_271 : decode cX8_brightest 271 = .ok (.isub, 1) := by decide +kernel
theorem dX8_brightest_272 : decode cX8_brightest 272 = .ok (.iload_n 2, 1) := by decide +kernel
theorem dX8_brightest_273 : decode cX8_brightest 273 = .ok (.bipush 49, 2) := by decide +kernel
theorem dX8_brightest_275 : decode cX8_brightest 275 = .ok (.idiv, 1) := by decide +kernel
theorem dX8_brightest_276 : decode cX8_brightest 276 = .ok (.bipush 24, 2) := by decide +kernel
theorem dX8_brightest_278 : decode cX8_brightest 278 = .ok (.isub, 1) := by decide +kernel
theorem dX8_brightest_279 : decode cX8_brightest 279 = .ok (.invokevirtual 148, 3) := by decide +kernel
theorem dX8_brightest_282 : decode cX8_brightest 282 = .ok (.goto 21, 3) := by decide +kernel
theorem dX8_brightest_285 : decode cX8_brightest 285 = .ok (.aload_n 0, 1) := by decide +kernel
theorem dX8_brightest_286 : decode cX8_brightest 286 = .ok (.iload_n 2, 1) := by decide +kernel
theorem dX8_brightest_287 : decode cX8_brightest 287 = .ok (.bipush 49, 2) := by decide +kernel
theorem dX8_brightest_289 : decode cX8_brightest 289 = .ok (.irem, 1) := by decide +kernel
theorem dX8_brightest_290 : decode cX8_brightest 290 = .ok (.bipush 24, 2) := by decide +kernel
theorem dX8_brightest_292 : decode cX8_brightest 292 = .ok (.isub, 1) := by decide +kernel
theorem dX8_brightest_293 : decode cX8_brightest 293 = .ok (.iload_n 2, 1) := by decide +kernel
theorem dX8_brightest_294 : decode cX8_brightest 294 = .ok (.bipush 49, 2) := by decide +kernel
theorem dX8_brightest_296 : decode cX8_brightest 296 = .ok (.idiv, 1) := by decide +kernel
theorem dX8_brightest_297 : decode cX8_brightest 297 = .ok (.bipush 24, 2) := by decide +kernel
theorem dX8_brightest_299 : decode cX8_brightest 299 = .ok (.isub, 1) := by decide +kernel
theorem dX8_brightest_300 : decode cX8_brightest 300 = .ok (.invokevirtual 151, 3) := by decide +kernel
theorem dX8_brightest_303 : decode cX8_brightest 303 = .ok (.ireturn, 1) := by decide +kernel
theorem dX8_delay_0 : decode cX8_delay 0 = .ok (.iload_n 1, 1) := by decide +kernel
theorem dX8_delay_1 : decode cX8_delay 1 = .ok (.iload_n 2, 1) := by decide +kernel
theorem dX8_delay_2 : decode cX8_delay 2 = .ok (.invokestatic 135, 3) := by decide +kernel
theorem dX8_delay_5 : decode cX8_delay 5 = .ok (.ifCond .eq 25, 3) := by decide +kernel
theorem dX8_delay_8 : decode cX8_delay 8 = .ok (.iload_n 3, 1) := by decide +kernel
theorem dX8_delay_9 : decode cX8_delay 9 = .ok (.iload 4, 2) := by decide +kernel
theorem dX8_delay_11 : decode cX8_delay 11 = .ok (.invokestatic 135, 3) := by decide +kernel
theorem dX8_delay_14 : decode cX8_delay 14 = .ok (.ifCond .eq 16, 3) := by decide +kernel
theorem dX8_delay_17 : decode cX8_delay 17 = .ok (.iload 5, 2) := by decide +kernel
theorem dX8_delay_19 : decode cX8_delay 19 = .ok (.iload 6, 2) := by decide +kernel
theorem dX8_delay_21 : decode cX8_delay 21 = .ok (.sipush 2000, 3) := by decide +kernel
theorem dX8_delay_24 : decode cX8_delay 24 = .ok (.invokestatic 81, 3) := by decide +kernel
theorem dX8_delay_27 : decode cX8_delay 27 = .ok (.ifCond .ne 7, 3) := by decide +kernel
theorem dX8_delay_30 : decode cX8_delay 30 = .ok (.ldc2_w 170, 3) := by decide +kernel
theorem dX8_delay_33 : decode cX8_delay 33 = .ok (.lreturn, 1) := by decide +kernel
theorem dX8_delay_34 : decode cX8_delay 34 = .ok (.lconst 0, 1) := by decide +kernel
theorem dX8_delay_35 : decode cX8_delay 35 = .ok (.lstore 7, 2) := by decide +kernel
theorem dX8_delay_37 : decode cX8_delay 37 = .ok (.iload_n 3, 1) := by decide +kernel
theorem dX8_delay_38 : decode cX8_delay 38 = .ok (.iload_n 1, 1) := by decide +kernel
theorem dX8_delay_39 : decode cX8_delay 39 = .ok (.if_icmp .le 7, 3) := by decide +kernel
theorem dX8_delay_42 : decode cX8_delay 42 = .ok (.iconst 1, 1) := by decide +kernel
theorem dX8_delay_43 : decode cX8_delay 43 = .ok (.goto 4, 3) := by decide +kernel
theorem dX8_delay_46 : decode cX8_delay 46 = .ok (.iconst (-1), 1) := by decide +kernel
theorem dX8_delay_47 : decode cX8_delay 47 = .ok (.istore 9, 2) := by decide +kernel
theorem dX8_delay_49 : decode cX8_delay 49 = .ok (.iload_n 1, 1) := by decide +kernel
theorem dX8_delay_50 : decode cX8_delay 50 = .ok (.istore 10, 2) := by decide +kernel
theorem dX8_delay_52 : decode cX8_delay 52 = .ok (.iload 10, 2) := by decide +kernel
theorem dX8_delay_54 : decode cX8_delay 54 = .ok (.iload_n 3, 1) := by decide +kernel
theorem dX8_delay_55 : decode cX8_delay 55 = .ok (.if_icmp .eq 52, 3) := by decide +kernel
theorem dX8_delay_58 : decode cX8_delay 58 = .ok (.lload 7, 2) := by decide +kernel
theorem dX8_delay_60 : decode cX8_delay 60 = .ok (.iload 9, 2) := by decide +kernel
theorem dX8_delay_62 : decode cX8_delay 62 = .ok (.i2l, 1) := by decide +kernel
theorem dX8_delay_63 : decode cX8_delay 63 = .ok (.aload_n 0, 1) := by decide +kernel
theorem dX8_delay_64 : decode cX8_delay 64 = .ok (.iload 10, 2) := by decide +kernel
theorem dX8_delay_66 : decode cX8_delay 66 = .ok (.iload_n 2, 1) := by decide +kernel
theorem dX8_delay_67 : decode cX8_delay 67 = .ok (.iconst 0, 1) := by decide +kernel
theorem dX8_delay_68 : decode cX8_delay 68 = .ok (.invokevirtual 111, 3) := by decide +kernel
theorem dX8_delay_71 : decode cX8_delay 71 = .ok (.i2l, 1) := by decide +kernel
theorem dX8_delay_72 : decode cX8_delay 72 = .ok (.aload_n 0, 1) := by decide +kernel
theorem dX8_delay_73 : decode cX8_delay 73 = .ok (.iload 10, 2) := by decide +kernel
theorem dX8_delay_75 : decode cX8_delay 75 = .ok (.iload 9, 2) := by decide +kernel
theorem dX8_delay_77 : decode cX8_delay 77 = .ok (.iadd, 1) := by decide +kernel
theorem dX8_delay_78 : decode cX8_delay 78 = .ok (.iload_n 2, 1) := by decide +kernel
theorem dX8_delay_79 : decode cX8_delay 79 = .ok (.iconst 0, 1) := by decide +kernel
theorem dX8_delay_80 : decode cX8_delay 80 = .ok (.invokevirtual 111, 3) := by decide +kernel
theorem dX8_delay_83 : decode cX8_delay 83 = .ok (.i2l, 1) := by decide +kernel
theorem dX8_delay_84 : decode cX8_delay 84 = .ok (.ladd, 1) := by decide +kernel
theorem dX8_delay_85 : decode cX8_delay 85 = .ok (.ldc2_w 172, 3) := by decide +kernel
theorem dX8_delay_88 : decode cX8_delay 88 = .ok (.iload 5, 2) := by decide +kernel
theorem dX8_delay_90 : decode cX8_delay 90 = .ok (.i2l, 1) := by decide +kernel
theorem dX8_delay_91 : decode cX8_delay 91 = .ok (.lmul, 1) := by decide +kernel
theorem dX8_delay_92 : decode cX8_delay 92 = .ok (.lsub, 1) := by decide +kernel
theorem dX8_delay_93 : decode cX8_delay 93 = .ok (.lmul, 1) := by decide +kernel
theorem dX8_delay_94 : decode cX8_delay 94 = .ok (.ladd, 1) := by decide +kernel
theorem dX8_delay_95 : decode cX8_delay 95 = .ok (.lstore 7, 2) := by decide +kernel
theorem dX8_delay_97 : decode cX8_delay 97 = .ok (.iload 10, 2) := by decide +kernel
theorem dX8_delay_99 : decode cX8_delay 99 = .ok (.iload 9, 2) := by decide +kernel
theorem dX8_delay_101 : decode cX8_delay 101 = .ok (.iadd, 1) := by decide +kernel
theorem dX8_delay_102 : decode cX8_delay 102 = .ok (.istore 10, 2) := by decide +kernel
theorem dX8_delay_104 : decode cX8_delay 104 = .ok (.goto (-52), 3) := by decide +kernel
theorem dX8_delay_107 : decode cX8_delay 107 = .ok (.iload 4, 2) := by decide +kernel
theorem dX8_delay_109 : decode cX8_delay 109 = .ok (.iload_n 2, 1) := by decide +kernel
theorem dX8_delay_110 : decode cX8_delay 110 = .ok (.if_icmp .le 7, 3) := by decide +kernel
theorem dX8_delay_113 : decode cX8_delay 113 = .ok (.iconst 1, 1) := by decide +kernel
theorem dX8_delay_114 : decode cX8_delay 114 = .ok (.goto 4, 3) := by decide +kernel
theorem dX8_delay_117 : decode cX8_delay 117 = .ok (.iconst (-1), 1) := by decide +kernel
theorem dX8_delay_118 : decode cX8_delay 118 = .ok (.istore 9, 2) := by decide +kernel
theorem dX8_delay_120 : decode cX8_delay 120 = .ok (.iload_n 2, 1) := by decide +kernel
theorem dX8_delay_121 : decode cX8_delay 121 = .ok (.istore 10, 2) := by decide +kernel
theorem dX8_delay_123 : decode cX8_delay 123 = .ok (.iload 10, 2) := by decide +kernel
theorem dX8_delay_125 : decode cX8_delay 125 = .ok (.iload 4, 2) := by decide +kernel
theorem dX8_delay_127 : decode cX8_delay 127 = .ok (.if_icmp .eq 52, 3) := by decide +kernel
theorem dX8_delay_130 : decode cX8_delay 130 = .ok (.lload 7, 2) := by decide +kernel
theorem dX8_delay_132 : decode cX8_delay 132 = .ok (.iload 9, 2) := by decide +kernel
theorem dX8_delay_134 : decode cX8_delay 134 = .ok (.i2l, 1) := by decide +kernel
theorem dX8_delay_135 : decode cX8_delay 135 = .ok (.aload_n 0, 1) := by decide +kernel
theorem dX8_delay_136 : decode cX8_delay 136 = .ok (.iload_n 3, 1) := by decide +kernel
theorem dX8_delay_137 : decode cX8_delay 137 = .ok (.iload 10, 2) := by decide +kernel
theorem dX8_delay_139 : decode cX8_delay 139 = .ok (.iconst 1, 1) := by decide +kernel
theorem dX8_delay_140 : decode cX8_delay 140 = .ok (.invokevirtual 111, 3) := by decide +kernel
theorem dX8_delay_143 : decode cX8_delay 143 = .ok (.i2l, 1) := by decide +kernel
theorem dX8_delay_144 : decode cX8_delay 144 = .ok (.aload_n 0, 1) := by decide +kernel
theorem dX8_delay_145 : decode cX8_delay 145 = .ok (.iload_n 3, 1) := by decide +kernel
theorem dX8_delay_146 : decode cX8_delay 146 = .ok (.iload 10, 2) := by decide +kernel
theorem dX8_delay_148 : decode cX8_delay 148 = .ok (.iload 9, 2) := by decide +kernel
theorem dX8_delay_150 : decode cX8_delay 150 = .ok (.iadd, 1) := by decide +kernel
theorem dX8_delay_151 : decode cX8_delay 151 = .ok (.iconst 1, 1) := by decide +kernel
theorem dX8_delay_152 : decode cX8_delay 152 = .ok (.invokevirtual 111, 3) := by decide +kernel
theorem dX8_delay_155 : decode cX8_delay 155 = .ok (.i2l, 1) := by decide +kernel
theorem dX8_delay_156 : decode cX8_delay 156 = .ok (.ladd, 1) := by decide +kernel
theorem dX8_delay_157 : decode cX8_delay 157 = .ok (.ldc2_w 172, 3) := by decide +kernel
theorem dX8_delay_160 : decode cX8_delay 160 = .ok (.iload 6, 2) := by decide +kernel
theorem dX8_delay_162 : decode cX8_delay 162 = .ok (.i2l, 1) := by decide +kernel
theorem dX8_delay_163 : decode cX8_delay 163 = .ok (.lmul, 1) := by decide +kernel
theorem dX8_delay_164 : decode cX8_delay 164 = .ok (.lsub, 1) := by decide +kernel
theorem dX8_delay_165 : decode cX8_delay 165 = .ok (.lmul, 1) := by decide +kernel
theorem dX8_delay_166 : decode cX8_delay 166 = .ok (.ladd, 1) := by decide +kernel
theorem dX8_delay_167 : decode cX8_delay 167 = .ok (.lstore 7, 2) := by decide +kernel
theorem dX8_delay_169 : decode cX8_delay 169 = .ok (.iload 10, 2) := by decide +kernel
theorem dX8_delay_171 : decode cX8_delay 171 = .ok (.iload 9, 2) := by decide +kernel
theorem dX8_delay_173 : decode cX8_delay 173 = .ok (.iadd, 1) := by decide +kernel
theorem dX8_delay_174 : decode cX8_delay 174 = .ok (.istore 10, 2) := by decide +kernel
theorem dX8_delay_176 : decode cX8_delay 176 = .ok (.goto (-53), 3) := by decide +kernel
theorem dX8_delay_179 : decode cX8_delay 179 = .ok (.lload 7, 2) := by decide +kernel
theorem dX8_delay_181 : decode cX8_delay 181 = .ok (.lreturn, 1) := by decide +kernel
theorem dX8_stretch_0 : decode cX8_stretch 0 = .ok (.iload_n 1, 1) := by decide +kernel
theorem dX8_stretch_1 : decode cX8_stretch 1 = .ok (.iconst 1, 1) := by decide +kernel
theorem dX8_stretch_2 : decode cX8_stretch 2 = .ok (.bipush 24, 2) := by decide +kernel
theorem dX8_stretch_4 : decode cX8_stretch 4 = .ok (.invokestatic 74, 3) := by decide +kernel
theorem dX8_stretch_7 : decode cX8_stretch 7 = .ok (.ifCond .ne 6, 3) := by decide +kernel
theorem dX8_stretch_10 : decode cX8_stretch 10 = .ok (.ldc 92, 2) := by decide +kernel
theorem dX8_stretch_12 : decode cX8_stretch 12 = .ok (.ireturn, 1) := by decide +kernel
theorem dX8_stretch_13 : decode cX8_stretch 13 = .ok (.aload_n 0, 1) := by decide +kernel
theorem dX8_stretch_14 : decode cX8_stretch 14 = .ok (.invokevirtual 145, 3) := by decide +kernel
theorem dX8_stretch_17 : decode cX8_stretch 17 = .ok (.lconst 0, 1) := by decide +kernel
theorem dX8_stretch_18 : decode cX8_stretch 18 = .ok (.lstore_n 2, 1) := by decide +kernel
theorem dX8_stretch_19 : decode cX8_stretch 19 = .ok (.iload_n 1, 1) := by decide +kernel
theorem dX8_stretch_20 : decode cX8_stretch 20 = .ok (.ineg, 1) := by decide +kernel
theorem dX8_stretch_21 : decode cX8_stretch 21 = .ok (.istore 4, 2) := by decide +kernel
theorem dX8_stretch_23 : decode cX8_stretch 23 = .ok (.iload 4, 2) := by decide +kernel
theorem dX8_stretch_25 : decode cX8_stretch 25 = .ok (.iload_n 1, 1) := by decide +kernel
theorem dX8_stretch_26 : decode cX8_stretch 26 = .ok (.if_icmp .gt 218, 3) := by decide +kernel
theorem dX8_stretch_29 : decode cX8_stretch 29 = .ok (.iload_n 1, 1) := by decide +kernel
theorem dX8_stretch_30 : decode cX8_stretch 30 = .ok (.ineg, 1) := by decide +kernel
theorem dX8_stretch_31 : decode cX8_stretch 31 = .ok (.istore 5, 2) := by decide +kernel
theorem dX8_stretch_33 : decode cX8_stretch 33 = .ok (.iload 5, 2) := by decide +kernel
theorem dX8_stretch_35 : decode cX8_stretch 35 = .ok (.iload_n 1, 1) := by decide +kernel
theorem dX8_stretch_36 : decode cX8_stretch 36 = .ok (.if_icmp .gt 202, 3) := by decide +kernel
theorem dX8_stretch_39 : decode cX8_stretch 39 = .ok (.iload 5, 2) := by decide +kernel
theorem dX8_stretch_41 : decode cX8_stretch 41 = .ok (.iload_n 1, 1) := by decide +kernel
theorem dX8_stretch_42 : decode cX8_stretch 42 = .ok (.if_icmp .eq 23, 3) := by decide +kernel
theorem dX8_stretch_45 : decode cX8_stretch 45 = .ok (.iload 5, 2) := by decide +kernel
theorem dX8_stretch_47 : decode cX8_stretch 47 = .ok (.iload_n 1, 1) := by decide +kernel
theorem dX8_stretch_48 : decode cX8_stretch 48 = .ok (.ineg, 1) := by decide +kernel
theorem dX8_stretch_49 : decode cX8_stretch 49 = .ok (.if_icmp .eq 16, 3) := by decide +kernel
theorem dX8_stretch_52 : decode cX8_stretch 52 = .ok (.iload 4, 2) := by decide +kernel
theorem dX8_stretch_54 : decode cX8_stretch 54 = .ok (.iload_n 1, 1) := by decide +kernel
theorem dX8_stretch_55 : decode cX8_stretch 55 = .ok (.if_icmp .eq 10, 3) := by decide +kernel
theorem dX8_stretch_58 : decode cX8_stretch 58 = .ok (.iload 4, 2) := by decide +kernel
theorem dX8_stretch_60 : decode cX8_stretch 60 = .ok (.iload_n 1, 1) := by decide +kernel
theorem dX8_stretch_61 : decode cX8_stretch 61 = .ok (.ineg, 1) := by decide +kernel
theorem dX8_stretch_62 : decode cX8_stretch 62 = .ok (.if_icmp .ne 170, 3) := by decide +kernel
theorem dX8_stretch_65 : decode cX8_stretch 65 = .ok (.aload_n 0, 1) := by decide +kernel
theorem dX8_stretch_66 : decode cX8_stretch 66 = .ok (.getfield 36, 3) := by decide +kernel
theorem dX8_stretch_69 : decode cX8_stretch 69 = .ok (.iload 5, 2) := by decide +kernel
theorem dX8_stretch_71 : decode cX8_stretch 71 = .ok (.iconst 1, 1) := by decide +kernel
theorem dX8_stretch_72 : decode cX8_stretch 72 = .ok (.iadd, 1) := by decide +kernel
theorem dX8_stretch_73 : decode cX8_stretch 73 = .ok (.iload 4, 2) := by decide +kernel
theorem dX8_stretch_75 : decode cX8_stretch 75 = .ok (.invokestatic 124, 3) := by decide +kernel
theorem dX8_stretch_78 : decode cX8_stretch 78 = .ok (.iaload, 1) := by decide +kernel
theorem dX8_stretch_79 : decode cX8_stretch 79 = .ok (.aload_n 0, 1) := by decide +kernel
theorem dX8_stretch_80 : decode cX8_stretch 80 = .ok (.getfield 36, 3) := by decide +kernel
theorem dX8_stretch_83 : decode cX8_stretch 83 = .ok (.iload 5, 2) := by decide +kernel
theorem dX8_stretch_85 : decode cX8_stretch 85 = .ok (.iconst 1, 1) := by decide +kernel
theorem dX8_stretch_86 : decode cX8_stretch 86 = .ok (.isub, 1) := by decide +kernel
theorem dX8_stretch_87 : decode cX8_stretch 87 = .ok (.iload 4, 2) := by decide +kernel
theorem dX8_stretch_89 : decode cX8_stretch 89 = .ok (.invokestatic 124, 3) := by decide +kernel
theorem dX8_stretch_92 : decode cX8_stretch 92 = .ok (.iaload, 1) := by decide +kernel
theorem dX8_stretch_93 : decode cX8_stretch 93 = .ok (.isub, 1) := by decide +kernel
theorem dX8_stretch_94 : decode cX8_stretch 94 = .ok (.i2l, 1) := by decide +kernel
theorem dX8_stretch_95 : decode cX8_stretch 95 = .ok (.lstore 6, 2) := by decide +kernel
theorem dX8_stretch_97 : decode cX8_stretch 97 = .ok (.aload_n 0, 1) := by decide +kernel
theorem dX8_stretch_98 : decode cX8_stretch 98 = .ok (.getfield 39, 3) := by decide +kernel
theorem dX8_stretch_101 : decode cX8_stretch 101 = .ok (.iload 5, 2) := by decide +kernel
theorem dX8_stretch_103 : decode cX8_stretch 103 = .ok (.iconst 1, 1) := by decide +kernel
theorem dX8_stretch_104 : decode cX8_stretch 104 = .ok (.iadd, 1) := by decide +kernel
theorem dX8_stretch_105 : decode cX8_stretch 105 = .ok (.iload 4, 2) := by decide +kernel
theorem dX8_stretch_107 : decode cX8_stretch 107 = .ok (.invokestatic 124, 3) := by decide +kernel
theorem dX8_stretch_110 : decode cX8_stretch 110 = .ok (.iaload, 1) := by decide +kernel
theorem dX8_stretch_111 : decode cX8_stretch 111 = .ok (.aload_n 0, 1) := by decide +kernel
theorem dX8_stretch_112 : decode cX8_stretch 112 = .ok (.getfield 39, 3) := by decide +kernel
theorem dX8_stretch_115 : decode cX8_stretch 115 = .ok (.iload 5, 2) := by decide +kernel
theorem dX8_stretch_117 : decode cX8_stretch 117 = .ok (.iconst 1, 1) := by decide +kernel
theorem dX8_stretch_118 : decode cX8_stretch 118 = .ok (.isub, 1) := by decide +kernel
theorem dX8_stretch_119 : decode cX8_stretch 119 = .ok (.iload 4, 2) := by decide +kernel
theorem dX8_stretch_121 : decode cX8_stretch 121 = .ok (.invokestatic 124, 3) := by decide +kernel
theorem dX8_stretch_124 : decode cX8_stretch 124 = .ok (.iaload, 1) := by decide +kernel
theorem dX8_stretch_125 : decode cX8_stretch 125 = .ok (.isub, 1) := by decide +kernel
theorem dX8_stretch_126 : decode cX8_stretch 126 = .ok (.i2l, 1) := by decide +kernel
theorem dX8_stretch_127 : decode cX8_stretch 127 = .ok (.lstore 8, 2) := by decide +kernel
theorem dX8_stretch_129 : decode cX8_stretch 129 = .ok (.aload_n 0, 1) := by decide +kernel
theorem dX8_stretch_130 : decode cX8_stretch 130 = .ok (.getfield 36, 3) := by decide +kernel
theorem dX8_stretch_133 : decode cX8_stretch 133 = .ok (.iload 5, 2) := by decide +kernel
theorem dX8_stretch_135 : decode cX8_stretch 135 = .ok (.iload 4, 2) := by decide +kernel
theorem dX8_stretch_137 : decode cX8_stretch 137 = .ok (.iconst 1, 1) := by decide +kernel
theorem dX8_stretch_138 : decode cX8_stretch 138 = .ok (.iadd, 1) := by decide +kernel
theorem dX8_stretch_139 : decode cX8_stretch 139 = .ok (.invokestatic 124, 3) := by decide +kernel
theorem dX8_stretch_142 : decode cX8_stretch 142 = .ok (.iaload, 1) := by decide +kernel
theorem dX8_stretch_143 : decode cX8_stretch 143 = .ok (.aload_n 0, 1) := by decide +kernel
theorem dX8_stretch_144 : decode cX8_stretch 144 = .ok (.getfield 36, 3) := by decide +kernel
theorem dX8_stretch_147 : decode cX8_stretch 147 = .ok (.iload 5, 2) := by decide +kernel
theorem dX8_stretch_149 : decode cX8_stretch 149 = .ok (.iload 4, 2) := by decide +kernel
theorem dX8_stretch_151 : decode cX8_stretch 151 = .ok (.iconst 1, 1) := by decide +kernel
theorem dX8_stretch_152 : decode cX8_stretch 152 = .ok (.isub, 1) := by decide +kernel
theorem dX8_stretch_153 : decode cX8_stretch 153 = .ok (.invokestatic 124, 3) := by decide +kernel
theorem dX8_stretch_156 : decode cX8_stretch 156 = .ok (.iaload, 1) := by decide +kernel
theorem dX8_stretch_157 : decode cX8_stretch 157 = .ok (.isub, 1) := by decide +kernel
theorem dX8_stretch_158 : decode cX8_stretch 158 = .ok (.i2l, 1) := by decide +kernel
theorem dX8_stretch_159 : decode cX8_stretch 159 = .ok (.lstore 10, 2) := by decide +kernel
theorem dX8_stretch_161 : decode cX8_stretch 161 = .ok (.aload_n 0, 1) := by decide +kernel
theorem dX8_stretch_162 : decode cX8_stretch 162 = .ok (.getfield 39, 3) := by decide +kernel
theorem dX8_stretch_165 : decode cX8_stretch 165 = .ok (.iload 5, 2) := by decide +kernel
theorem dX8_stretch_167 : decode cX8_stretch 167 = .ok (.iload 4, 2) := by decide +kernel
theorem dX8_stretch_169 : decode cX8_stretch 169 = .ok (.iconst 1, 1) := by decide +kernel
theorem dX8_stretch_170 : decode cX8_stretch 170 = .ok (.iadd, 1) := by decide +kernel
theorem dX8_stretch_171 : decode cX8_stretch 171 = .ok (.invokestatic 124, 3) := by decide +kernel
theorem dX8_stretch_174 : decode cX8_stretch 174 = .ok (.iaload, 1) := by decide +kernel
theorem dX8_stretch_175 : decode cX8_stretch 175 = .ok (.aload_n 0, 1) := by decide +kernel
theorem dX8_stretch_176 : decode cX8_stretch 176 = .ok (.getfield 39, 3) := by decide +kernel
theorem dX8_stretch_179 : decode cX8_stretch 179 = .ok (.iload 5, 2) := by decide +kernel
theorem dX8_stretch_181 : decode cX8_stretch 181 = .ok (.iload 4, 2) := by decide +kernel
theorem dX8_stretch_183 : decode cX8_stretch 183 = .ok (.iconst 1, 1) := by decide +kernel
theorem dX8_stretch_184 : decode cX8_stretch 184 = .ok (.isub, 1) := by decide +kernel
theorem dX8_stretch_185 : decode cX8_stretch 185 = .ok (.invokestatic 124, 3) := by decide +kernel
theorem dX8_stretch_188 : decode cX8_stretch 188 = .ok (.iaload, 1) := by decide +kernel
theorem dX8_stretch_189 : decode cX8_stretch 189 = .ok (.isub, 1) := by decide +kernel
theorem dX8_stretch_190 : decode cX8_stretch 190 = .ok (.i2l, 1) := by decide +kernel
theorem dX8_stretch_191 : decode cX8_stretch 191 = .ok (.lstore 12, 2) := by decide +kernel
theorem dX8_stretch_193 : decode cX8_stretch 193 = .ok (.lload_n 2, 1) := by decide +kernel
theorem dX8_stretch_194 : decode cX8_stretch 194 = .ok (.ldc2_w 172, 3) := by decide +kernel
theorem dX8_stretch_197 : decode cX8_stretch 197 = .ok (.lload 8, 2) := by decide +kernel
theorem dX8_stretch_199 : decode cX8_stretch 199 = .ok (.lload 10, 2) := by decide +kernel
theorem dX8_stretch_201 : decode cX8_stretch 201 = .ok (.ladd, 1) := by decide +kernel
theorem dX8_stretch_202 : decode cX8_stretch 202 = .ok (.lmul, 1) := by decide +kernel
theorem dX8_stretch_203 : decode cX8_stretch 203 = .ok (.iload 5, 2) := by decide +kernel
theorem dX8_stretch_205 : decode cX8_stretch 205 = .ok (.i2l, 1) := by decide +kernel
theorem dX8_stretch_206 : decode cX8_stretch 206 = .ok (.lmul, 1) := by decide +kernel
theorem dX8_stretch_207 : decode cX8_stretch 207 = .ok (.iload 4, 2) := by decide +kernel
theorem dX8_stretch_209 : decode cX8_stretch 209 = .ok (.i2l, 1) := by decide +kernel
theorem dX8_stretch_210 : decode cX8_stretch 210 = .ok (.lmul, 1) := by decide +kernel
theorem dX8_stretch_211 : decode cX8_stretch 211 = .ok (.lload 6, 2) := by decide +kernel
theorem dX8_stretch_213 : decode cX8_stretch 213 = .ok (.lload 12, 2) := by decide +kernel
theorem dX8_stretch_215 : decode cX8_stretch 215 = .ok (.lsub, 1) := by decide +kernel
theorem dX8_stretch_216 : decode cX8_stretch 216 = .ok (.iload 5, 2) := by decide +kernel
theorem dX8_stretch_218 : decode cX8_stretch 218 = .ok (.iload 5, 2) := by decide +kernel
theorem dX8_stretch_220 : decode cX8_stretch 220 = .ok (.imul, 1) := by decide +kernel
theorem dX8_stretch_221 : decode cX8_stretch 221 = .ok (.iload 4, 2) := by decide +kernel
theorem dX8_stretch_223 : decode cX8_stretch 223 = .ok (.iload 4, 2) := by decide +kernel
theorem dX8_stretch_225 : decode cX8_stretch 225 = .ok (.imul, 1) := by decide +kernel
theorem dX8_stretch_226 : decode cX8_stretch 226 = .ok (.isub, 1) := by decide +kernel
theorem dX8_stretch_227 : decode cX8_stretch 227 = .ok (.i2l, 1) := by decide +kernel
theorem dX8_stretch_228 : decode cX8_stretch 228 = .ok (.lmul, 1) := by decide +kernel
theorem dX8_stretch_229 : decode cX8_stretch 229 = .ok (.lsub, 1) := by decide +kernel
theorem dX8_stretch_230 : decode cX8_stretch 230 = .ok (.ladd, 1) := by decide +kernel
theorem dX8_stretch_231 : decode cX8_stretch 231 = .ok (.lstore_n 2, 1) := by decide +kernel
theorem dX8_stretch_232 : decode cX8_stretch 232 = .ok (.iinc 5 1, 3) := by decide +kernel
theorem dX8_stretch_235 : decode cX8_stretch 235 = .ok (.goto (-202), 3) := by decide +kernel
theorem dX8_stretch_238 : decode cX8_stretch 238 = .ok (.iinc 4 1, 3) := by decide +kernel
theorem dX8_stretch_241 : decode cX8_stretch 241 = .ok (.goto (-218), 3) := by decide +kernel
theorem dX8_stretch_244 : decode cX8_stretch 244 = .ok (.lload_n 2, 1) := by decide +kernel
theorem dX8_stretch_245 : decode cX8_stretch 245 = .ok (.sipush 128, 3) := by decide +kernel
theorem dX8_stretch_248 : decode cX8_stretch 248 = .ok (.invokestatic 117, 3) := by decide +kernel
theorem dX8_stretch_251 : decode cX8_stretch 251 = .ok (.ireturn, 1) := by decide +kernel
theorem dX8_type_0 : decode cX8_type 0 = .ok (.iload_n 3, 1) := by decide +kernel
theorem dX8_type_1 : decode cX8_type 1 = .ok (.iconst 1, 1) := by decide +kernel
theorem dX8_type_2 : decode cX8_type 2 = .ok (.bipush 8, 2) := by decide +kernel
theorem dX8_type_4 : decode cX8_type 4 = .ok (.invokestatic 74, 3) := by decide +kernel
theorem dX8_type_7 : decode cX8_type 7 = .ok (.ifCond .ne 5, 3) := by decide +kernel
theorem dX8_type_10 : decode cX8_type 10 = .ok (.iconst (-1), 1) := by decide +kernel
theorem dX8_type_11 : decode cX8_type 11 = .ok (.ireturn, 1) := by decide +kernel
theorem dX8_type_12 : decode cX8_type 12 = .ok (.aload_n 0, 1) := by decide +kernel
theorem dX8_type_13 : decode cX8_type 13 = .ok (.getfield 174, 3) := by decide +kernel
theorem dX8_type_16 : decode cX8_type 16 = .ok (.iload_n 3, 1) := by decide +kernel
theorem dX8_type_17 : decode cX8_type 17 = .ok (.iadd, 1) := by decide +kernel
theorem dX8_type_18 : decode cX8_type 18 = .ok (.sipush 200, 3) := by decide +kernel
theorem dX8_type_21 : decode cX8_type 21 = .ok (.if_icmp .le 6, 3) := by decide +kernel
theorem dX8_type_24 : decode cX8_type 24 = .ok (.bipush (-3), 2) := by decide +kernel
theorem dX8_type_26 : decode cX8_type 26 = .ok (.ireturn, 1) := by decide +kernel
theorem dX8_type_27 : decode cX8_type 27 = .ok (.iload_n 3, 1) := by decide +kernel
theorem dX8_type_28 : decode cX8_type 28 = .ok (.iconst 1, 1) := by decide +kernel
theorem dX8_type_29 : decode cX8_type 29 = .ok (.isub, 1) := by decide +kernel
theorem dX8_type_30 : decode cX8_type 30 = .ok (.istore 4, 2) := by decide +kernel
theorem dX8_type_32 : decode cX8_type 32 = .ok (.iload 4, 2) := by decide +kernel
theorem dX8_type_34 : decode cX8_type 34 = .ok (.ifCond .lt 41, 3) := by decide +kernel
theorem dX8_type_37 : decode cX8_type 37 = .ok (.aload_n 0, 1) := by decide +kernel
theorem dX8_type_38 : decode cX8_type 38 = .ok (.getfield 13, 3) := by decide +kernel
theorem dX8_type_41 : decode cX8_type 41 = .ok (.aload_n 0, 1) := by decide +kernel
theorem dX8_type_42 : decode cX8_type 42 = .ok (.getfield 174, 3) := by decide +kernel
theorem dX8_type_45 : decode cX8_type 45 = .ok (.lload_n 1, 1) := by decide +kernel
theorem dX8_type_46 : decode cX8_type 46 = .ok (.bipush 8, 2) := by decide +kernel
theorem dX8_type_48 : decode cX8_type 48 = .ok (.iload 4, 2) := by decide +kernel
theorem dX8_type_50 : decode cX8_type 50 = .ok (.imul, 1) := by decide +kernel
theorem dX8_type_51 : decode cX8_type 51 = .ok (.lshr, 1) := by decide +kernel
theorem dX8_type_52 : decode cX8_type 52 = .ok (.ldc2_w 177, 3) := by decide +kernel
theorem dX8_type_55 : decode cX8_type 55 = .ok (.land, 1) := by decide +kernel
theorem dX8_type_56 : decode cX8_type 56 = .ok (.l2i, 1) := by decide +kernel
theorem dX8_type_57 : decode cX8_type 57 = .ok (.i2b, 1) := by decide +kernel
theorem dX8_type_58 : decode cX8_type 58 = .ok (.bastore, 1) := by decide +kernel
theorem dX8_type_59 : decode cX8_type 59 = .ok (.aload_n 0, 1) := by decide +kernel
theorem dX8_type_60 : decode cX8_type 60 = .ok (.dup, 1) := by decide +kernel
theorem dX8_type_61 : decode cX8_type 61 = .ok (.getfield 174, 3) := by decide +kernel
theorem dX8_type_64 : decode cX8_type 64 = .ok (.iconst 1, 1) := by decide +kernel
theorem dX8_type_65 : decode cX8_type 65 = .ok (.iadd, 1) := by decide +kernel
theorem dX8_type_66 : decode cX8_type 66 = .ok (.putfield 174, 3) := by decide +kernel
theorem dX8_type_69 : decode cX8_type 69 = .ok (.iinc 4 (-1), 3) := by decide +kernel
theorem dX8_type_72 : decode cX8_type 72 = .ok (.goto (-40), 3) := by decide +kernel
theorem dX8_type_75 : decode cX8_type 75 = .ok (.aload_n 0, 1) := by decide +kernel
theorem dX8_type_76 : decode cX8_type 76 = .ok (.getfield 174, 3) := by decide +kernel
theorem dX8_type_79 : decode cX8_type 79 = .ok (.ireturn, 1) := by decide +kernel
theorem dX8_clear_0 : decode cX8_clear 0 = .ok (.aload_n 0, 1) := by decide +kernel
theorem dX8_clear_1 : decode cX8_clear 1 = .ok (.getfield 174, 3) := by decide +kernel
theorem dX8_clear_4 : decode cX8_clear 4 = .ok (.istore_n 1, 1) := by decide +kernel
theorem dX8_clear_5 : decode cX8_clear 5 = .ok (.aload_n 0, 1) := by decide +kernel
theorem dX8_clear_6 : decode cX8_clear 6 = .ok (.iconst 0, 1) := by decide +kernel
theorem dX8_clear_7 : decode cX8_clear 7 = .ok (.putfield 174, 3) := by decide +kernel
theorem dX8_clear_10 : decode cX8_clear 10 = .ok (.iload_n 1, 1) := by decide +kernel
theorem dX8_clear_11 : decode cX8_clear 11 = .ok (.ireturn, 1) := by decide +kernel
theorem dX8_here_0 : decode cX8_here 0 = .ok (.aload_n 0, 1) := by decide +kernel
theorem dX8_here_1 : decode cX8_here 1 = .ok (.getfield 179, 3) := by decide +kernel
theorem dX8_here_4 : decode cX8_here 4 = .ok (.aload_n 0, 1) := by decide +kernel
theorem dX8_here_5 : decode cX8_here 5 = .ok (.getfield 174, 3) := by decide +kernel
theorem dX8_here_8 : decode cX8_here 8 = .ok (.if_icmp .ge 15, 3) := by decide +kernel
theorem dX8_here_11 : decode cX8_here 11 = .ok (.aload_n 0, 1) := by decide +kernel
theorem dX8_here_12 : decode cX8_here 12 = .ok (.getfield 13, 3) := by decide +kernel
theorem dX8_here_15 : decode cX8_here 15 = .ok (.aload_n 0, 1) := by decide +kernel
theorem dX8_here_16 : decode cX8_here 16 = .ok (.getfield 179, 3) := by decide +kernel
theorem dX8_here_19 : decode cX8_here 19 = .ok (.baload, 1) := by decide +kernel
theorem dX8_here_20 : decode cX8_here 20 = .ok (.goto 4, 3) := by decide +kernel
theorem dX8_here_23 : decode cX8_here 23 = .ok (.iconst (-1), 1) := by decide +kernel
theorem dX8_here_24 : decode cX8_here 24 = .ok (.ireturn, 1) := by decide +kernel
theorem dX8_isDigit_0 : decode cX8_isDigit 0 = .ok (.aload_n 0, 1) := by decide +kernel
theorem dX8_isDigit_1 : decode cX8_isDigit 1 = .ok (.invokevirtual 182, 3) := by decide +kernel
theorem dX8_isDigit_4 : decode cX8_isDigit 4 = .ok (.bipush 48, 2) := by decide +kernel
theorem dX8_isDigit_6 : decode cX8_isDigit 6 = .ok (.bipush 57, 2) := by decide +kernel
theorem dX8_isDigit_8 : decode cX8_isDigit 8 = .ok (.invokestatic 74, 3) := by decide +kernel
theorem dX8_isDigit_11 : decode cX8_isDigit 11 = .ok (.ireturn, 1) := by decide +kernel
theorem dX8_sign_0 : decode cX8_sign 0 = .ok (.aload_n 0, 1) := by decide +kernel
theorem dX8_sign_1 : decode cX8_sign 1 = .ok (.getfield 186, 3) := by decide +kernel
theorem dX8_sign_4 : decode cX8_sign 4 = .ok (.bipush (-9), 2) := by decide +kernel
theorem dX8_sign_6 : decode cX8_sign 6 = .ok (.if_icmp .ne 34, 3) := by decide +kernel
theorem dX8_sign_9 : decode cX8_sign 9 = .ok (.aload_n 0, 1) := by decide +kernel
theorem dX8_sign_10 : decode cX8_sign 10 = .ok (.aload_n 0, 1) := by decide +kernel
theorem dX8_sign_11 : decode cX8_sign 11 = .ok (.invokevirtual 182, 3) := by decide +kernel
theorem dX8_sign_14 : decode cX8_sign 14 = .ok (.iload_n 1, 1) := by decide +kernel
theorem dX8_sign_15 : decode cX8_sign 15 = .ok (.if_icmp .ne 8, 3) := by decide +kernel
theorem dX8_sign_18 : decode cX8_sign 18 = .ok (.bipush (-9), 2) := by decide +kernel
theorem dX8_sign_20 : decode cX8_sign 20 = .ok (.goto 7, 3) := by decide +kernel
theorem dX8_sign_23 : decode cX8_sign 23 = .ok (.aload_n 0, 1) := by decide +kernel
theorem dX8_sign_24 : decode cX8_sign 24 = .ok (.getfield 179, 3) := by decide +kernel
theorem dX8_sign_27 : decode cX8_sign 27 = .ok (.putfield 186, 3) := by decide +kernel
theorem dX8_sign_30 : decode cX8_sign 30 = .ok (.aload_n 0, 1) := by decide +kernel
theorem dX8_sign_31 : decode cX8_sign 31 = .ok (.dup, 1) := by decide +kernel
theorem dX8_sign_32 : decode cX8_sign 32 = .ok (.getfield 179, 3) := by decide +kernel
theorem dX8_sign_35 : decode cX8_sign 35 = .ok (.iconst 1, 1) := by decide +kernel
theorem dX8_sign_36 : decode cX8_sign 36 = .ok (.iadd, 1) := by decide +kernel
theorem dX8_sign_37 : decode cX8_sign 37 = .ok (.putfield 179, 3) := by decide +kernel
theorem dX8_sign_40 : decode cX8_sign 40 = .ok (.return_, 1) := by decide +kernel
theorem dX8_number_0 : decode cX8_number 0 = .ok (.aload_n 0, 1) := by decide +kernel
theorem dX8_number_1 : decode cX8_number 1 = .ok (.getfield 186, 3) := by decide +kernel
theorem dX8_number_4 : decode cX8_number 4 = .ok (.bipush (-9), 2) := by decide +kernel
theorem dX8_number_6 : decode cX8_number 6 = .ok (.if_icmp .eq 5, 3) := by decide +kernel
theorem dX8_number_9 : decode cX8_number 9 = .ok (.iconst 0, 1) := by decide +kernel
theorem dX8_number_10 : decode cX8_number 10 = .ok (.ireturn, 1) := by decide +kernel
theorem dX8_number_11 : decode cX8_number 11 = .ok (.iload_n 2, 1) := by decide +kernel
theorem dX8_number_12 : decode cX8_number 12 = .ok (.ifCond .eq 16, 3) := by decide +kernel
theorem dX8_number_15 : decode cX8_number 15 = .ok (.aload_n 0, 1) := by decide +kernel
theorem dX8_number_16 : decode cX8_number 16 = .ok (.invokevirtual 182, 3) := by decide +kernel
theorem dX8_number_19 : decode cX8_number 19 = .ok (.bipush 45, 2) := by decide +kernel
theorem dX8_number_21 : decode cX8_number 21 = .ok (.if_icmp .ne 7, 3) := by decide +kernel
theorem dX8_number_24 : decode cX8_number 24 = .ok (.iconst 1, 1) := by decide +kernel
theorem dX8_number_25 : decode cX8_number 25 = .ok (.goto 4, 3) := by decide +kernel
theorem dX8_number_28 : decode cX8_number 28 = .ok (.iconst 0, 1) := by decide +kernel
theorem dX8_number_29 : decode cX8_number 29 = .ok (.istore_n 3, 1) := by decide +kernel
theorem dX8_number_30 : decode cX8_number 30 = .ok (.aload_n 0, 1) := by decide +kernel
theorem dX8_number_31 : decode cX8_number 31 = .ok (.dup, 1) := by decide +kernel
theorem dX8_number_32 : decode cX8_number 32 = .ok (.getfield 179, 3) := by decide +kernel
theorem dX8_number_35 : decode cX8_number 35 = .ok (.iload_n 3, 1) := by decide +kernel
theorem dX8_number_36 : decode cX8_number 36 = .ok (.ifCond .eq 7, 3) := by decide +kernel
theorem dX8_number_39 : decode cX8_number 39 = .ok (.iconst 1, 1) := by decide +kernel
theorem dX8_number_40 : decode cX8_number 40 = .ok (.goto 4, 3) := by decide +kernel
theorem dX8_number_43 : decode cX8_number 43 = .ok (.iconst 0, 1) := by decide +kernel
theorem dX8_number_44 : decode cX8_number 44 = .ok (.iadd, 1) := by decide +kernel
theorem dX8_number_45 : decode cX8_number 45 = .ok (.putfield 179, 3) := by decide +kernel
theorem dX8_number_48 : decode cX8_number 48 = .ok (.aload_n 0, 1) := by decide +kernel
theorem dX8_number_49 : decode cX8_number 49 = .ok (.invokevirtual 189, 3) := by decide +kernel
theorem dX8_number_52 : decode cX8_number 52 = .ok (.ifCond .eq 16, 3) := by decide +kernel
theorem dX8_number_55 : decode cX8_number 55 = .ok (.iload_n 3, 1) := by decide +kernel
theorem dX8_number_56 : decode cX8_number 56 = .ok (.ifCond .eq 22, 3) := by decide +kernel
theorem dX8_number_59 : decode cX8_number 59 = .ok (.aload_n 0, 1) := by decide +kernel
theorem dX8_number_60 : decode cX8_number 60 = .ok (.invokevirtual 182, 3) := by decide +kernel
theorem dX8_number_63 : decode cX8_number 63 = .ok (.bipush 48, 2) := by decide +kernel
theorem dX8_number_65 : decode cX8_number 65 = .ok (.if_icmp .ne 13, 3) := by decide +kernel
theorem dX8_number_68 : decode cX8_number 68 = .ok (.aload_n 0, 1) := by decide +kernel
theorem dX8_number_69 : decode cX8_number 69 = .ok (.aload_n 0, 1) := by decide +kernel
theorem dX8_number_70 : decode cX8_number 70 = .ok (.getfield 179, 3) := by decide +kernel
theorem dX8_number_73 : decode cX8_number 73 = .ok (.putfield 186, 3) := by decide +kernel
theorem dX8_number_76 : decode cX8_number 76 = .ok (.iconst 0, 1) := by decide +kernel
theorem dX8_number_77 : decode cX8_number 77 = .ok (.ireturn, 1) := by decide +kernel
theorem dX8_number_78 : decode cX8_number 78 = .ok (.aload_n 0, 1) := by decide +kernel
theorem dX8_number_79 : decode cX8_number 79 = .ok (.invokevirtual 182, 3) := by decide +kernel
theorem dX8_number_82 : decode cX8_number 82 = .ok (.bipush 48, 2) := by decide +kernel
theorem dX8_number_84 : decode cX8_number 84 = .ok (.if_icmp .ne 7, 3) := by decide +kernel
theorem dX8_number_87 : decode cX8_number 87 = .ok (.iconst 1, 1) := by decide +kernel
theorem dX8_number_88 : decode cX8_number 88 = .ok (.goto 4, 3) := by decide +kernel
theorem dX8_number_91 : decode cX8_number 91 = .ok (.iconst 0, 1) := by decide +kernel
theorem dX8_number_92 : decode cX8_number 92 = .ok (.istore 4, 2) := by decide +kernel
theorem dX8_number_94 : decode cX8_number 94 = .ok (.iconst 0, 1) := by decide +kernel
theorem dX8_number_95 : decode cX8_number 95 = .ok (.istore 5, 2) := by decide +kernel
theorem dX8_number_97 : decode cX8_number 97 = .ok (.iconst 1, 1) := by decide +kernel
theorem dX8_number_98 : decode cX8_number 98 = .ok (.istore 6, 2) := by decide +kernel
theorem dX8_number_100 : decode cX8_number 100 = .ok (.iload 6, 2) := by decide +kernel
theorem dX8_number_102 : decode cX8_number 102 = .ok (.ifCond .eq 78, 3) := by decide +kernel
theorem dX8_number_105 : decode cX8_number 105 = .ok (.bipush 10, 2) := by decide +kernel
theorem dX8_number_107 : decode cX8_number 107 = .ok (.iload 5, 2) := by decide +kernel
theorem dX8_number_109 : decode cX8_number 109 = .ok (.imul, 1) := by decide +kernel
theorem dX8_number_110 : decode cX8_number 110 = .ok (.aload_n 0, 1) := by decide +kernel
theorem dX8_number_111 : decode cX8_number 111 = .ok (.invokevirtual 182, 3) := by decide +kernel
theorem dX8_number_114 : decode cX8_number 114 = .ok (.iadd, 1) := by decide +kernel
theorem dX8_number_115 : decode cX8_number 115 = .ok (.bipush 48, 2) := by decide +kernel
theorem dX8_number_117 : decode cX8_number 117 = .ok (.isub, 1) := by decide +kernel
theorem dX8_number_118 : decode cX8_number 118 = .ok (.istore 5, 2) := by decide +kernel
theorem dX8_number_120 : decode cX8_number 120 = .ok (.aload_n 0, 1) := by decide +kernel
theorem dX8_number_121 : decode cX8_number 121 = .ok (.iload 5, 2) := by decide +kernel
theorem dX8_number_123 : decode cX8_number 123 = .ok (.iload_n 1, 1) := by decide +kernel
theorem dX8_number_124 : decode cX8_number 124 = .ok (.if_icmp .le 10, 3) := by decide +kernel
theorem dX8_number_127 : decode cX8_number 127 = .ok (.aload_n 0, 1) := by decide +kernel
theorem dX8_number_128 : decode cX8_number 128 = .ok (.getfield 179, 3) := by decide +kernel
theorem dX8_number_131 : decode cX8_number 131 = .ok (.goto 5, 3) := by decide +kernel
theorem dX8_number_134 : decode cX8_number 134 = .ok (.bipush (-9), 2) := by decide +kernel
theorem dX8_number_136 : decode cX8_number 136 = .ok (.putfield 186, 3) := by decide +kernel
theorem dX8_number_139 : decode cX8_number 139 = .ok (.aload_n 0, 1) := by decide +kernel
theorem dX8_number_140 : decode cX8_number 140 = .ok (.dup, 1) := by decide +kernel
theorem dX8_number_141 : decode cX8_number 141 = .ok (.getfield 179, 3) := by decide +kernel
theorem dX8_number_144 : decode cX8_number 144 = .ok (.iconst 1, 1) := by decide +kernel
theorem dX8_number_145 : decode cX8_number 145 = .ok (.iadd, 1) := by decide +kernel
theorem dX8_number_146 : decode cX8_number 146 = .ok (.putfield 179, 3) := by decide +kernel
theorem dX8_number_149 : decode cX8_number 149 = .ok (.aload_n 0, 1) := by decide +kernel
theorem dX8_number_150 : decode cX8_number 150 = .ok (.getfield 186, 3) := by decide +kernel
theorem dX8_number_153 : decode cX8_number 153 = .ok (.bipush (-9), 2) := by decide +kernel
theorem dX8_number_155 : decode cX8_number 155 = .ok (.if_icmp .ne 19, 3) := by decide +kernel
theorem dX8_number_158 : decode cX8_number 158 = .ok (.iload 4, 2) := by decide +kernel
theorem dX8_number_160 : decode cX8_number 160 = .ok (.ifCond .ne 14, 3) := by decide +kernel
theorem dX8_number_163 : decode cX8_number 163 = .ok (.aload_n 0, 1) := by decide +kernel
theorem dX8_number_164 : decode cX8_number 164 = .ok (.invokevirtual 189, 3) := by decide +kernel
theorem dX8_number_167 : decode cX8_number 167 = .ok (.ifCond .eq 7, 3) := by decide +kernel
theorem dX8_number_170 : decode cX8_number 170 = .ok (.iconst 1, 1) := by decide +kernel
theorem dX8_number_171 : decode cX8_number 171 = .ok (.goto 4, 3) := by decide +kernel
theorem dX8_number_174 : decode cX8_number 174 = .ok (.iconst 0, 1) := by decide +kernel
theorem dX8_number_175 : decode cX8_number 175 = .ok (.istore 6, 2) := by decide +kernel
theorem dX8_number_177 : decode cX8_number 177 = .ok (.goto (-77), 3) := by decide +kernel
theorem dX8_number_180 : decode cX8_number 180 = .ok (.iload_n 3, 1) := by decide +kernel
theorem dX8_number_181 : decode cX8_number 181 = .ok (.ifCond .eq 9, 3) := by decide +kernel
theorem dX8_number_184 : decode cX8_number 184 = .ok (.iload 5, 2) := by decide +kernel
theorem dX8_number_186 : decode cX8_number 186 = .ok (.ineg, 1) := by decide +kernel
theorem dX8_number_187 : decode cX8_number 187 = .ok (.goto 5, 3) := by decide +kernel
theorem dX8_number_190 : decode cX8_number 190 = .ok (.iload 5, 2) := by decide +kernel
theorem dX8_number_192 : decode cX8_number 192 = .ok (.ireturn, 1) := by decide +kernel
theorem dX8_item_0 : decode cX8_item 0 = .ok (.bipush 48, 2) := by decide +kernel
theorem dX8_item_2 : decode cX8_item 2 = .ok (.bipush 6, 2) := by decide +kernel
theorem dX8_item_4 : decode cX8_item 4 = .ok (.iload_n 1, 1) := by decide +kernel
theorem dX8_item_5 : decode cX8_item 5 = .ok (.imul, 1) := by decide +kernel
theorem dX8_item_6 : decode cX8_item 6 = .ok (.iadd, 1) := by decide +kernel
theorem dX8_item_7 : decode cX8_item 7 = .ok (.istore_n 2, 1) := by decide +kernel
theorem dX8_item_8 : decode cX8_item 8 = .ok (.aload_n 0, 1) := by decide +kernel
theorem dX8_item_9 : decode cX8_item 9 = .ok (.invokevirtual 182, 3) := by decide +kernel
theorem dX8_item_12 : decode cX8_item 12 = .ok (.istore_n 3, 1) := by decide +kernel
theorem dX8_item_13 : decode cX8_item 13 = .ok (.iload_n 1, 1) := by decide +kernel
theorem dX8_item_14 : decode cX8_item 14 = .ok (.bipush 8, 2) := by decide +kernel
theorem dX8_item_16 : decode cX8_item 16 = .ok (.if_icmp .eq 21, 3) := by decide +kernel
theorem dX8_item_19 : decode cX8_item 19 = .ok (.iload_n 3, 1) := by decide +kernel
theorem dX8_item_20 : decode cX8_item 20 = .ok (.bipush 112, 2) := by decide +kernel
theorem dX8_item_22 : decode cX8_item 22 = .ok (.if_icmp .eq 24, 3) := by decide +kernel
theorem dX8_item_25 : decode cX8_item 25 = .ok (.iload_n 3, 1) := by decide +kernel
theorem dX8_item_26 : decode cX8_item 26 = .ok (.bipush 115, 2) := by decide +kernel
theorem dX8_item_28 : decode cX8_item 28 = .ok (.if_icmp .eq 18, 3) := by decide +kernel
theorem dX8_item_31 : decode cX8_item 31 = .ok (.iload_n 3, 1) := by decide +kernel
theorem dX8_item_32 : decode cX8_item 32 = .ok (.bipush 99, 2) := by decide +kernel
theorem dX8_item_34 : decode cX8_item 34 = .ok (.if_icmp .eq 12, 3) := by decide +kernel
theorem dX8_item_37 : decode cX8_item 37 = .ok (.aload_n 0, 1) := by decide +kernel
theorem dX8_item_38 : decode cX8_item 38 = .ok (.aload_n 0, 1) := by decide +kernel
theorem dX8_item_39 : decode cX8_item 39 = .ok (.getfield 179, 3) := by decide +kernel
theorem dX8_item_42 : decode cX8_item 42 = .ok (.putfield 186, 3) := by decide +kernel
theorem dX8_item_45 : decode cX8_item 45 = .ok (.return_, 1) := by decide +kernel
theorem dX8_item_46 : decode cX8_item 46 = .ok (.aload_n 0, 1) := by decide +kernel
theorem dX8_item_47 : decode cX8_item 47 = .ok (.dup, 1) := by decide +kernel
theorem dX8_item_48 : decode cX8_item 48 = .ok (.getfield 179, 3) := by decide +kernel
theorem dX8_item_51 : decode cX8_item 51 = .ok (.iconst 1, 1) := by decide +kernel
theorem dX8_item_52 : decode cX8_item 52 = .ok (.iadd, 1) := by decide +kernel
theorem dX8_item_53 : decode cX8_item 53 = .ok (.putfield 179, 3) := by decide +kernel
theorem dX8_item_56 : decode cX8_item 56 = .ok (.aload_n 0, 1) := by decide +kernel
theorem dX8_item_57 : decode cX8_item 57 = .ok (.getfield 7, 3) := by decide +kernel
theorem dX8_item_60 : decode cX8_item 60 = .ok (.iload_n 2, 1) := by decide +kernel
theorem dX8_item_61 : decode cX8_item 61 = .ok (.iload_n 3, 1) := by decide +kernel
theorem dX8_item_62 : decode cX8_item 62 = .ok (.bipush 112, 2) := by decide +kernel
theorem dX8_item_64 : decode cX8_item 64 = .ok (.if_icmp .ne 7, 3) := by decide +kernel
theorem dX8_item_67 : decode cX8_item 67 = .ok (.iconst 0, 1) := by decide +kernel
theorem dX8_item_68 : decode cX8_item 68 = .ok (.goto 14, 3) := by decide +kernel
theorem dX8_item_71 : decode cX8_item 71 = .ok (.iload_n 3, 1) := by decide +kernel
theorem dX8_item_72 : decode cX8_item 72 = .ok (.bipush 115, 2) := by decide +kernel
theorem dX8_item_74 : decode cX8_item 74 = .ok (.if_icmp .ne 7, 3) := by decide +kernel
theorem dX8_item_77 : decode cX8_item 77 = .ok (.iconst 1, 1) := by decide +kernel
theorem dX8_item_78 : decode cX8_item 78 = .ok (.goto 4, 3) := by decide +kernel
theorem dX8_item_81 : decode cX8_item 81 = .ok (.iconst 2, 1) := by decide +kernel
end
section
theorem dX8_item_82 : decode cX8_item 82 = .ok (.iastore, 1) := by decide +kernel
theorem dX8_item_83 : decode cX8_item 83 = .ok (.aload_n 0, 1) := by decide +kernel
theorem dX8_item_84 : decode cX8_item 84 = .ok (.getfield 7, 3) := by decide +kernel
theorem dX8_item_87 : decode cX8_item 87 = .ok (.iload_n 2, 1) := by decide +kernel
theorem dX8_item_88 : decode cX8_item 88 = .ok (.iconst 1, 1) := by decide +kernel
theorem dX8_item_89 : decode cX8_item 89 = .ok (.iadd, 1) := by decide +kernel
theorem dX8_item_90 : decode cX8_item 90 = .ok (.aload_n 0, 1) := by decide +kernel
theorem dX8_item_91 : decode cX8_item 91 = .ok (.bipush 40, 2) := by decide +kernel
theorem dX8_item_93 : decode cX8_item 93 = .ok (.iconst 1, 1) := by decide +kernel
theorem dX8_item_94 : decode cX8_item 94 = .ok (.invokevirtual 193, 3) := by decide +kernel
theorem dX8_item_97 : decode cX8_item 97 = .ok (.iastore, 1) := by decide +kernel
theorem dX8_item_98 : decode cX8_item 98 = .ok (.aload_n 0, 1) := by decide +kernel
theorem dX8_item_99 : decode cX8_item 99 = .ok (.bipush 44, 2) := by decide +kernel
theorem dX8_item_101 : decode cX8_item 101 = .ok (.invokevirtual 197, 3) := by decide +kernel
theorem dX8_item_104 : decode cX8_item 104 = .ok (.aload_n 0, 1) := by decide +kernel
theorem dX8_item_105 : decode cX8_item 105 = .ok (.getfield 7, 3) := by decide +kernel
theorem dX8_item_108 : decode cX8_item 108 = .ok (.iload_n 2, 1) := by decide +kernel
theorem dX8_item_109 : decode cX8_item 109 = .ok (.iconst 2, 1) := by decide +kernel
theorem dX8_item_110 : decode cX8_item 110 = .ok (.iadd, 1) := by decide +kernel
theorem dX8_item_111 : decode cX8_item 111 = .ok (.aload_n 0, 1) := by decide +kernel
theorem dX8_item_112 : decode cX8_item 112 = .ok (.bipush 40, 2) := by decide +kernel
theorem dX8_item_114 : decode cX8_item 114 = .ok (.iconst 1, 1) := by decide +kernel
theorem dX8_item_115 : decode cX8_item 115 = .ok (.invokevirtual 193, 3) := by decide +kernel
theorem dX8_item_118 : decode cX8_item 118 = .ok (.iastore, 1) := by decide +kernel
theorem dX8_item_119 : decode cX8_item 119 = .ok (.aload_n 0, 1) := by decide +kernel
theorem dX8_item_120 : decode cX8_item 120 = .ok (.bipush 119, 2) := by decide +kernel
theorem dX8_item_122 : decode cX8_item 122 = .ok (.invokevirtual 197, 3) := by decide +kernel
theorem dX8_item_125 : decode cX8_item 125 = .ok (.aload_n 0, 1) := by decide +kernel
theorem dX8_item_126 : decode cX8_item 126 = .ok (.getfield 7, 3) := by decide +kernel
theorem dX8_item_129 : decode cX8_item 129 = .ok (.iload_n 2, 1) := by decide +kernel
theorem dX8_item_130 : decode cX8_item 130 = .ok (.iconst 3, 1) := by decide +kernel
theorem dX8_item_131 : decode cX8_item 131 = .ok (.iadd, 1) := by decide +kernel
theorem dX8_item_132 : decode cX8_item 132 = .ok (.aload_n 0, 1) := by decide +kernel
theorem dX8_item_133 : decode cX8_item 133 = .ok (.sipush 400, 3) := by decide +kernel
theorem dX8_item_136 : decode cX8_item 136 = .ok (.iconst 0, 1) := by decide +kernel
theorem dX8_item_137 : decode cX8_item 137 = .ok (.invokevirtual 193, 3) := by decide +kernel
theorem dX8_item_140 : decode cX8_item 140 = .ok (.iastore, 1) := by decide +kernel
theorem dX8_item_141 : decode cX8_item 141 = .ok (.aload_n 0, 1) := by decide +kernel
theorem dX8_item_142 : decode cX8_item 142 = .ok (.getfield 7, 3) := by decide +kernel
theorem dX8_item_145 : decode cX8_item 145 = .ok (.iload_n 2, 1) := by decide +kernel
theorem dX8_item_146 : decode cX8_item 146 = .ok (.iconst 4, 1) := by decide +kernel
theorem dX8_item_147 : decode cX8_item 147 = .ok (.iadd, 1) := by decide +kernel
theorem dX8_item_148 : decode cX8_item 148 = .ok (.iconst 0, 1) := by decide +kernel
theorem dX8_item_149 : decode cX8_item 149 = .ok (.iastore, 1) := by decide +kernel
theorem dX8_item_150 : decode cX8_item 150 = .ok (.aload_n 0, 1) := by decide +kernel
theorem dX8_item_151 : decode cX8_item 151 = .ok (.getfield 7, 3) := by decide +kernel
theorem dX8_item_154 : decode cX8_item 154 = .ok (.iload_n 2, 1) := by decide +kernel
theorem dX8_item_155 : decode cX8_item 155 = .ok (.iconst 5, 1) := by decide +kernel
theorem dX8_item_156 : decode cX8_item 156 = .ok (.iadd, 1) := by decide +kernel
theorem dX8_item_157 : decode cX8_item 157 = .ok (.bipush 90, 2) := by decide +kernel
theorem dX8_item_159 : decode cX8_item 159 = .ok (.iastore, 1) := by decide +kernel
theorem dX8_item_160 : decode cX8_item 160 = .ok (.iload_n 3, 1) := by decide +kernel
theorem dX8_item_161 : decode cX8_item 161 = .ok (.bipush 112, 2) := by decide +kernel
theorem dX8_item_163 : decode cX8_item 163 = .ok (.if_icmp .eq 25, 3) := by decide +kernel
theorem dX8_item_166 : decode cX8_item 166 = .ok (.aload_n 0, 1) := by decide +kernel
theorem dX8_item_167 : decode cX8_item 167 = .ok (.bipush 111, 2) := by decide +kernel
theorem dX8_item_169 : decode cX8_item 169 = .ok (.invokevirtual 197, 3) := by decide +kernel
theorem dX8_item_172 : decode cX8_item 172 = .ok (.aload_n 0, 1) := by decide +kernel
theorem dX8_item_173 : decode cX8_item 173 = .ok (.getfield 7, 3) := by decide +kernel
theorem dX8_item_176 : decode cX8_item 176 = .ok (.iload_n 2, 1) := by decide +kernel
theorem dX8_item_177 : decode cX8_item 177 = .ok (.iconst 4, 1) := by decide +kernel
theorem dX8_item_178 : decode cX8_item 178 = .ok (.iadd, 1) := by decide +kernel
theorem dX8_item_179 : decode cX8_item 179 = .ok (.aload_n 0, 1) := by decide +kernel
theorem dX8_item_180 : decode cX8_item 180 = .ok (.sipush 900, 3) := by decide +kernel
theorem dX8_item_183 : decode cX8_item 183 = .ok (.iconst 0, 1) := by decide +kernel
theorem dX8_item_184 : decode cX8_item 184 = .ok (.invokevirtual 193, 3) := by decide +kernel
theorem dX8_item_187 : decode cX8_item 187 = .ok (.iastore, 1) := by decide +kernel
theorem dX8_item_188 : decode cX8_item 188 = .ok (.iload_n 3, 1) := by decide +kernel
theorem dX8_item_189 : decode cX8_item 189 = .ok (.bipush 99, 2) := by decide +kernel
theorem dX8_item_191 : decode cX8_item 191 = .ok (.if_icmp .ne 24, 3) := by decide +kernel
theorem dX8_item_194 : decode cX8_item 194 = .ok (.aload_n 0, 1) := by decide +kernel
theorem dX8_item_195 : decode cX8_item 195 = .ok (.bipush 101, 2) := by decide +kernel
theorem dX8_item_197 : decode cX8_item 197 = .ok (.invokevirtual 197, 3) := by decide +kernel
theorem dX8_item_200 : decode cX8_item 200 = .ok (.aload_n 0, 1) := by decide +kernel
theorem dX8_item_201 : decode cX8_item 201 = .ok (.getfield 7, 3) := by decide +kernel
theorem dX8_item_204 : decode cX8_item 204 = .ok (.iload_n 2, 1) := by decide +kernel
theorem dX8_item_205 : decode cX8_item 205 = .ok (.iconst 5, 1) := by decide +kernel
theorem dX8_item_206 : decode cX8_item 206 = .ok (.iadd, 1) := by decide +kernel
theorem dX8_item_207 : decode cX8_item 207 = .ok (.aload_n 0, 1) := by decide +kernel
theorem dX8_item_208 : decode cX8_item 208 = .ok (.bipush 90, 2) := by decide +kernel
theorem dX8_item_210 : decode cX8_item 210 = .ok (.iconst 0, 1) := by decide +kernel
theorem dX8_item_211 : decode cX8_item 211 = .ok (.invokevirtual 193, 3) := by decide +kernel
theorem dX8_item_214 : decode cX8_item 214 = .ok (.iastore, 1) := by decide +kernel
theorem dX8_item_215 : decode cX8_item 215 = .ok (.aload_n 0, 1) := by decide +kernel
theorem dX8_item_216 : decode cX8_item 216 = .ok (.bipush 59, 2) := by decide +kernel
theorem dX8_item_218 : decode cX8_item 218 = .ok (.invokevirtual 197, 3) := by decide +kernel
theorem dX8_item_221 : decode cX8_item 221 = .ok (.return_, 1) := by decide +kernel
theorem dX8_read_0 : decode cX8_read 0 = .ok (.aload_n 0, 1) := by decide +kernel
theorem dX8_read_1 : decode cX8_read 1 = .ok (.iconst 0, 1) := by decide +kernel
theorem dX8_read_2 : decode cX8_read 2 = .ok (.putfield 179, 3) := by decide +kernel
theorem dX8_read_5 : decode cX8_read 5 = .ok (.aload_n 0, 1) := by decide +kernel
theorem dX8_read_6 : decode cX8_read 6 = .ok (.bipush (-9), 2) := by decide +kernel
theorem dX8_read_8 : decode cX8_read 8 = .ok (.putfield 186, 3) := by decide +kernel
theorem dX8_read_11 : decode cX8_read 11 = .ok (.iconst 0, 1) := by decide +kernel
theorem dX8_read_12 : decode cX8_read 12 = .ok (.istore_n 1, 1) := by decide +kernel
theorem dX8_read_13 : decode cX8_read 13 = .ok (.aload_n 0, 1) := by decide +kernel
theorem dX8_read_14 : decode cX8_read 14 = .ok (.getfield 186, 3) := by decide +kernel
theorem dX8_read_17 : decode cX8_read 17 = .ok (.bipush (-9), 2) := by decide +kernel
theorem dX8_read_19 : decode cX8_read 19 = .ok (.if_icmp .ne 25, 3) := by decide +kernel
theorem dX8_read_22 : decode cX8_read 22 = .ok (.aload_n 0, 1) := by decide +kernel
theorem dX8_read_23 : decode cX8_read 23 = .ok (.getfield 179, 3) := by decide +kernel
theorem dX8_read_26 : decode cX8_read 26 = .ok (.aload_n 0, 1) := by decide +kernel
theorem dX8_read_27 : decode cX8_read 27 = .ok (.getfield 174, 3) := by decide +kernel
theorem dX8_read_30 : decode cX8_read 30 = .ok (.if_icmp .ge 14, 3) := by decide +kernel
theorem dX8_read_33 : decode cX8_read 33 = .ok (.aload_n 0, 1) := by decide +kernel
theorem dX8_read_34 : decode cX8_read 34 = .ok (.iload_n 1, 1) := by decide +kernel
theorem dX8_read_35 : decode cX8_read 35 = .ok (.invokevirtual 200, 3) := by decide +kernel
theorem dX8_read_38 : decode cX8_read 38 = .ok (.iinc 1 1, 3) := by decide +kernel
theorem dX8_read_41 : decode cX8_read 41 = .ok (.goto (-28), 3) := by decide +kernel
theorem dX8_read_44 : decode cX8_read 44 = .ok (.aload_n 0, 1) := by decide +kernel
theorem dX8_read_45 : decode cX8_read 45 = .ok (.getfield 186, 3) := by decide +kernel
theorem dX8_read_48 : decode cX8_read 48 = .ok (.bipush (-9), 2) := by decide +kernel
theorem dX8_read_50 : decode cX8_read 50 = .ok (.if_icmp .eq 11, 3) := by decide +kernel
theorem dX8_read_53 : decode cX8_read 53 = .ok (.bipush (-10), 2) := by decide +kernel
theorem dX8_read_55 : decode cX8_read 55 = .ok (.aload_n 0, 1) := by decide +kernel
theorem dX8_read_56 : decode cX8_read 56 = .ok (.getfield 186, 3) := by decide +kernel
theorem dX8_read_59 : decode cX8_read 59 = .ok (.isub, 1) := by decide +kernel
theorem dX8_read_60 : decode cX8_read 60 = .ok (.ireturn, 1) := by decide +kernel
theorem dX8_read_61 : decode cX8_read 61 = .ok (.iconst 0, 1) := by decide +kernel
theorem dX8_read_62 : decode cX8_read 62 = .ok (.istore_n 2, 1) := by decide +kernel
theorem dX8_read_63 : decode cX8_read 63 = .ok (.iload_n 2, 1) := by decide +kernel
theorem dX8_read_64 : decode cX8_read 64 = .ok (.bipush 48, 2) := by decide +kernel
theorem dX8_read_66 : decode cX8_read 66 = .ok (.if_icmp .ge 24, 3) := by decide +kernel
theorem dX8_read_69 : decode cX8_read 69 = .ok (.aload_n 0, 1) := by decide +kernel
theorem dX8_read_70 : decode cX8_read 70 = .ok (.getfield 7, 3) := by decide +kernel
theorem dX8_read_73 : decode cX8_read 73 = .ok (.iload_n 2, 1) := by decide +kernel
theorem dX8_read_74 : decode cX8_read 74 = .ok (.aload_n 0, 1) := by decide +kernel
theorem dX8_read_75 : decode cX8_read 75 = .ok (.getfield 7, 3) := by decide +kernel
theorem dX8_read_78 : decode cX8_read 78 = .ok (.bipush 48, 2) := by decide +kernel
theorem dX8_read_80 : decode cX8_read 80 = .ok (.iload_n 2, 1) := by decide +kernel
theorem dX8_read_81 : decode cX8_read 81 = .ok (.iadd, 1) := by decide +kernel
theorem dX8_read_82 : decode cX8_read 82 = .ok (.iaload, 1) := by decide +kernel
theorem dX8_read_83 : decode cX8_read 83 = .ok (.iastore, 1) := by decide +kernel
theorem dX8_read_84 : decode cX8_read 84 = .ok (.iinc 2 1, 3) := by decide +kernel
theorem dX8_read_87 : decode cX8_read 87 = .ok (.goto (-24), 3) := by decide +kernel
theorem dX8_read_90 : decode cX8_read 90 = .ok (.aload_n 0, 1) := by decide +kernel
theorem dX8_read_91 : decode cX8_read 91 = .ok (.iload_n 1, 1) := by decide +kernel
theorem dX8_read_92 : decode cX8_read 92 = .ok (.putfield 78, 3) := by decide +kernel
theorem dX8_read_95 : decode cX8_read 95 = .ok (.aload_n 0, 1) := by decide +kernel
theorem dX8_read_96 : decode cX8_read 96 = .ok (.iconst 0, 1) := by decide +kernel
theorem dX8_read_97 : decode cX8_read 97 = .ok (.putfield 174, 3) := by decide +kernel
theorem dX8_read_100 : decode cX8_read 100 = .ok (.iload_n 1, 1) := by decide +kernel
theorem dX8_read_101 : decode cX8_read 101 = .ok (.ireturn, 1) := by decide +kernel
theorem dX8_pair_0 : decode cX8_pair 0 = .ok (.iload_n 1, 1) := by decide +kernel
theorem dX8_pair_1 : decode cX8_pair 1 = .ok (.iload_n 2, 1) := by decide +kernel
theorem dX8_pair_2 : decode cX8_pair 2 = .ok (.bipush 30, 2) := by decide +kernel
theorem dX8_pair_4 : decode cX8_pair 4 = .ok (.invokestatic 81, 3) := by decide +kernel
theorem dX8_pair_7 : decode cX8_pair 7 = .ok (.ifCond .eq 14, 3) := by decide +kernel
theorem dX8_pair_10 : decode cX8_pair 10 = .ok (.iload_n 3, 1) := by decide +kernel
theorem dX8_pair_11 : decode cX8_pair 11 = .ok (.iload 4, 2) := by decide +kernel
theorem dX8_pair_13 : decode cX8_pair 13 = .ok (.bipush 30, 2) := by decide +kernel
theorem dX8_pair_15 : decode cX8_pair 15 = .ok (.invokestatic 81, 3) := by decide +kernel
theorem dX8_pair_18 : decode cX8_pair 18 = .ok (.ifCond .ne 5, 3) := by decide +kernel
theorem dX8_pair_21 : decode cX8_pair 21 = .ok (.iconst (-1), 1) := by decide +kernel
theorem dX8_pair_22 : decode cX8_pair 22 = .ok (.ireturn, 1) := by decide +kernel
theorem dX8_pair_23 : decode cX8_pair 23 = .ok (.aload_n 0, 1) := by decide +kernel
theorem dX8_pair_24 : decode cX8_pair 24 = .ok (.getfield 203, 3) := by decide +kernel
theorem dX8_pair_27 : decode cX8_pair 27 = .ok (.bipush 10, 2) := by decide +kernel
theorem dX8_pair_29 : decode cX8_pair 29 = .ok (.if_icmp .ne 6, 3) := by decide +kernel
theorem dX8_pair_32 : decode cX8_pair 32 = .ok (.bipush (-3), 2) := by decide +kernel
theorem dX8_pair_34 : decode cX8_pair 34 = .ok (.ireturn, 1) := by decide +kernel
theorem dX8_pair_35 : decode cX8_pair 35 = .ok (.aload_n 0, 1) := by decide +kernel
theorem dX8_pair_36 : decode cX8_pair 36 = .ok (.getfield 17, 3) := by decide +kernel
theorem dX8_pair_39 : decode cX8_pair 39 = .ok (.iconst 4, 1) := by decide +kernel
theorem dX8_pair_40 : decode cX8_pair 40 = .ok (.aload_n 0, 1) := by decide +kernel
theorem dX8_pair_41 : decode cX8_pair 41 = .ok (.getfield 203, 3) := by decide +kernel
theorem dX8_pair_44 : decode cX8_pair 44 = .ok (.imul, 1) := by decide +kernel
theorem dX8_pair_45 : decode cX8_pair 45 = .ok (.iload_n 1, 1) := by decide +kernel
theorem dX8_pair_46 : decode cX8_pair 46 = .ok (.iastore, 1) := by decide +kernel
theorem dX8_pair_47 : decode cX8_pair 47 = .ok (.aload_n 0, 1) := by decide +kernel
theorem dX8_pair_48 : decode cX8_pair 48 = .ok (.getfield 17, 3) := by decide +kernel
theorem dX8_pair_51 : decode cX8_pair 51 = .ok (.iconst 4, 1) := by decide +kernel
theorem dX8_pair_52 : decode cX8_pair 52 = .ok (.aload_n 0, 1) := by decide +kernel
theorem dX8_pair_53 : decode cX8_pair 53 = .ok (.getfield 203, 3) := by decide +kernel
theorem dX8_pair_56 : decode cX8_pair 56 = .ok (.imul, 1) := by decide +kernel
theorem dX8_pair_57 : decode cX8_pair 57 = .ok (.iconst 1, 1) := by decide +kernel
theorem dX8_pair_58 : decode cX8_pair 58 = .ok (.iadd, 1) := by decide +kernel
theorem dX8_pair_59 : decode cX8_pair 59 = .ok (.iload_n 2, 1) := by decide +kernel
theorem dX8_pair_60 : decode cX8_pair 60 = .ok (.iastore, 1) := by decide +kernel
theorem dX8_pair_61 : decode cX8_pair 61 = .ok (.aload_n 0, 1) := by decide +kernel
theorem dX8_pair_62 : decode cX8_pair 62 = .ok (.getfield 17, 3) := by decide +kernel
theorem dX8_pair_65 : decode cX8_pair 65 = .ok (.iconst 4, 1) := by decide +kernel
theorem dX8_pair_66 : decode cX8_pair 66 = .ok (.aload_n 0, 1) := by decide +kernel
theorem dX8_pair_67 : decode cX8_pair 67 = .ok (.getfield 203, 3) := by decide +kernel
theorem dX8_pair_70 : decode cX8_pair 70 = .ok (.imul, 1) := by decide +kernel
theorem dX8_pair_71 : decode cX8_pair 71 = .ok (.iconst 2, 1) := by decide +kernel
theorem dX8_pair_72 : decode cX8_pair 72 = .ok (.iadd, 1) := by decide +kernel
theorem dX8_pair_73 : decode cX8_pair 73 = .ok (.iload_n 3, 1) := by decide +kernel
theorem dX8_pair_74 : decode cX8_pair 74 = .ok (.iastore, 1) := by decide +kernel
theorem dX8_pair_75 : decode cX8_pair 75 = .ok (.aload_n 0, 1) := by decide +kernel
theorem dX8_pair_76 : decode cX8_pair 76 = .ok (.getfield 17, 3) := by decide +kernel
theorem dX8_pair_79 : decode cX8_pair 79 = .ok (.iconst 4, 1) := by decide +kernel
theorem dX8_pair_80 : decode cX8_pair 80 = .ok (.aload_n 0, 1) := by decide +kernel
theorem dX8_pair_81 : decode cX8_pair 81 = .ok (.getfield 203, 3) := by decide +kernel
theorem dX8_pair_84 : decode cX8_pair 84 = .ok (.imul, 1) := by decide +kernel
theorem dX8_pair_85 : decode cX8_pair 85 = .ok (.iconst 3, 1) := by decide +kernel
theorem dX8_pair_86 : decode cX8_pair 86 = .ok (.iadd, 1) := by decide +kernel
theorem dX8_pair_87 : decode cX8_pair 87 = .ok (.iload 4, 2) := by decide +kernel
theorem dX8_pair_89 : decode cX8_pair 89 = .ok (.iastore, 1) := by decide +kernel
theorem dX8_pair_90 : decode cX8_pair 90 = .ok (.aload_n 0, 1) := by decide +kernel
theorem dX8_pair_91 : decode cX8_pair 91 = .ok (.dup, 1) := by decide +kernel
theorem dX8_pair_92 : decode cX8_pair 92 = .ok (.getfield 203, 3) := by decide +kernel
theorem dX8_pair_95 : decode cX8_pair 95 = .ok (.iconst 1, 1) := by decide +kernel
theorem dX8_pair_96 : decode cX8_pair 96 = .ok (.iadd, 1) := by decide +kernel
theorem dX8_pair_97 : decode cX8_pair 97 = .ok (.putfield 203, 3) := by decide +kernel
theorem dX8_pair_100 : decode cX8_pair 100 = .ok (.aload_n 0, 1) := by decide +kernel
theorem dX8_pair_101 : decode cX8_pair 101 = .ok (.getfield 203, 3) := by decide +kernel
theorem dX8_pair_104 : decode cX8_pair 104 = .ok (.ireturn, 1) := by decide +kernel
theorem dX8_wipe_0 : decode cX8_wipe 0 = .ok (.aload_n 0, 1) := by decide +kernel
theorem dX8_wipe_1 : decode cX8_wipe 1 = .ok (.getfield 203, 3) := by decide +kernel
theorem dX8_wipe_4 : decode cX8_wipe 4 = .ok (.istore_n 1, 1) := by decide +kernel
theorem dX8_wipe_5 : decode cX8_wipe 5 = .ok (.aload_n 0, 1) := by decide +kernel
theorem dX8_wipe_6 : decode cX8_wipe 6 = .ok (.iconst 0, 1) := by decide +kernel
theorem dX8_wipe_7 : decode cX8_wipe 7 = .ok (.putfield 203, 3) := by decide +kernel
theorem dX8_wipe_10 : decode cX8_wipe 10 = .ok (.iload_n 1, 1) := by decide +kernel
theorem dX8_wipe_11 : decode cX8_wipe 11 = .ok (.ireturn, 1) := by decide +kernel
theorem dX8_tolerance_0 : decode cX8_tolerance 0 = .ok (.iload_n 1, 1) := by decide +kernel
theorem dX8_tolerance_1 : decode cX8_tolerance 1 = .ok (.iconst 0, 1) := by decide +kernel
theorem dX8_tolerance_2 : decode cX8_tolerance 2 = .ok (.iconst 1, 1) := by decide +kernel
theorem dX8_tolerance_3 : decode cX8_tolerance 3 = .ok (.invokestatic 74, 3) := by decide +kernel
theorem dX8_tolerance_6 : decode cX8_tolerance 6 = .ok (.ifCond .eq 22, 3) := by decide +kernel
theorem dX8_tolerance_9 : decode cX8_tolerance 9 = .ok (.iload_n 2, 1) := by decide +kernel
theorem dX8_tolerance_10 : decode cX8_tolerance 10 = .ok (.iconst 0, 1) := by decide +kernel
theorem dX8_tolerance_11 : decode cX8_tolerance 11 = .ok (.iload_n 1, 1) := by decide +kernel
theorem dX8_tolerance_12 : decode cX8_tolerance 12 = .ok (.ifCond .ne 8, 3) := by decide +kernel
theorem dX8_tolerance_15 : decode cX8_tolerance 15 = .ok (.bipush 64, 2) := by decide +kernel
theorem dX8_tolerance_17 : decode cX8_tolerance 17 = .ok (.goto 5, 3) := by decide +kernel
theorem dX8_tolerance_20 : decode cX8_tolerance 20 = .ok (.bipush 99, 2) := by decide +kernel
theorem dX8_tolerance_22 : decode cX8_tolerance 22 = .ok (.invokestatic 74, 3) := by decide +kernel
theorem dX8_tolerance_25 : decode cX8_tolerance 25 = .ok (.ifCond .ne 5, 3) := by decide +kernel
theorem dX8_tolerance_28 : decode cX8_tolerance 28 = .ok (.iconst (-1), 1) := by decide +kernel
theorem dX8_tolerance_29 : decode cX8_tolerance 29 = .ok (.ireturn, 1) := by decide +kernel
theorem dX8_tolerance_30 : decode cX8_tolerance 30 = .ok (.iload_n 1, 1) := by decide +kernel
theorem dX8_tolerance_31 : decode cX8_tolerance 31 = .ok (.ifCond .ne 10, 3) := by decide +kernel
theorem dX8_tolerance_34 : decode cX8_tolerance 34 = .ok (.aload_n 0, 1) := by decide +kernel
theorem dX8_tolerance_35 : decode cX8_tolerance 35 = .ok (.getfield 20, 3) := by decide +kernel
theorem dX8_tolerance_38 : decode cX8_tolerance 38 = .ok (.goto 7, 3) := by decide +kernel
theorem dX8_tolerance_41 : decode cX8_tolerance 41 = .ok (.aload_n 0, 1) := by decide +kernel
theorem dX8_tolerance_42 : decode cX8_tolerance 42 = .ok (.getfield 24, 3) := by decide +kernel
theorem dX8_tolerance_45 : decode cX8_tolerance 45 = .ok (.istore_n 3, 1) := by decide +kernel
theorem dX8_tolerance_46 : decode cX8_tolerance 46 = .ok (.aload_n 0, 1) := by decide +kernel
theorem dX8_tolerance_47 : decode cX8_tolerance 47 = .ok (.iload_n 1, 1) := by decide +kernel
theorem dX8_tolerance_48 : decode cX8_tolerance 48 = .ok (.ifCond .ne 7, 3) := by decide +kernel
theorem dX8_tolerance_51 : decode cX8_tolerance 51 = .ok (.iload_n 2, 1) := by decide +kernel
theorem dX8_tolerance_52 : decode cX8_tolerance 52 = .ok (.goto 7, 3) := by decide +kernel
theorem dX8_tolerance_55 : decode cX8_tolerance 55 = .ok (.aload_n 0, 1) := by decide +kernel
theorem dX8_tolerance_56 : decode cX8_tolerance 56 = .ok (.getfield 20, 3) := by decide +kernel
theorem dX8_tolerance_59 : decode cX8_tolerance 59 = .ok (.putfield 20, 3) := by decide +kernel
theorem dX8_tolerance_62 : decode cX8_tolerance 62 = .ok (.aload_n 0, 1) := by decide +kernel
theorem dX8_tolerance_63 : decode cX8_tolerance 63 = .ok (.iload_n 1, 1) := by decide +kernel
theorem dX8_tolerance_64 : decode cX8_tolerance 64 = .ok (.iconst 1, 1) := by decide +kernel
theorem dX8_tolerance_65 : decode cX8_tolerance 65 = .ok (.if_icmp .ne 7, 3) := by decide +kernel
theorem dX8_tolerance_68 : decode cX8_tolerance 68 = .ok (.iload_n 2, 1) := by decide +kernel
theorem dX8_tolerance_69 : decode cX8_tolerance 69 = .ok (.goto 7, 3) := by decide +kernel
theorem dX8_tolerance_72 : decode cX8_tolerance 72 = .ok (.aload_n 0, 1) := by decide +kernel
theorem dX8_tolerance_73 : decode cX8_tolerance 73 = .ok (.getfield 24, 3) := by decide +kernel
theorem dX8_tolerance_76 : decode cX8_tolerance 76 = .ok (.putfield 24, 3) := by decide +kernel
theorem dX8_tolerance_79 : decode cX8_tolerance 79 = .ok (.iload_n 3, 1) := by decide +kernel
theorem dX8_tolerance_80 : decode cX8_tolerance 80 = .ok (.ireturn, 1) := by decide +kernel
theorem dX8_modelsOf_0 : decode cX8_modelsOf 0 = .ok (.iconst 1, 1) := by decide +kernel
theorem dX8_modelsOf_1 : decode cX8_modelsOf 1 = .ok (.istore_n 2, 1) := by decide +kernel
theorem dX8_modelsOf_2 : decode cX8_modelsOf 2 = .ok (.iconst 0, 1) := by decide +kernel
theorem dX8_modelsOf_3 : decode cX8_modelsOf 3 = .ok (.istore_n 3, 1) := by decide +kernel
theorem dX8_modelsOf_4 : decode cX8_modelsOf 4 = .ok (.iload_n 3, 1) := by decide +kernel
theorem dX8_modelsOf_5 : decode cX8_modelsOf 5 = .ok (.iload_n 0, 1) := by decide +kernel
theorem dX8_modelsOf_6 : decode cX8_modelsOf 6 = .ok (.if_icmp .ge 15, 3) := by decide +kernel
theorem dX8_modelsOf_9 : decode cX8_modelsOf 9 = .ok (.iload_n 2, 1) := by decide +kernel
theorem dX8_modelsOf_10 : decode cX8_modelsOf 10 = .ok (.iload_n 1, 1) := by decide +kernel
theorem dX8_modelsOf_11 : decode cX8_modelsOf 11 = .ok (.iconst 1, 1) := by decide +kernel
theorem dX8_modelsOf_12 : decode cX8_modelsOf 12 = .ok (.iadd, 1) := by decide +kernel
theorem dX8_modelsOf_13 : decode cX8_modelsOf 13 = .ok (.imul, 1) := by decide +kernel
theorem dX8_modelsOf_14 : decode cX8_modelsOf 14 = .ok (.istore_n 2, 1) := by decide +kernel
theorem dX8_modelsOf_15 : decode cX8_modelsOf 15 = .ok (.iinc 3 1, 3) := by decide +kernel
theorem dX8_modelsOf_18 : decode cX8_modelsOf 18 = .ok (.goto (-14), 3) := by decide +kernel
theorem dX8_modelsOf_21 : decode cX8_modelsOf 21 = .ok (.iload_n 2, 1) := by decide +kernel
theorem dX8_modelsOf_22 : decode cX8_modelsOf 22 = .ok (.ireturn, 1) := by decide +kernel
theorem dX8_keepWeights_0 : decode cX8_keepWeights 0 = .ok (.aload_n 0, 1) := by decide +kernel
theorem dX8_keepWeights_1 : decode cX8_keepWeights 1 = .ok (.aload_n 0, 1) := by decide +kernel
theorem dX8_keepWeights_2 : decode cX8_keepWeights 2 = .ok (.getfield 7, 3) := by decide +kernel
theorem dX8_keepWeights_5 : decode cX8_keepWeights 5 = .ok (.iconst 3, 1) := by decide +kernel
theorem dX8_keepWeights_6 : decode cX8_keepWeights 6 = .ok (.iaload, 1) := by decide +kernel
theorem dX8_keepWeights_7 : decode cX8_keepWeights 7 = .ok (.putfield 206, 3) := by decide +kernel
theorem dX8_keepWeights_10 : decode cX8_keepWeights 10 = .ok (.aload_n 0, 1) := by decide +kernel
theorem dX8_keepWeights_11 : decode cX8_keepWeights 11 = .ok (.aload_n 0, 1) := by decide +kernel
theorem dX8_keepWeights_12 : decode cX8_keepWeights 12 = .ok (.getfield 7, 3) := by decide +kernel
theorem dX8_keepWeights_15 : decode cX8_keepWeights 15 = .ok (.bipush 9, 2) := by decide +kernel
theorem dX8_keepWeights_17 : decode cX8_keepWeights 17 = .ok (.iaload, 1) := by decide +kernel
theorem dX8_keepWeights_18 : decode cX8_keepWeights 18 = .ok (.putfield 209, 3) := by decide +kernel
theorem dX8_keepWeights_21 : decode cX8_keepWeights 21 = .ok (.aload_n 0, 1) := by decide +kernel
theorem dX8_keepWeights_22 : decode cX8_keepWeights 22 = .ok (.aload_n 0, 1) := by decide +kernel
theorem dX8_keepWeights_23 : decode cX8_keepWeights 23 = .ok (.getfield 7, 3) := by decide +kernel
theorem dX8_keepWeights_26 : decode cX8_keepWeights 26 = .ok (.bipush 15, 2) := by decide +kernel
theorem dX8_keepWeights_28 : decode cX8_keepWeights 28 = .ok (.iaload, 1) := by decide +kernel
theorem dX8_keepWeights_29 : decode cX8_keepWeights 29 = .ok (.putfield 212, 3) := by decide +kernel
theorem dX8_keepWeights_32 : decode cX8_keepWeights 32 = .ok (.return_, 1) := by decide +kernel
theorem dX8_giveBack_0 : decode cX8_giveBack 0 = .ok (.aload_n 0, 1) := by decide +kernel
theorem dX8_giveBack_1 : decode cX8_giveBack 1 = .ok (.getfield 7, 3) := by decide +kernel
theorem dX8_giveBack_4 : decode cX8_giveBack 4 = .ok (.iconst 3, 1) := by decide +kernel
theorem dX8_giveBack_5 : decode cX8_giveBack 5 = .ok (.aload_n 0, 1) := by decide +kernel
theorem dX8_giveBack_6 : decode cX8_giveBack 6 = .ok (.getfield 206, 3) := by decide +kernel
theorem dX8_giveBack_9 : decode cX8_giveBack 9 = .ok (.iastore, 1) := by decide +kernel
theorem dX8_giveBack_10 : decode cX8_giveBack 10 = .ok (.aload_n 0, 1) := by decide +kernel
theorem dX8_giveBack_11 : decode cX8_giveBack 11 = .ok (.getfield 7, 3) := by decide +kernel
theorem dX8_giveBack_14 : decode cX8_giveBack 14 = .ok (.bipush 9, 2) := by decide +kernel
theorem dX8_giveBack_16 : decode cX8_giveBack 16 = .ok (.aload_n 0, 1) := by decide +kernel
theorem dX8_giveBack_17 : decode cX8_giveBack 17 = .ok (.getfield 209, 3) := by decide +kernel
theorem dX8_giveBack_20 : decode cX8_giveBack 20 = .ok (.iastore, 1) := by decide +kernel
theorem dX8_giveBack_21 : decode cX8_giveBack 21 = .ok (.aload_n 0, 1) := by decide +kernel
theorem dX8_giveBack_22 : decode cX8_giveBack 22 = .ok (.getfield 7, 3) := by decide +kernel
theorem dX8_giveBack_25 : decode cX8_giveBack 25 = .ok (.bipush 15, 2) := by decide +kernel
theorem dX8_giveBack_27 : decode cX8_giveBack 27 = .ok (.aload_n 0, 1) := by decide +kernel
theorem dX8_giveBack_28 : decode cX8_giveBack 28 = .ok (.getfield 212, 3) := by decide +kernel
theorem dX8_giveBack_31 : decode cX8_giveBack 31 = .ok (.iastore, 1) := by decide +kernel
theorem dX8_giveBack_32 : decode cX8_giveBack 32 = .ok (.return_, 1) := by decide +kernel
theorem dX8_digit_0 : decode cX8_digit 0 = .ok (.iload_n 1, 1) := by decide +kernel
theorem dX8_digit_1 : decode cX8_digit 1 = .ok (.istore_n 3, 1) := by decide +kernel
theorem dX8_digit_2 : decode cX8_digit 2 = .ok (.iconst 0, 1) := by decide +kernel
theorem dX8_digit_3 : decode cX8_digit 3 = .ok (.istore 4, 2) := by decide +kernel
theorem dX8_digit_5 : decode cX8_digit 5 = .ok (.iload 4, 2) := by decide +kernel
theorem dX8_digit_7 : decode cX8_digit 7 = .ok (.iload_n 2, 1) := by decide +kernel
theorem dX8_digit_8 : decode cX8_digit 8 = .ok (.if_icmp .ge 15, 3) := by decide +kernel
theorem dX8_digit_11 : decode cX8_digit 11 = .ok (.iload_n 3, 1) := by decide +kernel
theorem dX8_digit_12 : decode cX8_digit 12 = .ok (.iload_n 0, 1) := by decide +kernel
theorem dX8_digit_13 : decode cX8_digit 13 = .ok (.iconst 1, 1) := by decide +kernel
theorem dX8_digit_14 : decode cX8_digit 14 = .ok (.iadd, 1) := by decide +kernel
theorem dX8_digit_15 : decode cX8_digit 15 = .ok (.idiv, 1) := by decide +kernel
theorem dX8_digit_16 : decode cX8_digit 16 = .ok (.istore_n 3, 1) := by decide +kernel
theorem dX8_digit_17 : decode cX8_digit 17 = .ok (.iinc 4 1, 3) := by decide +kernel
theorem dX8_digit_20 : decode cX8_digit 20 = .ok (.goto (-15), 3) := by decide +kernel
theorem dX8_digit_23 : decode cX8_digit 23 = .ok (.iload_n 3, 1) := by decide +kernel
theorem dX8_digit_24 : decode cX8_digit 24 = .ok (.iload_n 0, 1) := by decide +kernel
theorem dX8_digit_25 : decode cX8_digit 25 = .ok (.iconst 1, 1) := by decide +kernel
theorem dX8_digit_26 : decode cX8_digit 26 = .ok (.iadd, 1) := by decide +kernel
theorem dX8_digit_27 : decode cX8_digit 27 = .ok (.irem, 1) := by decide +kernel
theorem dX8_digit_28 : decode cX8_digit 28 = .ok (.ireturn, 1) := by decide +kernel
theorem dX8_weigh_0 : decode cX8_weigh 0 = .ok (.iconst 0, 1) := by decide +kernel
theorem dX8_weigh_1 : decode cX8_weigh 1 = .ok (.istore 4, 2) := by decide +kernel
theorem dX8_weigh_3 : decode cX8_weigh 3 = .ok (.iload 4, 2) := by decide +kernel
theorem dX8_weigh_5 : decode cX8_weigh 5 = .ok (.iload_n 1, 1) := by decide +kernel
theorem dX8_weigh_6 : decode cX8_weigh 6 = .ok (.if_icmp .ge 28, 3) := by decide +kernel
theorem dX8_weigh_9 : decode cX8_weigh 9 = .ok (.aload_n 0, 1) := by decide +kernel
theorem dX8_weigh_10 : decode cX8_weigh 10 = .ok (.getfield 7, 3) := by decide +kernel
theorem dX8_weigh_13 : decode cX8_weigh 13 = .ok (.bipush 6, 2) := by decide +kernel
theorem dX8_weigh_15 : decode cX8_weigh 15 = .ok (.iload 4, 2) := by decide +kernel
theorem dX8_weigh_17 : decode cX8_weigh 17 = .ok (.imul, 1) := by decide +kernel
theorem dX8_weigh_18 : decode cX8_weigh 18 = .ok (.iconst 3, 1) := by decide +kernel
theorem dX8_weigh_19 : decode cX8_weigh 19 = .ok (.iadd, 1) := by decide +kernel
theorem dX8_weigh_20 : decode cX8_weigh 20 = .ok (.iload_n 2, 1) := by decide +kernel
theorem dX8_weigh_21 : decode cX8_weigh 21 = .ok (.iload_n 3, 1) := by decide +kernel
theorem dX8_weigh_22 : decode cX8_weigh 22 = .ok (.iload 4, 2) := by decide +kernel
theorem dX8_weigh_24 : decode cX8_weigh 24 = .ok (.invokestatic 215, 3) := by decide +kernel
theorem dX8_weigh_27 : decode cX8_weigh 27 = .ok (.iastore, 1) := by decide +kernel
theorem dX8_weigh_28 : decode cX8_weigh 28 = .ok (.iinc 4 1, 3) := by decide +kernel
theorem dX8_weigh_31 : decode cX8_weigh 31 = .ok (.goto (-28), 3) := by decide +kernel
theorem dX8_weigh_34 : decode cX8_weigh 34 = .ok (.return_, 1) := by decide +kernel
theorem dX8_isWithin_0 : decode cX8_isWithin 0 = .ok (.aload_n 0, 1) := by decide +kernel
theorem dX8_isWithin_1 : decode cX8_isWithin 1 = .ok (.aload_n 0, 1) := by decide +kernel
theorem dX8_isWithin_2 : decode cX8_isWithin 2 = .ok (.getfield 17, 3) := by decide +kernel
theorem dX8_isWithin_5 : decode cX8_isWithin 5 = .ok (.iconst 4, 1) := by decide +kernel
theorem dX8_isWithin_6 : decode cX8_isWithin 6 = .ok (.iload_n 1, 1) := by decide +kernel
theorem dX8_isWithin_7 : decode cX8_isWithin 7 = .ok (.imul, 1) := by decide +kernel
theorem dX8_isWithin_8 : decode cX8_isWithin 8 = .ok (.iaload, 1) := by decide +kernel
theorem dX8_isWithin_9 : decode cX8_isWithin 9 = .ok (.aload_n 0, 1) := by decide +kernel
theorem dX8_isWithin_10 : decode cX8_isWithin 10 = .ok (.getfield 17, 3) := by decide +kernel
theorem dX8_isWithin_13 : decode cX8_isWithin 13 = .ok (.iconst 4, 1) := by decide +kernel
theorem dX8_isWithin_14 : decode cX8_isWithin 14 = .ok (.iload_n 1, 1) := by decide +kernel
theorem dX8_isWithin_15 : decode cX8_isWithin 15 = .ok (.imul, 1) := by decide +kernel
theorem dX8_isWithin_16 : decode cX8_isWithin 16 = .ok (.iconst 1, 1) := by decide +kernel
theorem dX8_isWithin_17 : decode cX8_isWithin 17 = .ok (.iadd, 1) := by decide +kernel
theorem dX8_isWithin_18 : decode cX8_isWithin 18 = .ok (.iaload, 1) := by decide +kernel
theorem dX8_isWithin_19 : decode cX8_isWithin 19 = .ok (.iload_n 2, 1) := by decide +kernel
theorem dX8_isWithin_20 : decode cX8_isWithin 20 = .ok (.invokevirtual 111, 3) := by decide +kernel
theorem dX8_isWithin_23 : decode cX8_isWithin 23 = .ok (.aload_n 0, 1) := by decide +kernel
theorem dX8_isWithin_24 : decode cX8_isWithin 24 = .ok (.aload_n 0, 1) := by decide +kernel
theorem dX8_isWithin_25 : decode cX8_isWithin 25 = .ok (.getfield 17, 3) := by decide +kernel
theorem dX8_isWithin_28 : decode cX8_isWithin 28 = .ok (.iconst 4, 1) := by decide +kernel
theorem dX8_isWithin_29 : decode cX8_isWithin 29 = .ok (.iload_n 1, 1) := by decide +kernel
theorem dX8_isWithin_30 : decode cX8_isWithin 30 = .ok (.imul, 1) := by decide +kernel
theorem dX8_isWithin_31 : decode cX8_isWithin 31 = .ok (.iconst 2, 1) := by decide +kernel
theorem dX8_isWithin_32 : decode cX8_isWithin 32 = .ok (.iadd, 1) := by decide +kernel
theorem dX8_isWithin_33 : decode cX8_isWithin 33 = .ok (.iaload, 1) := by decide +kernel
theorem dX8_isWithin_34 : decode cX8_isWithin 34 = .ok (.aload_n 0, 1) := by decide +kernel
theorem dX8_isWithin_35 : decode cX8_isWithin 35 = .ok (.getfield 17, 3) := by decide +kernel
theorem dX8_isWithin_38 : decode cX8_isWithin 38 = .ok (.iconst 4, 1) := by decide +kernel
theorem dX8_isWithin_39 : decode cX8_isWithin 39 = .ok (.iload_n 1, 1) := by decide +kernel
theorem dX8_isWithin_40 : decode cX8_isWithin 40 = .ok (.imul, 1) := by decide +kernel
theorem dX8_isWithin_41 : decode cX8_isWithin 41 = .ok (.iconst 3, 1) := by decide +kernel
theorem dX8_isWithin_42 : decode cX8_isWithin 42 = .ok (.iadd, 1) := by decide +kernel
theorem dX8_isWithin_43 : decode cX8_isWithin 43 = .ok (.iaload, 1) := by decide +kernel
theorem dX8_isWithin_44 : decode cX8_isWithin 44 = .ok (.iload_n 2, 1) := by decide +kernel
theorem dX8_isWithin_45 : decode cX8_isWithin 45 = .ok (.invokevirtual 111, 3) := by decide +kernel
theorem dX8_isWithin_48 : decode cX8_isWithin 48 = .ok (.isub, 1) := by decide +kernel
theorem dX8_isWithin_49 : decode cX8_isWithin 49 = .ok (.istore_n 3, 1) := by decide +kernel
theorem dX8_isWithin_50 : decode cX8_isWithin 50 = .ok (.iload_n 3, 1) := by decide +kernel
theorem dX8_isWithin_51 : decode cX8_isWithin 51 = .ok (.aload_n 0, 1) := by decide +kernel
theorem dX8_isWithin_52 : decode cX8_isWithin 52 = .ok (.getfield 20, 3) := by decide +kernel
theorem dX8_isWithin_55 : decode cX8_isWithin 55 = .ok (.if_icmp .gt 16, 3) := by decide +kernel
theorem dX8_isWithin_58 : decode cX8_isWithin 58 = .ok (.iload_n 3, 1) := by decide +kernel
theorem dX8_isWithin_59 : decode cX8_isWithin 59 = .ok (.ineg, 1) := by decide +kernel
theorem dX8_isWithin_60 : decode cX8_isWithin 60 = .ok (.aload_n 0, 1) := by decide +kernel
theorem dX8_isWithin_61 : decode cX8_isWithin 61 = .ok (.getfield 20, 3) := by decide +kernel
theorem dX8_isWithin_64 : decode cX8_isWithin 64 = .ok (.if_icmp .gt 7, 3) := by decide +kernel
theorem dX8_isWithin_67 : decode cX8_isWithin 67 = .ok (.iconst 1, 1) := by decide +kernel
theorem dX8_isWithin_68 : decode cX8_isWithin 68 = .ok (.goto 4, 3) := by decide +kernel
theorem dX8_isWithin_71 : decode cX8_isWithin 71 = .ok (.iconst 0, 1) := by decide +kernel
theorem dX8_isWithin_72 : decode cX8_isWithin 72 = .ok (.ireturn, 1) := by decide +kernel
theorem dX8_doesFit_0 : decode cX8_doesFit 0 = .ok (.iconst 1, 1) := by decide +kernel
theorem dX8_doesFit_1 : decode cX8_doesFit 1 = .ok (.istore_n 1, 1) := by decide +kernel
theorem dX8_doesFit_2 : decode cX8_doesFit 2 = .ok (.iconst 0, 1) := by decide +kernel
theorem dX8_doesFit_3 : decode cX8_doesFit 3 = .ok (.istore_n 2, 1) := by decide +kernel
theorem dX8_doesFit_4 : decode cX8_doesFit 4 = .ok (.iload_n 2, 1) := by decide +kernel
theorem dX8_doesFit_5 : decode cX8_doesFit 5 = .ok (.aload_n 0, 1) := by decide +kernel
theorem dX8_doesFit_6 : decode cX8_doesFit 6 = .ok (.getfield 203, 3) := by decide +kernel
theorem dX8_doesFit_9 : decode cX8_doesFit 9 = .ok (.if_icmp .ge 37, 3) := by decide +kernel
theorem dX8_doesFit_12 : decode cX8_doesFit 12 = .ok (.iload_n 1, 1) := by decide +kernel
theorem dX8_doesFit_13 : decode cX8_doesFit 13 = .ok (.ifCond .eq 33, 3) := by decide +kernel
theorem dX8_doesFit_16 : decode cX8_doesFit 16 = .ok (.aload_n 0, 1) := by decide +kernel
theorem dX8_doesFit_17 : decode cX8_doesFit 17 = .ok (.iload_n 2, 1) := by decide +kernel
theorem dX8_doesFit_18 : decode cX8_doesFit 18 = .ok (.iconst 0, 1) := by decide +kernel
theorem dX8_doesFit_19 : decode cX8_doesFit 19 = .ok (.invokevirtual 218, 3) := by decide +kernel
theorem dX8_doesFit_22 : decode cX8_doesFit 22 = .ok (.ifCond .eq 16, 3) := by decide +kernel
theorem dX8_doesFit_25 : decode cX8_doesFit 25 = .ok (.aload_n 0, 1) := by decide +kernel
theorem dX8_doesFit_26 : decode cX8_doesFit 26 = .ok (.iload_n 2, 1) := by decide +kernel
theorem dX8_doesFit_27 : decode cX8_doesFit 27 = .ok (.iconst 1, 1) := by decide +kernel
theorem dX8_doesFit_28 : decode cX8_doesFit 28 = .ok (.invokevirtual 218, 3) := by decide +kernel
theorem dX8_doesFit_31 : decode cX8_doesFit 31 = .ok (.ifCond .eq 7, 3) := by decide +kernel
theorem dX8_doesFit_34 : decode cX8_doesFit 34 = .ok (.iconst 1, 1) := by decide +kernel
theorem dX8_doesFit_35 : decode cX8_doesFit 35 = .ok (.goto 4, 3) := by decide +kernel
theorem dX8_doesFit_38 : decode cX8_doesFit 38 = .ok (.iconst 0, 1) := by decide +kernel
theorem dX8_doesFit_39 : decode cX8_doesFit 39 = .ok (.istore_n 1, 1) := by decide +kernel
theorem dX8_doesFit_40 : decode cX8_doesFit 40 = .ok (.iinc 2 1, 3) := by decide +kernel
theorem dX8_doesFit_43 : decode cX8_doesFit 43 = .ok (.goto (-39), 3) := by decide +kernel
theorem dX8_doesFit_46 : decode cX8_doesFit 46 = .ok (.iload_n 1, 1) := by decide +kernel
theorem dX8_doesFit_47 : decode cX8_doesFit 47 = .ok (.ireturn, 1) := by decide +kernel
theorem dX8_isTry_0 : decode cX8_isTry 0 = .ok (.iload_n 1, 1) := by decide +kernel
theorem dX8_isTry_1 : decode cX8_isTry 1 = .ok (.iconst 1, 1) := by decide +kernel
theorem dX8_isTry_2 : decode cX8_isTry 2 = .ok (.iconst 3, 1) := by decide +kernel
theorem dX8_isTry_3 : decode cX8_isTry 3 = .ok (.invokestatic 74, 3) := by decide +kernel
theorem dX8_isTry_6 : decode cX8_isTry 6 = .ok (.ifCond .eq 25, 3) := by decide +kernel
theorem dX8_isTry_9 : decode cX8_isTry 9 = .ok (.iload_n 1, 1) := by decide +kernel
theorem dX8_isTry_10 : decode cX8_isTry 10 = .ok (.aload_n 0, 1) := by decide +kernel
theorem dX8_isTry_11 : decode cX8_isTry 11 = .ok (.getfield 78, 3) := by decide +kernel
theorem dX8_isTry_14 : decode cX8_isTry 14 = .ok (.if_icmp .gt 17, 3) := by decide +kernel
theorem dX8_isTry_17 : decode cX8_isTry 17 = .ok (.iload_n 2, 1) := by decide +kernel
theorem dX8_isTry_18 : decode cX8_isTry 18 = .ok (.iconst 1, 1) := by decide +kernel
theorem dX8_isTry_19 : decode cX8_isTry 19 = .ok (.bipush 15, 2) := by decide +kernel
theorem dX8_isTry_21 : decode cX8_isTry 21 = .ok (.invokestatic 74, 3) := by decide +kernel
theorem dX8_isTry_24 : decode cX8_isTry 24 = .ok (.ifCond .eq 7, 3) := by decide +kernel
theorem dX8_isTry_27 : decode cX8_isTry 27 = .ok (.iconst 1, 1) := by decide +kernel
theorem dX8_isTry_28 : decode cX8_isTry 28 = .ok (.goto 4, 3) := by decide +kernel
theorem dX8_isTry_31 : decode cX8_isTry 31 = .ok (.iconst 0, 1) := by decide +kernel
theorem dX8_isTry_32 : decode cX8_isTry 32 = .ok (.ireturn, 1) := by decide +kernel
theorem dX8_fits_0 : decode cX8_fits 0 = .ok (.aload_n 0, 1) := by decide +kernel
theorem dX8_fits_1 : decode cX8_fits 1 = .ok (.iload_n 1, 1) := by decide +kernel
theorem dX8_fits_2 : decode cX8_fits 2 = .ok (.iload_n 2, 1) := by decide +kernel
theorem dX8_fits_3 : decode cX8_fits 3 = .ok (.invokevirtual 221, 3) := by decide +kernel
theorem dX8_fits_6 : decode cX8_fits 6 = .ok (.ifCond .eq 18, 3) := by decide +kernel
theorem dX8_fits_9 : decode cX8_fits 9 = .ok (.iload_n 3, 1) := by decide +kernel
theorem dX8_fits_10 : decode cX8_fits 10 = .ok (.iconst 0, 1) := by decide +kernel
theorem dX8_fits_11 : decode cX8_fits 11 = .ok (.iload_n 1, 1) := by decide +kernel
theorem dX8_fits_12 : decode cX8_fits 12 = .ok (.iload_n 2, 1) := by decide +kernel
theorem dX8_fits_13 : decode cX8_fits 13 = .ok (.invokestatic 224, 3) := by decide +kernel
theorem dX8_fits_16 : decode cX8_fits 16 = .ok (.iconst 1, 1) := by decide +kernel
theorem dX8_fits_17 : decode cX8_fits 17 = .ok (.isub, 1) := by decide +kernel
theorem dX8_fits_18 : decode cX8_fits 18 = .ok (.invokestatic 74, 3) := by decide +kernel
theorem dX8_fits_21 : decode cX8_fits 21 = .ok (.ifCond .ne 5, 3) := by decide +kernel
theorem dX8_fits_24 : decode cX8_fits 24 = .ok (.iconst (-1), 1) := by decide +kernel
theorem dX8_fits_25 : decode cX8_fits 25 = .ok (.ireturn, 1) := by decide +kernel
theorem dX8_fits_26 : decode cX8_fits 26 = .ok (.aload_n 0, 1) := by decide +kernel
theorem dX8_fits_27 : decode cX8_fits 27 = .ok (.invokevirtual 227, 3) := by decide +kernel
theorem dX8_fits_30 : decode cX8_fits 30 = .ok (.aload_n 0, 1) := by decide +kernel
theorem dX8_fits_31 : decode cX8_fits 31 = .ok (.iload_n 1, 1) := by decide +kernel
theorem dX8_fits_32 : decode cX8_fits 32 = .ok (.iload_n 2, 1) := by decide +kernel
theorem dX8_fits_33 : decode cX8_fits 33 = .ok (.iload_n 3, 1) := by decide +kernel
theorem dX8_fits_34 : decode cX8_fits 34 = .ok (.invokevirtual 230, 3) := by decide +kernel
theorem dX8_fits_37 : decode cX8_fits 37 = .ok (.aload_n 0, 1) := by decide +kernel
theorem dX8_fits_38 : decode cX8_fits 38 = .ok (.invokevirtual 234, 3) := by decide +kernel
theorem dX8_fits_41 : decode cX8_fits 41 = .ok (.istore 4, 2) := by decide +kernel
theorem dX8_fits_43 : decode cX8_fits 43 = .ok (.aload_n 0, 1) := by decide +kernel
theorem dX8_fits_44 : decode cX8_fits 44 = .ok (.invokevirtual 237, 3) := by decide +kernel
theorem dX8_fits_47 : decode cX8_fits 47 = .ok (.iload 4, 2) := by decide +kernel
theorem dX8_fits_49 : decode cX8_fits 49 = .ok (.ifCond .eq 7, 3) := by decide +kernel
theorem dX8_fits_52 : decode cX8_fits 52 = .ok (.iconst 1, 1) := by decide +kernel
theorem dX8_fits_53 : decode cX8_fits 53 = .ok (.goto 4, 3) := by decide +kernel
theorem dX8_fits_56 : decode cX8_fits 56 = .ok (.iconst 0, 1) := by decide +kernel
theorem dX8_fits_57 : decode cX8_fits 57 = .ok (.ireturn, 1) := by decide +kernel
theorem dX8_findFitting_0 : decode cX8_findFitting 0 = .ok (.aload_n 0, 1) := by decide +kernel
theorem dX8_findFitting_1 : decode cX8_findFitting 1 = .ok (.invokevirtual 227, 3) := by decide +kernel
theorem dX8_findFitting_4 : decode cX8_findFitting 4 = .ok (.iconst 0, 1) := by decide +kernel
theorem dX8_findFitting_5 : decode cX8_findFitting 5 = .ok (.istore_n 3, 1) := by decide +kernel
theorem dX8_findFitting_6 : decode cX8_findFitting 6 = .ok (.iload_n 1, 1) := by decide +kernel
theorem dX8_findFitting_7 : decode cX8_findFitting 7 = .ok (.iload_n 2, 1) := by decide +kernel
theorem dX8_findFitting_8 : decode cX8_findFitting 8 = .ok (.invokestatic 224, 3) := by decide +kernel
theorem dX8_findFitting_11 : decode cX8_findFitting 11 = .ok (.istore 4, 2) := by decide +kernel
theorem dX8_findFitting_13 : decode cX8_findFitting 13 = .ok (.iconst 0, 1) := by decide +kernel
theorem dX8_findFitting_14 : decode cX8_findFitting 14 = .ok (.istore 5, 2) := by decide +kernel
theorem dX8_findFitting_16 : decode cX8_findFitting 16 = .ok (.iload 5, 2) := by decide +kernel
theorem dX8_findFitting_18 : decode cX8_findFitting 18 = .ok (.iload 4, 2) := by decide +kernel
theorem dX8_findFitting_20 : decode cX8_findFitting 20 = .ok (.if_icmp .ge 115, 3) := by decide +kernel
theorem dX8_findFitting_23 : decode cX8_findFitting 23 = .ok (.aload_n 0, 1) := by decide +kernel
theorem dX8_findFitting_24 : decode cX8_findFitting 24 = .ok (.iload_n 1, 1) := by decide +kernel
theorem dX8_findFitting_25 : decode cX8_findFitting 25 = .ok (.iload_n 2, 1) := by decide +kernel
theorem dX8_findFitting_26 : decode cX8_findFitting 26 = .ok (.iload 5, 2) := by decide +kernel
theorem dX8_findFitting_28 : decode cX8_findFitting 28 = .ok (.invokevirtual 230, 3) := by decide +kernel
theorem dX8_findFitting_31 : decode cX8_findFitting 31 = .ok (.aload_n 0, 1) := by decide +kernel
theorem dX8_findFitting_32 : decode cX8_findFitting 32 = .ok (.invokevirtual 234, 3) := by decide +kernel
theorem dX8_findFitting_35 : decode cX8_findFitting 35 = .ok (.ifCond .eq 94, 3) := by decide +kernel
theorem dX8_findFitting_38 : decode cX8_findFitting 38 = .ok (.aload_n 0, 1) := by decide +kernel
theorem dX8_findFitting_39 : decode cX8_findFitting 39 = .ok (.getfield 58, 3) := by decide +kernel
theorem dX8_findFitting_42 : decode cX8_findFitting 42 = .ok (.iload_n 3, 1) := by decide +kernel
theorem dX8_findFitting_43 : decode cX8_findFitting 43 = .ok (.iload 5, 2) := by decide +kernel
theorem dX8_findFitting_45 : decode cX8_findFitting 45 = .ok (.iastore, 1) := by decide +kernel
theorem dX8_findFitting_46 : decode cX8_findFitting 46 = .ok (.iconst 0, 1) := by decide +kernel
theorem dX8_findFitting_47 : decode cX8_findFitting 47 = .ok (.istore 6, 2) := by decide +kernel
theorem dX8_findFitting_49 : decode cX8_findFitting 49 = .ok (.iload 6, 2) := by decide +kernel
theorem dX8_findFitting_51 : decode cX8_findFitting 51 = .ok (.aload_n 0, 1) := by decide +kernel
theorem dX8_findFitting_52 : decode cX8_findFitting 52 = .ok (.getfield 240, 3) := by decide +kernel
theorem dX8_findFitting_55 : decode cX8_findFitting 55 = .ok (.if_icmp .ge 71, 3) := by decide +kernel
theorem dX8_findFitting_58 : decode cX8_findFitting 58 = .ok (.aload_n 0, 1) := by decide +kernel
theorem dX8_findFitting_59 : decode cX8_findFitting 59 = .ok (.getfield 62, 3) := by decide +kernel
theorem dX8_findFitting_62 : decode cX8_findFitting 62 = .ok (.bipush 8, 2) := by decide +kernel
theorem dX8_findFitting_64 : decode cX8_findFitting 64 = .ok (.iload_n 3, 1) := by decide +kernel
theorem dX8_findFitting_65 : decode cX8_findFitting 65 = .ok (.imul, 1) := by decide +kernel
theorem dX8_findFitting_66 : decode cX8_findFitting 66 = .ok (.iload 6, 2) := by decide +kernel
theorem dX8_findFitting_68 : decode cX8_findFitting 68 = .ok (.iadd, 1) := by decide +kernel
theorem dX8_findFitting_69 : decode cX8_findFitting 69 = .ok (.aload_n 0, 1) := by decide +kernel
theorem dX8_findFitting_70 : decode cX8_findFitting 70 = .ok (.aload_n 0, 1) := by decide +kernel
theorem dX8_findFitting_71 : decode cX8_findFitting 71 = .ok (.getfield 27, 3) := by decide +kernel
theorem dX8_findFitting_74 : decode cX8_findFitting 74 = .ok (.iload 6, 2) := by decide +kernel
theorem dX8_findFitting_76 : decode cX8_findFitting 76 = .ok (.iaload, 1) := by decide +kernel
theorem dX8_findFitting_77 : decode cX8_findFitting 77 = .ok (.aload_n 0, 1) := by decide +kernel
theorem dX8_findFitting_78 : decode cX8_findFitting 78 = .ok (.getfield 30, 3) := by decide +kernel
theorem dX8_findFitting_81 : decode cX8_findFitting 81 = .ok (.iload 6, 2) := by decide +kernel
theorem dX8_findFitting_83 : decode cX8_findFitting 83 = .ok (.iaload, 1) := by decide +kernel
theorem dX8_findFitting_84 : decode cX8_findFitting 84 = .ok (.iconst 0, 1) := by decide +kernel
theorem dX8_findFitting_85 : decode cX8_findFitting 85 = .ok (.invokevirtual 121, 3) := by decide +kernel
theorem dX8_findFitting_88 : decode cX8_findFitting 88 = .ok (.iastore, 1) := by decide +kernel
theorem dX8_findFitting_89 : decode cX8_findFitting 89 = .ok (.aload_n 0, 1) := by decide +kernel
theorem dX8_findFitting_90 : decode cX8_findFitting 90 = .ok (.getfield 65, 3) := by decide +kernel
theorem dX8_findFitting_93 : decode cX8_findFitting 93 = .ok (.bipush 8, 2) := by decide +kernel
theorem dX8_findFitting_95 : decode cX8_findFitting 95 = .ok (.iload_n 3, 1) := by decide +kernel
theorem dX8_findFitting_96 : decode cX8_findFitting 96 = .ok (.imul, 1) := by decide +kernel
theorem dX8_findFitting_97 : decode cX8_findFitting 97 = .ok (.iload 6, 2) := by decide +kernel
theorem dX8_findFitting_99 : decode cX8_findFitting 99 = .ok (.iadd, 1) := by decide +kernel
theorem dX8_findFitting_100 : decode cX8_findFitting 100 = .ok (.aload_n 0, 1) := by decide +kernel
theorem dX8_findFitting_101 : decode cX8_findFitting 101 = .ok (.aload_n 0, 1) := by decide +kernel
theorem dX8_findFitting_102 : decode cX8_findFitting 102 = .ok (.getfield 27, 3) := by decide +kernel
theorem dX8_findFitting_105 : decode cX8_findFitting 105 = .ok (.iload 6, 2) := by decide +kernel
theorem dX8_findFitting_107 : decode cX8_findFitting 107 = .ok (.iaload, 1) := by decide +kernel
theorem dX8_findFitting_108 : decode cX8_findFitting 108 = .ok (.aload_n 0, 1) := by decide +kernel
theorem dX8_findFitting_109 : decode cX8_findFitting 109 = .ok (.getfield 30, 3) := by decide +kernel
theorem dX8_findFitting_112 : decode cX8_findFitting 112 = .ok (.iload 6, 2) := by decide +kernel
theorem dX8_findFitting_114 : decode cX8_findFitting 114 = .ok (.iaload, 1) := by decide +kernel
theorem dX8_findFitting_115 : decode cX8_findFitting 115 = .ok (.iconst 1, 1) := by decide +kernel
theorem dX8_findFitting_116 : decode cX8_findFitting 116 = .ok (.invokevirtual 121, 3) := by decide +kernel
theorem dX8_findFitting_119 : decode cX8_findFitting 119 = .ok (.iastore, 1) := by decide +kernel
theorem dX8_findFitting_120 : decode cX8_findFitting 120 = .ok (.iinc 6 1, 3) := by decide +kernel
theorem dX8_findFitting_123 : decode cX8_findFitting 123 = .ok (.goto (-74), 3) := by decide +kernel
theorem dX8_findFitting_126 : decode cX8_findFitting 126 = .ok (.iinc 3 1, 3) := by decide +kernel
theorem dX8_findFitting_129 : decode cX8_findFitting 129 = .ok (.iinc 5 1, 3) := by decide +kernel
theorem dX8_findFitting_132 : decode cX8_findFitting 132 = .ok (.goto (-116), 3) := by decide +kernel
theorem dX8_findFitting_135 : decode cX8_findFitting 135 = .ok (.aload_n 0, 1) := by decide +kernel
theorem dX8_findFitting_136 : decode cX8_findFitting 136 = .ok (.invokevirtual 237, 3) := by decide +kernel
theorem dX8_findFitting_139 : decode cX8_findFitting 139 = .ok (.iload_n 3, 1) := by decide +kernel
theorem dX8_findFitting_140 : decode cX8_findFitting 140 = .ok (.ireturn, 1) := by decide +kernel
theorem dX8_isAlike_0 : decode cX8_isAlike 0 = .ok (.iconst 1, 1) := by decide +kernel
theorem dX8_isAlike_1 : decode cX8_isAlike 1 = .ok (.istore 5, 2) := by decide +kernel
theorem dX8_isAlike_3 : decode cX8_isAlike 3 = .ok (.iload_n 3, 1) := by decide +kernel
theorem dX8_isAlike_4 : decode cX8_isAlike 4 = .ok (.istore 6, 2) := by decide +kernel
theorem dX8_isAlike_6 : decode cX8_isAlike 6 = .ok (.iload 6, 2) := by decide +kernel
theorem dX8_isAlike_8 : decode cX8_isAlike 8 = .ok (.iload 4, 2) := by decide +kernel
theorem dX8_isAlike_10 : decode cX8_isAlike 10 = .ok (.if_icmp .ge 75, 3) := by decide +kernel
theorem dX8_isAlike_13 : decode cX8_isAlike 13 = .ok (.iload 5, 2) := by decide +kernel
theorem dX8_isAlike_15 : decode cX8_isAlike 15 = .ok (.ifCond .eq 70, 3) := by decide +kernel
theorem dX8_isAlike_18 : decode cX8_isAlike 18 = .ok (.aload_n 0, 1) := by decide +kernel
theorem dX8_isAlike_19 : decode cX8_isAlike 19 = .ok (.getfield 62, 3) := by decide +kernel
theorem dX8_isAlike_22 : decode cX8_isAlike 22 = .ok (.bipush 8, 2) := by decide +kernel
theorem dX8_isAlike_24 : decode cX8_isAlike 24 = .ok (.iload_n 1, 1) := by decide +kernel
theorem dX8_isAlike_25 : decode cX8_isAlike 25 = .ok (.imul, 1) := by decide +kernel
theorem dX8_isAlike_26 : decode cX8_isAlike 26 = .ok (.iload 6, 2) := by decide +kernel
theorem dX8_isAlike_28 : decode cX8_isAlike 28 = .ok (.iadd, 1) := by decide +kernel
theorem dX8_isAlike_29 : decode cX8_isAlike 29 = .ok (.iaload, 1) := by decide +kernel
theorem dX8_isAlike_30 : decode cX8_isAlike 30 = .ok (.aload_n 0, 1) := by decide +kernel
theorem dX8_isAlike_31 : decode cX8_isAlike 31 = .ok (.getfield 62, 3) := by decide +kernel
theorem dX8_isAlike_34 : decode cX8_isAlike 34 = .ok (.bipush 8, 2) := by decide +kernel
theorem dX8_isAlike_36 : decode cX8_isAlike 36 = .ok (.iload_n 2, 1) := by decide +kernel
theorem dX8_isAlike_37 : decode cX8_isAlike 37 = .ok (.imul, 1) := by decide +kernel
theorem dX8_isAlike_38 : decode cX8_isAlike 38 = .ok (.iload 6, 2) := by decide +kernel
theorem dX8_isAlike_40 : decode cX8_isAlike 40 = .ok (.iadd, 1) := by decide +kernel
theorem dX8_isAlike_41 : decode cX8_isAlike 41 = .ok (.iaload, 1) := by decide +kernel
theorem dX8_isAlike_42 : decode cX8_isAlike 42 = .ok (.if_icmp .ne 34, 3) := by decide +kernel
theorem dX8_isAlike_45 : decode cX8_isAlike 45 = .ok (.aload_n 0, 1) := by decide +kernel
theorem dX8_isAlike_46 : decode cX8_isAlike 46 = .ok (.getfield 65, 3) := by decide +kernel
theorem dX8_isAlike_49 : decode cX8_isAlike 49 = .ok (.bipush 8, 2) := by decide +kernel
theorem dX8_isAlike_51 : decode cX8_isAlike 51 = .ok (.iload_n 1, 1) := by decide +kernel
theorem dX8_isAlike_52 : decode cX8_isAlike 52 = .ok (.imul, 1) := by decide +kernel
theorem dX8_isAlike_53 : decode cX8_isAlike 53 = .ok (.iload 6, 2) := by decide +kernel
theorem dX8_isAlike_55 : decode cX8_isAlike 55 = .ok (.iadd, 1) := by decide +kernel
theorem dX8_isAlike_56 : decode cX8_isAlike 56 = .ok (.iaload, 1) := by decide +kernel
theorem dX8_isAlike_57 : decode cX8_isAlike 57 = .ok (.aload_n 0, 1) := by decide +kernel
theorem dX8_isAlike_58 : decode cX8_isAlike 58 = .ok (.getfield 65, 3) := by decide +kernel
theorem dX8_isAlike_61 : decode cX8_isAlike 61 = .ok (.bipush 8, 2) := by decide +kernel
theorem dX8_isAlike_63 : decode cX8_isAlike 63 = .ok (.iload_n 2, 1) := by decide +kernel
theorem dX8_isAlike_64 : decode cX8_isAlike 64 = .ok (.imul, 1) := by decide +kernel
theorem dX8_isAlike_65 : decode cX8_isAlike 65 = .ok (.iload 6, 2) := by decide +kernel
theorem dX8_isAlike_67 : decode cX8_isAlike 67 = .ok (.iadd, 1) := by decide +kernel
theorem dX8_isAlike_68 : decode cX8_isAlike 68 = .ok (.iaload, 1) := by decide +kernel
theorem dX8_isAlike_69 : decode cX8_isAlike 69 = .ok (.if_icmp .ne 7, 3) := by decide +kernel
theorem dX8_isAlike_72 : decode cX8_isAlike 72 = .ok (.iconst 1, 1) := by decide +kernel
theorem dX8_isAlike_73 : decode cX8_isAlike 73 = .ok (.goto 4, 3) := by decide +kernel
theorem dX8_isAlike_76 : decode cX8_isAlike 76 = .ok (.iconst 0, 1) := by decide +kernel
theorem dX8_isAlike_77 : decode cX8_isAlike 77 = .ok (.istore 5, 2) := by decide +kernel
theorem dX8_isAlike_79 : decode cX8_isAlike 79 = .ok (.iinc 6 1, 3) := by decide +kernel
theorem dX8_isAlike_82 : decode cX8_isAlike 82 = .ok (.goto (-76), 3) := by decide +kernel
theorem dX8_isAlike_85 : decode cX8_isAlike 85 = .ok (.iload 5, 2) := by decide +kernel
theorem dX8_isAlike_87 : decode cX8_isAlike 87 = .ok (.ireturn, 1) := by decide +kernel
theorem dX8_heap_0 : decode cX8_heap 0 = .ok (.iconst 0, 1) := by decide +kernel
theorem dX8_heap_1 : decode cX8_heap 1 = .ok (.istore 4, 2) := by decide +kernel
theorem dX8_heap_3 : decode cX8_heap 3 = .ok (.iload 4, 2) := by decide +kernel
theorem dX8_heap_5 : decode cX8_heap 5 = .ok (.sipush 8192, 3) := by decide +kernel
theorem dX8_heap_8 : decode cX8_heap 8 = .ok (.if_icmp .ge 18, 3) := by decide +kernel
theorem dX8_heap_11 : decode cX8_heap 11 = .ok (.aload_n 0, 1) := by decide +kernel
theorem dX8_heap_12 : decode cX8_heap 12 = .ok (.getfield 68, 3) := by decide +kernel
theorem dX8_heap_15 : decode cX8_heap 15 = .ok (.iload 4, 2) := by decide +kernel
theorem dX8_heap_17 : decode cX8_heap 17 = .ok (.bipush (-9), 2) := by decide +kernel
theorem dX8_heap_19 : decode cX8_heap 19 = .ok (.iastore, 1) := by decide +kernel
theorem dX8_heap_20 : decode cX8_heap 20 = .ok (.iinc 4 1, 3) := by decide +kernel
theorem dX8_heap_23 : decode cX8_heap 23 = .ok (.goto (-20), 3) := by decide +kernel
theorem dX8_heap_26 : decode cX8_heap 26 = .ok (.aload_n 0, 1) := by decide +kernel
theorem dX8_heap_27 : decode cX8_heap 27 = .ok (.iconst 0, 1) := by decide +kernel
theorem dX8_heap_28 : decode cX8_heap 28 = .ok (.putfield 243, 3) := by decide +kernel
theorem dX8_heap_31 : decode cX8_heap 31 = .ok (.iconst 0, 1) := by decide +kernel
theorem dX8_heap_32 : decode cX8_heap 32 = .ok (.istore 4, 2) := by decide +kernel
theorem dX8_heap_34 : decode cX8_heap 34 = .ok (.iconst 0, 1) := by decide +kernel
theorem dX8_heap_35 : decode cX8_heap 35 = .ok (.istore 5, 2) := by decide +kernel
theorem dX8_heap_37 : decode cX8_heap 37 = .ok (.iload 5, 2) := by decide +kernel
theorem dX8_heap_39 : decode cX8_heap 39 = .ok (.iload_n 1, 1) := by decide +kernel
theorem dX8_heap_40 : decode cX8_heap 40 = .ok (.if_icmp .ge 213, 3) := by decide +kernel
theorem dX8_heap_43 : decode cX8_heap 43 = .ok (.iconst 0, 1) := by decide +kernel
theorem dX8_heap_44 : decode cX8_heap 44 = .ok (.istore 6, 2) := by decide +kernel
theorem dX8_heap_46 : decode cX8_heap 46 = .ok (.iload_n 2, 1) := by decide +kernel
theorem dX8_heap_47 : decode cX8_heap 47 = .ok (.istore 7, 2) := by decide +kernel
theorem dX8_heap_49 : decode cX8_heap 49 = .ok (.iload 7, 2) := by decide +kernel
theorem dX8_heap_51 : decode cX8_heap 51 = .ok (.iload_n 3, 1) := by decide +kernel
theorem dX8_heap_52 : decode cX8_heap 52 = .ok (.if_icmp .ge 47, 3) := by decide +kernel
theorem dX8_heap_55 : decode cX8_heap 55 = .ok (.iload 6, 2) := by decide +kernel
theorem dX8_heap_57 : decode cX8_heap 57 = .ok (.bipush 31, 2) := by decide +kernel
theorem dX8_heap_59 : decode cX8_heap 59 = .ok (.imul, 1) := by decide +kernel
theorem dX8_heap_60 : decode cX8_heap 60 = .ok (.aload_n 0, 1) := by decide +kernel
theorem dX8_heap_61 : decode cX8_heap 61 = .ok (.getfield 62, 3) := by decide +kernel
theorem dX8_heap_64 : decode cX8_heap 64 = .ok (.bipush 8, 2) := by decide +kernel
theorem dX8_heap_66 : decode cX8_heap 66 = .ok (.iload 5, 2) := by decide +kernel
theorem dX8_heap_68 : decode cX8_heap 68 = .ok (.imul, 1) := by decide +kernel
theorem dX8_heap_69 : decode cX8_heap 69 = .ok (.iload 7, 2) := by decide +kernel
theorem dX8_heap_71 : decode cX8_heap 71 = .ok (.iadd, 1) := by decide +kernel
theorem dX8_heap_72 : decode cX8_heap 72 = .ok (.iaload, 1) := by decide +kernel
theorem dX8_heap_73 : decode cX8_heap 73 = .ok (.iadd, 1) := by decide +kernel
theorem dX8_heap_74 : decode cX8_heap 74 = .ok (.bipush 31, 2) := by decide +kernel
theorem dX8_heap_76 : decode cX8_heap 76 = .ok (.imul, 1) := by decide +kernel
theorem dX8_heap_77 : decode cX8_heap 77 = .ok (.aload_n 0, 1) := by decide +kernel
theorem dX8_heap_78 : decode cX8_heap 78 = .ok (.getfield 65, 3) := by decide +kernel
theorem dX8_heap_81 : decode cX8_heap 81 = .ok (.bipush 8, 2) := by decide +kernel
theorem dX8_heap_83 : decode cX8_heap 83 = .ok (.iload 5, 2) := by decide +kernel
theorem dX8_heap_85 : decode cX8_heap 85 = .ok (.imul, 1) := by decide +kernel
theorem dX8_heap_86 : decode cX8_heap 86 = .ok (.iload 7, 2) := by decide +kernel
theorem dX8_heap_88 : decode cX8_heap 88 = .ok (.iadd, 1) := by decide +kernel
theorem dX8_heap_89 : decode cX8_heap 89 = .ok (.iaload, 1) := by decide +kernel
theorem dX8_heap_90 : decode cX8_heap 90 = .ok (.iadd, 1) := by decide +kernel
theorem dX8_heap_91 : decode cX8_heap 91 = .ok (.istore 6, 2) := by decide +kernel
theorem dX8_heap_93 : decode cX8_heap 93 = .ok (.iinc 7 1, 3) := by decide +kernel
theorem dX8_heap_96 : decode cX8_heap 96 = .ok (.goto (-47), 3) := by decide +kernel
theorem dX8_heap_99 : decode cX8_heap 99 = .ok (.iload 6, 2) := by decide +kernel
theorem dX8_heap_101 : decode cX8_heap 101 = .ok (.iload 6, 2) := by decide +kernel
theorem dX8_heap_103 : decode cX8_heap 103 = .ok (.bipush 15, 2) := by decide +kernel
theorem dX8_heap_105 : decode cX8_heap 105 = .ok (.ishr, 1) := by decide +kernel
theorem dX8_heap_106 : decode cX8_heap 106 = .ok (.ixor, 1) := by decide +kernel
theorem dX8_heap_107 : decode cX8_heap 107 = .ok (.sipush 8191, 3) := by decide +kernel
theorem dX8_heap_110 : decode cX8_heap 110 = .ok (.iand, 1) := by decide +kernel
theorem dX8_heap_111 : decode cX8_heap 111 = .ok (.istore 7, 2) := by decide +kernel
theorem dX8_heap_113 : decode cX8_heap 113 = .ok (.aload_n 0, 1) := by decide +kernel
theorem dX8_heap_114 : decode cX8_heap 114 = .ok (.getfield 68, 3) := by decide +kernel
theorem dX8_heap_117 : decode cX8_heap 117 = .ok (.iload 7, 2) := by decide +kernel
theorem dX8_heap_119 : decode cX8_heap 119 = .ok (.iaload, 1) := by decide +kernel
theorem dX8_heap_120 : decode cX8_heap 120 = .ok (.bipush (-9), 2) := by decide +kernel
theorem dX8_heap_122 : decode cX8_heap 122 = .ok (.if_icmp .eq 34, 3) := by decide +kernel
theorem dX8_heap_125 : decode cX8_heap 125 = .ok (.aload_n 0, 1) := by decide +kernel
theorem dX8_heap_126 : decode cX8_heap 126 = .ok (.aload_n 0, 1) := by decide +kernel
theorem dX8_heap_127 : decode cX8_heap 127 = .ok (.getfield 68, 3) := by decide +kernel
theorem dX8_heap_130 : decode cX8_heap 130 = .ok (.iload 7, 2) := by decide +kernel
theorem dX8_heap_132 : decode cX8_heap 132 = .ok (.iaload, 1) := by decide +kernel
theorem dX8_heap_133 : decode cX8_heap 133 = .ok (.iload 5, 2) := by decide +kernel
theorem dX8_heap_135 : decode cX8_heap 135 = .ok (.iload_n 2, 1) := by decide +kernel
theorem dX8_heap_136 : decode cX8_heap 136 = .ok (.iload_n 3, 1) := by decide +kernel
theorem dX8_heap_137 : decode cX8_heap 137 = .ok (.invokevirtual 246, 3) := by decide +kernel
theorem dX8_heap_140 : decode cX8_heap 140 = .ok (.ifCond .ne 16, 3) := by decide +kernel
theorem dX8_heap_143 : decode cX8_heap 143 = .ok (.iload 7, 2) := by decide +kernel
theorem dX8_heap_145 : decode cX8_heap 145 = .ok (.iconst 1, 1) := by decide +kernel
theorem dX8_heap_146 : decode cX8_heap 146 = .ok (.iadd, 1) := by decide +kernel
theorem dX8_heap_147 : decode cX8_heap 147 = .ok (.sipush 8191, 3) := by decide +kernel
theorem dX8_heap_150 : decode cX8_heap 150 = .ok (.iand, 1) := by decide +kernel
theorem dX8_heap_151 : decode cX8_heap 151 = .ok (.istore 7, 2) := by decide +kernel
theorem dX8_heap_153 : decode cX8_heap 153 = .ok (.goto (-40), 3) := by decide +kernel
theorem dX8_heap_156 : decode cX8_heap 156 = .ok (.aload_n 0, 1) := by decide +kernel
theorem dX8_heap_157 : decode cX8_heap 157 = .ok (.getfield 68, 3) := by decide +kernel
theorem dX8_heap_160 : decode cX8_heap 160 = .ok (.iload 7, 2) := by decide +kernel
theorem dX8_heap_162 : decode cX8_heap 162 = .ok (.iaload, 1) := by decide +kernel
theorem dX8_heap_163 : decode cX8_heap 163 = .ok (.bipush (-9), 2) := by decide +kernel
theorem dX8_heap_165 : decode cX8_heap 165 = .ok (.if_icmp .ne 30, 3) := by decide +kernel
theorem dX8_heap_168 : decode cX8_heap 168 = .ok (.aload_n 0, 1) := by decide +kernel
theorem dX8_heap_169 : decode cX8_heap 169 = .ok (.getfield 68, 3) := by decide +kernel
theorem dX8_heap_172 : decode cX8_heap 172 = .ok (.iload 7, 2) := by decide +kernel
theorem dX8_heap_174 : decode cX8_heap 174 = .ok (.iload 5, 2) := by decide +kernel
theorem dX8_heap_176 : decode cX8_heap 176 = .ok (.iastore, 1) := by decide +kernel
theorem dX8_heap_177 : decode cX8_heap 177 = .ok (.aload_n 0, 1) := by decide +kernel
theorem dX8_heap_178 : decode cX8_heap 178 = .ok (.getfield 71, 3) := by decide +kernel
theorem dX8_heap_181 : decode cX8_heap 181 = .ok (.iload 5, 2) := by decide +kernel
theorem dX8_heap_183 : decode cX8_heap 183 = .ok (.iconst 0, 1) := by decide +kernel
theorem dX8_heap_184 : decode cX8_heap 184 = .ok (.iastore, 1) := by decide +kernel
theorem dX8_heap_185 : decode cX8_heap 185 = .ok (.aload_n 0, 1) := by decide +kernel
theorem dX8_heap_186 : decode cX8_heap 186 = .ok (.dup, 1) := by decide +kernel
theorem dX8_heap_187 : decode cX8_heap 187 = .ok (.getfield 243, 3) := by decide +kernel
theorem dX8_heap_190 : decode cX8_heap 190 = .ok (.iconst 1, 1) := by decide +kernel
theorem dX8_heap_191 : decode cX8_heap 191 = .ok (.iadd, 1) := by decide +kernel
theorem dX8_heap_192 : decode cX8_heap 192 = .ok (.putfield 243, 3) := by decide +kernel
theorem dX8_heap_195 : decode cX8_heap 195 = .ok (.aload_n 0, 1) := by decide +kernel
theorem dX8_heap_196 : decode cX8_heap 196 = .ok (.getfield 71, 3) := by decide +kernel
theorem dX8_heap_199 : decode cX8_heap 199 = .ok (.aload_n 0, 1) := by decide +kernel
theorem dX8_heap_200 : decode cX8_heap 200 = .ok (.getfield 68, 3) := by decide +kernel
theorem dX8_heap_203 : decode cX8_heap 203 = .ok (.iload 7, 2) := by decide +kernel
theorem dX8_heap_205 : decode cX8_heap 205 = .ok (.iaload, 1) := by decide +kernel
theorem dX8_heap_206 : decode cX8_heap 206 = .ok (.dup2, 1) := by decide +kernel
theorem dX8_heap_207 : decode cX8_heap 207 = .ok (.iaload, 1) := by decide +kernel
theorem dX8_heap_208 : decode cX8_heap 208 = .ok (.iconst 1, 1) := by decide +kernel
theorem dX8_heap_209 : decode cX8_heap 209 = .ok (.iadd, 1) := by decide +kernel
theorem dX8_heap_210 : decode cX8_heap 210 = .ok (.iastore, 1) := by decide +kernel
theorem dX8_heap_211 : decode cX8_heap 211 = .ok (.aload_n 0, 1) := by decide +kernel
theorem dX8_heap_212 : decode cX8_heap 212 = .ok (.getfield 71, 3) := by decide +kernel
theorem dX8_heap_215 : decode cX8_heap 215 = .ok (.aload_n 0, 1) := by decide +kernel
theorem dX8_heap_216 : decode cX8_heap 216 = .ok (.getfield 68, 3) := by decide +kernel
theorem dX8_heap_219 : decode cX8_heap 219 = .ok (.iload 7, 2) := by decide +kernel
theorem dX8_heap_221 : decode cX8_heap 221 = .ok (.iaload, 1) := by decide +kernel
theorem dX8_heap_222 : decode cX8_heap 222 = .ok (.iaload, 1) := by decide +kernel
theorem dX8_heap_223 : decode cX8_heap 223 = .ok (.iload 4, 2) := by decide +kernel
theorem dX8_heap_225 : decode cX8_heap 225 = .ok (.if_icmp .le 18, 3) := by decide +kernel
theorem dX8_heap_228 : decode cX8_heap 228 = .ok (.aload_n 0, 1) := by decide +kernel
theorem dX8_heap_229 : decode cX8_heap 229 = .ok (.getfield 71, 3) := by decide +kernel
theorem dX8_heap_232 : decode cX8_heap 232 = .ok (.aload_n 0, 1) := by decide +kernel
theorem dX8_heap_233 : decode cX8_heap 233 = .ok (.getfield 68, 3) := by decide +kernel
theorem dX8_heap_236 : decode cX8_heap 236 = .ok (.iload 7, 2) := by decide +kernel
theorem dX8_heap_238 : decode cX8_heap 238 = .ok (.iaload, 1) := by decide +kernel
theorem dX8_heap_239 : decode cX8_heap 239 = .ok (.iaload, 1) := by decide +kernel
theorem dX8_heap_240 : decode cX8_heap 240 = .ok (.goto 5, 3) := by decide +kernel
theorem dX8_heap_243 : decode cX8_heap 243 = .ok (.iload 4, 2) := by decide +kernel
theorem dX8_heap_245 : decode cX8_heap 245 = .ok (.istore 4, 2) := by decide +kernel
theorem dX8_heap_247 : decode cX8_heap 247 = .ok (.iinc 5 1, 3) := by decide +kernel
theorem dX8_heap_250 : decode cX8_heap 250 = .ok (.goto (-213), 3) := by decide +kernel
theorem dX8_heap_253 : decode cX8_heap 253 = .ok (.iload 4, 2) := by decide +kernel
theorem dX8_heap_255 : decode cX8_heap 255 = .ok (.ireturn, 1) := by decide +kernel
theorem dX8_models_0 : decode cX8_models 0 = .ok (.aload_n 0, 1) := by decide +kernel
theorem dX8_models_1 : decode cX8_models 1 = .ok (.iload_n 1, 1) := by decide +kernel
theorem dX8_models_2 : decode cX8_models 2 = .ok (.iload_n 2, 1) := by decide +kernel
theorem dX8_models_3 : decode cX8_models 3 = .ok (.invokevirtual 221, 3) := by decide +kernel
theorem dX8_models_6 : decode cX8_models 6 = .ok (.ifCond .eq 12, 3) := by decide +kernel
theorem dX8_models_9 : decode cX8_models 9 = .ok (.iload_n 3, 1) := by decide +kernel
theorem dX8_models_10 : decode cX8_models 10 = .ok (.iconst 0, 1) := by decide +kernel
theorem dX8_models_11 : decode cX8_models 11 = .ok (.iconst 3, 1) := by decide +kernel
theorem dX8_models_12 : decode cX8_models 12 = .ok (.invokestatic 74, 3) := by decide +kernel
theorem dX8_models_15 : decode cX8_models 15 = .ok (.ifCond .ne 5, 3) := by decide +kernel
theorem dX8_models_18 : decode cX8_models 18 = .ok (.iconst (-1), 1) := by decide +kernel
theorem dX8_models_19 : decode cX8_models 19 = .ok (.ireturn, 1) := by decide +kernel
theorem dX8_models_20 : decode cX8_models 20 = .ok (.aload_n 0, 1) := by decide +kernel
theorem dX8_models_21 : decode cX8_models 21 = .ok (.iload_n 1, 1) := by decide +kernel
theorem dX8_models_22 : decode cX8_models 22 = .ok (.iload_n 2, 1) := by decide +kernel
theorem dX8_models_23 : decode cX8_models 23 = .ok (.invokevirtual 250, 3) := by decide +kernel
theorem dX8_models_26 : decode cX8_models 26 = .ok (.istore 4, 2) := by decide +kernel
theorem dX8_models_28 : decode cX8_models 28 = .ok (.iload_n 3, 1) := by decide +kernel
theorem dX8_models_29 : decode cX8_models 29 = .ok (.ifCond .ne 6, 3) := by decide +kernel
theorem dX8_models_32 : decode cX8_models 32 = .ok (.iload 4, 2) := by decide +kernel
theorem dX8_models_34 : decode cX8_models 34 = .ok (.ireturn, 1) := by decide +kernel
theorem dX8_models_35 : decode cX8_models 35 = .ok (.bipush (-9), 2) := by decide +kernel
theorem dX8_models_37 : decode cX8_models 37 = .ok (.istore 5, 2) := by decide +kernel
theorem dX8_models_39 : decode cX8_models 39 = .ok (.bipush (-9), 2) := by decide +kernel
theorem dX8_models_41 : decode cX8_models 41 = .ok (.istore 6, 2) := by decide +kernel
theorem dX8_models_43 : decode cX8_models 43 = .ok (.iload_n 3, 1) := by decide +kernel
theorem dX8_models_44 : decode cX8_models 44 = .ok (.iconst 1, 1) := by decide +kernel
theorem dX8_models_45 : decode cX8_models 45 = .ok (.if_icmp .ne 113, 3) := by decide +kernel
theorem dX8_models_48 : decode cX8_models 48 = .ok (.iconst 0, 1) := by decide +kernel
theorem dX8_models_49 : decode cX8_models 49 = .ok (.istore 7, 2) := by decide +kernel
theorem dX8_models_51 : decode cX8_models 51 = .ok (.iload 7, 2) := by decide +kernel
theorem dX8_models_53 : decode cX8_models 53 = .ok (.iload 4, 2) := by decide +kernel
theorem dX8_models_55 : decode cX8_models 55 = .ok (.if_icmp .ge 100, 3) := by decide +kernel
theorem dX8_models_58 : decode cX8_models 58 = .ok (.iload_n 2, 1) := by decide +kernel
theorem dX8_models_59 : decode cX8_models 59 = .ok (.aload_n 0, 1) := by decide +kernel
theorem dX8_models_60 : decode cX8_models 60 = .ok (.getfield 58, 3) := by decide +kernel
theorem dX8_models_63 : decode cX8_models 63 = .ok (.iload 7, 2) := by decide +kernel
theorem dX8_models_65 : decode cX8_models 65 = .ok (.iaload, 1) := by decide +kernel
theorem dX8_models_66 : decode cX8_models 66 = .ok (.iconst 0, 1) := by decide +kernel
theorem dX8_models_67 : decode cX8_models 67 = .ok (.invokestatic 215, 3) := by decide +kernel
theorem dX8_models_70 : decode cX8_models 70 = .ok (.iload_n 2, 1) := by decide +kernel
theorem dX8_models_71 : decode cX8_models 71 = .ok (.aload_n 0, 1) := by decide +kernel
theorem dX8_models_72 : decode cX8_models 72 = .ok (.getfield 58, 3) := by decide +kernel
theorem dX8_models_75 : decode cX8_models 75 = .ok (.iload 7, 2) := by decide +kernel
theorem dX8_models_77 : decode cX8_models 77 = .ok (.iaload, 1) := by decide +kernel
theorem dX8_models_78 : decode cX8_models 78 = .ok (.iconst 1, 1) := by decide +kernel
theorem dX8_models_79 : decode cX8_models 79 = .ok (.invokestatic 215, 3) := by decide +kernel
theorem dX8_models_82 : decode cX8_models 82 = .ok (.iadd, 1) := by decide +kernel
theorem dX8_models_83 : decode cX8_models 83 = .ok (.iload_n 2, 1) := by decide +kernel
theorem dX8_models_84 : decode cX8_models 84 = .ok (.aload_n 0, 1) := by decide +kernel
theorem dX8_models_85 : decode cX8_models 85 = .ok (.getfield 58, 3) := by decide +kernel
theorem dX8_models_88 : decode cX8_models 88 = .ok (.iload 7, 2) := by decide +kernel
theorem dX8_models_90 : decode cX8_models 90 = .ok (.iaload, 1) := by decide +kernel
theorem dX8_models_91 : decode cX8_models 91 = .ok (.iconst 2, 1) := by decide +kernel
theorem dX8_models_92 : decode cX8_models 92 = .ok (.invokestatic 215, 3) := by decide +kernel
theorem dX8_models_95 : decode cX8_models 95 = .ok (.iadd, 1) := by decide +kernel
theorem dX8_models_96 : decode cX8_models 96 = .ok (.istore 8, 2) := by decide +kernel
theorem dX8_models_98 : decode cX8_models 98 = .ok (.iload 5, 2) := by decide +kernel
theorem dX8_models_100 : decode cX8_models 100 = .ok (.bipush (-9), 2) := by decide +kernel
theorem dX8_models_102 : decode cX8_models 102 = .ok (.if_icmp .eq 10, 3) := by decide +kernel
theorem dX8_models_105 : decode cX8_models 105 = .ok (.iload 8, 2) := by decide +kernel
theorem dX8_models_107 : decode cX8_models 107 = .ok (.iload 6, 2) := by decide +kernel
theorem dX8_models_109 : decode cX8_models 109 = .ok (.if_icmp .ge 13, 3) := by decide +kernel
theorem dX8_models_112 : decode cX8_models 112 = .ok (.aload_n 0, 1) := by decide +kernel
theorem dX8_models_113 : decode cX8_models 113 = .ok (.getfield 58, 3) := by decide +kernel
theorem dX8_models_116 : decode cX8_models 116 = .ok (.iload 7, 2) := by decide +kernel
theorem dX8_models_118 : decode cX8_models 118 = .ok (.iaload, 1) := by decide +kernel
theorem dX8_models_119 : decode cX8_models 119 = .ok (.goto 5, 3) := by decide +kernel
theorem dX8_models_122 : decode cX8_models 122 = .ok (.iload 5, 2) := by decide +kernel
theorem dX8_models_124 : decode cX8_models 124 = .ok (.istore 5, 2) := by decide +kernel
theorem dX8_models_126 : decode cX8_models 126 = .ok (.iload 6, 2) := by decide +kernel
theorem dX8_models_128 : decode cX8_models 128 = .ok (.bipush (-9), 2) := by decide +kernel
theorem dX8_models_130 : decode cX8_models 130 = .ok (.if_icmp .eq 10, 3) := by decide +kernel
theorem dX8_models_133 : decode cX8_models 133 = .ok (.iload 8, 2) := by decide +kernel
theorem dX8_models_135 : decode cX8_models 135 = .ok (.iload 6, 2) := by decide +kernel
theorem dX8_models_137 : decode cX8_models 137 = .ok (.if_icmp .ge 8, 3) := by decide +kernel
theorem dX8_models_140 : decode cX8_models 140 = .ok (.iload 8, 2) := by decide +kernel
theorem dX8_models_142 : decode cX8_models 142 = .ok (.goto 5, 3) := by decide +kernel
theorem dX8_models_145 : decode cX8_models 145 = .ok (.iload 6, 2) := by decide +kernel
theorem dX8_models_147 : decode cX8_models 147 = .ok (.istore 6, 2) := by decide +kernel
theorem dX8_models_149 : decode cX8_models 149 = .ok (.iinc 7 1, 3) := by decide +kernel
theorem dX8_models_152 : decode cX8_models 152 = .ok (.goto (-101), 3) := by decide +kernel
theorem dX8_models_155 : decode cX8_models 155 = .ok (.iload 5, 2) := by decide +kernel
theorem dX8_models_157 : decode cX8_models 157 = .ok (.ireturn, 1) := by decide +kernel
theorem dX8_models_158 : decode cX8_models 158 = .ok (.iload_n 3, 1) := by decide +kernel
theorem dX8_models_159 : decode cX8_models 159 = .ok (.iconst 2, 1) := by decide +kernel
theorem dX8_models_160 : decode cX8_models 160 = .ok (.if_icmp .ne 21, 3) := by decide +kernel
theorem dX8_models_163 : decode cX8_models 163 = .ok (.aload_n 0, 1) := by decide +kernel
theorem dX8_models_164 : decode cX8_models 164 = .ok (.iload 4, 2) := by decide +kernel
theorem dX8_models_166 : decode cX8_models 166 = .ok (.iconst 0, 1) := by decide +kernel
theorem dX8_models_167 : decode cX8_models 167 = .ok (.aload_n 0, 1) := by decide +kernel
theorem dX8_models_168 : decode cX8_models 168 = .ok (.getfield 240, 3) := by decide +kernel
theorem dX8_models_171 : decode cX8_models 171 = .ok (.invokevirtual 253, 3) := by decide +kernel
theorem dX8_models_174 : decode cX8_models 174 = .ok (.istore 7, 2) := by decide +kernel
theorem dX8_models_176 : decode cX8_models 176 = .ok (.aload_n 0, 1) := by decide +kernel
theorem dX8_models_177 : decode cX8_models 177 = .ok (.getfield 243, 3) := by decide +kernel
theorem dX8_models_180 : decode cX8_models 180 = .ok (.ireturn, 1) := by decide +kernel
theorem dX8_models_181 : decode cX8_models 181 = .ok (.iconst 0, 1) := by decide +kernel
theorem dX8_models_182 : decode cX8_models 182 = .ok (.istore 7, 2) := by decide +kernel
theorem dX8_models_184 : decode cX8_models 184 = .ok (.iload 7, 2) := by decide +kernel
theorem dX8_models_186 : decode cX8_models 186 = .ok (.aload_n 0, 1) := by decide +kernel
theorem dX8_models_187 : decode cX8_models 187 = .ok (.getfield 240, 3) := by decide +kernel
theorem dX8_models_190 : decode cX8_models 190 = .ok (.if_icmp .ge 74, 3) := by decide +kernel
theorem dX8_models_193 : decode cX8_models 193 = .ok (.iload 4, 2) := by decide +kernel
theorem dX8_models_195 : decode cX8_models 195 = .ok (.ifCond .le 69, 3) := by decide +kernel
theorem dX8_models_198 : decode cX8_models 198 = .ok (.aload_n 0, 1) := by decide +kernel
theorem dX8_models_199 : decode cX8_models 199 = .ok (.iload 4, 2) := by decide +kernel
theorem dX8_models_201 : decode cX8_models 201 = .ok (.iload 7, 2) := by decide +kernel
theorem dX8_models_203 : decode cX8_models 203 = .ok (.iload 7, 2) := by decide +kernel
theorem dX8_models_205 : decode cX8_models 205 = .ok (.iconst 1, 1) := by decide +kernel
theorem dX8_models_206 : decode cX8_models 206 = .ok (.iadd, 1) := by decide +kernel
theorem dX8_models_207 : decode cX8_models 207 = .ok (.invokevirtual 253, 3) := by decide +kernel
theorem dX8_models_210 : decode cX8_models 210 = .ok (.istore 8, 2) := by decide +kernel
theorem dX8_models_212 : decode cX8_models 212 = .ok (.iload 5, 2) := by decide +kernel
theorem dX8_models_214 : decode cX8_models 214 = .ok (.bipush (-9), 2) := by decide +kernel
theorem dX8_models_216 : decode cX8_models 216 = .ok (.if_icmp .eq 10, 3) := by decide +kernel
theorem dX8_models_219 : decode cX8_models 219 = .ok (.iload 8, 2) := by decide +kernel
theorem dX8_models_221 : decode cX8_models 221 = .ok (.iload 6, 2) := by decide +kernel
theorem dX8_models_223 : decode cX8_models 223 = .ok (.if_icmp .ge 8, 3) := by decide +kernel
theorem dX8_models_226 : decode cX8_models 226 = .ok (.iload 7, 2) := by decide +kernel
theorem dX8_models_228 : decode cX8_models 228 = .ok (.goto 5, 3) := by decide +kernel
theorem dX8_models_231 : decode cX8_models 231 = .ok (.iload 5, 2) := by decide +kernel
theorem dX8_models_233 : decode cX8_models 233 = .ok (.istore 5, 2) := by decide +kernel
theorem dX8_models_235 : decode cX8_models 235 = .ok (.iload 6, 2) := by decide +kernel
theorem dX8_models_237 : decode cX8_models 237 = .ok (.bipush (-9), 2) := by decide +kernel
theorem dX8_models_239 : decode cX8_models 239 = .ok (.if_icmp .eq 10, 3) := by decide +kernel
theorem dX8_models_242 : decode cX8_models 242 = .ok (.iload 8, 2) := by decide +kernel
theorem dX8_models_244 : decode cX8_models 244 = .ok (.iload 6, 2) := by decide +kernel
theorem dX8_models_246 : decode cX8_models 246 = .ok (.if_icmp .ge 8, 3) := by decide +kernel
theorem dX8_models_249 : decode cX8_models 249 = .ok (.iload 8, 2) := by decide +kernel
theorem dX8_models_251 : decode cX8_models 251 = .ok (.goto 5, 3) := by decide +kernel
theorem dX8_models_254 : decode cX8_models 254 = .ok (.iload 6, 2) := by decide +kernel
theorem dX8_models_256 : decode cX8_models 256 = .ok (.istore 6, 2) := by decide +kernel
theorem dX8_models_258 : decode cX8_models 258 = .ok (.iinc 7 1, 3) := by decide +kernel
theorem dX8_models_261 : decode cX8_models 261 = .ok (.goto (-77), 3) := by decide +kernel
theorem dX8_models_264 : decode cX8_models 264 = .ok (.iload 5, 2) := by decide +kernel
theorem dX8_models_266 : decode cX8_models 266 = .ok (.ireturn, 1) := by decide +kernel
theorem dX8_sure_0 : decode cX8_sure 0 = .ok (.aload_n 0, 1) := by decide +kernel
theorem dX8_sure_1 : decode cX8_sure 1 = .ok (.iload_n 1, 1) := by decide +kernel
theorem dX8_sure_2 : decode cX8_sure 2 = .ok (.iload_n 2, 1) := by decide +kernel
theorem dX8_sure_3 : decode cX8_sure 3 = .ok (.invokevirtual 221, 3) := by decide +kernel
theorem dX8_sure_6 : decode cX8_sure 6 = .ok (.ifCond .eq 14, 3) := by decide +kernel
theorem dX8_sure_9 : decode cX8_sure 9 = .ok (.iload_n 3, 1) := by decide +kernel
theorem dX8_sure_10 : decode cX8_sure 10 = .ok (.iconst 0, 1) := by decide +kernel
theorem dX8_sure_11 : decode cX8_sure 11 = .ok (.iload_n 1, 1) := by decide +kernel
theorem dX8_sure_12 : decode cX8_sure 12 = .ok (.iconst 1, 1) := by decide +kernel
theorem dX8_sure_13 : decode cX8_sure 13 = .ok (.isub, 1) := by decide +kernel
theorem dX8_sure_14 : decode cX8_sure 14 = .ok (.invokestatic 74, 3) := by decide +kernel
theorem dX8_sure_17 : decode cX8_sure 17 = .ok (.ifCond .ne 5, 3) := by decide +kernel
theorem dX8_sure_20 : decode cX8_sure 20 = .ok (.iconst (-1), 1) := by decide +kernel
theorem dX8_sure_21 : decode cX8_sure 21 = .ok (.ireturn, 1) := by decide +kernel
theorem dX8_sure_22 : decode cX8_sure 22 = .ok (.aload_n 0, 1) := by decide +kernel
theorem dX8_sure_23 : decode cX8_sure 23 = .ok (.iload_n 1, 1) := by decide +kernel
theorem dX8_sure_24 : decode cX8_sure 24 = .ok (.iload_n 2, 1) := by decide +kernel
theorem dX8_sure_25 : decode cX8_sure 25 = .ok (.invokevirtual 250, 3) := by decide +kernel
theorem dX8_sure_28 : decode cX8_sure 28 = .ok (.istore 4, 2) := by decide +kernel
theorem dX8_sure_30 : decode cX8_sure 30 = .ok (.iload 4, 2) := by decide +kernel
theorem dX8_sure_32 : decode cX8_sure 32 = .ok (.ifCond .ne 8, 3) := by decide +kernel
theorem dX8_sure_35 : decode cX8_sure 35 = .ok (.bipush (-9), 2) := by decide +kernel
theorem dX8_sure_37 : decode cX8_sure 37 = .ok (.goto 14, 3) := by decide +kernel
theorem dX8_sure_40 : decode cX8_sure 40 = .ok (.iload_n 2, 1) := by decide +kernel
theorem dX8_sure_41 : decode cX8_sure 41 = .ok (.aload_n 0, 1) := by decide +kernel
theorem dX8_sure_42 : decode cX8_sure 42 = .ok (.getfield 58, 3) := by decide +kernel
theorem dX8_sure_45 : decode cX8_sure 45 = .ok (.iconst 0, 1) := by decide +kernel
theorem dX8_sure_46 : decode cX8_sure 46 = .ok (.iaload, 1) := by decide +kernel
theorem dX8_sure_47 : decode cX8_sure 47 = .ok (.iload_n 3, 1) := by decide +kernel
theorem dX8_sure_48 : decode cX8_sure 48 = .ok (.invokestatic 215, 3) := by decide +kernel
theorem dX8_sure_51 : decode cX8_sure 51 = .ok (.istore 5, 2) := by decide +kernel
theorem dX8_sure_53 : decode cX8_sure 53 = .ok (.iconst 1, 1) := by decide +kernel
theorem dX8_sure_54 : decode cX8_sure 54 = .ok (.istore 6, 2) := by decide +kernel
theorem dX8_sure_56 : decode cX8_sure 56 = .ok (.iload 6, 2) := by decide +kernel
theorem dX8_sure_58 : decode cX8_sure 58 = .ok (.iload 4, 2) := by decide +kernel
theorem dX8_sure_60 : decode cX8_sure 60 = .ok (.if_icmp .ge 35, 3) := by decide +kernel
theorem dX8_sure_63 : decode cX8_sure 63 = .ok (.iload_n 2, 1) := by decide +kernel
theorem dX8_sure_64 : decode cX8_sure 64 = .ok (.aload_n 0, 1) := by decide +kernel
theorem dX8_sure_65 : decode cX8_sure 65 = .ok (.getfield 58, 3) := by decide +kernel
theorem dX8_sure_68 : decode cX8_sure 68 = .ok (.iload 6, 2) := by decide +kernel
theorem dX8_sure_70 : decode cX8_sure 70 = .ok (.iaload, 1) := by decide +kernel
theorem dX8_sure_71 : decode cX8_sure 71 = .ok (.iload_n 3, 1) := by decide +kernel
theorem dX8_sure_72 : decode cX8_sure 72 = .ok (.invokestatic 215, 3) := by decide +kernel
theorem dX8_sure_75 : decode cX8_sure 75 = .ok (.iload 5, 2) := by decide +kernel
theorem dX8_sure_77 : decode cX8_sure 77 = .ok (.if_icmp .ne 8, 3) := by decide +kernel
theorem dX8_sure_80 : decode cX8_sure 80 = .ok (.iload 5, 2) := by decide +kernel
theorem dX8_sure_82 : decode cX8_sure 82 = .ok (.goto 5, 3) := by decide +kernel
theorem dX8_sure_85 : decode cX8_sure 85 = .ok (.bipush (-9), 2) := by decide +kernel
theorem dX8_sure_87 : decode cX8_sure 87 = .ok (.istore 5, 2) := by decide +kernel
theorem dX8_sure_89 : decode cX8_sure 89 = .ok (.iinc 6 1, 3) := by decide +kernel
theorem dX8_sure_92 : decode cX8_sure 92 = .ok (.goto (-36), 3) := by decide +kernel
theorem dX8_sure_95 : decode cX8_sure 95 = .ok (.iload 5, 2) := by decide +kernel
theorem dX8_sure_97 : decode cX8_sure 97 = .ok (.ireturn, 1) := by decide +kernel
theorem dX8_spot_0 : decode cX8_spot 0 = .ok (.iload_n 1, 1) := by decide +kernel
theorem dX8_spot_1 : decode cX8_spot 1 = .ok (.iload_n 2, 1) := by decide +kernel
theorem dX8_spot_2 : decode cX8_spot 2 = .ok (.bipush 30, 2) := by decide +kernel
theorem dX8_spot_4 : decode cX8_spot 4 = .ok (.invokestatic 81, 3) := by decide +kernel
theorem dX8_spot_7 : decode cX8_spot 7 = .ok (.ifCond .ne 5, 3) := by decide +kernel
theorem dX8_spot_10 : decode cX8_spot 10 = .ok (.iconst (-1), 1) := by decide +kernel
theorem dX8_spot_11 : decode cX8_spot 11 = .ok (.ireturn, 1) := by decide +kernel
theorem dX8_spot_12 : decode cX8_spot 12 = .ok (.aload_n 0, 1) := by decide +kernel
theorem dX8_spot_13 : decode cX8_spot 13 = .ok (.getfield 240, 3) := by decide +kernel
theorem dX8_spot_16 : decode cX8_spot 16 = .ok (.bipush 8, 2) := by decide +kernel
theorem dX8_spot_18 : decode cX8_spot 18 = .ok (.if_icmp .ne 6, 3) := by decide +kernel
theorem dX8_spot_21 : decode cX8_spot 21 = .ok (.bipush (-3), 2) := by decide +kernel
theorem dX8_spot_23 : decode cX8_spot 23 = .ok (.ireturn, 1) := by decide +kernel
theorem dX8_spot_24 : decode cX8_spot 24 = .ok (.aload_n 0, 1) := by decide +kernel
theorem dX8_spot_25 : decode cX8_spot 25 = .ok (.getfield 27, 3) := by decide +kernel
theorem dX8_spot_28 : decode cX8_spot 28 = .ok (.aload_n 0, 1) := by decide +kernel
theorem dX8_spot_29 : decode cX8_spot 29 = .ok (.getfield 240, 3) := by decide +kernel
theorem dX8_spot_32 : decode cX8_spot 32 = .ok (.iload_n 1, 1) := by decide +kernel
theorem dX8_spot_33 : decode cX8_spot 33 = .ok (.iastore, 1) := by decide +kernel
theorem dX8_spot_34 : decode cX8_spot 34 = .ok (.aload_n 0, 1) := by decide +kernel
theorem dX8_spot_35 : decode cX8_spot 35 = .ok (.getfield 30, 3) := by decide +kernel
theorem dX8_spot_38 : decode cX8_spot 38 = .ok (.aload_n 0, 1) := by decide +kernel
theorem dX8_spot_39 : decode cX8_spot 39 = .ok (.getfield 240, 3) := by decide +kernel
theorem dX8_spot_42 : decode cX8_spot 42 = .ok (.iload_n 2, 1) := by decide +kernel
theorem dX8_spot_43 : decode cX8_spot 43 = .ok (.iastore, 1) := by decide +kernel
theorem dX8_spot_44 : decode cX8_spot 44 = .ok (.aload_n 0, 1) := by decide +kernel
theorem dX8_spot_45 : decode cX8_spot 45 = .ok (.dup, 1) := by decide +kernel
theorem dX8_spot_46 : decode cX8_spot 46 = .ok (.getfield 240, 3) := by decide +kernel
theorem dX8_spot_49 : decode cX8_spot 49 = .ok (.iconst 1, 1) := by decide +kernel
theorem dX8_spot_50 : decode cX8_spot 50 = .ok (.iadd, 1) := by decide +kernel
theorem dX8_spot_51 : decode cX8_spot 51 = .ok (.putfield 240, 3) := by decide +kernel
theorem dX8_spot_54 : decode cX8_spot 54 = .ok (.aload_n 0, 1) := by decide +kernel
theorem dX8_spot_55 : decode cX8_spot 55 = .ok (.getfield 240, 3) := by decide +kernel
theorem dX8_spot_58 : decode cX8_spot 58 = .ok (.ireturn, 1) := by decide +kernel
theorem dX8_forget_0 : decode cX8_forget 0 = .ok (.aload_n 0, 1) := by decide +kernel
theorem dX8_forget_1 : decode cX8_forget 1 = .ok (.getfield 240, 3) := by decide +kernel
theorem dX8_forget_4 : decode cX8_forget 4 = .ok (.istore_n 1, 1) := by decide +kernel
theorem dX8_forget_5 : decode cX8_forget 5 = .ok (.aload_n 0, 1) := by decide +kernel
theorem dX8_forget_6 : decode cX8_forget 6 = .ok (.iconst 0, 1) := by decide +kernel
theorem dX8_forget_7 : decode cX8_forget 7 = .ok (.putfield 240, 3) := by decide +kernel
theorem dX8_forget_10 : decode cX8_forget 10 = .ok (.iload_n 1, 1) := by decide +kernel
theorem dX8_forget_11 : decode cX8_forget 11 = .ok (.ireturn, 1) := by decide +kernel
theorem dX8_bright_0 : decode cX8_bright 0 = .ok (.iload_n 1, 1) := by decide +kernel
theorem dX8_bright_1 : decode cX8_bright 1 = .ok (.iload_n 2, 1) := by decide +kernel
theorem dX8_bright_2 : decode cX8_bright 2 = .ok (.invokestatic 135, 3) := by decide +kernel
theorem dX8_bright_5 : decode cX8_bright 5 = .ok (.ifCond .eq 19, 3) := by decide +kernel
theorem dX8_bright_8 : decode cX8_bright 8 = .ok (.iload_n 3, 1) := by decide +kernel
theorem dX8_bright_9 : decode cX8_bright 9 = .ok (.bipush (-9), 2) := by decide +kernel
theorem dX8_bright_11 : decode cX8_bright 11 = .ok (.if_icmp .eq 16, 3) := by decide +kernel
theorem dX8_bright_14 : decode cX8_bright 14 = .ok (.iload_n 3, 1) := by decide +kernel
theorem dX8_bright_15 : decode cX8_bright 15 = .ok (.iconst 0, 1) := by decide +kernel
theorem dX8_bright_16 : decode cX8_bright 16 = .ok (.bipush 99, 2) := by decide +kernel
theorem dX8_bright_18 : decode cX8_bright 18 = .ok (.invokestatic 74, 3) := by decide +kernel
theorem dX8_bright_21 : decode cX8_bright 21 = .ok (.ifCond .ne 6, 3) := by decide +kernel
theorem dX8_bright_24 : decode cX8_bright 24 = .ok (.bipush (-2), 2) := by decide +kernel
theorem dX8_bright_26 : decode cX8_bright 26 = .ok (.ireturn, 1) := by decide +kernel
theorem dX8_bright_27 : decode cX8_bright 27 = .ok (.aload_n 0, 1) := by decide +kernel
theorem dX8_bright_28 : decode cX8_bright 28 = .ok (.getfield 33, 3) := by decide +kernel
theorem dX8_bright_31 : decode cX8_bright 31 = .ok (.iload_n 1, 1) := by decide +kernel
theorem dX8_bright_32 : decode cX8_bright 32 = .ok (.iload_n 2, 1) := by decide +kernel
theorem dX8_bright_33 : decode cX8_bright 33 = .ok (.invokestatic 138, 3) := by decide +kernel
theorem dX8_bright_36 : decode cX8_bright 36 = .ok (.iaload, 1) := by decide +kernel
theorem dX8_bright_37 : decode cX8_bright 37 = .ok (.istore 4, 2) := by decide +kernel
theorem dX8_bright_39 : decode cX8_bright 39 = .ok (.aload_n 0, 1) := by decide +kernel
theorem dX8_bright_40 : decode cX8_bright 40 = .ok (.getfield 33, 3) := by decide +kernel
theorem dX8_bright_43 : decode cX8_bright 43 = .ok (.iload_n 1, 1) := by decide +kernel
theorem dX8_bright_44 : decode cX8_bright 44 = .ok (.iload_n 2, 1) := by decide +kernel
theorem dX8_bright_45 : decode cX8_bright 45 = .ok (.invokestatic 138, 3) := by decide +kernel
theorem dX8_bright_48 : decode cX8_bright 48 = .ok (.iload_n 3, 1) := by decide +kernel
theorem dX8_bright_49 : decode cX8_bright 49 = .ok (.iastore, 1) := by decide +kernel
theorem dX8_bright_50 : decode cX8_bright 50 = .ok (.iload 4, 2) := by decide +kernel
theorem dX8_bright_52 : decode cX8_bright 52 = .ok (.ireturn, 1) := by decide +kernel
theorem dX8_farOf_0 : decode cX8_farOf 0 = .ok (.iconst 0, 1) := by decide +kernel
theorem dX8_farOf_1 : decode cX8_farOf 1 = .ok (.istore_n 3, 1) := by decide +kernel
theorem dX8_farOf_2 : decode cX8_farOf 2 = .ok (.iconst 0, 1) := by decide +kernel
theorem dX8_farOf_3 : decode cX8_farOf 3 = .ok (.istore 4, 2) := by decide +kernel
theorem dX8_farOf_5 : decode cX8_farOf 5 = .ok (.iconst 0, 1) := by decide +kernel
theorem dX8_farOf_6 : decode cX8_farOf 6 = .ok (.istore 5, 2) := by decide +kernel
theorem dX8_farOf_8 : decode cX8_farOf 8 = .ok (.iload 5, 2) := by decide +kernel
theorem dX8_farOf_10 : decode cX8_farOf 10 = .ok (.sipush 2401, 3) := by decide +kernel
theorem dX8_farOf_13 : decode cX8_farOf 13 = .ok (.if_icmp .ge 82, 3) := by decide +kernel
theorem dX8_farOf_16 : decode cX8_farOf 16 = .ok (.aload_n 0, 1) := by decide +kernel
theorem dX8_farOf_17 : decode cX8_farOf 17 = .ok (.getfield 33, 3) := by decide +kernel
theorem dX8_farOf_20 : decode cX8_farOf 20 = .ok (.iload 5, 2) := by decide +kernel
theorem dX8_farOf_22 : decode cX8_farOf 22 = .ok (.iaload, 1) := by decide +kernel
theorem dX8_farOf_23 : decode cX8_farOf 23 = .ok (.bipush (-9), 2) := by decide +kernel
theorem dX8_farOf_25 : decode cX8_farOf 25 = .ok (.if_icmp .eq 64, 3) := by decide +kernel
theorem dX8_farOf_28 : decode cX8_farOf 28 = .ok (.aload_n 0, 1) := by decide +kernel
theorem dX8_farOf_29 : decode cX8_farOf 29 = .ok (.iload 5, 2) := by decide +kernel
theorem dX8_farOf_31 : decode cX8_farOf 31 = .ok (.bipush 49, 2) := by decide +kernel
theorem dX8_farOf_33 : decode cX8_farOf 33 = .ok (.irem, 1) := by decide +kernel
theorem dX8_farOf_34 : decode cX8_farOf 34 = .ok (.bipush 24, 2) := by decide +kernel
theorem dX8_farOf_36 : decode cX8_farOf 36 = .ok (.isub, 1) := by decide +kernel
theorem dX8_farOf_37 : decode cX8_farOf 37 = .ok (.iload 5, 2) := by decide +kernel
theorem dX8_farOf_39 : decode cX8_farOf 39 = .ok (.bipush 49, 2) := by decide +kernel
theorem dX8_farOf_41 : decode cX8_farOf 41 = .ok (.idiv, 1) := by decide +kernel
theorem dX8_farOf_42 : decode cX8_farOf 42 = .ok (.bipush 24, 2) := by decide +kernel
theorem dX8_farOf_44 : decode cX8_farOf 44 = .ok (.isub, 1) := by decide +kernel
theorem dX8_farOf_45 : decode cX8_farOf 45 = .ok (.invokevirtual 148, 3) := by decide +kernel
theorem dX8_farOf_48 : decode cX8_farOf 48 = .ok (.iload_n 1, 1) := by decide +kernel
theorem dX8_farOf_49 : decode cX8_farOf 49 = .ok (.if_icmp .ne 40, 3) := by decide +kernel
theorem dX8_farOf_52 : decode cX8_farOf 52 = .ok (.aload_n 0, 1) := by decide +kernel
theorem dX8_farOf_53 : decode cX8_farOf 53 = .ok (.iload 5, 2) := by decide +kernel
theorem dX8_farOf_55 : decode cX8_farOf 55 = .ok (.bipush 49, 2) := by decide +kernel
theorem dX8_farOf_57 : decode cX8_farOf 57 = .ok (.irem, 1) := by decide +kernel
theorem dX8_farOf_58 : decode cX8_farOf 58 = .ok (.bipush 24, 2) := by decide +kernel
theorem dX8_farOf_60 : decode cX8_farOf 60 = .ok (.isub, 1) := by decide +kernel
theorem dX8_farOf_61 : decode cX8_farOf 61 = .ok (.iload 5, 2) := by decide +kernel
theorem dX8_farOf_63 : decode cX8_farOf 63 = .ok (.bipush 49, 2) := by decide +kernel
theorem dX8_farOf_65 : decode cX8_farOf 65 = .ok (.idiv, 1) := by decide +kernel
theorem dX8_farOf_66 : decode cX8_farOf 66 = .ok (.bipush 24, 2) := by decide +kernel
theorem dX8_farOf_68 : decode cX8_farOf 68 = .ok (.isub, 1) := by decide +kernel
theorem dX8_farOf_69 : decode cX8_farOf 69 = .ok (.invokevirtual 151, 3) := by decide +kernel
theorem dX8_farOf_72 : decode cX8_farOf 72 = .ok (.iload_n 2, 1) := by decide +kernel
theorem dX8_farOf_73 : decode cX8_farOf 73 = .ok (.if_icmp .ne 16, 3) := by decide +kernel
theorem dX8_farOf_76 : decode cX8_farOf 76 = .ok (.iload_n 3, 1) := by decide +kernel
theorem dX8_farOf_77 : decode cX8_farOf 77 = .ok (.aload_n 0, 1) := by decide +kernel
theorem dX8_farOf_78 : decode cX8_farOf 78 = .ok (.getfield 33, 3) := by decide +kernel
theorem dX8_farOf_81 : decode cX8_farOf 81 = .ok (.iload 5, 2) := by decide +kernel
theorem dX8_farOf_83 : decode cX8_farOf 83 = .ok (.iaload, 1) := by decide +kernel
theorem dX8_farOf_84 : decode cX8_farOf 84 = .ok (.iadd, 1) := by decide +kernel
theorem dX8_farOf_85 : decode cX8_farOf 85 = .ok (.istore_n 3, 1) := by decide +kernel
theorem dX8_farOf_86 : decode cX8_farOf 86 = .ok (.iinc 4 1, 3) := by decide +kernel
theorem dX8_farOf_89 : decode cX8_farOf 89 = .ok (.iinc 5 1, 3) := by decide +kernel
theorem dX8_farOf_92 : decode cX8_farOf 92 = .ok (.goto (-84), 3) := by decide +kernel
theorem dX8_farOf_95 : decode cX8_farOf 95 = .ok (.iload 4, 2) := by decide +kernel
theorem dX8_farOf_97 : decode cX8_farOf 97 = .ok (.ifCond .ne 8, 3) := by decide +kernel
theorem dX8_farOf_100 : decode cX8_farOf 100 = .ok (.bipush (-9), 2) := by decide +kernel
theorem dX8_farOf_102 : decode cX8_farOf 102 = .ok (.goto 7, 3) := by decide +kernel
theorem dX8_farOf_105 : decode cX8_farOf 105 = .ok (.iload_n 3, 1) := by decide +kernel
theorem dX8_farOf_106 : decode cX8_farOf 106 = .ok (.iload 4, 2) := by decide +kernel
theorem dX8_farOf_108 : decode cX8_farOf 108 = .ok (.idiv, 1) := by decide +kernel
theorem dX8_farOf_109 : decode cX8_farOf 109 = .ok (.ireturn, 1) := by decide +kernel
theorem dX8_far_0 : decode cX8_far 0 = .ok (.iload_n 1, 1) := by decide +kernel
theorem dX8_far_1 : decode cX8_far 1 = .ok (.iload_n 2, 1) := by decide +kernel
theorem dX8_far_2 : decode cX8_far 2 = .ok (.bipush 99, 2) := by decide +kernel
theorem dX8_far_4 : decode cX8_far 4 = .ok (.invokestatic 81, 3) := by decide +kernel
theorem dX8_far_7 : decode cX8_far 7 = .ok (.ifCond .ne 5, 3) := by decide +kernel
theorem dX8_far_10 : decode cX8_far 10 = .ok (.iconst (-1), 1) := by decide +kernel
theorem dX8_far_11 : decode cX8_far 11 = .ok (.ireturn, 1) := by decide +kernel
theorem dX8_far_12 : decode cX8_far 12 = .ok (.aload_n 0, 1) := by decide +kernel
theorem dX8_far_13 : decode cX8_far 13 = .ok (.invokevirtual 256, 3) := by decide +kernel
theorem dX8_far_16 : decode cX8_far 16 = .ok (.aload_n 0, 1) := by decide +kernel
theorem dX8_far_17 : decode cX8_far 17 = .ok (.iload_n 1, 1) := by decide +kernel
theorem dX8_far_18 : decode cX8_far 18 = .ok (.iload_n 2, 1) := by decide +kernel
theorem dX8_far_19 : decode cX8_far 19 = .ok (.invokevirtual 259, 3) := by decide +kernel
theorem dX8_far_22 : decode cX8_far 22 = .ok (.ireturn, 1) := by decide +kernel
theorem dX8_contradicts_0 : decode cX8_contradicts 0 = .ok (.aload_n 0, 1) := by decide +kernel
theorem dX8_contradicts_1 : decode cX8_contradicts 1 = .ok (.invokevirtual 256, 3) := by decide +kernel
theorem dX8_contradicts_4 : decode cX8_contradicts 4 = .ok (.iconst 0, 1) := by decide +kernel
theorem dX8_contradicts_5 : decode cX8_contradicts 5 = .ok (.istore_n 1, 1) := by decide +kernel
theorem dX8_contradicts_6 : decode cX8_contradicts 6 = .ok (.iload_n 1, 1) := by decide +kernel
theorem dX8_contradicts_7 : decode cX8_contradicts 7 = .ok (.sipush 2401, 3) := by decide +kernel
theorem dX8_contradicts_10 : decode cX8_contradicts 10 = .ok (.if_icmp .ge 17, 3) := by decide +kernel
theorem dX8_contradicts_13 : decode cX8_contradicts 13 = .ok (.aload_n 0, 1) := by decide +kernel
theorem dX8_contradicts_14 : decode cX8_contradicts 14 = .ok (.getfield 46, 3) := by decide +kernel
theorem dX8_contradicts_17 : decode cX8_contradicts 17 = .ok (.iload_n 1, 1) := by decide +kernel
theorem dX8_contradicts_18 : decode cX8_contradicts 18 = .ok (.bipush (-9), 2) := by decide +kernel
theorem dX8_contradicts_20 : decode cX8_contradicts 20 = .ok (.iastore, 1) := by decide +kernel
theorem dX8_contradicts_21 : decode cX8_contradicts 21 = .ok (.iinc 1 1, 3) := by decide +kernel
theorem dX8_contradicts_24 : decode cX8_contradicts 24 = .ok (.goto (-18), 3) := by decide +kernel
theorem dX8_contradicts_27 : decode cX8_contradicts 27 = .ok (.iconst 0, 1) := by decide +kernel
theorem dX8_contradicts_28 : decode cX8_contradicts 28 = .ok (.istore_n 1, 1) := by decide +kernel
theorem dX8_contradicts_29 : decode cX8_contradicts 29 = .ok (.iconst 0, 1) := by decide +kernel
theorem dX8_contradicts_30 : decode cX8_contradicts 30 = .ok (.istore_n 2, 1) := by decide +kernel
theorem dX8_contradicts_31 : decode cX8_contradicts 31 = .ok (.iload_n 2, 1) := by decide +kernel
theorem dX8_contradicts_32 : decode cX8_contradicts 32 = .ok (.sipush 2401, 3) := by decide +kernel
theorem dX8_contradicts_35 : decode cX8_contradicts 35 = .ok (.if_icmp .ge 233, 3) := by decide +kernel
theorem dX8_contradicts_38 : decode cX8_contradicts 38 = .ok (.aload_n 0, 1) := by decide +kernel
theorem dX8_contradicts_39 : decode cX8_contradicts 39 = .ok (.getfield 33, 3) := by decide +kernel
theorem dX8_contradicts_42 : decode cX8_contradicts 42 = .ok (.iload_n 2, 1) := by decide +kernel
theorem dX8_contradicts_43 : decode cX8_contradicts 43 = .ok (.iaload, 1) := by decide +kernel
theorem dX8_contradicts_44 : decode cX8_contradicts 44 = .ok (.bipush (-9), 2) := by decide +kernel
theorem dX8_contradicts_46 : decode cX8_contradicts 46 = .ok (.if_icmp .eq 216, 3) := by decide +kernel
theorem dX8_contradicts_49 : decode cX8_contradicts 49 = .ok (.aload_n 0, 1) := by decide +kernel
theorem dX8_contradicts_50 : decode cX8_contradicts 50 = .ok (.getfield 46, 3) := by decide +kernel
theorem dX8_contradicts_53 : decode cX8_contradicts 53 = .ok (.iload_n 2, 1) := by decide +kernel
theorem dX8_contradicts_54 : decode cX8_contradicts 54 = .ok (.iaload, 1) := by decide +kernel
theorem dX8_contradicts_55 : decode cX8_contradicts 55 = .ok (.bipush (-9), 2) := by decide +kernel
theorem dX8_contradicts_57 : decode cX8_contradicts 57 = .ok (.if_icmp .ne 205, 3) := by decide +kernel
theorem dX8_contradicts_60 : decode cX8_contradicts 60 = .ok (.aload_n 0, 1) := by decide +kernel
theorem dX8_contradicts_61 : decode cX8_contradicts 61 = .ok (.getfield 33, 3) := by decide +kernel
theorem dX8_contradicts_64 : decode cX8_contradicts 64 = .ok (.iload_n 2, 1) := by decide +kernel
theorem dX8_contradicts_65 : decode cX8_contradicts 65 = .ok (.iaload, 1) := by decide +kernel
theorem dX8_contradicts_66 : decode cX8_contradicts 66 = .ok (.istore_n 3, 1) := by decide +kernel
theorem dX8_contradicts_67 : decode cX8_contradicts 67 = .ok (.aload_n 0, 1) := by decide +kernel
theorem dX8_contradicts_68 : decode cX8_contradicts 68 = .ok (.getfield 33, 3) := by decide +kernel
theorem dX8_contradicts_71 : decode cX8_contradicts 71 = .ok (.iload_n 2, 1) := by decide +kernel
theorem dX8_contradicts_72 : decode cX8_contradicts 72 = .ok (.iaload, 1) := by decide +kernel
theorem dX8_contradicts_73 : decode cX8_contradicts 73 = .ok (.istore 4, 2) := by decide +kernel
theorem dX8_contradicts_75 : decode cX8_contradicts 75 = .ok (.iload_n 2, 1) := by decide +kernel
theorem dX8_contradicts_76 : decode cX8_contradicts 76 = .ok (.istore 5, 2) := by decide +kernel
theorem dX8_contradicts_78 : decode cX8_contradicts 78 = .ok (.iload 5, 2) := by decide +kernel
theorem dX8_contradicts_80 : decode cX8_contradicts 80 = .ok (.sipush 2401, 3) := by decide +kernel
theorem dX8_contradicts_83 : decode cX8_contradicts 83 = .ok (.if_icmp .ge 160, 3) := by decide +kernel
theorem dX8_contradicts_86 : decode cX8_contradicts 86 = .ok (.aload_n 0, 1) := by decide +kernel
theorem dX8_contradicts_87 : decode cX8_contradicts 87 = .ok (.getfield 33, 3) := by decide +kernel
theorem dX8_contradicts_90 : decode cX8_contradicts 90 = .ok (.iload 5, 2) := by decide +kernel
theorem dX8_contradicts_92 : decode cX8_contradicts 92 = .ok (.iaload, 1) := by decide +kernel
theorem dX8_contradicts_93 : decode cX8_contradicts 93 = .ok (.bipush (-9), 2) := by decide +kernel
theorem dX8_contradicts_95 : decode cX8_contradicts 95 = .ok (.if_icmp .eq 142, 3) := by decide +kernel
theorem dX8_contradicts_98 : decode cX8_contradicts 98 = .ok (.aload_n 0, 1) := by decide +kernel
theorem dX8_contradicts_99 : decode cX8_contradicts 99 = .ok (.iload 5, 2) := by decide +kernel
theorem dX8_contradicts_101 : decode cX8_contradicts 101 = .ok (.bipush 49, 2) := by decide +kernel
theorem dX8_contradicts_103 : decode cX8_contradicts 103 = .ok (.irem, 1) := by decide +kernel
theorem dX8_contradicts_104 : decode cX8_contradicts 104 = .ok (.bipush 24, 2) := by decide +kernel
theorem dX8_contradicts_106 : decode cX8_contradicts 106 = .ok (.isub, 1) := by decide +kernel
theorem dX8_contradicts_107 : decode cX8_contradicts 107 = .ok (.iload 5, 2) := by decide +kernel
theorem dX8_contradicts_109 : decode cX8_contradicts 109 = .ok (.bipush 49, 2) := by decide +kernel
theorem dX8_contradicts_111 : decode cX8_contradicts 111 = .ok (.idiv, 1) := by decide +kernel
theorem dX8_contradicts_112 : decode cX8_contradicts 112 = .ok (.bipush 24, 2) := by decide +kernel
theorem dX8_contradicts_114 : decode cX8_contradicts 114 = .ok (.isub, 1) := by decide +kernel
theorem dX8_contradicts_115 : decode cX8_contradicts 115 = .ok (.invokevirtual 148, 3) := by decide +kernel
theorem dX8_contradicts_118 : decode cX8_contradicts 118 = .ok (.aload_n 0, 1) := by decide +kernel
theorem dX8_contradicts_119 : decode cX8_contradicts 119 = .ok (.iload_n 2, 1) := by decide +kernel
theorem dX8_contradicts_120 : decode cX8_contradicts 120 = .ok (.bipush 49, 2) := by decide +kernel
theorem dX8_contradicts_122 : decode cX8_contradicts 122 = .ok (.irem, 1) := by decide +kernel
theorem dX8_contradicts_123 : decode cX8_contradicts 123 = .ok (.bipush 24, 2) := by decide +kernel
theorem dX8_contradicts_125 : decode cX8_contradicts 125 = .ok (.isub, 1) := by decide +kernel
theorem dX8_contradicts_126 : decode cX8_contradicts 126 = .ok (.iload_n 2, 1) := by decide +kernel
theorem dX8_contradicts_127 : decode cX8_contradicts 127 = .ok (.bipush 49, 2) := by decide +kernel
theorem dX8_contradicts_129 : decode cX8_contradicts 129 = .ok (.idiv, 1) := by decide +kernel
theorem dX8_contradicts_130 : decode cX8_contradicts 130 = .ok (.bipush 24, 2) := by decide +kernel
theorem dX8_contradicts_132 : decode cX8_contradicts 132 = .ok (.isub, 1) := by decide +kernel
theorem dX8_contradicts_133 : decode cX8_contradicts 133 = .ok (.invokevirtual 148, 3) := by decide +kernel
theorem dX8_contradicts_136 : decode cX8_contradicts 136 = .ok (.if_icmp .ne 101, 3) := by decide +kernel
theorem dX8_contradicts_139 : decode cX8_contradicts 139 = .ok (.aload_n 0, 1) := by decide +kernel
theorem dX8_contradicts_140 : decode cX8_contradicts 140 = .ok (.iload 5, 2) := by decide +kernel
theorem dX8_contradicts_142 : decode cX8_contradicts 142 = .ok (.bipush 49, 2) := by decide +kernel
theorem dX8_contradicts_144 : decode cX8_contradicts 144 = .ok (.irem, 1) := by decide +kernel
theorem dX8_contradicts_145 : decode cX8_contradicts 145 = .ok (.bipush 24, 2) := by decide +kernel
theorem dX8_contradicts_147 : decode cX8_contradicts 147 = .ok (.isub, 1) := by decide +kernel
theorem dX8_contradicts_148 : decode cX8_contradicts 148 = .ok (.iload 5, 2) := by decide +kernel
theorem dX8_contradicts_150 : decode cX8_contradicts 150 = .ok (.bipush 49, 2) := by decide +kernel
theorem dX8_contradicts_152 : decode cX8_contradicts 152 = .ok (.idiv, 1) := by decide +kernel
theorem dX8_contradicts_153 : decode cX8_contradicts 153 = .ok (.bipush 24, 2) := by decide +kernel
theorem dX8_contradicts_155 : decode cX8_contradicts 155 = .ok (.isub, 1) := by decide +kernel
theorem dX8_contradicts_156 : decode cX8_contradicts 156 = .ok (.invokevirtual 151, 3) := by decide +kernel
theorem dX8_contradicts_159 : decode cX8_contradicts 159 = .ok (.aload_n 0, 1) := by decide +kernel
theorem dX8_contradicts_160 : decode cX8_contradicts 160 = .ok (.iload_n 2, 1) := by decide +kernel
theorem dX8_contradicts_161 : decode cX8_contradicts 161 = .ok (.bipush 49, 2) := by decide +kernel
theorem dX8_contradicts_163 : decode cX8_contradicts 163 = .ok (.irem, 1) := by decide +kernel
theorem dX8_contradicts_164 : decode cX8_contradicts 164 = .ok (.bipush 24, 2) := by decide +kernel
theorem dX8_contradicts_166 : decode cX8_contradicts 166 = .ok (.isub, 1) := by decide +kernel
theorem dX8_contradicts_167 : decode cX8_contradicts 167 = .ok (.iload_n 2, 1) := by decide +kernel
theorem dX8_contradicts_168 : decode cX8_contradicts 168 = .ok (.bipush 49, 2) := by decide +kernel
theorem dX8_contradicts_170 : decode cX8_contradicts 170 = .ok (.idiv, 1) := by decide +kernel
theorem dX8_contradicts_171 : decode cX8_contradicts 171 = .ok (.bipush 24, 2) := by decide +kernel
theorem dX8_contradicts_173 : decode cX8_contradicts 173 = .ok (.isub, 1) := by decide +kernel
theorem dX8_contradicts_174 : decode cX8_contradicts 174 = .ok (.invokevirtual 151, 3) := by decide +kernel
theorem dX8_contradicts_177 : decode cX8_contradicts 177 = .ok (.if_icmp .ne 60, 3) := by decide +kernel
theorem dX8_contradicts_180 : decode cX8_contradicts 180 = .ok (.aload_n 0, 1) := by decide +kernel
theorem dX8_contradicts_181 : decode cX8_contradicts 181 = .ok (.getfield 46, 3) := by decide +kernel
theorem dX8_contradicts_184 : decode cX8_contradicts 184 = .ok (.iload 5, 2) := by decide +kernel
theorem dX8_contradicts_186 : decode cX8_contradicts 186 = .ok (.iload_n 2, 1) := by decide +kernel
theorem dX8_contradicts_187 : decode cX8_contradicts 187 = .ok (.iastore, 1) := by decide +kernel
theorem dX8_contradicts_188 : decode cX8_contradicts 188 = .ok (.aload_n 0, 1) := by decide +kernel
theorem dX8_contradicts_189 : decode cX8_contradicts 189 = .ok (.getfield 33, 3) := by decide +kernel
theorem dX8_contradicts_192 : decode cX8_contradicts 192 = .ok (.iload 5, 2) := by decide +kernel
theorem dX8_contradicts_194 : decode cX8_contradicts 194 = .ok (.iaload, 1) := by decide +kernel
theorem dX8_contradicts_195 : decode cX8_contradicts 195 = .ok (.iload_n 3, 1) := by decide +kernel
theorem dX8_contradicts_196 : decode cX8_contradicts 196 = .ok (.if_icmp .ge 13, 3) := by decide +kernel
theorem dX8_contradicts_199 : decode cX8_contradicts 199 = .ok (.aload_n 0, 1) := by decide +kernel
theorem dX8_contradicts_200 : decode cX8_contradicts 200 = .ok (.getfield 33, 3) := by decide +kernel
theorem dX8_contradicts_203 : decode cX8_contradicts 203 = .ok (.iload 5, 2) := by decide +kernel
theorem dX8_contradicts_205 : decode cX8_contradicts 205 = .ok (.iaload, 1) := by decide +kernel
theorem dX8_contradicts_206 : decode cX8_contradicts 206 = .ok (.goto 4, 3) := by decide +kernel
theorem dX8_contradicts_209 : decode cX8_contradicts 209 = .ok (.iload_n 3, 1) := by decide +kernel
theorem dX8_contradicts_210 : decode cX8_contradicts 210 = .ok (.istore_n 3, 1) := by decide +kernel
theorem dX8_contradicts_211 : decode cX8_contradicts 211 = .ok (.aload_n 0, 1) := by decide +kernel
theorem dX8_contradicts_212 : decode cX8_contradicts 212 = .ok (.getfield 33, 3) := by decide +kernel
theorem dX8_contradicts_215 : decode cX8_contradicts 215 = .ok (.iload 5, 2) := by decide +kernel
theorem dX8_contradicts_217 : decode cX8_contradicts 217 = .ok (.iaload, 1) := by decide +kernel
theorem dX8_contradicts_218 : decode cX8_contradicts 218 = .ok (.iload 4, 2) := by decide +kernel
theorem dX8_contradicts_220 : decode cX8_contradicts 220 = .ok (.if_icmp .le 13, 3) := by decide +kernel
theorem dX8_contradicts_223 : decode cX8_contradicts 223 = .ok (.aload_n 0, 1) := by decide +kernel
theorem dX8_contradicts_224 : decode cX8_contradicts 224 = .ok (.getfield 33, 3) := by decide +kernel
theorem dX8_contradicts_227 : decode cX8_contradicts 227 = .ok (.iload 5, 2) := by decide +kernel
theorem dX8_contradicts_229 : decode cX8_contradicts 229 = .ok (.iaload, 1) := by decide +kernel
theorem dX8_contradicts_230 : decode cX8_contradicts 230 = .ok (.goto 5, 3) := by decide +kernel
theorem dX8_contradicts_233 : decode cX8_contradicts 233 = .ok (.iload 4, 2) := by decide +kernel
theorem dX8_contradicts_235 : decode cX8_contradicts 235 = .ok (.istore 4, 2) := by decide +kernel
theorem dX8_contradicts_237 : decode cX8_contradicts 237 = .ok (.iinc 5 1, 3) := by decide +kernel
theorem dX8_contradicts_240 : decode cX8_contradicts 240 = .ok (.goto (-162), 3) := by decide +kernel
theorem dX8_contradicts_243 : decode cX8_contradicts 243 = .ok (.iload_n 1, 1) := by decide +kernel
theorem dX8_contradicts_244 : decode cX8_contradicts 244 = .ok (.iload 4, 2) := by decide +kernel
theorem dX8_contradicts_246 : decode cX8_contradicts 246 = .ok (.iload_n 3, 1) := by decide +kernel
theorem dX8_contradicts_247 : decode cX8_contradicts 247 = .ok (.isub, 1) := by decide +kernel
theorem dX8_contradicts_248 : decode cX8_contradicts 248 = .ok (.aload_n 0, 1) := by decide +kernel
theorem dX8_contradicts_249 : decode cX8_contradicts 249 = .ok (.getfield 24, 3) := by decide +kernel
theorem dX8_contradicts_252 : decode cX8_contradicts 252 = .ok (.if_icmp .le 7, 3) := by decide +kernel
theorem dX8_contradicts_255 : decode cX8_contradicts 255 = .ok (.iconst 1, 1) := by decide +kernel
theorem dX8_contradicts_256 : decode cX8_contradicts 256 = .ok (.goto 4, 3) := by decide +kernel
theorem dX8_contradicts_259 : decode cX8_contradicts 259 = .ok (.iconst 0, 1) := by decide +kernel
theorem dX8_contradicts_260 : decode cX8_contradicts 260 = .ok (.iadd, 1) := by decide +kernel
theorem dX8_contradicts_261 : decode cX8_contradicts 261 = .ok (.istore_n 1, 1) := by decide +kernel
theorem dX8_contradicts_262 : decode cX8_contradicts 262 = .ok (.iinc 2 1, 3) := by decide +kernel
theorem dX8_contradicts_265 : decode cX8_contradicts 265 = .ok (.goto (-234), 3) := by decide +kernel
theorem dX8_contradicts_268 : decode cX8_contradicts 268 = .ok (.iload_n 1, 1) := by decide +kernel
theorem dX8_contradicts_269 : decode cX8_contradicts 269 = .ok (.ireturn, 1) := by decide +kernel
theorem dX8_filled_0 : decode cX8_filled 0 = .ok (.iload_n 1, 1) := by decide +kernel
theorem dX8_filled_1 : decode cX8_filled 1 = .ok (.iload_n 2, 1) := by decide +kernel
theorem dX8_filled_2 : decode cX8_filled 2 = .ok (.invokestatic 135, 3) := by decide +kernel
theorem dX8_filled_5 : decode cX8_filled 5 = .ok (.ifCond .ne 5, 3) := by decide +kernel
theorem dX8_filled_8 : decode cX8_filled 8 = .ok (.iconst (-1), 1) := by decide +kernel
theorem dX8_filled_9 : decode cX8_filled 9 = .ok (.ireturn, 1) := by decide +kernel
theorem dX8_filled_10 : decode cX8_filled 10 = .ok (.aload_n 0, 1) := by decide +kernel
theorem dX8_filled_11 : decode cX8_filled 11 = .ok (.getfield 33, 3) := by decide +kernel
theorem dX8_filled_14 : decode cX8_filled 14 = .ok (.iload_n 1, 1) := by decide +kernel
theorem dX8_filled_15 : decode cX8_filled 15 = .ok (.iload_n 2, 1) := by decide +kernel
theorem dX8_filled_16 : decode cX8_filled 16 = .ok (.invokestatic 138, 3) := by decide +kernel
theorem dX8_filled_19 : decode cX8_filled 19 = .ok (.iaload, 1) := by decide +kernel
theorem dX8_filled_20 : decode cX8_filled 20 = .ok (.bipush (-9), 2) := by decide +kernel
theorem dX8_filled_22 : decode cX8_filled 22 = .ok (.if_icmp .eq 14, 3) := by decide +kernel
theorem dX8_filled_25 : decode cX8_filled 25 = .ok (.aload_n 0, 1) := by decide +kernel
theorem dX8_filled_26 : decode cX8_filled 26 = .ok (.getfield 33, 3) := by decide +kernel
theorem dX8_filled_29 : decode cX8_filled 29 = .ok (.iload_n 1, 1) := by decide +kernel
theorem dX8_filled_30 : decode cX8_filled 30 = .ok (.iload_n 2, 1) := by decide +kernel
theorem dX8_filled_31 : decode cX8_filled 31 = .ok (.invokestatic 138, 3) := by decide +kernel
theorem dX8_filled_34 : decode cX8_filled 34 = .ok (.iaload, 1) := by decide +kernel
theorem dX8_filled_35 : decode cX8_filled 35 = .ok (.ireturn, 1) := by decide +kernel
theorem dX8_filled_36 : decode cX8_filled 36 = .ok (.aload_n 0, 1) := by decide +kernel
theorem dX8_filled_37 : decode cX8_filled 37 = .ok (.invokevirtual 256, 3) := by decide +kernel
theorem dX8_filled_40 : decode cX8_filled 40 = .ok (.aload_n 0, 1) := by decide +kernel
theorem dX8_filled_41 : decode cX8_filled 41 = .ok (.aload_n 0, 1) := by decide +kernel
theorem dX8_filled_42 : decode cX8_filled 42 = .ok (.iload_n 1, 1) := by decide +kernel
theorem dX8_filled_43 : decode cX8_filled 43 = .ok (.iload_n 2, 1) := by decide +kernel
theorem dX8_filled_44 : decode cX8_filled 44 = .ok (.iconst 0, 1) := by decide +kernel
theorem dX8_filled_45 : decode cX8_filled 45 = .ok (.invokevirtual 121, 3) := by decide +kernel
theorem dX8_filled_48 : decode cX8_filled 48 = .ok (.aload_n 0, 1) := by decide +kernel
theorem dX8_filled_49 : decode cX8_filled 49 = .ok (.iload_n 1, 1) := by decide +kernel
theorem dX8_filled_50 : decode cX8_filled 50 = .ok (.iload_n 2, 1) := by decide +kernel
theorem dX8_filled_51 : decode cX8_filled 51 = .ok (.iconst 1, 1) := by decide +kernel
theorem dX8_filled_52 : decode cX8_filled 52 = .ok (.invokevirtual 121, 3) := by decide +kernel
theorem dX8_filled_55 : decode cX8_filled 55 = .ok (.invokevirtual 259, 3) := by decide +kernel
theorem dX8_filled_58 : decode cX8_filled 58 = .ok (.ireturn, 1) := by decide +kernel
theorem dX8_count_0 : decode cX8_count 0 = .ok (.iconst 0, 1) := by decide +kernel
theorem dX8_count_1 : decode cX8_count 1 = .ok (.istore_n 2, 1) := by decide +kernel
theorem dX8_count_2 : decode cX8_count 2 = .ok (.iload_n 1, 1) := by decide +kernel
theorem dX8_count_3 : decode cX8_count 3 = .ok (.tableswitch 125 0 5 #[37, 42, 47, 52, 88, 93], 37) := by decide +kernel
theorem dX8_count_40 : decode cX8_count 40 = .ok (.aload_n 0, 1) := by decide +kernel
theorem dX8_count_41 : decode cX8_count 41 = .ok (.getfield 78, 3) := by decide +kernel
theorem dX8_count_44 : decode cX8_count 44 = .ok (.ireturn, 1) := by decide +kernel
theorem dX8_count_45 : decode cX8_count 45 = .ok (.aload_n 0, 1) := by decide +kernel
theorem dX8_count_46 : decode cX8_count 46 = .ok (.getfield 203, 3) := by decide +kernel
theorem dX8_count_49 : decode cX8_count 49 = .ok (.ireturn, 1) := by decide +kernel
theorem dX8_count_50 : decode cX8_count 50 = .ok (.aload_n 0, 1) := by decide +kernel
theorem dX8_count_51 : decode cX8_count 51 = .ok (.getfield 240, 3) := by decide +kernel
theorem dX8_count_54 : decode cX8_count 54 = .ok (.ireturn, 1) := by decide +kernel
theorem dX8_count_55 : decode cX8_count 55 = .ok (.iconst 0, 1) := by decide +kernel
theorem dX8_count_56 : decode cX8_count 56 = .ok (.istore_n 3, 1) := by decide +kernel
theorem dX8_count_57 : decode cX8_count 57 = .ok (.iload_n 3, 1) := by decide +kernel
theorem dX8_count_58 : decode cX8_count 58 = .ok (.sipush 2401, 3) := by decide +kernel
theorem dX8_count_61 : decode cX8_count 61 = .ok (.if_icmp .ge 28, 3) := by decide +kernel
theorem dX8_count_64 : decode cX8_count 64 = .ok (.iload_n 2, 1) := by decide +kernel
theorem dX8_count_65 : decode cX8_count 65 = .ok (.aload_n 0, 1) := by decide +kernel
theorem dX8_count_66 : decode cX8_count 66 = .ok (.getfield 33, 3) := by decide +kernel
theorem dX8_count_69 : decode cX8_count 69 = .ok (.iload_n 3, 1) := by decide +kernel
theorem dX8_count_70 : decode cX8_count 70 = .ok (.iaload, 1) := by decide +kernel
theorem dX8_count_71 : decode cX8_count 71 = .ok (.bipush (-9), 2) := by decide +kernel
theorem dX8_count_73 : decode cX8_count 73 = .ok (.if_icmp .ne 7, 3) := by decide +kernel
theorem dX8_count_76 : decode cX8_count 76 = .ok (.iconst 0, 1) := by decide +kernel
theorem dX8_count_77 : decode cX8_count 77 = .ok (.goto 4, 3) := by decide +kernel
theorem dX8_count_80 : decode cX8_count 80 = .ok (.iconst 1, 1) := by decide +kernel
theorem dX8_count_81 : decode cX8_count 81 = .ok (.iadd, 1) := by decide +kernel
theorem dX8_count_82 : decode cX8_count 82 = .ok (.istore_n 2, 1) := by decide +kernel
theorem dX8_count_83 : decode cX8_count 83 = .ok (.iinc 3 1, 3) := by decide +kernel
theorem dX8_count_86 : decode cX8_count 86 = .ok (.goto (-29), 3) := by decide +kernel
theorem dX8_count_89 : decode cX8_count 89 = .ok (.iload_n 2, 1) := by decide +kernel
theorem dX8_count_90 : decode cX8_count 90 = .ok (.ireturn, 1) := by decide +kernel
theorem dX8_count_91 : decode cX8_count 91 = .ok (.aload_n 0, 1) := by decide +kernel
theorem dX8_count_92 : decode cX8_count 92 = .ok (.getfield 174, 3) := by decide +kernel
theorem dX8_count_95 : decode cX8_count 95 = .ok (.ireturn, 1) := by decide +kernel
theorem dX8_count_96 : decode cX8_count 96 = .ok (.iconst 0, 1) := by decide +kernel
theorem dX8_count_97 : decode cX8_count 97 = .ok (.istore_n 3, 1) := by decide +kernel
theorem dX8_count_98 : decode cX8_count 98 = .ok (.iload_n 3, 1) := by decide +kernel
theorem dX8_count_99 : decode cX8_count 99 = .ok (.aload_n 0, 1) := by decide +kernel
theorem dX8_count_100 : decode cX8_count 100 = .ok (.getfield 78, 3) := by decide +kernel
theorem dX8_count_103 : decode cX8_count 103 = .ok (.if_icmp .ge 23, 3) := by decide +kernel
theorem dX8_count_106 : decode cX8_count 106 = .ok (.iload_n 2, 1) := by decide +kernel
theorem dX8_count_107 : decode cX8_count 107 = .ok (.aload_n 0, 1) := by decide +kernel
theorem dX8_count_108 : decode cX8_count 108 = .ok (.getfield 7, 3) := by decide +kernel
theorem dX8_count_111 : decode cX8_count 111 = .ok (.bipush 6, 2) := by decide +kernel
theorem dX8_count_113 : decode cX8_count 113 = .ok (.iload_n 3, 1) := by decide +kernel
theorem dX8_count_114 : decode cX8_count 114 = .ok (.imul, 1) := by decide +kernel
theorem dX8_count_115 : decode cX8_count 115 = .ok (.iconst 3, 1) := by decide +kernel
theorem dX8_count_116 : decode cX8_count 116 = .ok (.iadd, 1) := by decide +kernel
theorem dX8_count_117 : decode cX8_count 117 = .ok (.iaload, 1) := by decide +kernel
theorem dX8_count_118 : decode cX8_count 118 = .ok (.iadd, 1) := by decide +kernel
theorem dX8_count_119 : decode cX8_count 119 = .ok (.istore_n 2, 1) := by decide +kernel
theorem dX8_count_120 : decode cX8_count 120 = .ok (.iinc 3 1, 3) := by decide +kernel
theorem dX8_count_123 : decode cX8_count 123 = .ok (.goto (-25), 3) := by decide +kernel
theorem dX8_count_126 : decode cX8_count 126 = .ok (.iload_n 2, 1) := by decide +kernel
theorem dX8_count_127 : decode cX8_count 127 = .ok (.ireturn, 1) := by decide +kernel
theorem dX8_count_128 : decode cX8_count 128 = .ok (.iconst (-1), 1) := by decide +kernel
theorem dX8_count_129 : decode cX8_count 129 = .ok (.ireturn, 1) := by decide +kernel
theorem dX8_trace_0 : decode cX8_trace 0 = .ok (.aload_n 0, 1) := by decide +kernel
theorem dX8_trace_1 : decode cX8_trace 1 = .ok (.getfield 99, 3) := by decide +kernel
theorem dX8_trace_4 : decode cX8_trace 4 = .ok (.lreturn, 1) := by decide +kernel
theorem dJ6_signum_0f7a4_0 : decode cJ6_signum_0f7a4 0 = .ok (.iload_n 0, 1) := by decide +kernel
theorem dJ6_signum_0f7a4_1 : decode cJ6_signum_0f7a4 1 = .ok (.bipush 31, 2) := by decide +kernel
theorem dJ6_signum_0f7a4_3 : decode cJ6_signum_0f7a4 3 = .ok (.ishr, 1) := by decide +kernel
theorem dJ6_signum_0f7a4_4 : decode cJ6_signum_0f7a4 4 = .ok (.iload_n 0, 1) := by decide +kernel
theorem dJ6_signum_0f7a4_5 : decode cJ6_signum_0f7a4 5 = .ok (.ineg, 1) := by decide +kernel
theorem dJ6_signum_0f7a4_6 : decode cJ6_signum_0f7a4 6 = .ok (.bipush 31, 2) := by decide +kernel
theorem dJ6_signum_0f7a4_8 : decode cJ6_signum_0f7a4 8 = .ok (.iushr, 1) := by decide +kernel
theorem dJ6_signum_0f7a4_9 : decode cJ6_signum_0f7a4 9 = .ok (.ior, 1) := by decide +kernel
theorem dJ6_signum_0f7a4_10 : decode cJ6_signum_0f7a4 10 = .ok (.ireturn, 1) := by decide +kernel
theorem dJ13_compare_74951_0 : decode cJ13_compare_74951 0 = .ok (.lload_n 0, 1) := by decide +kernel
theorem dJ13_compare_74951_1 : decode cJ13_compare_74951 1 = .ok (.lload_n 2, 1) := by decide +kernel
theorem dJ13_compare_74951_2 : decode cJ13_compare_74951 2 = .ok (.lcmp, 1) := by decide +kernel
theorem dJ13_compare_74951_3 : decode cJ13_compare_74951 3 = .ok (.ifCond .ge 7, 3) := by decide +kernel
theorem dJ13_compare_74951_6 : decode cJ13_compare_74951 6 = .ok (.iconst (-1), 1) := by decide +kernel
theorem dJ13_compare_74951_7 : decode cJ13_compare_74951 7 = .ok (.goto 14, 3) := by decide +kernel
theorem dJ13_compare_74951_10 : decode cJ13_compare_74951 10 = .ok (.lload_n 0, 1) := by decide +kernel
theorem dJ13_compare_74951_11 : decode cJ13_compare_74951 11 = .ok (.lload_n 2, 1) := by decide +kernel
theorem dJ13_compare_74951_12 : decode cJ13_compare_74951 12 = .ok (.lcmp, 1) := by decide +kernel
theorem dJ13_compare_74951_13 : decode cJ13_compare_74951 13 = .ok (.ifCond .ne 7, 3) := by decide +kernel
theorem dJ13_compare_74951_16 : decode cJ13_compare_74951 16 = .ok (.iconst 0, 1) := by decide +kernel
theorem dJ13_compare_74951_17 : decode cJ13_compare_74951 17 = .ok (.goto 4, 3) := by decide +kernel
theorem dJ13_compare_74951_20 : decode cJ13_compare_74951 20 = .ok (.iconst 1, 1) := by decide +kernel
theorem dJ13_compare_74951_21 : decode cJ13_compare_74951 21 = .ok (.ireturn, 1) := by decide +kernel
theorem dJ9_floorDiv_7cf53_0 : decode cJ9_floorDiv_7cf53 0 = .ok (.iload_n 0, 1) := by decide +kernel
theorem dJ9_floorDiv_7cf53_1 : decode cJ9_floorDiv_7cf53 1 = .ok (.iload_n 1, 1) := by decide +kernel
theorem dJ9_floorDiv_7cf53_2 : decode cJ9_floorDiv_7cf53 2 = .ok (.idiv, 1) := by decide +kernel
theorem dJ9_floorDiv_7cf53_3 : decode cJ9_floorDiv_7cf53 3 = .ok (.istore_n 2, 1) := by decide +kernel
theorem dJ9_floorDiv_7cf53_4 : decode cJ9_floorDiv_7cf53 4 = .ok (.iload_n 0, 1) := by decide +kernel
theorem dJ9_floorDiv_7cf53_5 : decode cJ9_floorDiv_7cf53 5 = .ok (.iload_n 1, 1) := by decide +kernel
theorem dJ9_floorDiv_7cf53_6 : decode cJ9_floorDiv_7cf53 6 = .ok (.ixor, 1) := by decide +kernel
theorem dJ9_floorDiv_7cf53_7 : decode cJ9_floorDiv_7cf53 7 = .ok (.ifCond .ge 14, 3) := by decide +kernel
theorem dJ9_floorDiv_7cf53_10 : decode cJ9_floorDiv_7cf53 10 = .ok (.iload_n 2, 1) := by decide +kernel
theorem dJ9_floorDiv_7cf53_11 : decode cJ9_floorDiv_7cf53 11 = .ok (.iload_n 1, 1) := by decide +kernel
theorem dJ9_floorDiv_7cf53_12 : decode cJ9_floorDiv_7cf53 12 = .ok (.imul, 1) := by decide +kernel
theorem dJ9_floorDiv_7cf53_13 : decode cJ9_floorDiv_7cf53 13 = .ok (.iload_n 0, 1) := by decide +kernel
theorem dJ9_floorDiv_7cf53_14 : decode cJ9_floorDiv_7cf53 14 = .ok (.if_icmp .eq 7, 3) := by decide +kernel
theorem dJ9_floorDiv_7cf53_17 : decode cJ9_floorDiv_7cf53 17 = .ok (.iload_n 2, 1) := by decide +kernel
theorem dJ9_floorDiv_7cf53_18 : decode cJ9_floorDiv_7cf53 18 = .ok (.iconst 1, 1) := by decide +kernel
theorem dJ9_floorDiv_7cf53_19 : decode cJ9_floorDiv_7cf53 19 = .ok (.isub, 1) := by decide +kernel
theorem dJ9_floorDiv_7cf53_20 : decode cJ9_floorDiv_7cf53 20 = .ok (.ireturn, 1) := by decide +kernel
theorem dJ9_floorDiv_7cf53_21 : decode cJ9_floorDiv_7cf53 21 = .ok (.iload_n 2, 1) := by decide +kernel
theorem dJ9_floorDiv_7cf53_22 : decode cJ9_floorDiv_7cf53 22 = .ok (.ireturn, 1) := by decide +kernel
theorem dJ9_floorDiv_f86c9_0 : decode cJ9_floorDiv_f86c9 0 = .ok (.lload_n 0, 1) := by decide +kernel
theorem dJ9_floorDiv_f86c9_1 : decode cJ9_floorDiv_f86c9 1 = .ok (.lload_n 2, 1) := by decide +kernel
theorem dJ9_floorDiv_f86c9_2 : decode cJ9_floorDiv_f86c9 2 = .ok (.ldiv, 1) := by decide +kernel
theorem dJ9_floorDiv_f86c9_3 : decode cJ9_floorDiv_f86c9 3 = .ok (.lstore 4, 2) := by decide +kernel
theorem dJ9_floorDiv_f86c9_5 : decode cJ9_floorDiv_f86c9 5 = .ok (.lload_n 0, 1) := by decide +kernel
theorem dJ9_floorDiv_f86c9_6 : decode cJ9_floorDiv_f86c9 6 = .ok (.lload_n 2, 1) := by decide +kernel
theorem dJ9_floorDiv_f86c9_7 : decode cJ9_floorDiv_f86c9 7 = .ok (.lxor, 1) := by decide +kernel
theorem dJ9_floorDiv_f86c9_8 : decode cJ9_floorDiv_f86c9 8 = .ok (.lconst 0, 1) := by decide +kernel
theorem dJ9_floorDiv_f86c9_9 : decode cJ9_floorDiv_f86c9 9 = .ok (.lcmp, 1) := by decide +kernel
theorem dJ9_floorDiv_f86c9_10 : decode cJ9_floorDiv_f86c9 10 = .ok (.ifCond .ge 17, 3) := by decide +kernel
theorem dJ9_floorDiv_f86c9_13 : decode cJ9_floorDiv_f86c9 13 = .ok (.lload 4, 2) := by decide +kernel
theorem dJ9_floorDiv_f86c9_15 : decode cJ9_floorDiv_f86c9 15 = .ok (.lload_n 2, 1) := by decide +kernel
theorem dJ9_floorDiv_f86c9_16 : decode cJ9_floorDiv_f86c9 16 = .ok (.lmul, 1) := by decide +kernel
theorem dJ9_floorDiv_f86c9_17 : decode cJ9_floorDiv_f86c9 17 = .ok (.lload_n 0, 1) := by decide +kernel
theorem dJ9_floorDiv_f86c9_18 : decode cJ9_floorDiv_f86c9 18 = .ok (.lcmp, 1) := by decide +kernel
theorem dJ9_floorDiv_f86c9_19 : decode cJ9_floorDiv_f86c9 19 = .ok (.ifCond .eq 8, 3) := by decide +kernel
theorem dJ9_floorDiv_f86c9_22 : decode cJ9_floorDiv_f86c9 22 = .ok (.lload 4, 2) := by decide +kernel
theorem dJ9_floorDiv_f86c9_24 : decode cJ9_floorDiv_f86c9 24 = .ok (.lconst 1, 1) := by decide +kernel
theorem dJ9_floorDiv_f86c9_25 : decode cJ9_floorDiv_f86c9 25 = .ok (.lsub, 1) := by decide +kernel
theorem dJ9_floorDiv_f86c9_26 : decode cJ9_floorDiv_f86c9 26 = .ok (.lreturn, 1) := by decide +kernel
theorem dJ9_floorDiv_f86c9_27 : decode cJ9_floorDiv_f86c9 27 = .ok (.lload 4, 2) := by decide +kernel
theorem dJ9_floorDiv_f86c9_29 : decode cJ9_floorDiv_f86c9 29 = .ok (.lreturn, 1) := by decide +kernel
theorem dJ9_abs_0f7a4_0 : decode cJ9_abs_0f7a4 0 = .ok (.iload_n 0, 1) := by decide +kernel
theorem dJ9_abs_0f7a4_1 : decode cJ9_abs_0f7a4 1 = .ok (.ifCond .ge 8, 3) := by decide +kernel
theorem dJ9_abs_0f7a4_4 : decode cJ9_abs_0f7a4 4 = .ok (.iload_n 0, 1) := by decide +kernel
theorem dJ9_abs_0f7a4_5 : decode cJ9_abs_0f7a4 5 = .ok (.ineg, 1) := by decide +kernel
theorem dJ9_abs_0f7a4_6 : decode cJ9_abs_0f7a4 6 = .ok (.goto 4, 3) := by decide +kernel
theorem dJ9_abs_0f7a4_9 : decode cJ9_abs_0f7a4 9 = .ok (.iload_n 0, 1) := by decide +kernel
theorem dJ9_abs_0f7a4_10 : decode cJ9_abs_0f7a4 10 = .ok (.ireturn, 1) := by decide +kernel
theorem dJ9_max_7cf53_0 : decode cJ9_max_7cf53 0 = .ok (.iload_n 0, 1) := by decide +kernel
theorem dJ9_max_7cf53_1 : decode cJ9_max_7cf53 1 = .ok (.iload_n 1, 1) := by decide +kernel
theorem dJ9_max_7cf53_2 : decode cJ9_max_7cf53 2 = .ok (.if_icmp .lt 7, 3) := by decide +kernel
theorem dJ9_max_7cf53_5 : decode cJ9_max_7cf53 5 = .ok (.iload_n 0, 1) := by decide +kernel
theorem dJ9_max_7cf53_6 : decode cJ9_max_7cf53 6 = .ok (.goto 4, 3) := by decide +kernel
theorem dJ9_max_7cf53_9 : decode cJ9_max_7cf53 9 = .ok (.iload_n 1, 1) := by decide +kernel
theorem dJ9_max_7cf53_10 : decode cJ9_max_7cf53 10 = .ok (.ireturn, 1) := by decide +kernel
theorem dJ9_min_7cf53_0 : decode cJ9_min_7cf53 0 = .ok (.iload_n 0, 1) := by decide +kernel
theorem dJ9_min_7cf53_1 : decode cJ9_min_7cf53 1 = .ok (.iload_n 1, 1) := by decide +kernel
theorem dJ9_min_7cf53_2 : decode cJ9_min_7cf53 2 = .ok (.if_icmp .gt 7, 3) := by decide +kernel
theorem dJ9_min_7cf53_5 : decode cJ9_min_7cf53 5 = .ok (.iload_n 0, 1) := by decide +kernel
theorem dJ9_min_7cf53_6 : decode cJ9_min_7cf53 6 = .ok (.goto 4, 3) := by decide +kernel
theorem dJ9_min_7cf53_9 : decode cJ9_min_7cf53 9 = .ok (.iload_n 1, 1) := by decide +kernel
theorem dJ9_min_7cf53_10 : decode cJ9_min_7cf53 10 = .ok (.ireturn, 1) := by decide +kernel
theorem dJ7_fill_53178_0 : decode cJ7_fill_53178 0 = .ok (.iconst 0, 1) := by decide +kernel
theorem dJ7_fill_53178_1 : decode cJ7_fill_53178 1 = .ok (.istore_n 2, 1) := by decide +kernel
theorem dJ7_fill_53178_2 : decode cJ7_fill_53178 2 = .ok (.aload_n 0, 1) := by decide +kernel
theorem dJ7_fill_53178_3 : decode cJ7_fill_53178 3 = .ok (.arraylength, 1) := by decide +kernel
theorem dJ7_fill_53178_4 : decode cJ7_fill_53178 4 = .ok (.istore_n 3, 1) := by decide +kernel
theorem dJ7_fill_53178_5 : decode cJ7_fill_53178 5 = .ok (.iload_n 2, 1) := by decide +kernel
theorem dJ7_fill_53178_6 : decode cJ7_fill_53178 6 = .ok (.iload_n 3, 1) := by decide +kernel
theorem dJ7_fill_53178_7 : decode cJ7_fill_53178 7 = .ok (.if_icmp .ge 13, 3) := by decide +kernel
theorem dJ7_fill_53178_10 : decode cJ7_fill_53178 10 = .ok (.aload_n 0, 1) := by decide +kernel
theorem dJ7_fill_53178_11 : decode cJ7_fill_53178 11 = .ok (.iload_n 2, 1) := by decide +kernel
theorem dJ7_fill_53178_12 : decode cJ7_fill_53178 12 = .ok (.iload_n 1, 1) := by decide +kernel
theorem dJ7_fill_53178_13 : decode cJ7_fill_53178 13 = .ok (.iastore, 1) := by decide +kernel
theorem dJ7_fill_53178_14 : decode cJ7_fill_53178 14 = .ok (.iinc 2 1, 3) := by decide +kernel
theorem dJ7_fill_53178_17 : decode cJ7_fill_53178 17 = .ok (.goto (-12), 3) := by decide +kernel
theorem dJ7_fill_53178_20 : decode cJ7_fill_53178 20 = .ok (.return_, 1) := by decide +kernel
theorem dL_law_0 : decode cL_law 0 = .ok (.new 7, 3) := by decide +kernel
theorem dL_law_3 : decode cL_law 3 = .ok (.dup, 1) := by decide +kernel
theorem dL_law_4 : decode cL_law 4 = .ok (.invokespecial 9, 3) := by decide +kernel
theorem dL_law_7 : decode cL_law 7 = .ok (.astore_n 1, 1) := by decide +kernel
theorem dL_law_8 : decode cL_law 8 = .ok (.new 10, 3) := by decide +kernel
theorem dL_law_11 : decode cL_law 11 = .ok (.dup, 1) := by decide +kernel
theorem dL_law_12 : decode cL_law 12 = .ok (.invokespecial 12, 3) := by decide +kernel
theorem dL_law_15 : decode cL_law 15 = .ok (.astore_n 2, 1) := by decide +kernel
theorem dL_law_16 : decode cL_law 16 = .ok (.iconst 0, 1) := by decide +kernel
theorem dL_law_17 : decode cL_law 17 = .ok (.istore_n 3, 1) := by decide +kernel
theorem dL_law_18 : decode cL_law 18 = .ok (.iload_n 3, 1) := by decide +kernel
theorem dL_law_19 : decode cL_law 19 = .ok (.aload_n 0, 1) := by decide +kernel
theorem dL_law_20 : decode cL_law 20 = .ok (.arraylength, 1) := by decide +kernel
theorem dL_law_21 : decode cL_law 21 = .ok (.bipush 7, 2) := by decide +kernel
theorem dL_law_23 : decode cL_law 23 = .ok (.isub, 1) := by decide +kernel
theorem dL_law_24 : decode cL_law 24 = .ok (.if_icmp .gt 1278, 3) := by decide +kernel
theorem dL_law_27 : decode cL_law 27 = .ok (.aload_n 0, 1) := by decide +kernel
theorem dL_law_28 : decode cL_law 28 = .ok (.iload_n 3, 1) := by decide +kernel
theorem dL_law_29 : decode cL_law 29 = .ok (.iaload, 1) := by decide +kernel
theorem dL_law_30 : decode cL_law 30 = .ok (.bipush 31, 2) := by decide +kernel
theorem dL_law_32 : decode cL_law 32 = .ok (.iand, 1) := by decide +kernel
theorem dL_law_33 : decode cL_law 33 = .ok (.tableswitch 1263 0 31 #[143, 196, 239, 252, 285, 348, 391, 434, 477, 530, 563, 596, 619, 642, 718, 741, 804, 817, 830, 883, 896, 929, 972, 1015, 1058, 1091, 1104, 1147, 1180, 1193, 1226, 1249], 143) := by decide +kernel
theorem dL_law_176 : decode cL_law 176 = .ok (.aload_n 1, 1) := by decide +kernel
theorem dL_law_177 : decode cL_law 177 = .ok (.aload_n 0, 1) := by decide +kernel
theorem dL_law_178 : decode cL_law 178 = .ok (.iload_n 3, 1) := by decide +kernel
theorem dL_law_179 : decode cL_law 179 = .ok (.iconst 1, 1) := by decide +kernel
theorem dL_law_180 : decode cL_law 180 = .ok (.iadd, 1) := by decide +kernel
theorem dL_law_181 : decode cL_law 181 = .ok (.iaload, 1) := by decide +kernel
theorem dL_law_182 : decode cL_law 182 = .ok (.aload_n 0, 1) := by decide +kernel
theorem dL_law_183 : decode cL_law 183 = .ok (.iload_n 3, 1) := by decide +kernel
theorem dL_law_184 : decode cL_law 184 = .ok (.iconst 2, 1) := by decide +kernel
theorem dL_law_185 : decode cL_law 185 = .ok (.iadd, 1) := by decide +kernel
theorem dL_law_186 : decode cL_law 186 = .ok (.iaload, 1) := by decide +kernel
theorem dL_law_187 : decode cL_law 187 = .ok (.aload_n 0, 1) := by decide +kernel
theorem dL_law_188 : decode cL_law 188 = .ok (.iload_n 3, 1) := by decide +kernel
theorem dL_law_189 : decode cL_law 189 = .ok (.iconst 3, 1) := by decide +kernel
theorem dL_law_190 : decode cL_law 190 = .ok (.iadd, 1) := by decide +kernel
theorem dL_law_191 : decode cL_law 191 = .ok (.iaload, 1) := by decide +kernel
theorem dL_law_192 : decode cL_law 192 = .ok (.aload_n 0, 1) := by decide +kernel
theorem dL_law_193 : decode cL_law 193 = .ok (.iload_n 3, 1) := by decide +kernel
theorem dL_law_194 : decode cL_law 194 = .ok (.iconst 4, 1) := by decide +kernel
theorem dL_law_195 : decode cL_law 195 = .ok (.iadd, 1) := by decide +kernel
theorem dL_law_196 : decode cL_law 196 = .ok (.iaload, 1) := by decide +kernel
theorem dL_law_197 : decode cL_law 197 = .ok (.invokevirtual 13, 3) := by decide +kernel
theorem dL_law_200 : decode cL_law 200 = .ok (.aload_n 2, 1) := by decide +kernel
theorem dL_law_201 : decode cL_law 201 = .ok (.aload_n 0, 1) := by decide +kernel
theorem dL_law_202 : decode cL_law 202 = .ok (.iload_n 3, 1) := by decide +kernel
theorem dL_law_203 : decode cL_law 203 = .ok (.iconst 1, 1) := by decide +kernel
theorem dL_law_204 : decode cL_law 204 = .ok (.iadd, 1) := by decide +kernel
theorem dL_law_205 : decode cL_law 205 = .ok (.iaload, 1) := by decide +kernel
theorem dL_law_206 : decode cL_law 206 = .ok (.aload_n 0, 1) := by decide +kernel
theorem dL_law_207 : decode cL_law 207 = .ok (.iload_n 3, 1) := by decide +kernel
theorem dL_law_208 : decode cL_law 208 = .ok (.iconst 2, 1) := by decide +kernel
theorem dL_law_209 : decode cL_law 209 = .ok (.iadd, 1) := by decide +kernel
theorem dL_law_210 : decode cL_law 210 = .ok (.iaload, 1) := by decide +kernel
theorem dL_law_211 : decode cL_law 211 = .ok (.aload_n 0, 1) := by decide +kernel
theorem dL_law_212 : decode cL_law 212 = .ok (.iload_n 3, 1) := by decide +kernel
theorem dL_law_213 : decode cL_law 213 = .ok (.iconst 3, 1) := by decide +kernel
theorem dL_law_214 : decode cL_law 214 = .ok (.iadd, 1) := by decide +kernel
theorem dL_law_215 : decode cL_law 215 = .ok (.iaload, 1) := by decide +kernel
theorem dL_law_216 : decode cL_law 216 = .ok (.aload_n 0, 1) := by decide +kernel
theorem dL_law_217 : decode cL_law 217 = .ok (.iload_n 3, 1) := by decide +kernel
theorem dL_law_218 : decode cL_law 218 = .ok (.iconst 4, 1) := by decide +kernel
theorem dL_law_219 : decode cL_law 219 = .ok (.iadd, 1) := by decide +kernel
theorem dL_law_220 : decode cL_law 220 = .ok (.iaload, 1) := by decide +kernel
theorem dL_law_221 : decode cL_law 221 = .ok (.invokevirtual 17, 3) := by decide +kernel
theorem dL_law_224 : decode cL_law 224 = .ok (.if_icmp .eq 1072, 3) := by decide +kernel
theorem dL_law_227 : decode cL_law 227 = .ok (.iconst 0, 1) := by decide +kernel
theorem dL_law_228 : decode cL_law 228 = .ok (.ireturn, 1) := by decide +kernel
theorem dL_law_229 : decode cL_law 229 = .ok (.aload_n 1, 1) := by decide +kernel
theorem dL_law_230 : decode cL_law 230 = .ok (.aload_n 0, 1) := by decide +kernel
theorem dL_law_231 : decode cL_law 231 = .ok (.iload_n 3, 1) := by decide +kernel
theorem dL_law_232 : decode cL_law 232 = .ok (.iconst 1, 1) := by decide +kernel
theorem dL_law_233 : decode cL_law 233 = .ok (.iadd, 1) := by decide +kernel
theorem dL_law_234 : decode cL_law 234 = .ok (.iaload, 1) := by decide +kernel
theorem dL_law_235 : decode cL_law 235 = .ok (.aload_n 0, 1) := by decide +kernel
theorem dL_law_236 : decode cL_law 236 = .ok (.iload_n 3, 1) := by decide +kernel
theorem dL_law_237 : decode cL_law 237 = .ok (.iconst 2, 1) := by decide +kernel
theorem dL_law_238 : decode cL_law 238 = .ok (.iadd, 1) := by decide +kernel
theorem dL_law_239 : decode cL_law 239 = .ok (.iaload, 1) := by decide +kernel
theorem dL_law_240 : decode cL_law 240 = .ok (.aload_n 0, 1) := by decide +kernel
theorem dL_law_241 : decode cL_law 241 = .ok (.iload_n 3, 1) := by decide +kernel
theorem dL_law_242 : decode cL_law 242 = .ok (.iconst 3, 1) := by decide +kernel
theorem dL_law_243 : decode cL_law 243 = .ok (.iadd, 1) := by decide +kernel
theorem dL_law_244 : decode cL_law 244 = .ok (.iaload, 1) := by decide +kernel
theorem dL_law_245 : decode cL_law 245 = .ok (.invokevirtual 18, 3) := by decide +kernel
theorem dL_law_248 : decode cL_law 248 = .ok (.aload_n 2, 1) := by decide +kernel
theorem dL_law_249 : decode cL_law 249 = .ok (.aload_n 0, 1) := by decide +kernel
theorem dL_law_250 : decode cL_law 250 = .ok (.iload_n 3, 1) := by decide +kernel
theorem dL_law_251 : decode cL_law 251 = .ok (.iconst 1, 1) := by decide +kernel
theorem dL_law_252 : decode cL_law 252 = .ok (.iadd, 1) := by decide +kernel
theorem dL_law_253 : decode cL_law 253 = .ok (.iaload, 1) := by decide +kernel
theorem dL_law_254 : decode cL_law 254 = .ok (.aload_n 0, 1) := by decide +kernel
theorem dL_law_255 : decode cL_law 255 = .ok (.iload_n 3, 1) := by decide +kernel
theorem dL_law_256 : decode cL_law 256 = .ok (.iconst 2, 1) := by decide +kernel
theorem dL_law_257 : decode cL_law 257 = .ok (.iadd, 1) := by decide +kernel
theorem dL_law_258 : decode cL_law 258 = .ok (.iaload, 1) := by decide +kernel
theorem dL_law_259 : decode cL_law 259 = .ok (.aload_n 0, 1) := by decide +kernel
theorem dL_law_260 : decode cL_law 260 = .ok (.iload_n 3, 1) := by decide +kernel
theorem dL_law_261 : decode cL_law 261 = .ok (.iconst 3, 1) := by decide +kernel
theorem dL_law_262 : decode cL_law 262 = .ok (.iadd, 1) := by decide +kernel
theorem dL_law_263 : decode cL_law 263 = .ok (.iaload, 1) := by decide +kernel
theorem dL_law_264 : decode cL_law 264 = .ok (.invokevirtual 22, 3) := by decide +kernel
theorem dL_law_267 : decode cL_law 267 = .ok (.if_icmp .eq 1029, 3) := by decide +kernel
theorem dL_law_270 : decode cL_law 270 = .ok (.iconst 0, 1) := by decide +kernel
theorem dL_law_271 : decode cL_law 271 = .ok (.ireturn, 1) := by decide +kernel
theorem dL_law_272 : decode cL_law 272 = .ok (.aload_n 1, 1) := by decide +kernel
theorem dL_law_273 : decode cL_law 273 = .ok (.invokevirtual 23, 3) := by decide +kernel
theorem dL_law_276 : decode cL_law 276 = .ok (.aload_n 2, 1) := by decide +kernel
theorem dL_law_277 : decode cL_law 277 = .ok (.invokevirtual 27, 3) := by decide +kernel
theorem dL_law_280 : decode cL_law 280 = .ok (.if_icmp .eq 1016, 3) := by decide +kernel
theorem dL_law_283 : decode cL_law 283 = .ok (.iconst 0, 1) := by decide +kernel
theorem dL_law_284 : decode cL_law 284 = .ok (.ireturn, 1) := by decide +kernel
theorem dL_law_285 : decode cL_law 285 = .ok (.aload_n 1, 1) := by decide +kernel
theorem dL_law_286 : decode cL_law 286 = .ok (.aload_n 0, 1) := by decide +kernel
theorem dL_law_287 : decode cL_law 287 = .ok (.iload_n 3, 1) := by decide +kernel
theorem dL_law_288 : decode cL_law 288 = .ok (.iconst 1, 1) := by decide +kernel
theorem dL_law_289 : decode cL_law 289 = .ok (.iadd, 1) := by decide +kernel
theorem dL_law_290 : decode cL_law 290 = .ok (.iaload, 1) := by decide +kernel
theorem dL_law_291 : decode cL_law 291 = .ok (.aload_n 0, 1) := by decide +kernel
theorem dL_law_292 : decode cL_law 292 = .ok (.iload_n 3, 1) := by decide +kernel
theorem dL_law_293 : decode cL_law 293 = .ok (.iconst 2, 1) := by decide +kernel
theorem dL_law_294 : decode cL_law 294 = .ok (.iadd, 1) := by decide +kernel
theorem dL_law_295 : decode cL_law 295 = .ok (.iaload, 1) := by decide +kernel
theorem dL_law_296 : decode cL_law 296 = .ok (.invokevirtual 28, 3) := by decide +kernel
theorem dL_law_299 : decode cL_law 299 = .ok (.aload_n 2, 1) := by decide +kernel
theorem dL_law_300 : decode cL_law 300 = .ok (.aload_n 0, 1) := by decide +kernel
theorem dL_law_301 : decode cL_law 301 = .ok (.iload_n 3, 1) := by decide +kernel
theorem dL_law_302 : decode cL_law 302 = .ok (.iconst 1, 1) := by decide +kernel
theorem dL_law_303 : decode cL_law 303 = .ok (.iadd, 1) := by decide +kernel
theorem dL_law_304 : decode cL_law 304 = .ok (.iaload, 1) := by decide +kernel
theorem dL_law_305 : decode cL_law 305 = .ok (.aload_n 0, 1) := by decide +kernel
theorem dL_law_306 : decode cL_law 306 = .ok (.iload_n 3, 1) := by decide +kernel
theorem dL_law_307 : decode cL_law 307 = .ok (.iconst 2, 1) := by decide +kernel
theorem dL_law_308 : decode cL_law 308 = .ok (.iadd, 1) := by decide +kernel
theorem dL_law_309 : decode cL_law 309 = .ok (.iaload, 1) := by decide +kernel
theorem dL_law_310 : decode cL_law 310 = .ok (.invokevirtual 32, 3) := by decide +kernel
theorem dL_law_313 : decode cL_law 313 = .ok (.if_icmp .eq 983, 3) := by decide +kernel
theorem dL_law_316 : decode cL_law 316 = .ok (.iconst 0, 1) := by decide +kernel
theorem dL_law_317 : decode cL_law 317 = .ok (.ireturn, 1) := by decide +kernel
theorem dL_law_318 : decode cL_law 318 = .ok (.aload_n 1, 1) := by decide +kernel
theorem dL_law_319 : decode cL_law 319 = .ok (.aload_n 0, 1) := by decide +kernel
theorem dL_law_320 : decode cL_law 320 = .ok (.iload_n 3, 1) := by decide +kernel
theorem dL_law_321 : decode cL_law 321 = .ok (.iconst 1, 1) := by decide +kernel
theorem dL_law_322 : decode cL_law 322 = .ok (.iadd, 1) := by decide +kernel
theorem dL_law_323 : decode cL_law 323 = .ok (.iaload, 1) := by decide +kernel
theorem dL_law_324 : decode cL_law 324 = .ok (.aload_n 0, 1) := by decide +kernel
theorem dL_law_325 : decode cL_law 325 = .ok (.iload_n 3, 1) := by decide +kernel
theorem dL_law_326 : decode cL_law 326 = .ok (.iconst 2, 1) := by decide +kernel
theorem dL_law_327 : decode cL_law 327 = .ok (.iadd, 1) := by decide +kernel
theorem dL_law_328 : decode cL_law 328 = .ok (.iaload, 1) := by decide +kernel
theorem dL_law_329 : decode cL_law 329 = .ok (.aload_n 0, 1) := by decide +kernel
theorem dL_law_330 : decode cL_law 330 = .ok (.iload_n 3, 1) := by decide +kernel
theorem dL_law_331 : decode cL_law 331 = .ok (.iconst 3, 1) := by decide +kernel
theorem dL_law_332 : decode cL_law 332 = .ok (.iadd, 1) := by decide +kernel
theorem dL_law_333 : decode cL_law 333 = .ok (.iaload, 1) := by decide +kernel
theorem dL_law_334 : decode cL_law 334 = .ok (.aload_n 0, 1) := by decide +kernel
theorem dL_law_335 : decode cL_law 335 = .ok (.iload_n 3, 1) := by decide +kernel
theorem dL_law_336 : decode cL_law 336 = .ok (.iconst 4, 1) := by decide +kernel
theorem dL_law_337 : decode cL_law 337 = .ok (.iadd, 1) := by decide +kernel
theorem dL_law_338 : decode cL_law 338 = .ok (.iaload, 1) := by decide +kernel
theorem dL_law_339 : decode cL_law 339 = .ok (.aload_n 0, 1) := by decide +kernel
theorem dL_law_340 : decode cL_law 340 = .ok (.iload_n 3, 1) := by decide +kernel
theorem dL_law_341 : decode cL_law 341 = .ok (.iconst 5, 1) := by decide +kernel
theorem dL_law_342 : decode cL_law 342 = .ok (.iadd, 1) := by decide +kernel
theorem dL_law_343 : decode cL_law 343 = .ok (.iaload, 1) := by decide +kernel
theorem dL_law_344 : decode cL_law 344 = .ok (.invokevirtual 33, 3) := by decide +kernel
theorem dL_law_347 : decode cL_law 347 = .ok (.aload_n 2, 1) := by decide +kernel
theorem dL_law_348 : decode cL_law 348 = .ok (.aload_n 0, 1) := by decide +kernel
theorem dL_law_349 : decode cL_law 349 = .ok (.iload_n 3, 1) := by decide +kernel
theorem dL_law_350 : decode cL_law 350 = .ok (.iconst 1, 1) := by decide +kernel
theorem dL_law_351 : decode cL_law 351 = .ok (.iadd, 1) := by decide +kernel
theorem dL_law_352 : decode cL_law 352 = .ok (.iaload, 1) := by decide +kernel
theorem dL_law_353 : decode cL_law 353 = .ok (.aload_n 0, 1) := by decide +kernel
theorem dL_law_354 : decode cL_law 354 = .ok (.iload_n 3, 1) := by decide +kernel
theorem dL_law_355 : decode cL_law 355 = .ok (.iconst 2, 1) := by decide +kernel
theorem dL_law_356 : decode cL_law 356 = .ok (.iadd, 1) := by decide +kernel
theorem dL_law_357 : decode cL_law 357 = .ok (.iaload, 1) := by decide +kernel
theorem dL_law_358 : decode cL_law 358 = .ok (.aload_n 0, 1) := by decide +kernel
theorem dL_law_359 : decode cL_law 359 = .ok (.iload_n 3, 1) := by decide +kernel
theorem dL_law_360 : decode cL_law 360 = .ok (.iconst 3, 1) := by decide +kernel
theorem dL_law_361 : decode cL_law 361 = .ok (.iadd, 1) := by decide +kernel
theorem dL_law_362 : decode cL_law 362 = .ok (.iaload, 1) := by decide +kernel
theorem dL_law_363 : decode cL_law 363 = .ok (.aload_n 0, 1) := by decide +kernel
theorem dL_law_364 : decode cL_law 364 = .ok (.iload_n 3, 1) := by decide +kernel
theorem dL_law_365 : decode cL_law 365 = .ok (.iconst 4, 1) := by decide +kernel
theorem dL_law_366 : decode cL_law 366 = .ok (.iadd, 1) := by decide +kernel
theorem dL_law_367 : decode cL_law 367 = .ok (.iaload, 1) := by decide +kernel
theorem dL_law_368 : decode cL_law 368 = .ok (.aload_n 0, 1) := by decide +kernel
theorem dL_law_369 : decode cL_law 369 = .ok (.iload_n 3, 1) := by decide +kernel
theorem dL_law_370 : decode cL_law 370 = .ok (.iconst 5, 1) := by decide +kernel
theorem dL_law_371 : decode cL_law 371 = .ok (.iadd, 1) := by decide +kernel
theorem dL_law_372 : decode cL_law 372 = .ok (.iaload, 1) := by decide +kernel
theorem dL_law_373 : decode cL_law 373 = .ok (.invokevirtual 37, 3) := by decide +kernel
theorem dL_law_376 : decode cL_law 376 = .ok (.if_icmp .eq 920, 3) := by decide +kernel
theorem dL_law_379 : decode cL_law 379 = .ok (.iconst 0, 1) := by decide +kernel
theorem dL_law_380 : decode cL_law 380 = .ok (.ireturn, 1) := by decide +kernel
theorem dL_law_381 : decode cL_law 381 = .ok (.aload_n 1, 1) := by decide +kernel
theorem dL_law_382 : decode cL_law 382 = .ok (.aload_n 0, 1) := by decide +kernel
theorem dL_law_383 : decode cL_law 383 = .ok (.iload_n 3, 1) := by decide +kernel
theorem dL_law_384 : decode cL_law 384 = .ok (.iconst 1, 1) := by decide +kernel
theorem dL_law_385 : decode cL_law 385 = .ok (.iadd, 1) := by decide +kernel
theorem dL_law_386 : decode cL_law 386 = .ok (.iaload, 1) := by decide +kernel
theorem dL_law_387 : decode cL_law 387 = .ok (.aload_n 0, 1) := by decide +kernel
theorem dL_law_388 : decode cL_law 388 = .ok (.iload_n 3, 1) := by decide +kernel
theorem dL_law_389 : decode cL_law 389 = .ok (.iconst 2, 1) := by decide +kernel
theorem dL_law_390 : decode cL_law 390 = .ok (.iadd, 1) := by decide +kernel
theorem dL_law_391 : decode cL_law 391 = .ok (.iaload, 1) := by decide +kernel
theorem dL_law_392 : decode cL_law 392 = .ok (.aload_n 0, 1) := by decide +kernel
theorem dL_law_393 : decode cL_law 393 = .ok (.iload_n 3, 1) := by decide +kernel
theorem dL_law_394 : decode cL_law 394 = .ok (.iconst 3, 1) := by decide +kernel
theorem dL_law_395 : decode cL_law 395 = .ok (.iadd, 1) := by decide +kernel
theorem dL_law_396 : decode cL_law 396 = .ok (.iaload, 1) := by decide +kernel
theorem dL_law_397 : decode cL_law 397 = .ok (.invokevirtual 38, 3) := by decide +kernel
theorem dL_law_400 : decode cL_law 400 = .ok (.aload_n 2, 1) := by decide +kernel
theorem dL_law_401 : decode cL_law 401 = .ok (.aload_n 0, 1) := by decide +kernel
theorem dL_law_402 : decode cL_law 402 = .ok (.iload_n 3, 1) := by decide +kernel
theorem dL_law_403 : decode cL_law 403 = .ok (.iconst 1, 1) := by decide +kernel
theorem dL_law_404 : decode cL_law 404 = .ok (.iadd, 1) := by decide +kernel
theorem dL_law_405 : decode cL_law 405 = .ok (.iaload, 1) := by decide +kernel
theorem dL_law_406 : decode cL_law 406 = .ok (.aload_n 0, 1) := by decide +kernel
theorem dL_law_407 : decode cL_law 407 = .ok (.iload_n 3, 1) := by decide +kernel
theorem dL_law_408 : decode cL_law 408 = .ok (.iconst 2, 1) := by decide +kernel
theorem dL_law_409 : decode cL_law 409 = .ok (.iadd, 1) := by decide +kernel
theorem dL_law_410 : decode cL_law 410 = .ok (.iaload, 1) := by decide +kernel
theorem dL_law_411 : decode cL_law 411 = .ok (.aload_n 0, 1) := by decide +kernel
theorem dL_law_412 : decode cL_law 412 = .ok (.iload_n 3, 1) := by decide +kernel
theorem dL_law_413 : decode cL_law 413 = .ok (.iconst 3, 1) := by decide +kernel
theorem dL_law_414 : decode cL_law 414 = .ok (.iadd, 1) := by decide +kernel
theorem dL_law_415 : decode cL_law 415 = .ok (.iaload, 1) := by decide +kernel
theorem dL_law_416 : decode cL_law 416 = .ok (.invokevirtual 41, 3) := by decide +kernel
theorem dL_law_419 : decode cL_law 419 = .ok (.if_icmp .eq 877, 3) := by decide +kernel
theorem dL_law_422 : decode cL_law 422 = .ok (.iconst 0, 1) := by decide +kernel
theorem dL_law_423 : decode cL_law 423 = .ok (.ireturn, 1) := by decide +kernel
theorem dL_law_424 : decode cL_law 424 = .ok (.aload_n 1, 1) := by decide +kernel
theorem dL_law_425 : decode cL_law 425 = .ok (.aload_n 0, 1) := by decide +kernel
theorem dL_law_426 : decode cL_law 426 = .ok (.iload_n 3, 1) := by decide +kernel
theorem dL_law_427 : decode cL_law 427 = .ok (.iconst 1, 1) := by decide +kernel
theorem dL_law_428 : decode cL_law 428 = .ok (.iadd, 1) := by decide +kernel
theorem dL_law_429 : decode cL_law 429 = .ok (.iaload, 1) := by decide +kernel
theorem dL_law_430 : decode cL_law 430 = .ok (.aload_n 0, 1) := by decide +kernel
theorem dL_law_431 : decode cL_law 431 = .ok (.iload_n 3, 1) := by decide +kernel
theorem dL_law_432 : decode cL_law 432 = .ok (.iconst 2, 1) := by decide +kernel
theorem dL_law_433 : decode cL_law 433 = .ok (.iadd, 1) := by decide +kernel
theorem dL_law_434 : decode cL_law 434 = .ok (.iaload, 1) := by decide +kernel
theorem dL_law_435 : decode cL_law 435 = .ok (.aload_n 0, 1) := by decide +kernel
theorem dL_law_436 : decode cL_law 436 = .ok (.iload_n 3, 1) := by decide +kernel
theorem dL_law_437 : decode cL_law 437 = .ok (.iconst 3, 1) := by decide +kernel
theorem dL_law_438 : decode cL_law 438 = .ok (.iadd, 1) := by decide +kernel
theorem dL_law_439 : decode cL_law 439 = .ok (.iaload, 1) := by decide +kernel
theorem dL_law_440 : decode cL_law 440 = .ok (.invokevirtual 42, 3) := by decide +kernel
theorem dL_law_443 : decode cL_law 443 = .ok (.aload_n 2, 1) := by decide +kernel
theorem dL_law_444 : decode cL_law 444 = .ok (.aload_n 0, 1) := by decide +kernel
theorem dL_law_445 : decode cL_law 445 = .ok (.iload_n 3, 1) := by decide +kernel
theorem dL_law_446 : decode cL_law 446 = .ok (.iconst 1, 1) := by decide +kernel
theorem dL_law_447 : decode cL_law 447 = .ok (.iadd, 1) := by decide +kernel
theorem dL_law_448 : decode cL_law 448 = .ok (.iaload, 1) := by decide +kernel
theorem dL_law_449 : decode cL_law 449 = .ok (.aload_n 0, 1) := by decide +kernel
theorem dL_law_450 : decode cL_law 450 = .ok (.iload_n 3, 1) := by decide +kernel
theorem dL_law_451 : decode cL_law 451 = .ok (.iconst 2, 1) := by decide +kernel
theorem dL_law_452 : decode cL_law 452 = .ok (.iadd, 1) := by decide +kernel
theorem dL_law_453 : decode cL_law 453 = .ok (.iaload, 1) := by decide +kernel
theorem dL_law_454 : decode cL_law 454 = .ok (.aload_n 0, 1) := by decide +kernel
theorem dL_law_455 : decode cL_law 455 = .ok (.iload_n 3, 1) := by decide +kernel
theorem dL_law_456 : decode cL_law 456 = .ok (.iconst 3, 1) := by decide +kernel
theorem dL_law_457 : decode cL_law 457 = .ok (.iadd, 1) := by decide +kernel
theorem dL_law_458 : decode cL_law 458 = .ok (.iaload, 1) := by decide +kernel
theorem dL_law_459 : decode cL_law 459 = .ok (.invokevirtual 45, 3) := by decide +kernel
theorem dL_law_462 : decode cL_law 462 = .ok (.if_icmp .eq 834, 3) := by decide +kernel
theorem dL_law_465 : decode cL_law 465 = .ok (.iconst 0, 1) := by decide +kernel
theorem dL_law_466 : decode cL_law 466 = .ok (.ireturn, 1) := by decide +kernel
theorem dL_law_467 : decode cL_law 467 = .ok (.aload_n 1, 1) := by decide +kernel
theorem dL_law_468 : decode cL_law 468 = .ok (.aload_n 0, 1) := by decide +kernel
theorem dL_law_469 : decode cL_law 469 = .ok (.iload_n 3, 1) := by decide +kernel
theorem dL_law_470 : decode cL_law 470 = .ok (.iconst 1, 1) := by decide +kernel
theorem dL_law_471 : decode cL_law 471 = .ok (.iadd, 1) := by decide +kernel
theorem dL_law_472 : decode cL_law 472 = .ok (.iaload, 1) := by decide +kernel
theorem dL_law_473 : decode cL_law 473 = .ok (.aload_n 0, 1) := by decide +kernel
theorem dL_law_474 : decode cL_law 474 = .ok (.iload_n 3, 1) := by decide +kernel
theorem dL_law_475 : decode cL_law 475 = .ok (.iconst 2, 1) := by decide +kernel
theorem dL_law_476 : decode cL_law 476 = .ok (.iadd, 1) := by decide +kernel
theorem dL_law_477 : decode cL_law 477 = .ok (.iaload, 1) := by decide +kernel
theorem dL_law_478 : decode cL_law 478 = .ok (.aload_n 0, 1) := by decide +kernel
theorem dL_law_479 : decode cL_law 479 = .ok (.iload_n 3, 1) := by decide +kernel
theorem dL_law_480 : decode cL_law 480 = .ok (.iconst 3, 1) := by decide +kernel
theorem dL_law_481 : decode cL_law 481 = .ok (.iadd, 1) := by decide +kernel
theorem dL_law_482 : decode cL_law 482 = .ok (.iaload, 1) := by decide +kernel
theorem dL_law_483 : decode cL_law 483 = .ok (.invokevirtual 46, 3) := by decide +kernel
theorem dL_law_486 : decode cL_law 486 = .ok (.aload_n 2, 1) := by decide +kernel
theorem dL_law_487 : decode cL_law 487 = .ok (.aload_n 0, 1) := by decide +kernel
theorem dL_law_488 : decode cL_law 488 = .ok (.iload_n 3, 1) := by decide +kernel
theorem dL_law_489 : decode cL_law 489 = .ok (.iconst 1, 1) := by decide +kernel
theorem dL_law_490 : decode cL_law 490 = .ok (.iadd, 1) := by decide +kernel
theorem dL_law_491 : decode cL_law 491 = .ok (.iaload, 1) := by decide +kernel
theorem dL_law_492 : decode cL_law 492 = .ok (.aload_n 0, 1) := by decide +kernel
theorem dL_law_493 : decode cL_law 493 = .ok (.iload_n 3, 1) := by decide +kernel
theorem dL_law_494 : decode cL_law 494 = .ok (.iconst 2, 1) := by decide +kernel
theorem dL_law_495 : decode cL_law 495 = .ok (.iadd, 1) := by decide +kernel
theorem dL_law_496 : decode cL_law 496 = .ok (.iaload, 1) := by decide +kernel
theorem dL_law_497 : decode cL_law 497 = .ok (.aload_n 0, 1) := by decide +kernel
theorem dL_law_498 : decode cL_law 498 = .ok (.iload_n 3, 1) := by decide +kernel
theorem dL_law_499 : decode cL_law 499 = .ok (.iconst 3, 1) := by decide +kernel
theorem dL_law_500 : decode cL_law 500 = .ok (.iadd, 1) := by decide +kernel
theorem dL_law_501 : decode cL_law 501 = .ok (.iaload, 1) := by decide +kernel
theorem dL_law_502 : decode cL_law 502 = .ok (.invokevirtual 49, 3) := by decide +kernel
theorem dL_law_505 : decode cL_law 505 = .ok (.if_icmp .eq 791, 3) := by decide +kernel
theorem dL_law_508 : decode cL_law 508 = .ok (.iconst 0, 1) := by decide +kernel
theorem dL_law_509 : decode cL_law 509 = .ok (.ireturn, 1) := by decide +kernel
theorem dL_law_510 : decode cL_law 510 = .ok (.aload_n 1, 1) := by decide +kernel
theorem dL_law_511 : decode cL_law 511 = .ok (.aload_n 0, 1) := by decide +kernel
theorem dL_law_512 : decode cL_law 512 = .ok (.iload_n 3, 1) := by decide +kernel
theorem dL_law_513 : decode cL_law 513 = .ok (.iconst 1, 1) := by decide +kernel
theorem dL_law_514 : decode cL_law 514 = .ok (.iadd, 1) := by decide +kernel
theorem dL_law_515 : decode cL_law 515 = .ok (.iaload, 1) := by decide +kernel
theorem dL_law_516 : decode cL_law 516 = .ok (.aload_n 0, 1) := by decide +kernel
theorem dL_law_517 : decode cL_law 517 = .ok (.iload_n 3, 1) := by decide +kernel
theorem dL_law_518 : decode cL_law 518 = .ok (.iconst 2, 1) := by decide +kernel
theorem dL_law_519 : decode cL_law 519 = .ok (.iadd, 1) := by decide +kernel
theorem dL_law_520 : decode cL_law 520 = .ok (.iaload, 1) := by decide +kernel
theorem dL_law_521 : decode cL_law 521 = .ok (.aload_n 0, 1) := by decide +kernel
theorem dL_law_522 : decode cL_law 522 = .ok (.iload_n 3, 1) := by decide +kernel
theorem dL_law_523 : decode cL_law 523 = .ok (.iconst 3, 1) := by decide +kernel
theorem dL_law_524 : decode cL_law 524 = .ok (.iadd, 1) := by decide +kernel
theorem dL_law_525 : decode cL_law 525 = .ok (.iaload, 1) := by decide +kernel
theorem dL_law_526 : decode cL_law 526 = .ok (.aload_n 0, 1) := by decide +kernel
theorem dL_law_527 : decode cL_law 527 = .ok (.iload_n 3, 1) := by decide +kernel
theorem dL_law_528 : decode cL_law 528 = .ok (.iconst 4, 1) := by decide +kernel
theorem dL_law_529 : decode cL_law 529 = .ok (.iadd, 1) := by decide +kernel
theorem dL_law_530 : decode cL_law 530 = .ok (.iaload, 1) := by decide +kernel
theorem dL_law_531 : decode cL_law 531 = .ok (.invokevirtual 50, 3) := by decide +kernel
theorem dL_law_534 : decode cL_law 534 = .ok (.aload_n 2, 1) := by decide +kernel
theorem dL_law_535 : decode cL_law 535 = .ok (.aload_n 0, 1) := by decide +kernel
theorem dL_law_536 : decode cL_law 536 = .ok (.iload_n 3, 1) := by decide +kernel
theorem dL_law_537 : decode cL_law 537 = .ok (.iconst 1, 1) := by decide +kernel
theorem dL_law_538 : decode cL_law 538 = .ok (.iadd, 1) := by decide +kernel
theorem dL_law_539 : decode cL_law 539 = .ok (.iaload, 1) := by decide +kernel
theorem dL_law_540 : decode cL_law 540 = .ok (.aload_n 0, 1) := by decide +kernel
theorem dL_law_541 : decode cL_law 541 = .ok (.iload_n 3, 1) := by decide +kernel
theorem dL_law_542 : decode cL_law 542 = .ok (.iconst 2, 1) := by decide +kernel
theorem dL_law_543 : decode cL_law 543 = .ok (.iadd, 1) := by decide +kernel
theorem dL_law_544 : decode cL_law 544 = .ok (.iaload, 1) := by decide +kernel
theorem dL_law_545 : decode cL_law 545 = .ok (.aload_n 0, 1) := by decide +kernel
theorem dL_law_546 : decode cL_law 546 = .ok (.iload_n 3, 1) := by decide +kernel
theorem dL_law_547 : decode cL_law 547 = .ok (.iconst 3, 1) := by decide +kernel
theorem dL_law_548 : decode cL_law 548 = .ok (.iadd, 1) := by decide +kernel
theorem dL_law_549 : decode cL_law 549 = .ok (.iaload, 1) := by decide +kernel
theorem dL_law_550 : decode cL_law 550 = .ok (.aload_n 0, 1) := by decide +kernel
theorem dL_law_551 : decode cL_law 551 = .ok (.iload_n 3, 1) := by decide +kernel
theorem dL_law_552 : decode cL_law 552 = .ok (.iconst 4, 1) := by decide +kernel
theorem dL_law_553 : decode cL_law 553 = .ok (.iadd, 1) := by decide +kernel
theorem dL_law_554 : decode cL_law 554 = .ok (.iaload, 1) := by decide +kernel
theorem dL_law_555 : decode cL_law 555 = .ok (.invokevirtual 53, 3) := by decide +kernel
theorem dL_law_558 : decode cL_law 558 = .ok (.if_icmp .eq 738, 3) := by decide +kernel
theorem dL_law_561 : decode cL_law 561 = .ok (.iconst 0, 1) := by decide +kernel
theorem dL_law_562 : decode cL_law 562 = .ok (.ireturn, 1) := by decide +kernel
theorem dL_law_563 : decode cL_law 563 = .ok (.aload_n 1, 1) := by decide +kernel
theorem dL_law_564 : decode cL_law 564 = .ok (.aload_n 0, 1) := by decide +kernel
theorem dL_law_565 : decode cL_law 565 = .ok (.iload_n 3, 1) := by decide +kernel
theorem dL_law_566 : decode cL_law 566 = .ok (.iconst 1, 1) := by decide +kernel
theorem dL_law_567 : decode cL_law 567 = .ok (.iadd, 1) := by decide +kernel
theorem dL_law_568 : decode cL_law 568 = .ok (.iaload, 1) := by decide +kernel
theorem dL_law_569 : decode cL_law 569 = .ok (.aload_n 0, 1) := by decide +kernel
theorem dL_law_570 : decode cL_law 570 = .ok (.iload_n 3, 1) := by decide +kernel
theorem dL_law_571 : decode cL_law 571 = .ok (.iconst 2, 1) := by decide +kernel
theorem dL_law_572 : decode cL_law 572 = .ok (.iadd, 1) := by decide +kernel
theorem dL_law_573 : decode cL_law 573 = .ok (.iaload, 1) := by decide +kernel
theorem dL_law_574 : decode cL_law 574 = .ok (.invokevirtual 54, 3) := by decide +kernel
theorem dL_law_577 : decode cL_law 577 = .ok (.aload_n 2, 1) := by decide +kernel
theorem dL_law_578 : decode cL_law 578 = .ok (.aload_n 0, 1) := by decide +kernel
theorem dL_law_579 : decode cL_law 579 = .ok (.iload_n 3, 1) := by decide +kernel
theorem dL_law_580 : decode cL_law 580 = .ok (.iconst 1, 1) := by decide +kernel
theorem dL_law_581 : decode cL_law 581 = .ok (.iadd, 1) := by decide +kernel
theorem dL_law_582 : decode cL_law 582 = .ok (.iaload, 1) := by decide +kernel
theorem dL_law_583 : decode cL_law 583 = .ok (.aload_n 0, 1) := by decide +kernel
theorem dL_law_584 : decode cL_law 584 = .ok (.iload_n 3, 1) := by decide +kernel
theorem dL_law_585 : decode cL_law 585 = .ok (.iconst 2, 1) := by decide +kernel
theorem dL_law_586 : decode cL_law 586 = .ok (.iadd, 1) := by decide +kernel
theorem dL_law_587 : decode cL_law 587 = .ok (.iaload, 1) := by decide +kernel
theorem dL_law_588 : decode cL_law 588 = .ok (.invokevirtual 57, 3) := by decide +kernel
theorem dL_law_591 : decode cL_law 591 = .ok (.if_icmp .eq 705, 3) := by decide +kernel
theorem dL_law_594 : decode cL_law 594 = .ok (.iconst 0, 1) := by decide +kernel
theorem dL_law_595 : decode cL_law 595 = .ok (.ireturn, 1) := by decide +kernel
theorem dL_law_596 : decode cL_law 596 = .ok (.aload_n 1, 1) := by decide +kernel
theorem dL_law_597 : decode cL_law 597 = .ok (.aload_n 0, 1) := by decide +kernel
theorem dL_law_598 : decode cL_law 598 = .ok (.iload_n 3, 1) := by decide +kernel
theorem dL_law_599 : decode cL_law 599 = .ok (.iconst 1, 1) := by decide +kernel
theorem dL_law_600 : decode cL_law 600 = .ok (.iadd, 1) := by decide +kernel
theorem dL_law_601 : decode cL_law 601 = .ok (.iaload, 1) := by decide +kernel
theorem dL_law_602 : decode cL_law 602 = .ok (.aload_n 0, 1) := by decide +kernel
theorem dL_law_603 : decode cL_law 603 = .ok (.iload_n 3, 1) := by decide +kernel
theorem dL_law_604 : decode cL_law 604 = .ok (.iconst 2, 1) := by decide +kernel
theorem dL_law_605 : decode cL_law 605 = .ok (.iadd, 1) := by decide +kernel
theorem dL_law_606 : decode cL_law 606 = .ok (.iaload, 1) := by decide +kernel
theorem dL_law_607 : decode cL_law 607 = .ok (.invokevirtual 58, 3) := by decide +kernel
theorem dL_law_610 : decode cL_law 610 = .ok (.aload_n 2, 1) := by decide +kernel
theorem dL_law_611 : decode cL_law 611 = .ok (.aload_n 0, 1) := by decide +kernel
theorem dL_law_612 : decode cL_law 612 = .ok (.iload_n 3, 1) := by decide +kernel
theorem dL_law_613 : decode cL_law 613 = .ok (.iconst 1, 1) := by decide +kernel
theorem dL_law_614 : decode cL_law 614 = .ok (.iadd, 1) := by decide +kernel
theorem dL_law_615 : decode cL_law 615 = .ok (.iaload, 1) := by decide +kernel
theorem dL_law_616 : decode cL_law 616 = .ok (.aload_n 0, 1) := by decide +kernel
theorem dL_law_617 : decode cL_law 617 = .ok (.iload_n 3, 1) := by decide +kernel
theorem dL_law_618 : decode cL_law 618 = .ok (.iconst 2, 1) := by decide +kernel
theorem dL_law_619 : decode cL_law 619 = .ok (.iadd, 1) := by decide +kernel
theorem dL_law_620 : decode cL_law 620 = .ok (.iaload, 1) := by decide +kernel
theorem dL_law_621 : decode cL_law 621 = .ok (.invokevirtual 61, 3) := by decide +kernel
theorem dL_law_624 : decode cL_law 624 = .ok (.if_icmp .eq 672, 3) := by decide +kernel
theorem dL_law_627 : decode cL_law 627 = .ok (.iconst 0, 1) := by decide +kernel
theorem dL_law_628 : decode cL_law 628 = .ok (.ireturn, 1) := by decide +kernel
theorem dL_law_629 : decode cL_law 629 = .ok (.aload_n 1, 1) := by decide +kernel
theorem dL_law_630 : decode cL_law 630 = .ok (.aload_n 0, 1) := by decide +kernel
theorem dL_law_631 : decode cL_law 631 = .ok (.iload_n 3, 1) := by decide +kernel
theorem dL_law_632 : decode cL_law 632 = .ok (.iconst 1, 1) := by decide +kernel
theorem dL_law_633 : decode cL_law 633 = .ok (.iadd, 1) := by decide +kernel
theorem dL_law_634 : decode cL_law 634 = .ok (.iaload, 1) := by decide +kernel
theorem dL_law_635 : decode cL_law 635 = .ok (.invokevirtual 62, 3) := by decide +kernel
theorem dL_law_638 : decode cL_law 638 = .ok (.aload_n 2, 1) := by decide +kernel
theorem dL_law_639 : decode cL_law 639 = .ok (.aload_n 0, 1) := by decide +kernel
theorem dL_law_640 : decode cL_law 640 = .ok (.iload_n 3, 1) := by decide +kernel
theorem dL_law_641 : decode cL_law 641 = .ok (.iconst 1, 1) := by decide +kernel
theorem dL_law_642 : decode cL_law 642 = .ok (.iadd, 1) := by decide +kernel
theorem dL_law_643 : decode cL_law 643 = .ok (.iaload, 1) := by decide +kernel
theorem dL_law_644 : decode cL_law 644 = .ok (.invokevirtual 66, 3) := by decide +kernel
theorem dL_law_647 : decode cL_law 647 = .ok (.if_icmp .eq 649, 3) := by decide +kernel
theorem dL_law_650 : decode cL_law 650 = .ok (.iconst 0, 1) := by decide +kernel
theorem dL_law_651 : decode cL_law 651 = .ok (.ireturn, 1) := by decide +kernel
theorem dL_law_652 : decode cL_law 652 = .ok (.aload_n 1, 1) := by decide +kernel
theorem dL_law_653 : decode cL_law 653 = .ok (.aload_n 0, 1) := by decide +kernel
theorem dL_law_654 : decode cL_law 654 = .ok (.iload_n 3, 1) := by decide +kernel
theorem dL_law_655 : decode cL_law 655 = .ok (.iconst 1, 1) := by decide +kernel
theorem dL_law_656 : decode cL_law 656 = .ok (.iadd, 1) := by decide +kernel
theorem dL_law_657 : decode cL_law 657 = .ok (.iaload, 1) := by decide +kernel
theorem dL_law_658 : decode cL_law 658 = .ok (.invokevirtual 67, 3) := by decide +kernel
theorem dL_law_661 : decode cL_law 661 = .ok (.aload_n 2, 1) := by decide +kernel
theorem dL_law_662 : decode cL_law 662 = .ok (.aload_n 0, 1) := by decide +kernel
theorem dL_law_663 : decode cL_law 663 = .ok (.iload_n 3, 1) := by decide +kernel
theorem dL_law_664 : decode cL_law 664 = .ok (.iconst 1, 1) := by decide +kernel
theorem dL_law_665 : decode cL_law 665 = .ok (.iadd, 1) := by decide +kernel
theorem dL_law_666 : decode cL_law 666 = .ok (.iaload, 1) := by decide +kernel
theorem dL_law_667 : decode cL_law 667 = .ok (.invokevirtual 70, 3) := by decide +kernel
theorem dL_law_670 : decode cL_law 670 = .ok (.if_icmp .eq 626, 3) := by decide +kernel
theorem dL_law_673 : decode cL_law 673 = .ok (.iconst 0, 1) := by decide +kernel
theorem dL_law_674 : decode cL_law 674 = .ok (.ireturn, 1) := by decide +kernel
theorem dL_law_675 : decode cL_law 675 = .ok (.aload_n 1, 1) := by decide +kernel
theorem dL_law_676 : decode cL_law 676 = .ok (.aload_n 0, 1) := by decide +kernel
theorem dL_law_677 : decode cL_law 677 = .ok (.iload_n 3, 1) := by decide +kernel
theorem dL_law_678 : decode cL_law 678 = .ok (.iconst 1, 1) := by decide +kernel
theorem dL_law_679 : decode cL_law 679 = .ok (.iadd, 1) := by decide +kernel
theorem dL_law_680 : decode cL_law 680 = .ok (.iaload, 1) := by decide +kernel
theorem dL_law_681 : decode cL_law 681 = .ok (.aload_n 0, 1) := by decide +kernel
theorem dL_law_682 : decode cL_law 682 = .ok (.iload_n 3, 1) := by decide +kernel
theorem dL_law_683 : decode cL_law 683 = .ok (.iconst 2, 1) := by decide +kernel
theorem dL_law_684 : decode cL_law 684 = .ok (.iadd, 1) := by decide +kernel
theorem dL_law_685 : decode cL_law 685 = .ok (.iaload, 1) := by decide +kernel
theorem dL_law_686 : decode cL_law 686 = .ok (.aload_n 0, 1) := by decide +kernel
theorem dL_law_687 : decode cL_law 687 = .ok (.iload_n 3, 1) := by decide +kernel
theorem dL_law_688 : decode cL_law 688 = .ok (.iconst 3, 1) := by decide +kernel
theorem dL_law_689 : decode cL_law 689 = .ok (.iadd, 1) := by decide +kernel
theorem dL_law_690 : decode cL_law 690 = .ok (.iaload, 1) := by decide +kernel
theorem dL_law_691 : decode cL_law 691 = .ok (.aload_n 0, 1) := by decide +kernel
theorem dL_law_692 : decode cL_law 692 = .ok (.iload_n 3, 1) := by decide +kernel
theorem dL_law_693 : decode cL_law 693 = .ok (.iconst 4, 1) := by decide +kernel
theorem dL_law_694 : decode cL_law 694 = .ok (.iadd, 1) := by decide +kernel
theorem dL_law_695 : decode cL_law 695 = .ok (.iaload, 1) := by decide +kernel
theorem dL_law_696 : decode cL_law 696 = .ok (.aload_n 0, 1) := by decide +kernel
theorem dL_law_697 : decode cL_law 697 = .ok (.iload_n 3, 1) := by decide +kernel
theorem dL_law_698 : decode cL_law 698 = .ok (.iconst 5, 1) := by decide +kernel
theorem dL_law_699 : decode cL_law 699 = .ok (.iadd, 1) := by decide +kernel
theorem dL_law_700 : decode cL_law 700 = .ok (.iaload, 1) := by decide +kernel
theorem dL_law_701 : decode cL_law 701 = .ok (.aload_n 0, 1) := by decide +kernel
theorem dL_law_702 : decode cL_law 702 = .ok (.iload_n 3, 1) := by decide +kernel
theorem dL_law_703 : decode cL_law 703 = .ok (.bipush 6, 2) := by decide +kernel
theorem dL_law_705 : decode cL_law 705 = .ok (.iadd, 1) := by decide +kernel
theorem dL_law_706 : decode cL_law 706 = .ok (.iaload, 1) := by decide +kernel
theorem dL_law_707 : decode cL_law 707 = .ok (.invokevirtual 71, 3) := by decide +kernel
theorem dL_law_710 : decode cL_law 710 = .ok (.aload_n 2, 1) := by decide +kernel
theorem dL_law_711 : decode cL_law 711 = .ok (.aload_n 0, 1) := by decide +kernel
theorem dL_law_712 : decode cL_law 712 = .ok (.iload_n 3, 1) := by decide +kernel
theorem dL_law_713 : decode cL_law 713 = .ok (.iconst 1, 1) := by decide +kernel
theorem dL_law_714 : decode cL_law 714 = .ok (.iadd, 1) := by decide +kernel
theorem dL_law_715 : decode cL_law 715 = .ok (.iaload, 1) := by decide +kernel
theorem dL_law_716 : decode cL_law 716 = .ok (.aload_n 0, 1) := by decide +kernel
theorem dL_law_717 : decode cL_law 717 = .ok (.iload_n 3, 1) := by decide +kernel
theorem dL_law_718 : decode cL_law 718 = .ok (.iconst 2, 1) := by decide +kernel
theorem dL_law_719 : decode cL_law 719 = .ok (.iadd, 1) := by decide +kernel
theorem dL_law_720 : decode cL_law 720 = .ok (.iaload, 1) := by decide +kernel
theorem dL_law_721 : decode cL_law 721 = .ok (.aload_n 0, 1) := by decide +kernel
theorem dL_law_722 : decode cL_law 722 = .ok (.iload_n 3, 1) := by decide +kernel
theorem dL_law_723 : decode cL_law 723 = .ok (.iconst 3, 1) := by decide +kernel
theorem dL_law_724 : decode cL_law 724 = .ok (.iadd, 1) := by decide +kernel
theorem dL_law_725 : decode cL_law 725 = .ok (.iaload, 1) := by decide +kernel
theorem dL_law_726 : decode cL_law 726 = .ok (.aload_n 0, 1) := by decide +kernel
theorem dL_law_727 : decode cL_law 727 = .ok (.iload_n 3, 1) := by decide +kernel
theorem dL_law_728 : decode cL_law 728 = .ok (.iconst 4, 1) := by decide +kernel
theorem dL_law_729 : decode cL_law 729 = .ok (.iadd, 1) := by decide +kernel
theorem dL_law_730 : decode cL_law 730 = .ok (.iaload, 1) := by decide +kernel
theorem dL_law_731 : decode cL_law 731 = .ok (.aload_n 0, 1) := by decide +kernel
theorem dL_law_732 : decode cL_law 732 = .ok (.iload_n 3, 1) := by decide +kernel
theorem dL_law_733 : decode cL_law 733 = .ok (.iconst 5, 1) := by decide +kernel
theorem dL_law_734 : decode cL_law 734 = .ok (.iadd, 1) := by decide +kernel
theorem dL_law_735 : decode cL_law 735 = .ok (.iaload, 1) := by decide +kernel
theorem dL_law_736 : decode cL_law 736 = .ok (.aload_n 0, 1) := by decide +kernel
theorem dL_law_737 : decode cL_law 737 = .ok (.iload_n 3, 1) := by decide +kernel
theorem dL_law_738 : decode cL_law 738 = .ok (.bipush 6, 2) := by decide +kernel
theorem dL_law_740 : decode cL_law 740 = .ok (.iadd, 1) := by decide +kernel
theorem dL_law_741 : decode cL_law 741 = .ok (.iaload, 1) := by decide +kernel
theorem dL_law_742 : decode cL_law 742 = .ok (.invokevirtual 75, 3) := by decide +kernel
theorem dL_law_745 : decode cL_law 745 = .ok (.lcmp, 1) := by decide +kernel
theorem dL_law_746 : decode cL_law 746 = .ok (.ifCond .eq 550, 3) := by decide +kernel
theorem dL_law_749 : decode cL_law 749 = .ok (.iconst 0, 1) := by decide +kernel
theorem dL_law_750 : decode cL_law 750 = .ok (.ireturn, 1) := by decide +kernel
theorem dL_law_751 : decode cL_law 751 = .ok (.aload_n 1, 1) := by decide +kernel
theorem dL_law_752 : decode cL_law 752 = .ok (.aload_n 0, 1) := by decide +kernel
theorem dL_law_753 : decode cL_law 753 = .ok (.iload_n 3, 1) := by decide +kernel
theorem dL_law_754 : decode cL_law 754 = .ok (.iconst 1, 1) := by decide +kernel
theorem dL_law_755 : decode cL_law 755 = .ok (.iadd, 1) := by decide +kernel
theorem dL_law_756 : decode cL_law 756 = .ok (.iaload, 1) := by decide +kernel
theorem dL_law_757 : decode cL_law 757 = .ok (.invokevirtual 76, 3) := by decide +kernel
theorem dL_law_760 : decode cL_law 760 = .ok (.aload_n 2, 1) := by decide +kernel
theorem dL_law_761 : decode cL_law 761 = .ok (.aload_n 0, 1) := by decide +kernel
theorem dL_law_762 : decode cL_law 762 = .ok (.iload_n 3, 1) := by decide +kernel
theorem dL_law_763 : decode cL_law 763 = .ok (.iconst 1, 1) := by decide +kernel
theorem dL_law_764 : decode cL_law 764 = .ok (.iadd, 1) := by decide +kernel
theorem dL_law_765 : decode cL_law 765 = .ok (.iaload, 1) := by decide +kernel
theorem dL_law_766 : decode cL_law 766 = .ok (.invokevirtual 79, 3) := by decide +kernel
theorem dL_law_769 : decode cL_law 769 = .ok (.if_icmp .eq 527, 3) := by decide +kernel
theorem dL_law_772 : decode cL_law 772 = .ok (.iconst 0, 1) := by decide +kernel
theorem dL_law_773 : decode cL_law 773 = .ok (.ireturn, 1) := by decide +kernel
theorem dL_law_774 : decode cL_law 774 = .ok (.aload_n 1, 1) := by decide +kernel
theorem dL_law_775 : decode cL_law 775 = .ok (.aload_n 0, 1) := by decide +kernel
theorem dL_law_776 : decode cL_law 776 = .ok (.iload_n 3, 1) := by decide +kernel
theorem dL_law_777 : decode cL_law 777 = .ok (.iconst 1, 1) := by decide +kernel
theorem dL_law_778 : decode cL_law 778 = .ok (.iadd, 1) := by decide +kernel
theorem dL_law_779 : decode cL_law 779 = .ok (.iaload, 1) := by decide +kernel
theorem dL_law_780 : decode cL_law 780 = .ok (.i2l, 1) := by decide +kernel
theorem dL_law_781 : decode cL_law 781 = .ok (.bipush 32, 2) := by decide +kernel
theorem dL_law_783 : decode cL_law 783 = .ok (.lshl, 1) := by decide +kernel
theorem dL_law_784 : decode cL_law 784 = .ok (.aload_n 0, 1) := by decide +kernel
theorem dL_law_785 : decode cL_law 785 = .ok (.iload_n 3, 1) := by decide +kernel
theorem dL_law_786 : decode cL_law 786 = .ok (.iconst 2, 1) := by decide +kernel
theorem dL_law_787 : decode cL_law 787 = .ok (.iadd, 1) := by decide +kernel
theorem dL_law_788 : decode cL_law 788 = .ok (.iaload, 1) := by decide +kernel
theorem dL_law_789 : decode cL_law 789 = .ok (.i2l, 1) := by decide +kernel
theorem dL_law_790 : decode cL_law 790 = .ok (.ldc2_w 80, 3) := by decide +kernel
theorem dL_law_793 : decode cL_law 793 = .ok (.land, 1) := by decide +kernel
theorem dL_law_794 : decode cL_law 794 = .ok (.lor, 1) := by decide +kernel
theorem dL_law_795 : decode cL_law 795 = .ok (.aload_n 0, 1) := by decide +kernel
theorem dL_law_796 : decode cL_law 796 = .ok (.iload_n 3, 1) := by decide +kernel
theorem dL_law_797 : decode cL_law 797 = .ok (.iconst 3, 1) := by decide +kernel
theorem dL_law_798 : decode cL_law 798 = .ok (.iadd, 1) := by decide +kernel
theorem dL_law_799 : decode cL_law 799 = .ok (.iaload, 1) := by decide +kernel
theorem dL_law_800 : decode cL_law 800 = .ok (.invokevirtual 82, 3) := by decide +kernel
theorem dL_law_803 : decode cL_law 803 = .ok (.aload_n 2, 1) := by decide +kernel
theorem dL_law_804 : decode cL_law 804 = .ok (.aload_n 0, 1) := by decide +kernel
theorem dL_law_805 : decode cL_law 805 = .ok (.iload_n 3, 1) := by decide +kernel
theorem dL_law_806 : decode cL_law 806 = .ok (.iconst 1, 1) := by decide +kernel
theorem dL_law_807 : decode cL_law 807 = .ok (.iadd, 1) := by decide +kernel
theorem dL_law_808 : decode cL_law 808 = .ok (.iaload, 1) := by decide +kernel
theorem dL_law_809 : decode cL_law 809 = .ok (.i2l, 1) := by decide +kernel
theorem dL_law_810 : decode cL_law 810 = .ok (.bipush 32, 2) := by decide +kernel
theorem dL_law_812 : decode cL_law 812 = .ok (.lshl, 1) := by decide +kernel
theorem dL_law_813 : decode cL_law 813 = .ok (.aload_n 0, 1) := by decide +kernel
theorem dL_law_814 : decode cL_law 814 = .ok (.iload_n 3, 1) := by decide +kernel
theorem dL_law_815 : decode cL_law 815 = .ok (.iconst 2, 1) := by decide +kernel
theorem dL_law_816 : decode cL_law 816 = .ok (.iadd, 1) := by decide +kernel
theorem dL_law_817 : decode cL_law 817 = .ok (.iaload, 1) := by decide +kernel
theorem dL_law_818 : decode cL_law 818 = .ok (.i2l, 1) := by decide +kernel
theorem dL_law_819 : decode cL_law 819 = .ok (.ldc2_w 80, 3) := by decide +kernel
theorem dL_law_822 : decode cL_law 822 = .ok (.land, 1) := by decide +kernel
theorem dL_law_823 : decode cL_law 823 = .ok (.lor, 1) := by decide +kernel
theorem dL_law_824 : decode cL_law 824 = .ok (.aload_n 0, 1) := by decide +kernel
theorem dL_law_825 : decode cL_law 825 = .ok (.iload_n 3, 1) := by decide +kernel
theorem dL_law_826 : decode cL_law 826 = .ok (.iconst 3, 1) := by decide +kernel
theorem dL_law_827 : decode cL_law 827 = .ok (.iadd, 1) := by decide +kernel
theorem dL_law_828 : decode cL_law 828 = .ok (.iaload, 1) := by decide +kernel
theorem dL_law_829 : decode cL_law 829 = .ok (.invokevirtual 86, 3) := by decide +kernel
theorem dL_law_832 : decode cL_law 832 = .ok (.if_icmp .eq 464, 3) := by decide +kernel
theorem dL_law_835 : decode cL_law 835 = .ok (.iconst 0, 1) := by decide +kernel
theorem dL_law_836 : decode cL_law 836 = .ok (.ireturn, 1) := by decide +kernel
theorem dL_law_837 : decode cL_law 837 = .ok (.aload_n 1, 1) := by decide +kernel
theorem dL_law_838 : decode cL_law 838 = .ok (.invokevirtual 87, 3) := by decide +kernel
theorem dL_law_841 : decode cL_law 841 = .ok (.aload_n 2, 1) := by decide +kernel
theorem dL_law_842 : decode cL_law 842 = .ok (.invokevirtual 90, 3) := by decide +kernel
theorem dL_law_845 : decode cL_law 845 = .ok (.if_icmp .eq 451, 3) := by decide +kernel
theorem dL_law_848 : decode cL_law 848 = .ok (.iconst 0, 1) := by decide +kernel
theorem dL_law_849 : decode cL_law 849 = .ok (.ireturn, 1) := by decide +kernel
theorem dL_law_850 : decode cL_law 850 = .ok (.aload_n 1, 1) := by decide +kernel
theorem dL_law_851 : decode cL_law 851 = .ok (.invokevirtual 91, 3) := by decide +kernel
theorem dL_law_854 : decode cL_law 854 = .ok (.aload_n 2, 1) := by decide +kernel
theorem dL_law_855 : decode cL_law 855 = .ok (.invokevirtual 94, 3) := by decide +kernel
theorem dL_law_858 : decode cL_law 858 = .ok (.if_icmp .eq 438, 3) := by decide +kernel
theorem dL_law_861 : decode cL_law 861 = .ok (.iconst 0, 1) := by decide +kernel
theorem dL_law_862 : decode cL_law 862 = .ok (.ireturn, 1) := by decide +kernel
theorem dL_law_863 : decode cL_law 863 = .ok (.aload_n 1, 1) := by decide +kernel
theorem dL_law_864 : decode cL_law 864 = .ok (.aload_n 0, 1) := by decide +kernel
theorem dL_law_865 : decode cL_law 865 = .ok (.iload_n 3, 1) := by decide +kernel
theorem dL_law_866 : decode cL_law 866 = .ok (.iconst 1, 1) := by decide +kernel
theorem dL_law_867 : decode cL_law 867 = .ok (.iadd, 1) := by decide +kernel
theorem dL_law_868 : decode cL_law 868 = .ok (.iaload, 1) := by decide +kernel
theorem dL_law_869 : decode cL_law 869 = .ok (.aload_n 0, 1) := by decide +kernel
theorem dL_law_870 : decode cL_law 870 = .ok (.iload_n 3, 1) := by decide +kernel
theorem dL_law_871 : decode cL_law 871 = .ok (.iconst 2, 1) := by decide +kernel
theorem dL_law_872 : decode cL_law 872 = .ok (.iadd, 1) := by decide +kernel
theorem dL_law_873 : decode cL_law 873 = .ok (.iaload, 1) := by decide +kernel
theorem dL_law_874 : decode cL_law 874 = .ok (.aload_n 0, 1) := by decide +kernel
theorem dL_law_875 : decode cL_law 875 = .ok (.iload_n 3, 1) := by decide +kernel
theorem dL_law_876 : decode cL_law 876 = .ok (.iconst 3, 1) := by decide +kernel
theorem dL_law_877 : decode cL_law 877 = .ok (.iadd, 1) := by decide +kernel
theorem dL_law_878 : decode cL_law 878 = .ok (.iaload, 1) := by decide +kernel
theorem dL_law_879 : decode cL_law 879 = .ok (.aload_n 0, 1) := by decide +kernel
theorem dL_law_880 : decode cL_law 880 = .ok (.iload_n 3, 1) := by decide +kernel
theorem dL_law_881 : decode cL_law 881 = .ok (.iconst 4, 1) := by decide +kernel
theorem dL_law_882 : decode cL_law 882 = .ok (.iadd, 1) := by decide +kernel
theorem dL_law_883 : decode cL_law 883 = .ok (.iaload, 1) := by decide +kernel
theorem dL_law_884 : decode cL_law 884 = .ok (.invokevirtual 95, 3) := by decide +kernel
theorem dL_law_887 : decode cL_law 887 = .ok (.aload_n 2, 1) := by decide +kernel
theorem dL_law_888 : decode cL_law 888 = .ok (.aload_n 0, 1) := by decide +kernel
theorem dL_law_889 : decode cL_law 889 = .ok (.iload_n 3, 1) := by decide +kernel
theorem dL_law_890 : decode cL_law 890 = .ok (.iconst 1, 1) := by decide +kernel
theorem dL_law_891 : decode cL_law 891 = .ok (.iadd, 1) := by decide +kernel
theorem dL_law_892 : decode cL_law 892 = .ok (.iaload, 1) := by decide +kernel
theorem dL_law_893 : decode cL_law 893 = .ok (.aload_n 0, 1) := by decide +kernel
theorem dL_law_894 : decode cL_law 894 = .ok (.iload_n 3, 1) := by decide +kernel
theorem dL_law_895 : decode cL_law 895 = .ok (.iconst 2, 1) := by decide +kernel
theorem dL_law_896 : decode cL_law 896 = .ok (.iadd, 1) := by decide +kernel
theorem dL_law_897 : decode cL_law 897 = .ok (.iaload, 1) := by decide +kernel
theorem dL_law_898 : decode cL_law 898 = .ok (.aload_n 0, 1) := by decide +kernel
theorem dL_law_899 : decode cL_law 899 = .ok (.iload_n 3, 1) := by decide +kernel
theorem dL_law_900 : decode cL_law 900 = .ok (.iconst 3, 1) := by decide +kernel
theorem dL_law_901 : decode cL_law 901 = .ok (.iadd, 1) := by decide +kernel
theorem dL_law_902 : decode cL_law 902 = .ok (.iaload, 1) := by decide +kernel
theorem dL_law_903 : decode cL_law 903 = .ok (.aload_n 0, 1) := by decide +kernel
theorem dL_law_904 : decode cL_law 904 = .ok (.iload_n 3, 1) := by decide +kernel
theorem dL_law_905 : decode cL_law 905 = .ok (.iconst 4, 1) := by decide +kernel
theorem dL_law_906 : decode cL_law 906 = .ok (.iadd, 1) := by decide +kernel
theorem dL_law_907 : decode cL_law 907 = .ok (.iaload, 1) := by decide +kernel
theorem dL_law_908 : decode cL_law 908 = .ok (.invokevirtual 98, 3) := by decide +kernel
theorem dL_law_911 : decode cL_law 911 = .ok (.if_icmp .eq 385, 3) := by decide +kernel
theorem dL_law_914 : decode cL_law 914 = .ok (.iconst 0, 1) := by decide +kernel
theorem dL_law_915 : decode cL_law 915 = .ok (.ireturn, 1) := by decide +kernel
theorem dL_law_916 : decode cL_law 916 = .ok (.aload_n 1, 1) := by decide +kernel
theorem dL_law_917 : decode cL_law 917 = .ok (.invokevirtual 99, 3) := by decide +kernel
theorem dL_law_920 : decode cL_law 920 = .ok (.aload_n 2, 1) := by decide +kernel
theorem dL_law_921 : decode cL_law 921 = .ok (.invokevirtual 102, 3) := by decide +kernel
theorem dL_law_924 : decode cL_law 924 = .ok (.if_icmp .eq 372, 3) := by decide +kernel
theorem dL_law_927 : decode cL_law 927 = .ok (.iconst 0, 1) := by decide +kernel
theorem dL_law_928 : decode cL_law 928 = .ok (.ireturn, 1) := by decide +kernel
theorem dL_law_929 : decode cL_law 929 = .ok (.aload_n 1, 1) := by decide +kernel
theorem dL_law_930 : decode cL_law 930 = .ok (.aload_n 0, 1) := by decide +kernel
theorem dL_law_931 : decode cL_law 931 = .ok (.iload_n 3, 1) := by decide +kernel
theorem dL_law_932 : decode cL_law 932 = .ok (.iconst 1, 1) := by decide +kernel
theorem dL_law_933 : decode cL_law 933 = .ok (.iadd, 1) := by decide +kernel
theorem dL_law_934 : decode cL_law 934 = .ok (.iaload, 1) := by decide +kernel
theorem dL_law_935 : decode cL_law 935 = .ok (.aload_n 0, 1) := by decide +kernel
theorem dL_law_936 : decode cL_law 936 = .ok (.iload_n 3, 1) := by decide +kernel
theorem dL_law_937 : decode cL_law 937 = .ok (.iconst 2, 1) := by decide +kernel
theorem dL_law_938 : decode cL_law 938 = .ok (.iadd, 1) := by decide +kernel
theorem dL_law_939 : decode cL_law 939 = .ok (.iaload, 1) := by decide +kernel
theorem dL_law_940 : decode cL_law 940 = .ok (.invokevirtual 103, 3) := by decide +kernel
theorem dL_law_943 : decode cL_law 943 = .ok (.aload_n 2, 1) := by decide +kernel
theorem dL_law_944 : decode cL_law 944 = .ok (.aload_n 0, 1) := by decide +kernel
theorem dL_law_945 : decode cL_law 945 = .ok (.iload_n 3, 1) := by decide +kernel
theorem dL_law_946 : decode cL_law 946 = .ok (.iconst 1, 1) := by decide +kernel
theorem dL_law_947 : decode cL_law 947 = .ok (.iadd, 1) := by decide +kernel
theorem dL_law_948 : decode cL_law 948 = .ok (.iaload, 1) := by decide +kernel
theorem dL_law_949 : decode cL_law 949 = .ok (.aload_n 0, 1) := by decide +kernel
theorem dL_law_950 : decode cL_law 950 = .ok (.iload_n 3, 1) := by decide +kernel
theorem dL_law_951 : decode cL_law 951 = .ok (.iconst 2, 1) := by decide +kernel
theorem dL_law_952 : decode cL_law 952 = .ok (.iadd, 1) := by decide +kernel
theorem dL_law_953 : decode cL_law 953 = .ok (.iaload, 1) := by decide +kernel
theorem dL_law_954 : decode cL_law 954 = .ok (.invokevirtual 106, 3) := by decide +kernel
theorem dL_law_957 : decode cL_law 957 = .ok (.if_icmp .eq 339, 3) := by decide +kernel
theorem dL_law_960 : decode cL_law 960 = .ok (.iconst 0, 1) := by decide +kernel
theorem dL_law_961 : decode cL_law 961 = .ok (.ireturn, 1) := by decide +kernel
theorem dL_law_962 : decode cL_law 962 = .ok (.aload_n 1, 1) := by decide +kernel
theorem dL_law_963 : decode cL_law 963 = .ok (.aload_n 0, 1) := by decide +kernel
theorem dL_law_964 : decode cL_law 964 = .ok (.iload_n 3, 1) := by decide +kernel
theorem dL_law_965 : decode cL_law 965 = .ok (.iconst 1, 1) := by decide +kernel
theorem dL_law_966 : decode cL_law 966 = .ok (.iadd, 1) := by decide +kernel
theorem dL_law_967 : decode cL_law 967 = .ok (.iaload, 1) := by decide +kernel
theorem dL_law_968 : decode cL_law 968 = .ok (.aload_n 0, 1) := by decide +kernel
theorem dL_law_969 : decode cL_law 969 = .ok (.iload_n 3, 1) := by decide +kernel
theorem dL_law_970 : decode cL_law 970 = .ok (.iconst 2, 1) := by decide +kernel
theorem dL_law_971 : decode cL_law 971 = .ok (.iadd, 1) := by decide +kernel
theorem dL_law_972 : decode cL_law 972 = .ok (.iaload, 1) := by decide +kernel
theorem dL_law_973 : decode cL_law 973 = .ok (.aload_n 0, 1) := by decide +kernel
theorem dL_law_974 : decode cL_law 974 = .ok (.iload_n 3, 1) := by decide +kernel
theorem dL_law_975 : decode cL_law 975 = .ok (.iconst 3, 1) := by decide +kernel
theorem dL_law_976 : decode cL_law 976 = .ok (.iadd, 1) := by decide +kernel
theorem dL_law_977 : decode cL_law 977 = .ok (.iaload, 1) := by decide +kernel
theorem dL_law_978 : decode cL_law 978 = .ok (.invokevirtual 107, 3) := by decide +kernel
theorem dL_law_981 : decode cL_law 981 = .ok (.aload_n 2, 1) := by decide +kernel
theorem dL_law_982 : decode cL_law 982 = .ok (.aload_n 0, 1) := by decide +kernel
theorem dL_law_983 : decode cL_law 983 = .ok (.iload_n 3, 1) := by decide +kernel
theorem dL_law_984 : decode cL_law 984 = .ok (.iconst 1, 1) := by decide +kernel
theorem dL_law_985 : decode cL_law 985 = .ok (.iadd, 1) := by decide +kernel
theorem dL_law_986 : decode cL_law 986 = .ok (.iaload, 1) := by decide +kernel
theorem dL_law_987 : decode cL_law 987 = .ok (.aload_n 0, 1) := by decide +kernel
theorem dL_law_988 : decode cL_law 988 = .ok (.iload_n 3, 1) := by decide +kernel
theorem dL_law_989 : decode cL_law 989 = .ok (.iconst 2, 1) := by decide +kernel
theorem dL_law_990 : decode cL_law 990 = .ok (.iadd, 1) := by decide +kernel
theorem dL_law_991 : decode cL_law 991 = .ok (.iaload, 1) := by decide +kernel
theorem dL_law_992 : decode cL_law 992 = .ok (.aload_n 0, 1) := by decide +kernel
theorem dL_law_993 : decode cL_law 993 = .ok (.iload_n 3, 1) := by decide +kernel
theorem dL_law_994 : decode cL_law 994 = .ok (.iconst 3, 1) := by decide +kernel
theorem dL_law_995 : decode cL_law 995 = .ok (.iadd, 1) := by decide +kernel
theorem dL_law_996 : decode cL_law 996 = .ok (.iaload, 1) := by decide +kernel
theorem dL_law_997 : decode cL_law 997 = .ok (.invokevirtual 110, 3) := by decide +kernel
theorem dL_law_1000 : decode cL_law 1000 = .ok (.if_icmp .eq 296, 3) := by decide +kernel
theorem dL_law_1003 : decode cL_law 1003 = .ok (.iconst 0, 1) := by decide +kernel
theorem dL_law_1004 : decode cL_law 1004 = .ok (.ireturn, 1) := by decide +kernel
theorem dL_law_1005 : decode cL_law 1005 = .ok (.aload_n 1, 1) := by decide +kernel
theorem dL_law_1006 : decode cL_law 1006 = .ok (.aload_n 0, 1) := by decide +kernel
theorem dL_law_1007 : decode cL_law 1007 = .ok (.iload_n 3, 1) := by decide +kernel
theorem dL_law_1008 : decode cL_law 1008 = .ok (.iconst 1, 1) := by decide +kernel
theorem dL_law_1009 : decode cL_law 1009 = .ok (.iadd, 1) := by decide +kernel
theorem dL_law_1010 : decode cL_law 1010 = .ok (.iaload, 1) := by decide +kernel
theorem dL_law_1011 : decode cL_law 1011 = .ok (.aload_n 0, 1) := by decide +kernel
theorem dL_law_1012 : decode cL_law 1012 = .ok (.iload_n 3, 1) := by decide +kernel
theorem dL_law_1013 : decode cL_law 1013 = .ok (.iconst 2, 1) := by decide +kernel
theorem dL_law_1014 : decode cL_law 1014 = .ok (.iadd, 1) := by decide +kernel
theorem dL_law_1015 : decode cL_law 1015 = .ok (.iaload, 1) := by decide +kernel
theorem dL_law_1016 : decode cL_law 1016 = .ok (.aload_n 0, 1) := by decide +kernel
theorem dL_law_1017 : decode cL_law 1017 = .ok (.iload_n 3, 1) := by decide +kernel
theorem dL_law_1018 : decode cL_law 1018 = .ok (.iconst 3, 1) := by decide +kernel
theorem dL_law_1019 : decode cL_law 1019 = .ok (.iadd, 1) := by decide +kernel
theorem dL_law_1020 : decode cL_law 1020 = .ok (.iaload, 1) := by decide +kernel
theorem dL_law_1021 : decode cL_law 1021 = .ok (.invokevirtual 111, 3) := by decide +kernel
theorem dL_law_1024 : decode cL_law 1024 = .ok (.aload_n 2, 1) := by decide +kernel
theorem dL_law_1025 : decode cL_law 1025 = .ok (.aload_n 0, 1) := by decide +kernel
theorem dL_law_1026 : decode cL_law 1026 = .ok (.iload_n 3, 1) := by decide +kernel
theorem dL_law_1027 : decode cL_law 1027 = .ok (.iconst 1, 1) := by decide +kernel
theorem dL_law_1028 : decode cL_law 1028 = .ok (.iadd, 1) := by decide +kernel
theorem dL_law_1029 : decode cL_law 1029 = .ok (.iaload, 1) := by decide +kernel
theorem dL_law_1030 : decode cL_law 1030 = .ok (.aload_n 0, 1) := by decide +kernel
theorem dL_law_1031 : decode cL_law 1031 = .ok (.iload_n 3, 1) := by decide +kernel
theorem dL_law_1032 : decode cL_law 1032 = .ok (.iconst 2, 1) := by decide +kernel
theorem dL_law_1033 : decode cL_law 1033 = .ok (.iadd, 1) := by decide +kernel
theorem dL_law_1034 : decode cL_law 1034 = .ok (.iaload, 1) := by decide +kernel
theorem dL_law_1035 : decode cL_law 1035 = .ok (.aload_n 0, 1) := by decide +kernel
theorem dL_law_1036 : decode cL_law 1036 = .ok (.iload_n 3, 1) := by decide +kernel
theorem dL_law_1037 : decode cL_law 1037 = .ok (.iconst 3, 1) := by decide +kernel
theorem dL_law_1038 : decode cL_law 1038 = .ok (.iadd, 1) := by decide +kernel
theorem dL_law_1039 : decode cL_law 1039 = .ok (.iaload, 1) := by decide +kernel
theorem dL_law_1040 : decode cL_law 1040 = .ok (.invokevirtual 114, 3) := by decide +kernel
theorem dL_law_1043 : decode cL_law 1043 = .ok (.if_icmp .eq 253, 3) := by decide +kernel
theorem dL_law_1046 : decode cL_law 1046 = .ok (.iconst 0, 1) := by decide +kernel
theorem dL_law_1047 : decode cL_law 1047 = .ok (.ireturn, 1) := by decide +kernel
theorem dL_law_1048 : decode cL_law 1048 = .ok (.aload_n 1, 1) := by decide +kernel
theorem dL_law_1049 : decode cL_law 1049 = .ok (.aload_n 0, 1) := by decide +kernel
theorem dL_law_1050 : decode cL_law 1050 = .ok (.iload_n 3, 1) := by decide +kernel
theorem dL_law_1051 : decode cL_law 1051 = .ok (.iconst 1, 1) := by decide +kernel
theorem dL_law_1052 : decode cL_law 1052 = .ok (.iadd, 1) := by decide +kernel
theorem dL_law_1053 : decode cL_law 1053 = .ok (.iaload, 1) := by decide +kernel
theorem dL_law_1054 : decode cL_law 1054 = .ok (.aload_n 0, 1) := by decide +kernel
theorem dL_law_1055 : decode cL_law 1055 = .ok (.iload_n 3, 1) := by decide +kernel
theorem dL_law_1056 : decode cL_law 1056 = .ok (.iconst 2, 1) := by decide +kernel
theorem dL_law_1057 : decode cL_law 1057 = .ok (.iadd, 1) := by decide +kernel
theorem dL_law_1058 : decode cL_law 1058 = .ok (.iaload, 1) := by decide +kernel
theorem dL_law_1059 : decode cL_law 1059 = .ok (.aload_n 0, 1) := by decide +kernel
theorem dL_law_1060 : decode cL_law 1060 = .ok (.iload_n 3, 1) := by decide +kernel
theorem dL_law_1061 : decode cL_law 1061 = .ok (.iconst 3, 1) := by decide +kernel
theorem dL_law_1062 : decode cL_law 1062 = .ok (.iadd, 1) := by decide +kernel
theorem dL_law_1063 : decode cL_law 1063 = .ok (.iaload, 1) := by decide +kernel
theorem dL_law_1064 : decode cL_law 1064 = .ok (.invokevirtual 115, 3) := by decide +kernel
theorem dL_law_1067 : decode cL_law 1067 = .ok (.aload_n 2, 1) := by decide +kernel
theorem dL_law_1068 : decode cL_law 1068 = .ok (.aload_n 0, 1) := by decide +kernel
theorem dL_law_1069 : decode cL_law 1069 = .ok (.iload_n 3, 1) := by decide +kernel
theorem dL_law_1070 : decode cL_law 1070 = .ok (.iconst 1, 1) := by decide +kernel
theorem dL_law_1071 : decode cL_law 1071 = .ok (.iadd, 1) := by decide +kernel
theorem dL_law_1072 : decode cL_law 1072 = .ok (.iaload, 1) := by decide +kernel
theorem dL_law_1073 : decode cL_law 1073 = .ok (.aload_n 0, 1) := by decide +kernel
theorem dL_law_1074 : decode cL_law 1074 = .ok (.iload_n 3, 1) := by decide +kernel
theorem dL_law_1075 : decode cL_law 1075 = .ok (.iconst 2, 1) := by decide +kernel
theorem dL_law_1076 : decode cL_law 1076 = .ok (.iadd, 1) := by decide +kernel
theorem dL_law_1077 : decode cL_law 1077 = .ok (.iaload, 1) := by decide +kernel
theorem dL_law_1078 : decode cL_law 1078 = .ok (.aload_n 0, 1) := by decide +kernel
theorem dL_law_1079 : decode cL_law 1079 = .ok (.iload_n 3, 1) := by decide +kernel
theorem dL_law_1080 : decode cL_law 1080 = .ok (.iconst 3, 1) := by decide +kernel
theorem dL_law_1081 : decode cL_law 1081 = .ok (.iadd, 1) := by decide +kernel
theorem dL_law_1082 : decode cL_law 1082 = .ok (.iaload, 1) := by decide +kernel
theorem dL_law_1083 : decode cL_law 1083 = .ok (.invokevirtual 118, 3) := by decide +kernel
theorem dL_law_1086 : decode cL_law 1086 = .ok (.if_icmp .eq 210, 3) := by decide +kernel
theorem dL_law_1089 : decode cL_law 1089 = .ok (.iconst 0, 1) := by decide +kernel
theorem dL_law_1090 : decode cL_law 1090 = .ok (.ireturn, 1) := by decide +kernel
theorem dL_law_1091 : decode cL_law 1091 = .ok (.aload_n 1, 1) := by decide +kernel
theorem dL_law_1092 : decode cL_law 1092 = .ok (.aload_n 0, 1) := by decide +kernel
theorem dL_law_1093 : decode cL_law 1093 = .ok (.iload_n 3, 1) := by decide +kernel
theorem dL_law_1094 : decode cL_law 1094 = .ok (.iconst 1, 1) := by decide +kernel
theorem dL_law_1095 : decode cL_law 1095 = .ok (.iadd, 1) := by decide +kernel
theorem dL_law_1096 : decode cL_law 1096 = .ok (.iaload, 1) := by decide +kernel
theorem dL_law_1097 : decode cL_law 1097 = .ok (.aload_n 0, 1) := by decide +kernel
theorem dL_law_1098 : decode cL_law 1098 = .ok (.iload_n 3, 1) := by decide +kernel
theorem dL_law_1099 : decode cL_law 1099 = .ok (.iconst 2, 1) := by decide +kernel
theorem dL_law_1100 : decode cL_law 1100 = .ok (.iadd, 1) := by decide +kernel
theorem dL_law_1101 : decode cL_law 1101 = .ok (.iaload, 1) := by decide +kernel
theorem dL_law_1102 : decode cL_law 1102 = .ok (.invokevirtual 119, 3) := by decide +kernel
theorem dL_law_1105 : decode cL_law 1105 = .ok (.aload_n 2, 1) := by decide +kernel
theorem dL_law_1106 : decode cL_law 1106 = .ok (.aload_n 0, 1) := by decide +kernel
theorem dL_law_1107 : decode cL_law 1107 = .ok (.iload_n 3, 1) := by decide +kernel
theorem dL_law_1108 : decode cL_law 1108 = .ok (.iconst 1, 1) := by decide +kernel
theorem dL_law_1109 : decode cL_law 1109 = .ok (.iadd, 1) := by decide +kernel
theorem dL_law_1110 : decode cL_law 1110 = .ok (.iaload, 1) := by decide +kernel
theorem dL_law_1111 : decode cL_law 1111 = .ok (.aload_n 0, 1) := by decide +kernel
theorem dL_law_1112 : decode cL_law 1112 = .ok (.iload_n 3, 1) := by decide +kernel
theorem dL_law_1113 : decode cL_law 1113 = .ok (.iconst 2, 1) := by decide +kernel
theorem dL_law_1114 : decode cL_law 1114 = .ok (.iadd, 1) := by decide +kernel
theorem dL_law_1115 : decode cL_law 1115 = .ok (.iaload, 1) := by decide +kernel
theorem dL_law_1116 : decode cL_law 1116 = .ok (.invokevirtual 122, 3) := by decide +kernel
theorem dL_law_1119 : decode cL_law 1119 = .ok (.if_icmp .eq 177, 3) := by decide +kernel
theorem dL_law_1122 : decode cL_law 1122 = .ok (.iconst 0, 1) := by decide +kernel
theorem dL_law_1123 : decode cL_law 1123 = .ok (.ireturn, 1) := by decide +kernel
theorem dL_law_1124 : decode cL_law 1124 = .ok (.aload_n 1, 1) := by decide +kernel
theorem dL_law_1125 : decode cL_law 1125 = .ok (.invokevirtual 123, 3) := by decide +kernel
theorem dL_law_1128 : decode cL_law 1128 = .ok (.aload_n 2, 1) := by decide +kernel
theorem dL_law_1129 : decode cL_law 1129 = .ok (.invokevirtual 126, 3) := by decide +kernel
theorem dL_law_1132 : decode cL_law 1132 = .ok (.if_icmp .eq 164, 3) := by decide +kernel
theorem dL_law_1135 : decode cL_law 1135 = .ok (.iconst 0, 1) := by decide +kernel
theorem dL_law_1136 : decode cL_law 1136 = .ok (.ireturn, 1) := by decide +kernel
theorem dL_law_1137 : decode cL_law 1137 = .ok (.aload_n 1, 1) := by decide +kernel
theorem dL_law_1138 : decode cL_law 1138 = .ok (.aload_n 0, 1) := by decide +kernel
theorem dL_law_1139 : decode cL_law 1139 = .ok (.iload_n 3, 1) := by decide +kernel
theorem dL_law_1140 : decode cL_law 1140 = .ok (.iconst 1, 1) := by decide +kernel
theorem dL_law_1141 : decode cL_law 1141 = .ok (.iadd, 1) := by decide +kernel
theorem dL_law_1142 : decode cL_law 1142 = .ok (.iaload, 1) := by decide +kernel
theorem dL_law_1143 : decode cL_law 1143 = .ok (.aload_n 0, 1) := by decide +kernel
theorem dL_law_1144 : decode cL_law 1144 = .ok (.iload_n 3, 1) := by decide +kernel
theorem dL_law_1145 : decode cL_law 1145 = .ok (.iconst 2, 1) := by decide +kernel
theorem dL_law_1146 : decode cL_law 1146 = .ok (.iadd, 1) := by decide +kernel
theorem dL_law_1147 : decode cL_law 1147 = .ok (.iaload, 1) := by decide +kernel
theorem dL_law_1148 : decode cL_law 1148 = .ok (.aload_n 0, 1) := by decide +kernel
theorem dL_law_1149 : decode cL_law 1149 = .ok (.iload_n 3, 1) := by decide +kernel
theorem dL_law_1150 : decode cL_law 1150 = .ok (.iconst 3, 1) := by decide +kernel
theorem dL_law_1151 : decode cL_law 1151 = .ok (.iadd, 1) := by decide +kernel
theorem dL_law_1152 : decode cL_law 1152 = .ok (.iaload, 1) := by decide +kernel
theorem dL_law_1153 : decode cL_law 1153 = .ok (.invokevirtual 127, 3) := by decide +kernel
theorem dL_law_1156 : decode cL_law 1156 = .ok (.aload_n 2, 1) := by decide +kernel
theorem dL_law_1157 : decode cL_law 1157 = .ok (.aload_n 0, 1) := by decide +kernel
theorem dL_law_1158 : decode cL_law 1158 = .ok (.iload_n 3, 1) := by decide +kernel
theorem dL_law_1159 : decode cL_law 1159 = .ok (.iconst 1, 1) := by decide +kernel
theorem dL_law_1160 : decode cL_law 1160 = .ok (.iadd, 1) := by decide +kernel
theorem dL_law_1161 : decode cL_law 1161 = .ok (.iaload, 1) := by decide +kernel
theorem dL_law_1162 : decode cL_law 1162 = .ok (.aload_n 0, 1) := by decide +kernel
theorem dL_law_1163 : decode cL_law 1163 = .ok (.iload_n 3, 1) := by decide +kernel
theorem dL_law_1164 : decode cL_law 1164 = .ok (.iconst 2, 1) := by decide +kernel
theorem dL_law_1165 : decode cL_law 1165 = .ok (.iadd, 1) := by decide +kernel
theorem dL_law_1166 : decode cL_law 1166 = .ok (.iaload, 1) := by decide +kernel
theorem dL_law_1167 : decode cL_law 1167 = .ok (.aload_n 0, 1) := by decide +kernel
theorem dL_law_1168 : decode cL_law 1168 = .ok (.iload_n 3, 1) := by decide +kernel
theorem dL_law_1169 : decode cL_law 1169 = .ok (.iconst 3, 1) := by decide +kernel
theorem dL_law_1170 : decode cL_law 1170 = .ok (.iadd, 1) := by decide +kernel
theorem dL_law_1171 : decode cL_law 1171 = .ok (.iaload, 1) := by decide +kernel
theorem dL_law_1172 : decode cL_law 1172 = .ok (.invokevirtual 130, 3) := by decide +kernel
theorem dL_law_1175 : decode cL_law 1175 = .ok (.if_icmp .eq 121, 3) := by decide +kernel
theorem dL_law_1178 : decode cL_law 1178 = .ok (.iconst 0, 1) := by decide +kernel
theorem dL_law_1179 : decode cL_law 1179 = .ok (.ireturn, 1) := by decide +kernel
theorem dL_law_1180 : decode cL_law 1180 = .ok (.aload_n 1, 1) := by decide +kernel
theorem dL_law_1181 : decode cL_law 1181 = .ok (.aload_n 0, 1) := by decide +kernel
theorem dL_law_1182 : decode cL_law 1182 = .ok (.iload_n 3, 1) := by decide +kernel
theorem dL_law_1183 : decode cL_law 1183 = .ok (.iconst 1, 1) := by decide +kernel
theorem dL_law_1184 : decode cL_law 1184 = .ok (.iadd, 1) := by decide +kernel
theorem dL_law_1185 : decode cL_law 1185 = .ok (.iaload, 1) := by decide +kernel
theorem dL_law_1186 : decode cL_law 1186 = .ok (.aload_n 0, 1) := by decide +kernel
theorem dL_law_1187 : decode cL_law 1187 = .ok (.iload_n 3, 1) := by decide +kernel
theorem dL_law_1188 : decode cL_law 1188 = .ok (.iconst 2, 1) := by decide +kernel
theorem dL_law_1189 : decode cL_law 1189 = .ok (.iadd, 1) := by decide +kernel
theorem dL_law_1190 : decode cL_law 1190 = .ok (.iaload, 1) := by decide +kernel
theorem dL_law_1191 : decode cL_law 1191 = .ok (.invokevirtual 131, 3) := by decide +kernel
theorem dL_law_1194 : decode cL_law 1194 = .ok (.aload_n 2, 1) := by decide +kernel
theorem dL_law_1195 : decode cL_law 1195 = .ok (.aload_n 0, 1) := by decide +kernel
theorem dL_law_1196 : decode cL_law 1196 = .ok (.iload_n 3, 1) := by decide +kernel
theorem dL_law_1197 : decode cL_law 1197 = .ok (.iconst 1, 1) := by decide +kernel
theorem dL_law_1198 : decode cL_law 1198 = .ok (.iadd, 1) := by decide +kernel
theorem dL_law_1199 : decode cL_law 1199 = .ok (.iaload, 1) := by decide +kernel
theorem dL_law_1200 : decode cL_law 1200 = .ok (.aload_n 0, 1) := by decide +kernel
theorem dL_law_1201 : decode cL_law 1201 = .ok (.iload_n 3, 1) := by decide +kernel
theorem dL_law_1202 : decode cL_law 1202 = .ok (.iconst 2, 1) := by decide +kernel
theorem dL_law_1203 : decode cL_law 1203 = .ok (.iadd, 1) := by decide +kernel
theorem dL_law_1204 : decode cL_law 1204 = .ok (.iaload, 1) := by decide +kernel
theorem dL_law_1205 : decode cL_law 1205 = .ok (.invokevirtual 134, 3) := by decide +kernel
theorem dL_law_1208 : decode cL_law 1208 = .ok (.if_icmp .eq 88, 3) := by decide +kernel
theorem dL_law_1211 : decode cL_law 1211 = .ok (.iconst 0, 1) := by decide +kernel
theorem dL_law_1212 : decode cL_law 1212 = .ok (.ireturn, 1) := by decide +kernel
theorem dL_law_1213 : decode cL_law 1213 = .ok (.aload_n 1, 1) := by decide +kernel
theorem dL_law_1214 : decode cL_law 1214 = .ok (.invokevirtual 135, 3) := by decide +kernel
theorem dL_law_1217 : decode cL_law 1217 = .ok (.aload_n 2, 1) := by decide +kernel
theorem dL_law_1218 : decode cL_law 1218 = .ok (.invokevirtual 138, 3) := by decide +kernel
theorem dL_law_1221 : decode cL_law 1221 = .ok (.if_icmp .eq 75, 3) := by decide +kernel
theorem dL_law_1224 : decode cL_law 1224 = .ok (.iconst 0, 1) := by decide +kernel
theorem dL_law_1225 : decode cL_law 1225 = .ok (.ireturn, 1) := by decide +kernel
theorem dL_law_1226 : decode cL_law 1226 = .ok (.aload_n 1, 1) := by decide +kernel
theorem dL_law_1227 : decode cL_law 1227 = .ok (.aload_n 0, 1) := by decide +kernel
theorem dL_law_1228 : decode cL_law 1228 = .ok (.iload_n 3, 1) := by decide +kernel
theorem dL_law_1229 : decode cL_law 1229 = .ok (.iconst 1, 1) := by decide +kernel
theorem dL_law_1230 : decode cL_law 1230 = .ok (.iadd, 1) := by decide +kernel
theorem dL_law_1231 : decode cL_law 1231 = .ok (.iaload, 1) := by decide +kernel
theorem dL_law_1232 : decode cL_law 1232 = .ok (.aload_n 0, 1) := by decide +kernel
theorem dL_law_1233 : decode cL_law 1233 = .ok (.iload_n 3, 1) := by decide +kernel
theorem dL_law_1234 : decode cL_law 1234 = .ok (.iconst 2, 1) := by decide +kernel
theorem dL_law_1235 : decode cL_law 1235 = .ok (.iadd, 1) := by decide +kernel
theorem dL_law_1236 : decode cL_law 1236 = .ok (.iaload, 1) := by decide +kernel
theorem dL_law_1237 : decode cL_law 1237 = .ok (.invokevirtual 139, 3) := by decide +kernel
theorem dL_law_1240 : decode cL_law 1240 = .ok (.aload_n 2, 1) := by decide +kernel
theorem dL_law_1241 : decode cL_law 1241 = .ok (.aload_n 0, 1) := by decide +kernel
theorem dL_law_1242 : decode cL_law 1242 = .ok (.iload_n 3, 1) := by decide +kernel
theorem dL_law_1243 : decode cL_law 1243 = .ok (.iconst 1, 1) := by decide +kernel
theorem dL_law_1244 : decode cL_law 1244 = .ok (.iadd, 1) := by decide +kernel
theorem dL_law_1245 : decode cL_law 1245 = .ok (.iaload, 1) := by decide +kernel
theorem dL_law_1246 : decode cL_law 1246 = .ok (.aload_n 0, 1) := by decide +kernel
theorem dL_law_1247 : decode cL_law 1247 = .ok (.iload_n 3, 1) := by decide +kernel
theorem dL_law_1248 : decode cL_law 1248 = .ok (.iconst 2, 1) := by decide +kernel
theorem dL_law_1249 : decode cL_law 1249 = .ok (.iadd, 1) := by decide +kernel
theorem dL_law_1250 : decode cL_law 1250 = .ok (.iaload, 1) := by decide +kernel
theorem dL_law_1251 : decode cL_law 1251 = .ok (.invokevirtual 142, 3) := by decide +kernel
theorem dL_law_1254 : decode cL_law 1254 = .ok (.if_icmp .eq 42, 3) := by decide +kernel
theorem dL_law_1257 : decode cL_law 1257 = .ok (.iconst 0, 1) := by decide +kernel
theorem dL_law_1258 : decode cL_law 1258 = .ok (.ireturn, 1) := by decide +kernel
theorem dL_law_1259 : decode cL_law 1259 = .ok (.aload_n 1, 1) := by decide +kernel
theorem dL_law_1260 : decode cL_law 1260 = .ok (.aload_n 0, 1) := by decide +kernel
theorem dL_law_1261 : decode cL_law 1261 = .ok (.iload_n 3, 1) := by decide +kernel
theorem dL_law_1262 : decode cL_law 1262 = .ok (.iconst 1, 1) := by decide +kernel
theorem dL_law_1263 : decode cL_law 1263 = .ok (.iadd, 1) := by decide +kernel
theorem dL_law_1264 : decode cL_law 1264 = .ok (.iaload, 1) := by decide +kernel
theorem dL_law_1265 : decode cL_law 1265 = .ok (.invokevirtual 143, 3) := by decide +kernel
theorem dL_law_1268 : decode cL_law 1268 = .ok (.aload_n 2, 1) := by decide +kernel
theorem dL_law_1269 : decode cL_law 1269 = .ok (.aload_n 0, 1) := by decide +kernel
theorem dL_law_1270 : decode cL_law 1270 = .ok (.iload_n 3, 1) := by decide +kernel
theorem dL_law_1271 : decode cL_law 1271 = .ok (.iconst 1, 1) := by decide +kernel
theorem dL_law_1272 : decode cL_law 1272 = .ok (.iadd, 1) := by decide +kernel
theorem dL_law_1273 : decode cL_law 1273 = .ok (.iaload, 1) := by decide +kernel
theorem dL_law_1274 : decode cL_law 1274 = .ok (.invokevirtual 146, 3) := by decide +kernel
theorem dL_law_1277 : decode cL_law 1277 = .ok (.if_icmp .eq 19, 3) := by decide +kernel
theorem dL_law_1280 : decode cL_law 1280 = .ok (.iconst 0, 1) := by decide +kernel
theorem dL_law_1281 : decode cL_law 1281 = .ok (.ireturn, 1) := by decide +kernel
theorem dL_law_1282 : decode cL_law 1282 = .ok (.aload_n 1, 1) := by decide +kernel
theorem dL_law_1283 : decode cL_law 1283 = .ok (.invokevirtual 147, 3) := by decide +kernel
theorem dL_law_1286 : decode cL_law 1286 = .ok (.aload_n 2, 1) := by decide +kernel
theorem dL_law_1287 : decode cL_law 1287 = .ok (.invokevirtual 151, 3) := by decide +kernel
theorem dL_law_1290 : decode cL_law 1290 = .ok (.lcmp, 1) := by decide +kernel
theorem dL_law_1291 : decode cL_law 1291 = .ok (.ifCond .eq 5, 3) := by decide +kernel
theorem dL_law_1294 : decode cL_law 1294 = .ok (.iconst 0, 1) := by decide +kernel
theorem dL_law_1295 : decode cL_law 1295 = .ok (.ireturn, 1) := by decide +kernel
theorem dL_law_1296 : decode cL_law 1296 = .ok (.iinc 3 7, 3) := by decide +kernel
theorem dL_law_1299 : decode cL_law 1299 = .ok (.goto (-1281), 3) := by decide +kernel
theorem dL_law_1302 : decode cL_law 1302 = .ok (.iconst 1, 1) := by decide +kernel
theorem dL_law_1303 : decode cL_law 1303 = .ok (.ireturn, 1) := by decide +kernel
end
section
/-! ===== THE ABSTRACT MACHINE: a fixed table of cells, a memory of numbers, and the judgement zR ===== -/
/-- a memory: the int at a place of a cell; the long of a cell -/
abbrev zMem : Type := (Nat → Nat → Int32) × (Nat → Int64)
def zwr (M : zMem) (q i : Nat) (v : Int32) : zMem := (fun c j => if c = q ∧ j = i then v else M.1 c j, M.2)
def zwl (M : zMem) (q : Nat) (v : Int64) : zMem := (M.1, fun c => if c = q then v else M.2 c)
def zcl (x : Int32) : Nat := x.toNatClampNeg
/-- what an int array holds at an int -/
def zrd (M : zMem) (q : Nat) (i : Int32) : Int32 := M.1 q (zcl i)
def zin (i : Int32) (n : Nat) : Bool := !decide (i < 0) && decide (i.toNatClampNeg < n)
def zguard {ρ : Type} (b : Bool) (F : Option ρ) : Option ρ := if b = true then F else none
def zlet {α ρ : Type} (e : α) (f : α → ρ) : ρ := f e
def zj {α ρ : Type} (e : α) (f : α → ρ) : ρ := f e
def zisb (x : Int32) : Bool := decide (x = 0) || decide (x = 1)
def zloop {σ ρ : Type} (f : (σ → Option ρ) → σ → Option ρ) : Nat → σ → Option ρ
  | 0, _ => none
  | n + 1, s => f (zloop f n) s
def zrow (q : Nat) (i : Int32) : Nat := q + 1 + zcl i
def zLO (j : Nat) : Int32 := ([0, -40, -40, 0, 0, 0] : List Int32).getD j 0
def zMO (j : Nat) : Int32 := ([2, 40, 40, 400, 900, 90] : List Int32).getD j 0
def zrem (x y : Int32) : Int32 := x - x / y * y
def zreml (x y : Int64) : Int64 := x - x / y * y
def zushr (x y : Int32) : Int32 := (x.toUInt32 >>> (y.toUInt32 &&& Int32.toUInt32 31)).toInt32
def zlushr (x : Int64) (y : Int32) : Int64 := (x.toUInt64 >>> (y.toInt64.toUInt64 &&& Int64.toUInt64 63)).toInt64
def zFuel : Nat := 1000000
/-- the cells: kind and length (or class) of each: 1 ints, 2 bytes, 3 booleans, 4 rows of ints, 5 an object -/
def zKL : List (Nat × Nat) := [(5, 7), (5, 2), (4, 8), (1, 6), (1, 6), (1, 6), (1, 6), (1, 6), (1, 6), (1, 6), (1, 6), (5, 4), (1, 8192), (1, 4096), (1, 4096), (5, 3), (1, 2601), (1, 2601), (1, 2401), (1, 2401), (5, 1), (3, 2401), (1, 2401), (5, 5), (1, 200), (4, 8), (1, 6), (1, 6), (1, 6), (1, 6), (1, 6), (1, 6), (1, 6), (1, 6), (5, 6), (4, 10), (1, 4), (1, 4), (1, 4), (1, 4), (1, 4), (1, 4), (1, 4), (1, 4), (1, 4), (1, 4), (4, 8), (1, 2), (1, 2), (1, 2), (1, 2), (1, 2), (1, 2), (1, 2), (1, 2), (1, 36), (4, 36), (1, 48), (1, 48), (1, 48), (1, 48), (1, 48), (1, 48), (1, 48), (1, 48), (1, 48), (1, 48), (1, 48), (1, 48), (1, 48), (1, 48), (1, 48), (1, 48), (1, 48), (1, 48), (1, 48), (1, 48), (1, 48), (1, 48), (1, 48), (1, 48), (1, 48), (1, 48), (1, 48), (1, 48), (1, 48), (1, 48), (1, 48), (1, 48), (1, 48), (1, 48), (1, 48), (1, 48), (1, 3), (1, 4096), (1, 4096), (5, 0), (1, 2401), (1, 2401), (1, 2401), (5, 8), (1, 96), (2, 200), (1, 40), (1, 8), (1, 8), (1, 2401), (1, 2601), (1, 2601), (3, 2401), (1, 2401), (1, 2401), (1, 2401), (1, 2401), (1, 4096), (1, 32768), (1, 32768), (1, 8192), (1, 4096)]
def zkd (q : Nat) : Nat × Nat := zKL.getD q (0, 0)
/-- the fields of an object: 0 an int, 1 a long, 2 a reference that stays, 3 one that moves -/
def zfl (q : Nat) : List (Nat × Nat) := if q = 0 then [(2, 1), (2, 15), (2, 20), (2, 11), (2, 23), (2, 34), (2, 96), (1, 0)] else if q = 1 then [(3, 0), (0, 0), (0, 0), (0, 0)] else if q = 11 then [(2, 12), (2, 13), (2, 14), (0, 0)] else if q = 15 then [(2, 1), (2, 16), (2, 17), (2, 18), (2, 19), (0, 0)] else if q = 20 then [(2, 21), (2, 22), (0, 0), (0, 0)] else if q = 23 then [(2, 24), (3, 0), (0, 0), (0, 0)] else if q = 34 then [(2, 1), (2, 11), (2, 35), (2, 46), (0, 0), (0, 0), (0, 0), (2, 55), (2, 56), (2, 93), (2, 94), (2, 95), (0, 0), (0, 0), (0, 0), (0, 0), (0, 0), (0, 0)] else if q = 96 then [(2, 15), (2, 11), (2, 97), (2, 98), (2, 99), (0, 0)] else if q = 100 then [(2, 101), (0, 0), (0, 0), (0, 0), (2, 102), (0, 0), (0, 0), (2, 103), (0, 0), (0, 0), (0, 0), (2, 104), (2, 105), (2, 106), (1, 0), (2, 107), (2, 108), (2, 109), (2, 110), (2, 111), (2, 112), (2, 113), (0, 0), (0, 0), (0, 0), (0, 0), (0, 0), (0, 0), (2, 114), (2, 115), (2, 116), (2, 117), (2, 118), (0, 0)] else []
def zNF : List (String × Nat × String × String × String × String) := [("LensBench", 88, "LensBench$Lens", "bodies", "[[I", "LensBench"), ("LensBench$Trials", 89, "LensBench$Lens", "bodies", "[[I", "LensBench"), ("LensBench", 68, "LensBench$Lens", "bodyCount", "I", "LensBench"), ("LensBench", 92, "LensBench$Lens", "g", "I", "LensBench"), ("LensBench", 95, "LensBench$Lens", "h", "I", "LensBench"), ("LensBench", 174, "LensBench$Tally", "keys", "[I", "LensBench"), ("LensBench", 171, "LensBench$Tally", "counts", "[I", "LensBench"), ("LensBench$Trials", 127, "LensBench$Tally", "counts", "[I", "LensBench"), ("LensBench$Brightness", 53, "LensBench$Tally", "distinct", "I", "LensBench"), ("LensBench$Trials", 122, "LensBench$Tally", "distinct", "I", "LensBench"), ("LensBench$Brightness", 39, "LensBench$Plane", "cellKeys", "[I", "LensBench"), ("LensBench", 161, "LensBench$Plane", "cellKeys", "[I", "LensBench"), ("LensBench", 281, "LensBench$Plane", "stale", "Z", "LensBench"), ("LensBench", 282, "LensBench$Groups", "waiting", "[Z", "LensBench"), ("LensBench", 130, "LensBench$Groups", "wantedFirst", "I", "LensBench"), ("LensBench", 139, "LensBench$Groups", "wantedSize", "I", "LensBench"), ("LensBench", 200, "LensBench$Text", "bodies", "[[I", "LensBench"), ("LensBench", 186, "LensBench$Text", "length", "I", "LensBench"), ("LensBench", 197, "LensBench$Text", "at", "I", "LensBench"), ("LensBench", 201, "LensBench$Trials", "pairCount", "I", "LensBench"), ("LensBench", 248, "LensBench$Trials", "spotCount", "I", "LensBench"), ("LensBench", 211, "LensBench$Trials", "slack", "I", "LensBench"), ("LensBench", 224, "LensBench$Trials", "modelCount", "I", "LensBench"), ("LensBench", 233, "LensBench$Trials", "fitCount", "I", "LensBench"), ("LensBench", 207, "LensBench$Trials", "stale", "Z", "LensBench"), ("LensBench", 257, "LensBench$Brightness", "told", "[I", "LensBench"), ("LensBench", 214, "LensBench$Brightness", "noise", "I", "LensBench"), ("LensBench$Lens", 20, "LensBench", "MOST_OF", "[I", "LensBench"), ("LensBench$Text", 35, "LensBench", "MOST_OF", "[I", "LensBench"), ("LensBench$Text", 46, "LensBench", "LEAST_OF", "[I", "LensBench")]
def zNM : List (String × Nat × MethodName × String) := [("LensBench", 11, ⟨"LensBench$Lens", "<init>", "()V"⟩, "LensBench"), ("LensBench", 14, ⟨"LensBench$Tally", "<init>", "()V"⟩, "LensBench"), ("LensBench", 17, ⟨"LensBench$Plane", "<init>", "(LLensBench$Lens;)V"⟩, "LensBench"), ("LensBench", 34, ⟨"LensBench$Groups", "<init>", "()V"⟩, "LensBench"), ("LensBench", 41, ⟨"LensBench$Text", "<init>", "()V"⟩, "LensBench"), ("LensBench", 48, ⟨"LensBench$Trials", "<init>", "(LLensBench$Lens;LLensBench$Tally;)V"⟩, "LensBench"), ("LensBench", 57, ⟨"LensBench$Brightness", "<init>", "(LLensBench$Plane;LLensBench$Tally;)V"⟩, "LensBench"), ("LensBench", 75, ⟨"LensBench$Lens", "add", "(IIII)I"⟩, "LensBench"), ("LensBench", 105, ⟨"LensBench$Lens", "askedBy", "(I)I"⟩, "LensBench"), ("LensBench", 109, ⟨"LensBench$Lens", "bendBy", "(I[IIIII)I"⟩, "LensBench"), ("LensBench", 113, ⟨"LensBench$Lens", "lightAt", "(III)I"⟩, "LensBench"), ("LensBench", 145, ⟨"LensBench$Plane", "lookAnew", "()V"⟩, "LensBench"), ("LensBench$Plane", 36, ⟨"LensBench$Lens", "lightAt", "(III)I"⟩, "LensBench"), ("LensBench$Plane", 42, ⟨"LensBench", "xOf", "(I)I"⟩, "LensBench"), ("LensBench$Plane", 46, ⟨"LensBench", "yOf", "(I)I"⟩, "LensBench"), ("LensBench$Plane", 49, ⟨"LensBench", "cellOf", "(I)I"⟩, "LensBench"), ("LensBench$Plane", 52, ⟨"LensBench", "keyOf", "(II)I"⟩, "LensBench"), ("LensBench", 127, ⟨"LensBench$Groups", "split", "(I)I"⟩, "LensBench"), ("LensBench", 142, ⟨"LensBench$Plane", "parityAt", "(II)I"⟩, "LensBench"), ("LensBench$Plane", 71, ⟨"LensBench", "pixelAt", "(II)I"⟩, "LensBench"), ("LensBench", 148, ⟨"LensBench$Plane", "isCritical", "(II)Z"⟩, "LensBench"), ("LensBench", 151, ⟨"LensBench$Plane", "countOfParity", "(I)I"⟩, "LensBench"), ("LensBench", 158, ⟨"LensBench$Tally", "start", "()V"⟩, "LensBench"), ("LensBench", 165, ⟨"LensBench$Tally", "numberOf", "(I)I"⟩, "LensBench"), ("LensBench", 168, ⟨"LensBench$Tally", "greatest", "()I"⟩, "LensBench"), ("LensBench", 179, ⟨"LensBench$Plane", "delayOnWay", "(IIIIII)J"⟩, "LensBench"), ("LensBench", 183, ⟨"LensBench$Plane", "stretchOf", "(I)I"⟩, "LensBench"), ("LensBench", 191, ⟨"LensBench$Text", "add", "(I)V"⟩, "LensBench"), ("LensBench", 194, ⟨"LensBench$Text", "tellBodies", "()I"⟩, "LensBench"), ("LensBench$Text", 49, ⟨"LensBench", "within", "(III)Z"⟩, "LensBench"), ("LensBench", 204, ⟨"LensBench$Trials", "addPair", "(IIII)I"⟩, "LensBench"), ("LensBench", 220, ⟨"LensBench$Trials", "load", "(II)V"⟩, "LensBench"), ("LensBench$Trials", 83, ⟨"LensBench$Lens", "lightPast", "(IIII)I"⟩, "LensBench"), ("LensBench$Trials", 92, ⟨"LensBench$Lens", "bendBy", "(I[IIIII)I"⟩, "LensBench"), ("LensBench", 227, ⟨"LensBench$Trials", "holds", "(I)Z"⟩, "LensBench"), ("LensBench", 230, ⟨"LensBench$Trials", "gather", "()V"⟩, "LensBench"), ("LensBench", 236, ⟨"LensBench$Trials", "least", "()I"⟩, "LensBench"), ("LensBench", 239, ⟨"LensBench$Trials", "twins", "()I"⟩, "LensBench"), ("LensBench$Trials", 134, ⟨"LensBench$Tally", "start", "()V"⟩, "LensBench"), ("LensBench$Trials", 137, ⟨"LensBench", "cellOf", "(I)I"⟩, "LensBench"), ("LensBench$Trials", 140, ⟨"LensBench$Tally", "numberOf", "(I)I"⟩, "LensBench"), ("LensBench", 242, ⟨"LensBench$Trials", "nextLook", "()I"⟩, "LensBench"), ("LensBench$Trials", 130, ⟨"LensBench$Tally", "greatest", "()I"⟩, "LensBench"), ("LensBench", 245, ⟨"LensBench$Trials", "sureWeight", "(I)I"⟩, "LensBench"), ("LensBench", 251, ⟨"LensBench$Trials", "addSpot", "(II)I"⟩, "LensBench"), ("LensBench", 263, ⟨"LensBench$Brightness", "farOf", "(I)I"⟩, "LensBench"), ("LensBench", 266, ⟨"LensBench$Brightness", "contradictions", "()I"⟩, "LensBench"), ("LensBench$Brightness", 44, ⟨"LensBench$Tally", "start", "()V"⟩, "LensBench"), ("LensBench$Brightness", 56, ⟨"LensBench$Tally", "numberOf", "(I)I"⟩, "LensBench"), ("LensBench", 269, ⟨"LensBench$Brightness", "toldCount", "()I"⟩, "LensBench"), ("LensBench", 272, ⟨"LensBench$Lens", "weights", "()I"⟩, "LensBench")]
def zlenI (q : Nat) : Nat := if (zkd q).1 = 1 then (zkd q).2 else 0
def zlenB (q : Nat) : Nat := if (zkd q).1 = 2 then (zkd q).2 else 0
def zlenZ (q : Nat) : Nat := if (zkd q).1 = 3 then (zkd q).2 else 0
def zlenR (q : Nat) : Nat := if (zkd q).1 = 4 then (zkd q).2 else 0
def zfv (M : zMem) (q k : Nat) (d : Nat × Nat) : Value := if d.1 = 0 then .int (M.1 q k) else if d.1 = 1 then .long (M.2 q) else if d.1 = 2 then .ref d.2 else .ref (zcl (M.1 q k))
def zfsA (M : zMem) (q : Nat) : Nat → List (Nat × Nat) → List Value
  | _, [] => []
  | k, d :: l => zfv M q k d :: zfsA M q (k + 1) l
def zfs (M : zMem) (q : Nat) : List Value := zfsA M q 0 (zfl q)
theorem zfsA_congr {M M' : zMem} {q : Nat} (h : ∀ k d, zfv M' q k d = zfv M q k d) : ∀ (l : List (Nat × Nat)) (k : Nat), zfsA M' q k l = zfsA M q k l
  | [], _ => rfl
  | d :: l, k => by rw [zfsA, zfsA, h, zfsA_congr h l]
theorem zfsA_get (M : zMem) (q : Nat) : ∀ (l : List (Nat × Nat)) (k j : Nat), (zfsA M q k l)[j]? = (l[j]?).map (zfv M q (k + j))
  | [], _, _ => rfl
  | d :: l, k, 0 => rfl
  | d :: l, k, j + 1 => by
    rw [zfsA, List.getElem?_cons_succ, List.getElem?_cons_succ, zfsA_get M q l (k + 1) j, show k + 1 + j = k + (j + 1) by omega]
theorem zfsA_len (M : zMem) (q : Nat) : ∀ (l : List (Nat × Nat)) (k : Nat), (zfsA M q k l).length = l.length
  | [], _ => rfl
  | d :: l, k => by rw [zfsA, List.length_cons, List.length_cons, zfsA_len M q l]
def zcv (ad : Nat → Nat) (v : Value) : Value := match v with
  | .ref a => .ref (ad a)
  | w => w
def zcell (ad : Nat → Nat) (cy : Nat → ClassId) (M : zMem) (q : Nat) : va_E :=
  if (zkd q).1 = 1 then .inl (cy 0, (zkd q).2, .inl (M.1 q))
  else if (zkd q).1 = 2 then .inl (cy 1, (zkd q).2, .inl (M.1 q))
  else if (zkd q).1 = 3 then .inl (cy 2, (zkd q).2, .inl (M.1 q))
  else if (zkd q).1 = 4 then .inl (cy 3, (zkd q).2, .inr (.inr (.inr (.inr (fun i => if i < (zkd q).2 then some (ad (q + 1 + i)) else none)))))
  else .inr ((zkd q).2, (zfs M q).map (zcv ad))
def zws (ad : Nat → Nat) (cy : Nat → ClassId) (M : zMem) : va_W := (List.range 119).map (fun q => (ad q, zcell ad cy M q))
def ztys (cy : Nat → ClassId) : List (ClassId × FieldType) := [(cy 0, .int), (cy 1, .byte), (cy 2, .boolean), (cy 3, .array .int)]
theorem zKL_len : zKL.length = 119 := by decide +kernel
theorem zkd_lt {q : Nat} (h : (zkd q).1 ≠ 0) : q < 119 := by
  refine Classical.byContradiction fun hq => h ?_
  unfold zkd
  rw [List.getD_eq_getElem?_getD, List.getElem?_eq_none (by rw [zKL_len]; omega)]
  rfl
theorem zws_get {ad : Nat → Nat} {cy : Nat → ClassId} {M : zMem} {q : Nat} (hq : q < 119) : (zws ad cy M)[q]? = some (ad q, zcell ad cy M q) := by
  unfold zws
  rw [List.getElem?_map, List.getElem?_range hq]
  rfl
theorem zws_set {ad : Nat → Nat} {cy : Nat → ClassId} {M M' : zMem} {q : Nat} {e : va_E} (hq : q < 119) (h : ∀ c, c ≠ q → zcell ad cy M' c = zcell ad cy M c) (he : zcell ad cy M' q = e) : (zws ad cy M).set q (ad q, e) = zws ad cy M' := by
  apply List.ext_getElem?
  intro k
  by_cases hk : k = q
  · subst hk
    rw [List.getElem?_set_self (by unfold zws; simp; exact hq), zws_get hq, he]
  · rw [List.getElem?_set_ne (fun e => hk e.symm)]
    by_cases hl : k < 119
    · rw [zws_get hl, zws_get hl, h k hk]
    · rw [List.getElem?_eq_none (by unfold zws; simp; omega), List.getElem?_eq_none (by unfold zws; simp; omega)]
theorem zcell_congr {ad : Nat → Nat} {cy : Nat → ClassId} {M M' : zMem} {c : Nat} (h1 : M'.1 c = M.1 c) (h2 : M'.2 c = M.2 c) : zcell ad cy M' c = zcell ad cy M c := by
  have h : zfs M' c = zfs M c := zfsA_congr (fun k d => by unfold zfv; rw [h1, h2]) _ _
  unfold zcell
  rw [h1, h]
theorem zwr_ne {M : zMem} {q i c : Nat} {v : Int32} (h : c ≠ q) : (zwr M q i v).1 c = M.1 c := by
  funext j
  simp [zwr, h]
theorem zwr_row {M : zMem} {q i : Nat} {v : Int32} : (zwr M q i v).1 q = upd (M.1 q) i v := by
  funext j
  simp [zwr, upd]
theorem zcv_cat (ad : Nat → Nat) (v : Value) : (zcv ad v).category = v.category := by cases v <;> rfl
theorem zcv_sum (ad : Nat → Nat) (l : List Value) : ((l.map (zcv ad)).map fun v => v.category).sum = (l.map fun v => v.category).sum := by
  rw [List.map_map]
  congr 1
  exact List.map_congr_left fun v _ => zcv_cat ad v
theorem zcv_args (ad : Nat → Nat) : ∀ (l : List Value) (i : Nat), lv_args i (l.map (zcv ad)) = (lv_args i l).map (fun q => (q.1, zcv ad q.2))
  | [], _ => rfl
  | v :: l, i => by
    rw [List.map_cons, lv_args, lv_args, List.map_cons, zcv_cat, zcv_args ad l]
theorem zcv_sl (ad : Nat → Nat) : ∀ (l : List Value), (lg_sl (l.map (zcv ad))).length = (lg_sl l).length
  | [] => rfl
  | v :: l => by
    have ih := zcv_sl ad l
    unfold lg_sl at ih ⊢
    rw [List.map_cons, List.flatMap_cons, List.flatMap_cons, List.length_append, List.length_append, ih, zcv_cat]
    by_cases hc : v.category = 2
    · rw [if_pos hc, if_pos hc]; rfl
    · rw [if_neg hc, if_neg hc]; rfl
/-- the parts of the world: class table, addresses, array classes, the first own address -/
abbrev zY : Type := va_G × (Nat → Nat) × (Nat → ClassId) × Nat
abbrev yD (Y : zY) : va_G := Y.1
abbrev yA (Y : zY) : Nat → Nat := Y.2.1
abbrev yC (Y : zY) : Nat → ClassId := Y.2.2.1
abbrev yB (Y : zY) : Nat := Y.2.2.2
abbrev yF (Y : zY) : Nat → Prop := fun q => yB Y ≤ q
abbrev yW (Y : zY) (M : zMem) : va_W := zws (yA Y) (yC Y) M
/-- a walk's place: all that stays while a method runs -/
abbrev zX : Type := Program × Launch × Env × Room × State × MethodId × Array Value × List Frame × Method × Code × Nat × Nat
abbrev xP (X : zX) : Program := X.1
abbrev xL (X : zX) : Launch := X.2.1
abbrev xE (X : zX) : Env := X.2.2.1
abbrev xR (X : zX) : Room := X.2.2.2.1
abbrev xS (X : zX) : State := X.2.2.2.2.1
abbrev xM (X : zX) : MethodId := X.2.2.2.2.2.1
abbrev xA (X : zX) : Array Value := X.2.2.2.2.2.2.1
abbrev xB (X : zX) : List Frame := X.2.2.2.2.2.2.2.1
abbrev xH (X : zX) : Method := X.2.2.2.2.2.2.2.2.1
abbrev xC (X : zX) : Code := X.2.2.2.2.2.2.2.2.2.1
abbrev xK (X : zX) : Nat := X.2.2.2.2.2.2.2.2.2.2.1
abbrev xN (X : zX) : Nat := X.2.2.2.2.2.2.2.2.2.2.2
theorem zidx_bare (vm : Vm) (P : Kind → Bool) : (vm.bare.classes.findIdx? fun (x : Class) => P x.kind) = vm.classes.findIdx? fun (x : Class) => P x.kind := by
  simp only [Vm.bare, Array.findIdx?_map]
  rfl
theorem zidx_alike {u U : Vm} (hvm : u.Alike U) (P : Kind → Bool) : (U.classes.findIdx? fun (x : Class) => P x.kind) = u.classes.findIdx? fun (x : Class) => P x.kind := by
  rw [← zidx_bare U, ← zidx_bare u]
  first | rw [hvm.bare_eq] | rw [← hvm.bare_eq]
theorem va_AOA.moved {ty : FieldType} {u U : State} (hvm : u.vm.Alike U.vm) (h : va_AOA ty u) : va_AOA ty U := by
  have h0 := h
  unfold va_AOA Cond.before Cond.holds at h0
  simp only [Cond.value, beq_iff_eq] at h0
  cases hc : u.vm.findClass (FieldType.array ty).toString with
  | none => simp [hc] at h0
  | some comp =>
    simp only [hc, Option.bind_some, Option.bind_eq_some_iff, Option.map_eq_some_iff] at h0
    obtain ⟨c, hi, k, hk, hb⟩ := h0
    obtain ⟨k', hk', he⟩ := hvm.2.2 _ _ hk
    have hi' : (U.vm.classes.findIdx? fun (x : Class) => match x.kind with | .array component _ => component == comp | _ => false) = some c :=
      (zidx_alike hvm (fun kd => match kd with | .array component _ => component == comp | _ => false)).trans hi
    have f1 : U.vm.findClass (FieldType.array ty).toString = some comp := by rw [hvm.findClass]; exact hc
    have hkind : k'.kind = k.kind := by rw [he]
    unfold va_AOA Cond.before Cond.holds
    simp only [Cond.value]
    rw [f1, Option.bind_some]
    refine (congrArg (fun o : Option Nat => (o.bind (fun c => (U.vm.classes[c]?).map fun (k : Class) => match k.kind with | .array _ ty' => decide (ty' = FieldType.array ty) && decide (U.vm.findClass ("[" ++ (FieldType.array ty).toString) = some c) | _ => false) == some true)) hi').trans ?_
    simp only [hk', Option.bind_some, Option.map_some, hkind, hvm.findClass]
    exact (congrArg (fun b : Bool => (some b == some true)) hb).trans rfl
/-- the words among nest mates; the class of arrays over arrays of ints -/
def zNs (U : State) : Prop := (∀ q, q ∈ zNF → va_Nw (.fieldLinkNest q.1 q.2.1 q.2.2.1 q.2.2.2.1 q.2.2.2.2.1 q.2.2.2.2.2) U) ∧ (∀ q, q ∈ zNM → va_Nw (.methodLinkNest q.1 q.2.1 q.2.2.1 q.2.2.2) U) ∧ va_AOA .int U
/-- the two tables of the class, that nobody writes -/
def zSs (Y : zY) (U : State) (H : Heap) : Prop := va_Z "LensBench" "LEAST_OF" "[I" (.ref (yA Y 119)) (yF Y) U H ∧ va_Z "LensBench" "MOST_OF" "[I" (.ref (yA Y 120)) (yF Y) U H ∧ va_T .int (yA Y 119) 6 (fun j => .int (zLO j)) (yF Y) U H ∧ va_T .int (yA Y 120) 6 (fun j => .int (zMO j)) (yF Y) U H
theorem zNs.warm {s U : State} (hW : s.WarmedH U.vm) (h : zNs s) : zNs U := ⟨fun q hq => va_Nw.warmF hW (h.1 q hq), fun q hq => va_Nw.warmM hW (h.2.1 q hq), va_AOA.moved hW.alike h.2.2⟩
theorem zNs.same {u U : State} (hvm : u.vm = U.vm) (h : zNs u) : zNs U := ⟨fun q hq => va_Nw.same rfl hvm (h.1 q hq), fun q hq => va_Nw.same rfl hvm (h.2.1 q hq), va_AOA.moved (by rw [hvm]; exact Vm.Alike.refl _) h.2.2⟩
theorem zSs.moved {Y : zY} {u U : State} {H : Heap} (hvm : u.vm.Alike U.vm) (h : zSs Y u H) : zSs Y U H := ⟨h.1.moved hvm, h.2.1.moved hvm, h.2.2.1.moved hvm, h.2.2.2.moved hvm⟩
theorem zSs.kept {Y : zY} {U : State} {H H1 : Heap} (h : zSs Y U H) (hq : ∀ a : Nat, a < H.size → ¬ yF Y a → H1[a]? = H[a]?) : zSs Y U H1 := ⟨h.1.kept hq, h.2.1.kept hq, h.2.2.1.kept hq, h.2.2.2.kept hq⟩
/-- the world of a memory in a state -/
def zP (Y : zY) (M : zMem) (U : State) : Prop := yB Y ≤ U.heap.size ∧ va_P (yD Y) vwCl (yW Y M) U.heap ∧ va_K (yD Y) vwCl (ztys (yC Y)) U ∧ va_D (yF Y) (yW Y M) ∧ zNs U ∧ zSs Y U U.heap
def zTab : List Cond := lw_tbl.filter goodWord
def zrm (f k : Nat) : Room := { frames := f, cells := 0, slots := 0, locals := k }
def zQi (Y : zY) (r : Int32) (M : zMem) : Array Value → State → Outcome → State → Prop := va_Qi (fun (r' : Int32) (u : zMem) => r' = r ∧ u = M) (zP Y) (yF Y)
def zQl (Y : zY) (r : Int64) (M : zMem) : Array Value → State → Outcome → State → Prop := va_Ql (fun (r' : Int64) (u : zMem) => r' = r ∧ u = M) (zP Y) (yF Y)
def zQv (Y : zY) (M : zMem) : Array Value → State → Outcome → State → Prop := va_Qv (fun (u : zMem) => u = M) (zP Y) (yF Y)
/-- a method's contract: from the memory M with these arguments, what Q says -/
def zMt (Y : zY) (y : MethodName) (cc : ByteArray) (nL : Nat) (ret : Option FieldType) (f k : Nat) (as : List Value) (M : zMem) (Q : Array Value → State → Outcome → State → Prop) : Prop :=
  ∀ l : Launch, Met l y (Cond.code y cc nL ret :: zTab) (zrm f k) (va_Pc (as.map (zcv (yA Y))) (zP Y M)) Q 0 0 (yF Y)
/-- what holds while a method's body is walked -/
def zC (Y : zY) (X : zX) (own : String) (cc : ByteArray) (nL : Nat) (R : Room) (ret : Option FieldType) : Prop :=
  (xP X).tables.exec = Jvm.exec ∧ (xC X).code = cc ∧ (xC X).maxLocals = nL ∧ (xS X).vm.findClass own = some (xM X).cls ∧ (∀ w ∈ zTab, w.before (xA X) (xS X) = true) ∧ (xH X).locks = false ∧ (xH X).sig.returnType = ret ∧ xR X = R ∧ (xK X ≤ R.cells ∧ xN X ≤ R.slots) ∧ yB Y ≤ (xS X).heap.size ∧ va_K (yD Y) vwCl (ztys (yC Y)) (xS X) ∧ zNs (xS X) ∧ zSs Y (xS X) (xS X).heap
/-- from this place on the walk comes to Φ -/
def zG (Y : zY) (X : zX) (nL : Nat) (Φ : State → Prop) (pc : Nat) (lo : List (Nat × Value)) (st : List Value) (M : zMem) : Prop :=
  ∀ (H : Heap) (locs : List Loc) (ls : Array Slot), va_P (yD Y) vwCl (yW Y M) H → va_D (yF Y) (yW Y M) → va_S (yF Y) (xS X).heap H locs → lv_has ls nL (lo.map (fun q => (q.1, zcv (yA Y) q.2))) →
    W (xP X) (xL X) (xE X) (xR X) (xS X) (xM X) (xA X) (xB X) (xH X) (xC X) H locs (xK X) (xN X) Φ (F0 (xM X) pc ls (st.map (zcv (yA Y))))
/-- from this place on the machine does what F says, where F says something -/
def zR {ρ : Type} (Y : zY) (X : zX) (nL : Nat) (Φ : ρ → State → Prop) (F : Option ρ) (pc : Nat) (lo : List (Nat × Value)) (st : List Value) (M : zMem) : Prop :=
  ∀ a : ρ, F = some a → zG Y X nL (Φ a) pc lo st M
def zFi (Y : zY) (X : zX) {ρ : Type} (res : ρ → Int32) (mem : ρ → zMem) : ρ → State → Prop := fun a => MQ (xB X) (zQi Y (res a) (mem a)) (xA X) (xS X) (xK X) (xN X) (yF Y)
def zFl (Y : zY) (X : zX) {ρ : Type} (res : ρ → Int64) (mem : ρ → zMem) : ρ → State → Prop := fun a => MQ (xB X) (zQl Y (res a) (mem a)) (xA X) (xS X) (xK X) (xN X) (yF Y)
def zFv (Y : zY) (X : zX) {ρ : Type} (mem : ρ → zMem) : ρ → State → Prop := fun a => MQ (xB X) (zQv Y (mem a)) (xA X) (xS X) (xK X) (xN X) (yF Y)
theorem zg_none {ρ : Type} {b : Bool} {F : Option ρ} {a : ρ} (h : zguard b F = some a) : b = true ∧ F = some a := by
  unfold zguard at h
  by_cases hb : b = true
  · rw [if_pos hb] at h; exact ⟨hb, h⟩
  · rw [if_neg hb] at h; cases h
theorem zin_vp {i : Int32} {n : Nat} (h : zin i n = true) : vp_in i n := by
  simp only [zin, Bool.and_eq_true, Bool.not_eq_true', decide_eq_false_iff_not, decide_eq_true_eq] at h
  intro q
  rcases q with q | q
  · exact h.1 q
  · omega
theorem zin_lt {i : Int32} {n : Nat} (h : zin i n = true) : zcl i < n := by
  simp only [zin, Bool.and_eq_true, Bool.not_eq_true', decide_eq_false_iff_not, decide_eq_true_eq] at h
  exact h.2
section ZR
variable {ρ : Type} {Y : zY} {X : zX} {own : String} {cc : ByteArray} {nL : Nat} {R : Room} {ret : Option FieldType} {Φ : ρ → State → Prop} {F F1 F2 : Option ρ} {pc n : Nat} {lo lo' : List (Nat × Value)} {st : List Value} {M : zMem}
theorem zl_at {ls : Array Slot} {ad : Nat → Nat} (h : lv_has ls nL (lo.map (fun q => (q.1, zcv ad q.2)))) (k : Nat) {i : Nat} {v : Value} (hk : lo[k]? = some (i, v)) : ls[i]? = some (.val (zcv ad v)) :=
  lv_at h k (by rw [List.getElem?_map, hk]; rfl)
theorem zl_set1 (ad : Nat → Nat) (i : Nat) (v : Value) (lo : List (Nat × Value)) : (i, zcv ad v) :: (lo.map (fun q => (q.1, zcv ad q.2))).filter (fun q => !(q.1 == i) && !(q.1 + 1 == i && q.2.category == 2)) = ((i, v) :: lo.filter (fun q => !(q.1 == i) && !(q.1 + 1 == i && q.2.category == 2))).map (fun q => (q.1, zcv ad q.2)) := by
  rw [List.map_cons, List.filter_map]
  congr 2
  apply List.filter_congr
  intro q _
  simp only [Function.comp, zcv_cat]
theorem zl_set2 (ad : Nat → Nat) (i : Nat) (v : Value) (lo : List (Nat × Value)) : (i, zcv ad v) :: (lo.map (fun q => (q.1, zcv ad q.2))).filter (fun q => !(q.1 == i) && (!(q.1 == i + 1) && !(q.1 + 1 == i && q.2.category == 2))) = ((i, v) :: lo.filter (fun q => !(q.1 == i) && (!(q.1 == i + 1) && !(q.1 + 1 == i && q.2.category == 2)))).map (fun q => (q.1, zcv ad q.2)) := by
  rw [List.map_cons, List.filter_map]
  congr 2
  apply List.filter_congr
  intro q _
  simp only [Function.comp, zcv_cat]
theorem zl_sub {ls : Array Slot} {ad : Nat → Nat} (h : lv_has ls nL (lo.map (fun q => (q.1, zcv ad q.2)))) (ks : List Nat) (hl : lv_pick lo ks = lo') : lv_has ls nL (lo'.map (fun q => (q.1, zcv ad q.2))) := by
  refine lv_sub h ks ?_
  subst hl
  unfold lv_pick
  have e : (fun k : Nat => (lo.map (fun q => (q.1, zcv ad q.2)))[k]?) = fun k : Nat => (lo[k]?).map (fun q => (q.1, zcv ad q.2)) := funext fun k => List.getElem?_map
  rw [e, List.map_filterMap]
theorem z_perm (ks : List Nat) (hl : lv_pick lo ks = lo') (k : zR Y X nL Φ F pc lo' st M) : zR Y X nL Φ F pc lo st M := fun a hF H locs ls hP hD hS h => k a hF H locs ls hP hD hS (zl_sub h ks hl)
theorem z_none : zR Y X nL Φ (none : Option ρ) pc lo st M := fun a h => by cases h
theorem z_guard {b : Bool} (k : b = true → zR Y X nL Φ F pc lo st M) : zR Y X nL Φ (zguard b F) pc lo st M := fun a h => k (zg_none h).1 a (zg_none h).2
theorem z_ite {c : Prop} [Decidable c] (k1 : c → zR Y X nL Φ F1 pc lo st M) (k2 : ¬ c → zR Y X nL Φ F2 pc lo st M) : zR Y X nL Φ (if c then F1 else F2) pc lo st M := by
  by_cases h : c
  · rw [if_pos h]; exact k1 h
  · rw [if_neg h]; exact k2 h
theorem z_join {α : Type} {J : α} {f : α → Option ρ} (Q : α → Prop) (hJ : Q J) (k : ∀ j, Q j → zR Y X nL Φ (f j) pc lo st M) : zR Y X nL Φ (zj J f) pc lo st M := k J hJ
theorem z_loop {σ : Type} {f : (σ → Option ρ) → σ → Option ρ} {sM : σ → zMem} {sl : σ → List (Nat × Value)} {s0 : σ} {N : Nat} (ks : List Nat) (hM : sM s0 = M) (hl : lv_pick lo ks = sl s0) (k : ∀ rec : σ → Option ρ, (∀ s, zR Y X nL Φ (rec s) pc (sl s) st (sM s)) → ∀ s, zR Y X nL Φ (f rec s) pc (sl s) st (sM s)) : zR Y X nL Φ (zloop f N s0) pc lo st M := by
  have key : ∀ N s, zR Y X nL Φ (zloop f N s) pc (sl s) st (sM s) := by
    intro N
    induction N with
    | zero => exact fun s => z_none
    | succ N ih => exact fun s => k _ ih s
  subst hM
  exact z_perm ks hl (key N s0)
theorem z_iconst (C : zC Y X own cc nL R ret) {k : Int} (v : Int32) (d : decode cc pc = .ok (.iconst k, 1)) (hv : Int32.ofInt k = v) (hn : pc + 1 = n) (kk : zR Y X nL Φ F n lo (.int v :: st) M) : zR Y X nL Φ F pc lo st M := by
  subst hn; intro a hF H locs ls hP hD hS hl
  exact lv_iconst C.1 C.2.1 d hv (kk a hF H locs ls hP hD hS hl)
theorem z_bipush (C : zC Y X own cc nL R ret) {k : Int} (v : Int32) (d : decode cc pc = .ok (.bipush k, 2)) (hv : (Int8.ofInt k).toInt32 = v) (hn : pc + 2 = n) (kk : zR Y X nL Φ F n lo (.int v :: st) M) : zR Y X nL Φ F pc lo st M := by
  subst hn; intro a hF H locs ls hP hD hS hl
  exact lv_bipush C.1 C.2.1 d hv (kk a hF H locs ls hP hD hS hl)
theorem z_sipush (C : zC Y X own cc nL R ret) {k : Int} (v : Int32) (d : decode cc pc = .ok (.sipush k, 3)) (hv : (Int16.ofInt k).toInt32 = v) (hn : pc + 3 = n) (kk : zR Y X nL Φ F n lo (.int v :: st) M) : zR Y X nL Φ F pc lo st M := by
  subst hn; intro a hF H locs ls hP hD hS hl
  exact lv_sipush C.1 C.2.1 d hv (kk a hF H locs ls hP hD hS hl)
theorem z_lconst (C : zC Y X own cc nL R ret) {k : Fin 2} (v : Int64) (d : decode cc pc = .ok (.lconst k, 1)) (hv : Int64.ofNat (k : Nat) = v) (hn : pc + 1 = n) (kk : zR Y X nL Φ F n lo (.long v :: st) M) : zR Y X nL Φ F pc lo st M := by
  subst hn; intro a hF H locs ls hP hD hS hl
  exact lv_lconst C.1 C.2.1 d hv (kk a hF H locs ls hP hD hS hl)
theorem z_ldc (C : zC Y X own cc nL R ret) {ix : Nat} {v : Int32} (hw : Cond.constant own ix v ∈ zTab) (d : decode cc pc = .ok (.ldc ix, 2)) (hn : pc + 2 = n) (kk : zR Y X nL Φ F n lo (.int v :: st) M) : zR Y X nL Φ F pc lo st M := by
  subst hn; intro a hF H locs ls hP hD hS hl
  exact lv_ldc C.1 C.2.1 C.2.2.2.1 (C.2.2.2.2.1 _ hw) d (kk a hF H locs ls hP hD hS hl)
theorem z_ldc2 (C : zC Y X own cc nL R ret) {ix : Nat} {v : Int64} (hw : Cond.constantLong own ix v ∈ zTab) (d : decode cc pc = .ok (.ldc2_w ix, 3)) (hn : pc + 3 = n) (kk : zR Y X nL Φ F n lo (.long v :: st) M) : zR Y X nL Φ F pc lo st M := by
  subst hn; intro a hF H locs ls hP hD hS hl
  exact lv_ldc2 C.1 C.2.1 C.2.2.2.1 (C.2.2.2.2.1 _ hw) d (kk a hF H locs ls hP hD hS hl)
theorem z_iload_n (C : zC Y X own cc nL R ret) {k : Fin 4} {i : Nat} {x : Int32} (pl : Nat) (d : decode cc pc = .ok (.iload_n k, 1)) (hi : (k : Nat) = i) (hk : lo[pl]? = some (i, .int x)) (hn : pc + 1 = n) (kk : zR Y X nL Φ F n lo (.int x :: st) M) : zR Y X nL Φ F pc lo st M := by
  subst hn; intro a hF H locs ls hP hD hS hl
  exact lv_iload_n C.1 C.2.1 d hi (zl_at hl pl hk) (kk a hF H locs ls hP hD hS hl)
theorem z_iload (C : zC Y X own cc nL R ret) {i : Nat} {x : Int32} (pl : Nat) (d : decode cc pc = .ok (.iload i, 2)) (hk : lo[pl]? = some (i, .int x)) (hn : pc + 2 = n) (kk : zR Y X nL Φ F n lo (.int x :: st) M) : zR Y X nL Φ F pc lo st M := by
  subst hn; intro a hF H locs ls hP hD hS hl
  exact lv_iload C.1 C.2.1 d (zl_at hl pl hk) (kk a hF H locs ls hP hD hS hl)
theorem z_lload_n (C : zC Y X own cc nL R ret) {k : Fin 4} {i : Nat} {x : Int64} (pl : Nat) (d : decode cc pc = .ok (.lload_n k, 1)) (hi : (k : Nat) = i) (hk : lo[pl]? = some (i, .long x)) (hn : pc + 1 = n) (kk : zR Y X nL Φ F n lo (.long x :: st) M) : zR Y X nL Φ F pc lo st M := by
  subst hn; intro a hF H locs ls hP hD hS hl
  exact lv_lload_n C.1 C.2.1 d hi (zl_at hl pl hk) (kk a hF H locs ls hP hD hS hl)
theorem z_lload (C : zC Y X own cc nL R ret) {i : Nat} {x : Int64} (pl : Nat) (d : decode cc pc = .ok (.lload i, 2)) (hk : lo[pl]? = some (i, .long x)) (hn : pc + 2 = n) (kk : zR Y X nL Φ F n lo (.long x :: st) M) : zR Y X nL Φ F pc lo st M := by
  subst hn; intro a hF H locs ls hP hD hS hl
  exact lv_lload C.1 C.2.1 d (zl_at hl pl hk) (kk a hF H locs ls hP hD hS hl)
theorem z_aload_n (C : zC Y X own cc nL R ret) {k : Fin 4} {i q : Nat} (pl : Nat) (d : decode cc pc = .ok (.aload_n k, 1)) (hi : (k : Nat) = i) (hk : lo[pl]? = some (i, .ref q)) (hn : pc + 1 = n) (kk : zR Y X nL Φ F n lo (.ref q :: st) M) : zR Y X nL Φ F pc lo st M := by
  subst hn; intro a hF H locs ls hP hD hS hl
  exact lv_aload_n C.1 C.2.1 d hi (zl_at hl pl hk) (kk a hF H locs ls hP hD hS hl)
theorem z_aload (C : zC Y X own cc nL R ret) {i q : Nat} (pl : Nat) (d : decode cc pc = .ok (.aload i, 2)) (hk : lo[pl]? = some (i, .ref q)) (hn : pc + 2 = n) (kk : zR Y X nL Φ F n lo (.ref q :: st) M) : zR Y X nL Φ F pc lo st M := by
  subst hn; intro a hF H locs ls hP hD hS hl
  exact lv_aload C.1 C.2.1 d (zl_at hl pl hk) (kk a hF H locs ls hP hD hS hl)
theorem z_istore_n (C : zC Y X own cc nL R ret) {k : Fin 4} {i : Nat} {x : Int32} {f : Int32 → Option ρ} (lo' : Int32 → List (Nat × Value)) (d : decode cc pc = .ok (.istore_n k, 1)) (hi : (k : Nat) = i) (hin : i < nL) (hl' : ∀ z : Int32, (i, Value.int z) :: lo.filter (fun q => !(q.1 == i) && !(q.1 + 1 == i && q.2.category == 2)) = lo' z) (hn : pc + 1 = n) (kk : ∀ z : Int32, zR Y X nL Φ (f z) n (lo' z) st M) : zR Y X nL Φ (zlet x f) pc lo (.int x :: st) M := by
  subst hn; intro a hF H locs ls hP hD hS hl
  exact lv_istore_n C.1 C.2.1 d hi hl hin ((zl_set1 _ i (.int x) lo).trans (by rw [hl' x])) (fun ls' hl2 => kk x a hF H locs ls' hP hD hS hl2)
theorem z_istore (C : zC Y X own cc nL R ret) {i : Nat} {x : Int32} {f : Int32 → Option ρ} (lo' : Int32 → List (Nat × Value)) (d : decode cc pc = .ok (.istore i, 2)) (hin : i < nL) (hl' : ∀ z : Int32, (i, Value.int z) :: lo.filter (fun q => !(q.1 == i) && !(q.1 + 1 == i && q.2.category == 2)) = lo' z) (hn : pc + 2 = n) (kk : ∀ z : Int32, zR Y X nL Φ (f z) n (lo' z) st M) : zR Y X nL Φ (zlet x f) pc lo (.int x :: st) M := by
  subst hn; intro a hF H locs ls hP hD hS hl
  exact lv_istore C.1 C.2.1 d hl hin ((zl_set1 _ i (.int x) lo).trans (by rw [hl' x])) (fun ls' hl2 => kk x a hF H locs ls' hP hD hS hl2)
theorem z_istoreP_n (C : zC Y X own cc nL R ret) {k : Fin 4} {i : Nat} {x : Int32} (d : decode cc pc = .ok (.istore_n k, 1)) (hi : (k : Nat) = i) (hin : i < nL) (hl' : (i, Value.int x) :: lo.filter (fun q => !(q.1 == i) && !(q.1 + 1 == i && q.2.category == 2)) = lo') (hn : pc + 1 = n) (kk : zR Y X nL Φ F n lo' st M) : zR Y X nL Φ F pc lo (.int x :: st) M := by
  subst hn; intro a hF H locs ls hP hD hS hl
  exact lv_istore_n C.1 C.2.1 d hi hl hin ((zl_set1 _ i (.int x) lo).trans (by rw [hl'])) (fun ls' hl2 => kk a hF H locs ls' hP hD hS hl2)
theorem z_istoreP (C : zC Y X own cc nL R ret) {i : Nat} {x : Int32} (d : decode cc pc = .ok (.istore i, 2)) (hin : i < nL) (hl' : (i, Value.int x) :: lo.filter (fun q => !(q.1 == i) && !(q.1 + 1 == i && q.2.category == 2)) = lo') (hn : pc + 2 = n) (kk : zR Y X nL Φ F n lo' st M) : zR Y X nL Φ F pc lo (.int x :: st) M := by
  subst hn; intro a hF H locs ls hP hD hS hl
  exact lv_istore C.1 C.2.1 d hl hin ((zl_set1 _ i (.int x) lo).trans (by rw [hl'])) (fun ls' hl2 => kk a hF H locs ls' hP hD hS hl2)
theorem z_iinc (C : zC Y X own cc nL R ret) {i : Nat} {k : Int} {x v : Int32} {f : Int32 → Option ρ} (pl : Nat) (lo' : Int32 → List (Nat × Value)) (d : decode cc pc = .ok (.iinc i k, 3)) (hk : lo[pl]? = some (i, .int x)) (hv : x + Int32.ofInt k = v) (hin : i < nL) (hl' : ∀ z : Int32, (i, Value.int z) :: lo.filter (fun q => !(q.1 == i) && !(q.1 + 1 == i && q.2.category == 2)) = lo' z) (hn : pc + 3 = n) (kk : ∀ z : Int32, zR Y X nL Φ (f z) n (lo' z) st M) : zR Y X nL Φ (zlet v f) pc lo st M := by
  subst hn; intro a hF H locs ls hP hD hS hl
  exact lv_iinc C.1 C.2.1 d hl (k := pl) (by rw [List.getElem?_map, hk]; rfl) hv hin ((zl_set1 _ i (.int v) lo).trans (by rw [hl' v])) (fun ls' hl2 => kk v a hF H locs ls' hP hD hS hl2)
theorem z_lstore (C : zC Y X own cc nL R ret) {i : Nat} {x : Int64} {f : Int64 → Option ρ} (lo' : Int64 → List (Nat × Value)) (d : decode cc pc = .ok (.lstore i, 2)) (hin : i + 1 < nL) (hl' : ∀ z : Int64, (i, Value.long z) :: lo.filter (fun q => !(q.1 == i) && (!(q.1 == i + 1) && !(q.1 + 1 == i && q.2.category == 2))) = lo' z) (hn : pc + 2 = n) (kk : ∀ z : Int64, zR Y X nL Φ (f z) n (lo' z) st M) : zR Y X nL Φ (zlet x f) pc lo (.long x :: st) M := by
  subst hn; intro a hF H locs ls hP hD hS hl
  exact lv_lstore C.1 C.2.1 d hl hin ((zl_set2 _ i (.long x) lo).trans (by rw [hl' x])) (fun ls' hl2 => kk x a hF H locs ls' hP hD hS hl2)
theorem z_lstore_n (C : zC Y X own cc nL R ret) {k : Fin 4} {i : Nat} {x : Int64} {f : Int64 → Option ρ} (lo' : Int64 → List (Nat × Value)) (d : decode cc pc = .ok (.lstore_n k, 1)) (hi : (k : Nat) = i) (hin : i + 1 < nL) (hl' : ∀ z : Int64, (i, Value.long z) :: lo.filter (fun q => !(q.1 == i) && (!(q.1 == i + 1) && !(q.1 + 1 == i && q.2.category == 2))) = lo' z) (hn : pc + 1 = n) (kk : ∀ z : Int64, zR Y X nL Φ (f z) n (lo' z) st M) : zR Y X nL Φ (zlet x f) pc lo (.long x :: st) M := by
  subst hn; intro a hF H locs ls hP hD hS hl
  exact lv_lstore_n C.1 C.2.1 d hi hl hin ((zl_set2 _ i (.long x) lo).trans (by rw [hl' x])) (fun ls' hl2 => kk x a hF H locs ls' hP hD hS hl2)
theorem z_astore (C : zC Y X own cc nL R ret) {i q : Nat} (d : decode cc pc = .ok (.astore i, 2)) (hin : i < nL) (hl' : (i, Value.ref q) :: lo.filter (fun q => !(q.1 == i) && !(q.1 + 1 == i && q.2.category == 2)) = lo') (hn : pc + 2 = n) (kk : zR Y X nL Φ F n lo' st M) : zR Y X nL Φ F pc lo (.ref q :: st) M := by
  subst hn; intro a hF H locs ls hP hD hS hl
  exact lv_astore C.1 C.2.1 d hl hin ((zl_set1 _ i (.ref q) lo).trans (by rw [hl'])) (fun ls' hl2 => kk a hF H locs ls' hP hD hS hl2)
theorem z_astore_n (C : zC Y X own cc nL R ret) {k : Fin 4} {i q : Nat} (d : decode cc pc = .ok (.astore_n k, 1)) (hi : (k : Nat) = i) (hin : i < nL) (hl' : (i, Value.ref q) :: lo.filter (fun q => !(q.1 == i) && !(q.1 + 1 == i && q.2.category == 2)) = lo') (hn : pc + 1 = n) (kk : zR Y X nL Φ F n lo' st M) : zR Y X nL Φ F pc lo (.ref q :: st) M := by
  subst hn; intro a hF H locs ls hP hD hS hl
  exact lv_astore_n C.1 C.2.1 d hi hl hin ((zl_set1 _ i (.ref q) lo).trans (by rw [hl'])) (fun ls' hl2 => kk a hF H locs ls' hP hD hS hl2)
theorem z_iadd (C : zC Y X own cc nL R ret) {x y : Int32} (d : decode cc pc = .ok (.iadd, 1)) (hn : pc + 1 = n) (kk : zR Y X nL Φ F n lo (.int (x + y) :: st) M) : zR Y X nL Φ F pc lo (.int y :: .int x :: st) M := by
  subst hn; intro a hF H locs ls hP hD hS hl
  exact lv_iadd C.1 C.2.1 d (kk a hF H locs ls hP hD hS hl)
theorem z_isub (C : zC Y X own cc nL R ret) {x y : Int32} (d : decode cc pc = .ok (.isub, 1)) (hn : pc + 1 = n) (kk : zR Y X nL Φ F n lo (.int (x - y) :: st) M) : zR Y X nL Φ F pc lo (.int y :: .int x :: st) M := by
  subst hn; intro a hF H locs ls hP hD hS hl
  exact lv_isub C.1 C.2.1 d (kk a hF H locs ls hP hD hS hl)
theorem z_imul (C : zC Y X own cc nL R ret) {x y : Int32} (d : decode cc pc = .ok (.imul, 1)) (hn : pc + 1 = n) (kk : zR Y X nL Φ F n lo (.int (x * y) :: st) M) : zR Y X nL Φ F pc lo (.int y :: .int x :: st) M := by
  subst hn; intro a hF H locs ls hP hD hS hl
  exact lv_imul C.1 C.2.1 d (kk a hF H locs ls hP hD hS hl)
theorem z_iand (C : zC Y X own cc nL R ret) {x y : Int32} (d : decode cc pc = .ok (.iand, 1)) (hn : pc + 1 = n) (kk : zR Y X nL Φ F n lo (.int (x &&& y) :: st) M) : zR Y X nL Φ F pc lo (.int y :: .int x :: st) M := by
  subst hn; intro a hF H locs ls hP hD hS hl
  exact lv_iand C.1 C.2.1 d (kk a hF H locs ls hP hD hS hl)
theorem z_ior (C : zC Y X own cc nL R ret) {x y : Int32} (d : decode cc pc = .ok (.ior, 1)) (hn : pc + 1 = n) (kk : zR Y X nL Φ F n lo (.int (x ||| y) :: st) M) : zR Y X nL Φ F pc lo (.int y :: .int x :: st) M := by
  subst hn; intro a hF H locs ls hP hD hS hl
  exact lv_ior C.1 C.2.1 d (kk a hF H locs ls hP hD hS hl)
theorem z_ixor (C : zC Y X own cc nL R ret) {x y : Int32} (d : decode cc pc = .ok (.ixor, 1)) (hn : pc + 1 = n) (kk : zR Y X nL Φ F n lo (.int (x ^^^ y) :: st) M) : zR Y X nL Φ F pc lo (.int y :: .int x :: st) M := by
  subst hn; intro a hF H locs ls hP hD hS hl
  exact lv_ixor C.1 C.2.1 d (kk a hF H locs ls hP hD hS hl)
theorem z_ishl (C : zC Y X own cc nL R ret) {x y : Int32} (d : decode cc pc = .ok (.ishl, 1)) (hn : pc + 1 = n) (kk : zR Y X nL Φ F n lo (.int (x <<< (y &&& 31)) :: st) M) : zR Y X nL Φ F pc lo (.int y :: .int x :: st) M := by
  subst hn; intro a hF H locs ls hP hD hS hl
  exact lv_ishl C.1 C.2.1 d (kk a hF H locs ls hP hD hS hl)
theorem z_ishr (C : zC Y X own cc nL R ret) {x y : Int32} (d : decode cc pc = .ok (.ishr, 1)) (hn : pc + 1 = n) (kk : zR Y X nL Φ F n lo (.int (x >>> (y &&& 31)) :: st) M) : zR Y X nL Φ F pc lo (.int y :: .int x :: st) M := by
  subst hn; intro a hF H locs ls hP hD hS hl
  exact lv_ishr C.1 C.2.1 d (kk a hF H locs ls hP hD hS hl)
theorem z_ladd (C : zC Y X own cc nL R ret) {x y : Int64} (d : decode cc pc = .ok (.ladd, 1)) (hn : pc + 1 = n) (kk : zR Y X nL Φ F n lo (.long (x + y) :: st) M) : zR Y X nL Φ F pc lo (.long y :: .long x :: st) M := by
  subst hn; intro a hF H locs ls hP hD hS hl
  exact lv_ladd C.1 C.2.1 d (kk a hF H locs ls hP hD hS hl)
theorem z_lsub (C : zC Y X own cc nL R ret) {x y : Int64} (d : decode cc pc = .ok (.lsub, 1)) (hn : pc + 1 = n) (kk : zR Y X nL Φ F n lo (.long (x - y) :: st) M) : zR Y X nL Φ F pc lo (.long y :: .long x :: st) M := by
  subst hn; intro a hF H locs ls hP hD hS hl
  exact lv_lsub C.1 C.2.1 d (kk a hF H locs ls hP hD hS hl)
theorem z_lmul (C : zC Y X own cc nL R ret) {x y : Int64} (d : decode cc pc = .ok (.lmul, 1)) (hn : pc + 1 = n) (kk : zR Y X nL Φ F n lo (.long (x * y) :: st) M) : zR Y X nL Φ F pc lo (.long y :: .long x :: st) M := by
  subst hn; intro a hF H locs ls hP hD hS hl
  exact lv_lmul C.1 C.2.1 d (kk a hF H locs ls hP hD hS hl)
theorem z_land (C : zC Y X own cc nL R ret) {x y : Int64} (d : decode cc pc = .ok (.land, 1)) (hn : pc + 1 = n) (kk : zR Y X nL Φ F n lo (.long (x &&& y) :: st) M) : zR Y X nL Φ F pc lo (.long y :: .long x :: st) M := by
  subst hn; intro a hF H locs ls hP hD hS hl
  exact lv_land C.1 C.2.1 d (kk a hF H locs ls hP hD hS hl)
theorem z_lor (C : zC Y X own cc nL R ret) {x y : Int64} (d : decode cc pc = .ok (.lor, 1)) (hn : pc + 1 = n) (kk : zR Y X nL Φ F n lo (.long (x ||| y) :: st) M) : zR Y X nL Φ F pc lo (.long y :: .long x :: st) M := by
  subst hn; intro a hF H locs ls hP hD hS hl
  exact lv_lor C.1 C.2.1 d (kk a hF H locs ls hP hD hS hl)
theorem z_lxor (C : zC Y X own cc nL R ret) {x y : Int64} (d : decode cc pc = .ok (.lxor, 1)) (hn : pc + 1 = n) (kk : zR Y X nL Φ F n lo (.long (x ^^^ y) :: st) M) : zR Y X nL Φ F pc lo (.long y :: .long x :: st) M := by
  subst hn; intro a hF H locs ls hP hD hS hl
  exact lv_lxor C.1 C.2.1 d (kk a hF H locs ls hP hD hS hl)
theorem z_idiv (C : zC Y X own cc nL R ret) {x y : Int32} (d : decode cc pc = .ok (.idiv, 1)) (hn : pc + 1 = n) (kk : zR Y X nL Φ F n lo (.int (x / y) :: st) M) : zR Y X nL Φ (if y = 0 then none else F) pc lo (.int y :: .int x :: st) M := by
  subst hn
  refine z_ite (fun _ => z_none) (fun hne => ?_)
  intro a hF H locs ls hP hD hS hl
  exact lv_idiv C.1 C.2.1 d hne (kk a hF H locs ls hP hD hS hl)
theorem z_irem (C : zC Y X own cc nL R ret) {x y : Int32} (d : decode cc pc = .ok (.irem, 1)) (hn : pc + 1 = n) (kk : zR Y X nL Φ F n lo (.int (zrem x y) :: st) M) : zR Y X nL Φ (if y = 0 then none else F) pc lo (.int y :: .int x :: st) M := by
  subst hn
  refine z_ite (fun _ => z_none) (fun hne => ?_)
  intro a hF H locs ls hP hD hS hl
  exact lv_irem C.1 C.2.1 d hne (kk a hF H locs ls hP hD hS hl)
theorem z_idivK (C : zC Y X own cc nL R ret) {x y : Int32} (d : decode cc pc = .ok (.idiv, 1)) (hne : ¬ y = 0) (hn : pc + 1 = n) (kk : zR Y X nL Φ F n lo (.int (x / y) :: st) M) : zR Y X nL Φ F pc lo (.int y :: .int x :: st) M := by
  subst hn
  intro a hF H locs ls hP hD hS hl
  exact lv_idiv C.1 C.2.1 d hne (kk a hF H locs ls hP hD hS hl)
theorem z_iremK (C : zC Y X own cc nL R ret) {x y : Int32} (d : decode cc pc = .ok (.irem, 1)) (hne : ¬ y = 0) (hn : pc + 1 = n) (kk : zR Y X nL Φ F n lo (.int (zrem x y) :: st) M) : zR Y X nL Φ F pc lo (.int y :: .int x :: st) M := by
  subst hn
  intro a hF H locs ls hP hD hS hl
  exact lv_irem C.1 C.2.1 d hne (kk a hF H locs ls hP hD hS hl)
theorem z_ldiv (C : zC Y X own cc nL R ret) {x y : Int64} (d : decode cc pc = .ok (.ldiv, 1)) (hn : pc + 1 = n) (kk : zR Y X nL Φ F n lo (.long (x / y) :: st) M) : zR Y X nL Φ (if y = 0 then none else F) pc lo (.long y :: .long x :: st) M := by
  subst hn
  refine z_ite (fun _ => z_none) (fun hne => ?_)
  intro a hF H locs ls hP hD hS hl
  exact lv_ldiv C.1 C.2.1 d hne (kk a hF H locs ls hP hD hS hl)
theorem z_lrem (C : zC Y X own cc nL R ret) {x y : Int64} (d : decode cc pc = .ok (.lrem, 1)) (hn : pc + 1 = n) (kk : zR Y X nL Φ F n lo (.long (zreml x y) :: st) M) : zR Y X nL Φ (if y = 0 then none else F) pc lo (.long y :: .long x :: st) M := by
  subst hn
  refine z_ite (fun _ => z_none) (fun hne => ?_)
  intro a hF H locs ls hP hD hS hl
  exact lv_lrem C.1 C.2.1 d hne (kk a hF H locs ls hP hD hS hl)
theorem z_ineg (C : zC Y X own cc nL R ret) {x : Int32} (d : decode cc pc = .ok (.ineg, 1)) (hn : pc + 1 = n) (kk : zR Y X nL Φ F n lo (.int (-x) :: st) M) : zR Y X nL Φ F pc lo (.int x :: st) M := by
  subst hn; intro a hF H locs ls hP hD hS hl
  exact lv_ineg C.1 C.2.1 d (kk a hF H locs ls hP hD hS hl)
theorem z_iushr (C : zC Y X own cc nL R ret) {x y : Int32} (d : decode cc pc = .ok (.iushr, 1)) (hn : pc + 1 = n) (kk : zR Y X nL Φ F n lo (.int (zushr x y) :: st) M) : zR Y X nL Φ F pc lo (.int y :: .int x :: st) M := by
  subst hn; intro a hF H locs ls hP hD hS hl
  exact lv_iushr C.1 C.2.1 d rfl (kk a hF H locs ls hP hD hS hl)
theorem z_lushr (C : zC Y X own cc nL R ret) {x : Int64} {y : Int32} (d : decode cc pc = .ok (.lushr, 1)) (hn : pc + 1 = n) (kk : zR Y X nL Φ F n lo (.long (zlushr x y) :: st) M) : zR Y X nL Φ F pc lo (.int y :: .long x :: st) M := by
  subst hn; intro a hF H locs ls hP hD hS hl
  exact lv_lushr C.1 C.2.1 d rfl (kk a hF H locs ls hP hD hS hl)
theorem z_lshr (C : zC Y X own cc nL R ret) {x : Int64} {y : Int32} (d : decode cc pc = .ok (.lshr, 1)) (hn : pc + 1 = n) (kk : zR Y X nL Φ F n lo (.long (x >>> (y.toInt64 &&& 63)) :: st) M) : zR Y X nL Φ F pc lo (.int y :: .long x :: st) M := by
  subst hn; intro a hF H locs ls hP hD hS hl
  exact lv_lshr C.1 C.2.1 d rfl (kk a hF H locs ls hP hD hS hl)
theorem z_lshl (C : zC Y X own cc nL R ret) {x : Int64} {y : Int32} (d : decode cc pc = .ok (.lshl, 1)) (hn : pc + 1 = n) (kk : zR Y X nL Φ F n lo (.long (x <<< (y.toInt64 &&& 63)) :: st) M) : zR Y X nL Φ F pc lo (.int y :: .long x :: st) M := by
  subst hn; intro a hF H locs ls hP hD hS hl
  exact lv_lshl C.1 C.2.1 d rfl (kk a hF H locs ls hP hD hS hl)
theorem z_i2l (C : zC Y X own cc nL R ret) {x : Int32} (d : decode cc pc = .ok (.i2l, 1)) (hn : pc + 1 = n) (kk : zR Y X nL Φ F n lo (.long x.toInt64 :: st) M) : zR Y X nL Φ F pc lo (.int x :: st) M := by
  subst hn; intro a hF H locs ls hP hD hS hl
  exact lv_i2l C.1 C.2.1 d rfl (kk a hF H locs ls hP hD hS hl)
theorem z_l2i (C : zC Y X own cc nL R ret) {x : Int64} (d : decode cc pc = .ok (.l2i, 1)) (hn : pc + 1 = n) (kk : zR Y X nL Φ F n lo (.int x.toInt32 :: st) M) : zR Y X nL Φ F pc lo (.long x :: st) M := by
  subst hn; intro a hF H locs ls hP hD hS hl
  exact lv_l2i C.1 C.2.1 d rfl (kk a hF H locs ls hP hD hS hl)
theorem z_i2b (C : zC Y X own cc nL R ret) {x : Int32} (d : decode cc pc = .ok (.i2b, 1)) (hn : pc + 1 = n) (kk : zR Y X nL Φ F n lo (.int x.toInt8.toInt32 :: st) M) : zR Y X nL Φ F pc lo (.int x :: st) M := by
  subst hn; intro a hF H locs ls hP hD hS hl
  exact lv_i2b C.1 C.2.1 d rfl (kk a hF H locs ls hP hD hS hl)
theorem z_lcmp (C : zC Y X own cc nL R ret) {x y : Int64} (d : decode cc pc = .ok (.lcmp, 1)) (hn : pc + 1 = n) (kk : zR Y X nL Φ F n lo (.int (lg_cmp x y) :: st) M) : zR Y X nL Φ F pc lo (.long y :: .long x :: st) M := by
  subst hn; intro a hF H locs ls hP hD hS hl
  exact W.lcmp C.1 C.2.1 d (kk a hF H locs ls hP hD hS hl)
theorem z_dup (C : zC Y X own cc nL R ret) {v : Value} (d : decode cc pc = .ok (.dup, 1)) (hv : v.category = 1) (hn : pc + 1 = n) (kk : zR Y X nL Φ F n lo (v :: v :: st) M) : zR Y X nL Φ F pc lo (v :: st) M := by
  subst hn; intro a hF H locs ls hP hD hS hl
  exact lv_dup C.1 C.2.1 d (by rw [zcv_cat]; exact hv) (kk a hF H locs ls hP hD hS hl)
theorem z_dup2 (C : zC Y X own cc nL R ret) {v w : Value} (d : decode cc pc = .ok (.dup2, 1)) (hv : v.category = 1) (hw : w.category = 1) (hn : pc + 1 = n) (kk : zR Y X nL Φ F n lo (v :: w :: v :: w :: st) M) : zR Y X nL Φ F pc lo (v :: w :: st) M := by
  subst hn; intro a hF H locs ls hP hD hS hl
  exact lv_dup2_11 C.1 C.2.1 d (by rw [zcv_cat]; exact hv) (by rw [zcv_cat]; exact hw) (kk a hF H locs ls hP hD hS hl)
theorem z_pop (C : zC Y X own cc nL R ret) {v : Value} (d : decode cc pc = .ok (.pop, 1)) (hv : v.category = 1) (hn : pc + 1 = n) (kk : zR Y X nL Φ F n lo st M) : zR Y X nL Φ F pc lo (v :: st) M := by
  subst hn; intro a hF H locs ls hP hD hS hl
  exact lv_pop C.1 C.2.1 d (by rw [zcv_cat]; exact hv) (kk a hF H locs ls hP hD hS hl)
theorem z_goto (C : zC Y X own cc nL R ret) {off : Int} (d : decode cc pc = .ok (.goto off, 3)) (ht : (pc : Int) + off = (n : Int)) (kk : zR Y X nL Φ F n lo st M) : zR Y X nL Φ F pc lo st M := by
  intro a hF H locs ls hP hD hS hl
  exact lv_goto C.1 C.2.1 d ht (kk a hF H locs ls hP hD hS hl)
theorem z_ifeq (C : zC Y X own cc nL R ret) {x : Int32} {off : Int} {t : Nat} (d : decode cc pc = .ok (.ifCond .eq off, 3)) (ht : (pc : Int) + off = (t : Int)) (hn : pc + 3 = n) (kt : zR Y X nL Φ F1 t lo st M) (kf : zR Y X nL Φ F2 n lo st M) : zR Y X nL Φ (if x = 0 then F1 else F2) pc lo (.int x :: st) M := by
  subst hn; intro a hF H locs ls hP hD hS hl
  exact lv_if_eq C.1 C.2.1 d ht (fun h => kt a (by rw [if_pos h] at hF; exact hF) H locs ls hP hD hS hl) (fun h => kf a (by rw [if_neg h] at hF; exact hF) H locs ls hP hD hS hl)
theorem z_ifne (C : zC Y X own cc nL R ret) {x : Int32} {off : Int} {t : Nat} (d : decode cc pc = .ok (.ifCond .ne off, 3)) (ht : (pc : Int) + off = (t : Int)) (hn : pc + 3 = n) (kt : zR Y X nL Φ F1 t lo st M) (kf : zR Y X nL Φ F2 n lo st M) : zR Y X nL Φ (if x = 0 then F2 else F1) pc lo (.int x :: st) M := by
  subst hn; intro a hF H locs ls hP hD hS hl
  exact lv_if_ne C.1 C.2.1 d ht (fun h => kt a (by rw [if_neg h] at hF; exact hF) H locs ls hP hD hS hl) (fun h => kf a (by rw [if_pos h] at hF; exact hF) H locs ls hP hD hS hl)
theorem z_iflt (C : zC Y X own cc nL R ret) {x : Int32} {off : Int} {t : Nat} (d : decode cc pc = .ok (.ifCond .lt off, 3)) (ht : (pc : Int) + off = (t : Int)) (hn : pc + 3 = n) (kt : zR Y X nL Φ F1 t lo st M) (kf : zR Y X nL Φ F2 n lo st M) : zR Y X nL Φ (if x < 0 then F1 else F2) pc lo (.int x :: st) M := by
  subst hn; intro a hF H locs ls hP hD hS hl
  exact lv_if_lt C.1 C.2.1 d ht (fun h => kt a (by rw [if_pos h] at hF; exact hF) H locs ls hP hD hS hl) (fun h => kf a (by rw [if_neg h] at hF; exact hF) H locs ls hP hD hS hl)
theorem z_ifge (C : zC Y X own cc nL R ret) {x : Int32} {off : Int} {t : Nat} (d : decode cc pc = .ok (.ifCond .ge off, 3)) (ht : (pc : Int) + off = (t : Int)) (hn : pc + 3 = n) (kt : zR Y X nL Φ F1 t lo st M) (kf : zR Y X nL Φ F2 n lo st M) : zR Y X nL Φ (if x < 0 then F2 else F1) pc lo (.int x :: st) M := by
  subst hn; intro a hF H locs ls hP hD hS hl
  exact lv_if_ge C.1 C.2.1 d ht (fun h => kt a (by rw [if_neg (Int32.not_lt.mpr h)] at hF; exact hF) H locs ls hP hD hS hl) (fun h => kf a (by rw [if_pos (Int32.not_le.mp h)] at hF; exact hF) H locs ls hP hD hS hl)
theorem z_ifgt (C : zC Y X own cc nL R ret) {x : Int32} {off : Int} {t : Nat} (d : decode cc pc = .ok (.ifCond .gt off, 3)) (ht : (pc : Int) + off = (t : Int)) (hn : pc + 3 = n) (kt : zR Y X nL Φ F1 t lo st M) (kf : zR Y X nL Φ F2 n lo st M) : zR Y X nL Φ (if 0 < x then F1 else F2) pc lo (.int x :: st) M := by
  subst hn; intro a hF H locs ls hP hD hS hl
  exact lv_if_gt C.1 C.2.1 d ht (fun h => kt a (by rw [if_pos h] at hF; exact hF) H locs ls hP hD hS hl) (fun h => kf a (by rw [if_neg h] at hF; exact hF) H locs ls hP hD hS hl)
theorem z_ifle (C : zC Y X own cc nL R ret) {x : Int32} {off : Int} {t : Nat} (d : decode cc pc = .ok (.ifCond .le off, 3)) (ht : (pc : Int) + off = (t : Int)) (hn : pc + 3 = n) (kt : zR Y X nL Φ F1 t lo st M) (kf : zR Y X nL Φ F2 n lo st M) : zR Y X nL Φ (if 0 < x then F2 else F1) pc lo (.int x :: st) M := by
  subst hn; intro a hF H locs ls hP hD hS hl
  exact lv_if_le C.1 C.2.1 d ht (fun h => kt a (by rw [if_neg (Int32.not_lt.mpr h)] at hF; exact hF) H locs ls hP hD hS hl) (fun h => kf a (by rw [if_pos (Int32.not_le.mp h)] at hF; exact hF) H locs ls hP hD hS hl)
theorem z_icmpeq (C : zC Y X own cc nL R ret) {x y : Int32} {off : Int} {t : Nat} (d : decode cc pc = .ok (.if_icmp .eq off, 3)) (ht : (pc : Int) + off = (t : Int)) (hn : pc + 3 = n) (kt : zR Y X nL Φ F1 t lo st M) (kf : zR Y X nL Φ F2 n lo st M) : zR Y X nL Φ (if x = y then F1 else F2) pc lo (.int y :: .int x :: st) M := by
  subst hn; intro a hF H locs ls hP hD hS hl
  exact lv_icmp_eq C.1 C.2.1 d ht (fun h => kt a (by rw [if_pos h] at hF; exact hF) H locs ls hP hD hS hl) (fun h => kf a (by rw [if_neg h] at hF; exact hF) H locs ls hP hD hS hl)
theorem z_icmpne (C : zC Y X own cc nL R ret) {x y : Int32} {off : Int} {t : Nat} (d : decode cc pc = .ok (.if_icmp .ne off, 3)) (ht : (pc : Int) + off = (t : Int)) (hn : pc + 3 = n) (kt : zR Y X nL Φ F1 t lo st M) (kf : zR Y X nL Φ F2 n lo st M) : zR Y X nL Φ (if x = y then F2 else F1) pc lo (.int y :: .int x :: st) M := by
  subst hn; intro a hF H locs ls hP hD hS hl
  exact lv_icmp_ne C.1 C.2.1 d ht (fun h => kt a (by rw [if_neg h] at hF; exact hF) H locs ls hP hD hS hl) (fun h => kf a (by rw [if_pos h] at hF; exact hF) H locs ls hP hD hS hl)
theorem z_icmplt (C : zC Y X own cc nL R ret) {x y : Int32} {off : Int} {t : Nat} (d : decode cc pc = .ok (.if_icmp .lt off, 3)) (ht : (pc : Int) + off = (t : Int)) (hn : pc + 3 = n) (kt : zR Y X nL Φ F1 t lo st M) (kf : zR Y X nL Φ F2 n lo st M) : zR Y X nL Φ (if x < y then F1 else F2) pc lo (.int y :: .int x :: st) M := by
  subst hn; intro a hF H locs ls hP hD hS hl
  exact lv_icmp_lt C.1 C.2.1 d ht (fun h => kt a (by rw [if_pos h] at hF; exact hF) H locs ls hP hD hS hl) (fun h => kf a (by rw [if_neg h] at hF; exact hF) H locs ls hP hD hS hl)
theorem z_icmpge (C : zC Y X own cc nL R ret) {x y : Int32} {off : Int} {t : Nat} (d : decode cc pc = .ok (.if_icmp .ge off, 3)) (ht : (pc : Int) + off = (t : Int)) (hn : pc + 3 = n) (kt : zR Y X nL Φ F1 t lo st M) (kf : zR Y X nL Φ F2 n lo st M) : zR Y X nL Φ (if x < y then F2 else F1) pc lo (.int y :: .int x :: st) M := by
  subst hn; intro a hF H locs ls hP hD hS hl
  exact lv_icmp_ge C.1 C.2.1 d ht (fun h => kt a (by rw [if_neg (Int32.not_lt.mpr h)] at hF; exact hF) H locs ls hP hD hS hl) (fun h => kf a (by rw [if_pos (Int32.not_le.mp h)] at hF; exact hF) H locs ls hP hD hS hl)
theorem z_icmpgt (C : zC Y X own cc nL R ret) {x y : Int32} {off : Int} {t : Nat} (d : decode cc pc = .ok (.if_icmp .gt off, 3)) (ht : (pc : Int) + off = (t : Int)) (hn : pc + 3 = n) (kt : zR Y X nL Φ F1 t lo st M) (kf : zR Y X nL Φ F2 n lo st M) : zR Y X nL Φ (if y < x then F1 else F2) pc lo (.int y :: .int x :: st) M := by
  subst hn; intro a hF H locs ls hP hD hS hl
  exact lv_icmp_gt C.1 C.2.1 d ht (fun h => kt a (by rw [if_pos h] at hF; exact hF) H locs ls hP hD hS hl) (fun h => kf a (by rw [if_neg h] at hF; exact hF) H locs ls hP hD hS hl)
theorem z_icmple (C : zC Y X own cc nL R ret) {x y : Int32} {off : Int} {t : Nat} (d : decode cc pc = .ok (.if_icmp .le off, 3)) (ht : (pc : Int) + off = (t : Int)) (hn : pc + 3 = n) (kt : zR Y X nL Φ F1 t lo st M) (kf : zR Y X nL Φ F2 n lo st M) : zR Y X nL Φ (if y < x then F2 else F1) pc lo (.int y :: .int x :: st) M := by
  subst hn; intro a hF H locs ls hP hD hS hl
  exact lv_icmp_le C.1 C.2.1 d ht (fun h => kt a (by rw [if_neg (Int32.not_lt.mpr h)] at hF; exact hF) H locs ls hP hD hS hl) (fun h => kf a (by rw [if_pos (Int32.not_le.mp h)] at hF; exact hF) H locs ls hP hD hS hl)
theorem z_tswIn (C : zC Y X own cc nL R ret) {dflt l1 h1 : Int} {offs : Array Int} {len : Nat} {x v : Int32} {off : Int} (hx : x = v) (d : decode cc pc = .ok (.tableswitch dflt l1 h1 offs, len)) (g1 : ¬ v.toInt < l1) (g2 : ¬ h1 < v.toInt) (ho : offs[(v.toInt - l1).toNat]? = some off) (ht : (pc : Int) + off = (n : Int)) (kk : zR Y X nL Φ F n lo st M) : zR Y X nL Φ F pc lo (.int x :: st) M := by
  subst hx; intro a hF H locs ls hP hD hS hl
  exact lv_tableIn C.1 C.2.1 d g1 g2 ho ht (kk a hF H locs ls hP hD hS hl)
theorem z_tswOut (C : zC Y X own cc nL R ret) {dflt l1 h1 : Int} {offs : Array Int} {len : Nat} {x : Int32} (g : x.toInt < l1 ∨ h1 < x.toInt) (d : decode cc pc = .ok (.tableswitch dflt l1 h1 offs, len)) (ht : (pc : Int) + dflt = (n : Int)) (kk : zR Y X nL Φ F n lo st M) : zR Y X nL Φ F pc lo (.int x :: st) M := by
  intro a hF H locs ls hP hD hS hl
  exact lv_tableOut C.1 C.2.1 d g ht (kk a hF H locs ls hP hD hS hl)
theorem z_lsw (C : zC Y X own cc nL R ret) {dflt : Int} {ps : Array (Int × Int)} {len : Nat} {x : Int32} {off : Int} (d : decode cc pc = .ok (.lookupswitch dflt ps, len)) (hp : (ps.toList.zip (ps.toList.drop 1)).all (fun (a, next) => a.1 < next.1) = true) (ho : Op.lookupswitch.offset ps.toList dflt x.toInt = off) (ht : (pc : Int) + off = (n : Int)) (kk : zR Y X nL Φ F n lo st M) : zR Y X nL Φ F pc lo (.int x :: st) M := by
  intro a hF H locs ls hP hD hS hl
  exact lv_lookup C.1 C.2.1 d hp ho ht (kk a hF H locs ls hP hD hS hl)
theorem zC.words (C : zC Y X own cc nL R ret) : ∀ w ∈ zTab, w.before (xA X) (xS X) = true := C.2.2.2.2.1
theorem zC.locks (C : zC Y X own cc nL R ret) : (xH X).locks = false := C.2.2.2.2.2.1
theorem zC.rets (C : zC Y X own cc nL R ret) : (xH X).sig.returnType = ret := C.2.2.2.2.2.2.1
theorem zC.room (C : zC Y X own cc nL R ret) : xR X = R := C.2.2.2.2.2.2.2.1
theorem zC.low (C : zC Y X own cc nL R ret) : yB Y ≤ (xS X).heap.size := C.2.2.2.2.2.2.2.2.2.1
theorem zC.K (C : zC Y X own cc nL R ret) : va_K (yD Y) vwCl (ztys (yC Y)) (xS X) := C.2.2.2.2.2.2.2.2.2.2.1
theorem zC.N (C : zC Y X own cc nL R ret) : zNs (xS X) := C.2.2.2.2.2.2.2.2.2.2.2.1
theorem zC.S (C : zC Y X own cc nL R ret) : zSs Y (xS X) (xS X).heap := C.2.2.2.2.2.2.2.2.2.2.2.2
theorem zC.P (C : zC Y X own cc nL R ret) {H : Heap} {locs : List Loc} (hP : va_P (yD Y) vwCl (yW Y M) H) (hD : va_D (yF Y) (yW Y M)) (hS : va_S (yF Y) (xS X).heap H locs) : ∀ U : State, U.heap = H → (xS X).WarmedH U.vm → zP Y M U := by
  intro U hU hW
  subst hU
  exact ⟨Nat.le_trans C.low hS.1, hP, va_K.moved hW.alike C.K, hD, C.N.warm hW, (C.S.kept (fun a h1 h2 => hS.2.1 a h1 h2)).moved hW.alike⟩
theorem zlI {q k j : Nat} (h : zlenI q = k) (hj : j < k) : q < 119 ∧ (zkd q).1 = 1 ∧ (zkd q).2 = k := by
  unfold zlenI at h
  by_cases h1 : (zkd q).1 = 1
  · rw [if_pos h1] at h; exact ⟨zkd_lt (by omega), h1, h⟩
  · rw [if_neg h1] at h; omega
theorem zlB {q k j : Nat} (h : zlenB q = k) (hj : j < k) : q < 119 ∧ (zkd q).1 = 2 ∧ (zkd q).2 = k := by
  unfold zlenB at h
  by_cases h1 : (zkd q).1 = 2
  · rw [if_pos h1] at h; exact ⟨zkd_lt (by omega), h1, h⟩
  · rw [if_neg h1] at h; omega
theorem zlZ {q k j : Nat} (h : zlenZ q = k) (hj : j < k) : q < 119 ∧ (zkd q).1 = 3 ∧ (zkd q).2 = k := by
  unfold zlenZ at h
  by_cases h1 : (zkd q).1 = 3
  · rw [if_pos h1] at h; exact ⟨zkd_lt (by omega), h1, h⟩
  · rw [if_neg h1] at h; omega
theorem zlR {q k j : Nat} (h : zlenR q = k) (hj : j < k) : q < 119 ∧ (zkd q).1 = 4 ∧ (zkd q).2 = k := by
  unfold zlenR at h
  by_cases h1 : (zkd q).1 = 4
  · rw [if_pos h1] at h; exact ⟨zkd_lt (by omega), h1, h⟩
  · rw [if_neg h1] at h; omega
theorem zcell1 {ad : Nat → Nat} {cy : Nat → ClassId} {q k : Nat} (h1 : (zkd q).1 = 1) (h2 : (zkd q).2 = k) : zcell ad cy M q = .inl (cy 0, k, .inl (M.1 q)) := by
  unfold zcell; rw [if_pos h1, h2]
theorem zcell2 {ad : Nat → Nat} {cy : Nat → ClassId} {q k : Nat} (h1 : (zkd q).1 = 2) (h2 : (zkd q).2 = k) : zcell ad cy M q = .inl (cy 1, k, .inl (M.1 q)) := by
  unfold zcell; rw [if_neg (by omega), if_pos h1, h2]
theorem zcell3 {ad : Nat → Nat} {cy : Nat → ClassId} {q k : Nat} (h1 : (zkd q).1 = 3) (h2 : (zkd q).2 = k) : zcell ad cy M q = .inl (cy 2, k, .inl (M.1 q)) := by
  unfold zcell; rw [if_neg (by omega), if_neg (by omega), if_pos h1, h2]
theorem zcell4 {ad : Nat → Nat} {cy : Nat → ClassId} {q k : Nat} (h1 : (zkd q).1 = 4) (h2 : (zkd q).2 = k) : zcell ad cy M q = .inl (cy 3, k, .inr (.inr (.inr (.inr (fun i => if i < k then some (ad (q + 1 + i)) else none))))) := by
  unfold zcell; rw [if_neg (by omega), if_neg (by omega), if_neg (by omega), if_pos h1, h2]
theorem zcell5 {ad : Nat → Nat} {cy : Nat → ClassId} {q k : Nat} (h : zkd q = (5, k)) : zcell ad cy M q = .inr (k, (zfs M q).map (zcv ad)) := by
  unfold zcell; rw [h]; rfl
theorem z_iaload (C : zC Y X own cc nL R ret) {q : Nat} {i : Int32} (k : Nat) (hq : zlenI q = k) (d : decode cc pc = .ok (.iaload, 1)) (hn : pc + 1 = n) (kk : zR Y X nL Φ F n lo (.int (zrd M q i) :: st) M) : zR Y X nL Φ (zguard (zin i k) F) pc lo (.int i :: .ref q :: st) M := by
  subst hn
  refine z_guard fun hg => ?_
  obtain ⟨h1, h2, h3⟩ := zlI hq (zin_lt hg)
  intro a hF H locs ls hP hD hS hl
  exact va_iald C.1 C.2.1 C.K hP q 0 ((zws_get h1).trans (by rw [zcell1 h2 h3])) rfl (zin_vp hg) d (kk a hF H locs ls hP hD hS hl)
theorem z_baload (C : zC Y X own cc nL R ret) {q : Nat} {i : Int32} (k : Nat) (hq : zlenB q = k) (d : decode cc pc = .ok (.baload, 1)) (hn : pc + 1 = n) (kk : zR Y X nL Φ F n lo (.int (zrd M q i) :: st) M) : zR Y X nL Φ (zguard (zin i k) F) pc lo (.int i :: .ref q :: st) M := by
  subst hn
  refine z_guard fun hg => ?_
  obtain ⟨h1, h2, h3⟩ := zlB hq (zin_lt hg)
  intro a hF H locs ls hP hD hS hl
  exact va_bald C.1 C.2.1 C.K hP q 1 ((zws_get h1).trans (by rw [zcell2 h2 h3])) rfl (zin_vp hg) d (kk a hF H locs ls hP hD hS hl)
theorem z_zaload (C : zC Y X own cc nL R ret) {q : Nat} {i : Int32} (k : Nat) (hq : zlenZ q = k) (d : decode cc pc = .ok (.baload, 1)) (hn : pc + 1 = n) (kk : zR Y X nL Φ F n lo (.int (zrd M q i) :: st) M) : zR Y X nL Φ (zguard (zin i k) F) pc lo (.int i :: .ref q :: st) M := by
  subst hn
  refine z_guard fun hg => ?_
  obtain ⟨h1, h2, h3⟩ := zlZ hq (zin_lt hg)
  intro a hF H locs ls hP hD hS hl
  exact va_zald C.1 C.2.1 C.K hP q 2 ((zws_get h1).trans (by rw [zcell3 h2 h3])) rfl (zin_vp hg) d (kk a hF H locs ls hP hD hS hl)
theorem z_ialoadL (C : zC Y X own cc nL R ret) {i : Int32} (d : decode cc pc = .ok (.iaload, 1)) (hn : pc + 1 = n) (kk : zR Y X nL Φ F n lo (.int (zLO (zcl i)) :: st) M) : zR Y X nL Φ (zguard (zin i 6) F) pc lo (.int i :: .ref 119 :: st) M := by
  subst hn
  refine z_guard fun hg => ?_
  intro a hF H locs ls hP hD hS hl
  exact va_ti C.1 C.2.1 C.S.2.2.1 hS (zin_vp hg) rfl d (kk a hF H locs ls hP hD hS hl)
theorem z_ialoadM (C : zC Y X own cc nL R ret) {i : Int32} (d : decode cc pc = .ok (.iaload, 1)) (hn : pc + 1 = n) (kk : zR Y X nL Φ F n lo (.int (zMO (zcl i)) :: st) M) : zR Y X nL Φ (zguard (zin i 6) F) pc lo (.int i :: .ref 120 :: st) M := by
  subst hn
  refine z_guard fun hg => ?_
  intro a hF H locs ls hP hD hS hl
  exact va_ti C.1 C.2.1 C.S.2.2.2 hS (zin_vp hg) rfl d (kk a hF H locs ls hP hD hS hl)
theorem z_aaload (C : zC Y X own cc nL R ret) {q : Nat} {i : Int32} (k : Nat) (hq : zlenR q = k) (d : decode cc pc = .ok (.aaload, 1)) (hn : pc + 1 = n) (kk : zR Y X nL Φ F n lo (.ref (zrow q i) :: st) M) : zR Y X nL Φ (zguard (zin i k) F) pc lo (.int i :: .ref q :: st) M := by
  subst hn
  refine z_guard fun hg => ?_
  obtain ⟨h1, h2, h3⟩ := zlR hq (zin_lt hg)
  intro a hF H locs ls hP hD hS hl
  have hlt : i.toNatClampNeg < k := zin_lt hg
  have hv : va_rf (if i.toNatClampNeg < k then some (yA Y (q + 1 + i.toNatClampNeg)) else none) = .ref (yA Y (q + 1 + i.toNatClampNeg)) := by rw [if_pos hlt]; rfl
  have hc := hP q _ ((zws_get h1).trans (by rw [zcell4 h2 h3]))
  refine W.aald (v := .ref (yA Y (q + 1 + i.toNatClampNeg))) (ty := .array .int) C.1 C.2.1 hc ((C.K.2 3 _ rfl).1 k (fun j => va_rf (if j < k then some (yA Y (q + 1 + j)) else none))) rfl (fun q => by cases q) (by show ¬ (i < 0 ∨ (arrV _ _ _).slots.size ≤ _); rw [arrV_size]; exact zin_vp hg) (by show (arrV _ _ _).slots[_]? = _; rw [arrV_read _ _ hlt, hv]) rfl rfl d ?_
  exact kk a hF H locs ls hP hD hS hl
theorem z_alen (C : zC Y X own cc nL R ret) {q : Nat} (d : decode cc pc = .ok (.arraylength, 1)) (hn : pc + 1 = n) (kk : zR Y X nL Φ F n lo (.int (Int32.ofNat (zlenI q)) :: st) M) : zR Y X nL Φ (zguard (decide ((zkd q).1 = 1)) F) pc lo (.ref q :: st) M := by
  subst hn
  refine z_guard fun hg => ?_
  have hg : (zkd q).1 = 1 := of_decide_eq_true hg
  intro a hF H locs ls hP hD hS hl
  exact va_alen C.1 C.2.1 C.K hP q 0 ((zws_get (zkd_lt (by omega))).trans (by rw [zcell1 hg rfl])) rfl (by unfold zlenI; rw [if_pos hg]) d (kk a hF H locs ls hP hD hS hl)
theorem zwr_cell {ad : Nat → Nat} {cy : Nat → ClassId} {q i : Nat} {v : Int32} : ∀ c, c ≠ q → zcell ad cy (zwr M q i v) c = zcell ad cy M c := fun _ h => zcell_congr (zwr_ne h) rfl
theorem z_iastore (C : zC Y X own cc nL R ret) {q : Nat} {i x : Int32} {f : zMem → Option ρ} (k : Nat) (hq : zlenI q = k) (d : decode cc pc = .ok (.iastore, 1)) (hn : pc + 1 = n) (kk : ∀ M', zR Y X nL Φ (f M') n lo st M') : zR Y X nL Φ (zguard (zin i k) (zlet (zwr M q (zcl i) x) f)) pc lo (.int x :: .int i :: .ref q :: st) M := by
  subst hn
  refine z_guard fun hg => ?_
  obtain ⟨h1, h2, h3⟩ := zlI hq (zin_lt hg)
  intro a hF H locs ls hP hD hS hl
  refine va_iast C.1 C.2.1 C.K hP hD hS q 0 ((zws_get h1).trans (by rw [zcell1 h2 h3])) rfl (zin_vp hg) d (fun H1 locs1 hP1 hD1 hS1 => ?_)
  have e : (yW Y M).set q (yA Y q, .inl (yC Y 0, k, .inl (upd (M.1 q) i.toNatClampNeg x))) = yW Y (zwr M q (zcl i) x) := zws_set h1 zwr_cell (by rw [zcell1 h2 h3, zwr_row]; rfl)
  rw [e] at hP1 hD1
  exact kk _ a hF H1 locs1 ls hP1 hD1 hS1 hl
theorem z_bastore (C : zC Y X own cc nL R ret) {q : Nat} {i x : Int32} {f : zMem → Option ρ} (k : Nat) (hq : zlenB q = k) (d : decode cc pc = .ok (.bastore, 1)) (hn : pc + 1 = n) (kk : ∀ M', zR Y X nL Φ (f M') n lo st M') : zR Y X nL Φ (zguard (zin i k) (zlet (zwr M q (zcl i) x.toInt8.toInt32) f)) pc lo (.int x :: .int i :: .ref q :: st) M := by
  subst hn
  refine z_guard fun hg => ?_
  obtain ⟨h1, h2, h3⟩ := zlB hq (zin_lt hg)
  intro a hF H locs ls hP hD hS hl
  refine va_bast C.1 C.2.1 C.K hP hD hS q 1 ((zws_get h1).trans (by rw [zcell2 h2 h3])) rfl (zin_vp hg) d (fun H1 locs1 hP1 hD1 hS1 => ?_)
  have e : (yW Y M).set q (yA Y q, .inl (yC Y 1, k, .inl (upd (M.1 q) i.toNatClampNeg (vp_nar .byte x)))) = yW Y (zwr M q (zcl i) x.toInt8.toInt32) := zws_set h1 zwr_cell (by rw [zcell2 h2 h3, zwr_row]; rfl)
  rw [e] at hP1 hD1
  exact kk _ a hF H1 locs1 ls hP1 hD1 hS1 hl
theorem z_zastore (C : zC Y X own cc nL R ret) {q : Nat} {i x : Int32} {f : zMem → Option ρ} (k : Nat) (hq : zlenZ q = k) (d : decode cc pc = .ok (.bastore, 1)) (hn : pc + 1 = n) (kk : ∀ M', zR Y X nL Φ (f M') n lo st M') : zR Y X nL Φ (zguard (zin i k) (zlet (zwr M q (zcl i) (x &&& 1)) f)) pc lo (.int x :: .int i :: .ref q :: st) M := by
  subst hn
  refine z_guard fun hg => ?_
  obtain ⟨h1, h2, h3⟩ := zlZ hq (zin_lt hg)
  intro a hF H locs ls hP hD hS hl
  refine va_zast C.1 C.2.1 C.K hP hD hS q 2 ((zws_get h1).trans (by rw [zcell3 h2 h3])) rfl (zin_vp hg) d (fun H1 locs1 hP1 hD1 hS1 => ?_)
  have e : (yW Y M).set q (yA Y q, .inl (yC Y 2, k, .inl (upd (M.1 q) i.toNatClampNeg (vp_nar .boolean x)))) = yW Y (zwr M q (zcl i) (x &&& 1)) := zws_set h1 zwr_cell (by rw [zcell3 h2 h3, zwr_row]; rfl)
  rw [e] at hP1 hD1
  exact kk _ a hF H1 locs1 ls hP1 hD1 hS1 hl
theorem z5lt {q ci : Nat} (h : zkd q = (5, ci)) : q < 119 := zkd_lt (by rw [h]; show (5 : Nat) ≠ 0; decide)
/-- what the tables say of a class -/
def zOK (ci : Nat) (Cn : String) (T : u_T) (N : Nat) (ty0 : Nat → FieldType) : Prop := vwCl[ci]? = some (Cn, T, N) ∧ (∀ w ∈ u_ws Cn T N, w ∈ zTab) ∧ (∀ k, k < N → parseFieldDescriptor (T k).2.2.1 = some (ty0 k)) ∧ ∀ a, a < N → ∀ b, b < N → a ≠ b → (T a).2.1 ≠ (T b).2.1
theorem z_get (C : zC Y X own cc nL R ret) {ci N ix q : Nat} {Cn ref : String} {T : u_T} {ty0 : Nat → FieldType} (k : Nat) {v : Value} (hO : zOK ci Cn T N ty0) (hq : zkd q = (5, ci)) (hk : k < N) (hw : Cond.fieldLink own ix ref (T k).2.1 (T k).2.2.1 ∈ zTab) (hs : ref = (T k).1) (hv : (zfs M q)[k]? = some v) (d : decode cc pc = .ok (.getfield ix, 3)) (hn : pc + 3 = n) (kk : zR Y X nL Φ F n lo (v :: st) M) : zR Y X nL Φ F pc lo (.ref q :: st) M := by
  subst hn
  intro a hF H locs ls hP hD hS hl
  exact va_get C.1 C.2.1 C.words hO.2.1 C.2.2.2.1 C.K hP q ((zws_get (z5lt hq)).trans (by rw [zcell5 hq])) hO.1 k hk (C.words _ hw) (fun x h => by rw [hs]; exact h) (v := zcv (yA Y) v) (by rw [List.getElem?_map, hv]; rfl) d (kk a hF H locs ls hP hD hS hl)
theorem z_getN (C : zC Y X own cc nL R ret) {ci N ix q : Nat} {Cn ref host : String} {T : u_T} {ty0 : Nat → FieldType} (k : Nat) {v : Value} (hO : zOK ci Cn T N ty0) (hq : zkd q = (5, ci)) (hk : k < N) (hw : (own, ix, ref, (T k).2.1, (T k).2.2.1, host) ∈ zNF) (hs : ref = (T k).1) (hv : (zfs M q)[k]? = some v) (d : decode cc pc = .ok (.getfield ix, 3)) (hn : pc + 3 = n) (kk : zR Y X nL Φ F n lo (v :: st) M) : zR Y X nL Φ F pc lo (.ref q :: st) M := by
  subst hn
  intro a hF H locs ls hP hD hS hl
  exact va_getN C.1 C.2.1 C.words hO.2.1 C.2.2.2.1 C.K hP q ((zws_get (z5lt hq)).trans (by rw [zcell5 hq])) hO.1 k hk (va_Nw.use rfl (C.N.1 _ hw)) (fun x h => by rw [hs]; exact h) (v := zcv (yA Y) v) (by rw [List.getElem?_map, hv]; rfl) d (kk a hF H locs ls hP hD hS hl)
theorem zfs_get (q j : Nat) : (zfs M q)[j]? = ((zfl q)[j]?).map (zfv M q j) := by
  unfold zfs
  rw [zfsA_get, Nat.zero_add]
theorem zfs_len (q : Nat) : (zfs M q).length = (zfl q).length := by
  unfold zfs
  rw [zfsA_len]
theorem zfs_wr {q k : Nat} {x : Int32} {v : Value} {dd : Nat × Nat} (hd : (zfl q)[k]? = some dd) (hv : zfv (zwr M q k x) q k dd = v) : zfs (zwr M q k x) q = (zfs M q).set k v := by
  apply List.ext_getElem?
  intro j
  have hk : k < (zfl q).length := (List.getElem?_eq_some_iff.mp hd).1
  by_cases hj : j = k
  · subst hj
    rw [List.getElem?_set_self (by rw [zfs_len]; exact hk), zfs_get, hd, Option.map_some, hv]
  · rw [List.getElem?_set_ne (fun e => hj e.symm), zfs_get, zfs_get]
    have e : (zwr M q k x).1 q j = M.1 q j := by simp [zwr, hj]
    unfold zfv
    rw [e]
    rfl
theorem z_set5 {q ci k : Nat} {M' : zMem} {v : Value} (hq : zkd q = (5, ci)) (hc : ∀ c, c ≠ q → zcell (yA Y) (yC Y) M' c = zcell (yA Y) (yC Y) M c) (hv : zfs M' q = (zfs M q).set k v) : (yW Y M).set q (yA Y q, .inr (ci, ((zfs M q).map (zcv (yA Y))).set k (zcv (yA Y) v))) = yW Y M' :=
  zws_set (z5lt hq) hc (by rw [zcell5 hq, hv, List.map_set])
theorem z_puti (C : zC Y X own cc nL R ret) {ci N ix q : Nat} {Cn ref : String} {T : u_T} {ty0 : Nat → FieldType} (k : Nat) {x : Int32} {f : zMem → Option ρ} (hO : zOK ci Cn T N ty0) (hq : zkd q = (5, ci)) (hk : k < N) (hw : Cond.fieldLink own ix ref (T k).2.1 (T k).2.2.1 ∈ zTab) (hs : ref = (T k).1) (hfin : (T k).2.2.2 = false) (hd : (zfl q)[k]? = some (0, 0)) (hn2 : narrow (ty0 k) (.int x) = .int x) (hfit : fits (ty0 k) (.int x) = true) (d : decode cc pc = .ok (.putfield ix, 3)) (hn : pc + 3 = n) (kk : ∀ M', zR Y X nL Φ (f M') n lo st M') : zR Y X nL Φ (zlet (zwr M q k x) f) pc lo (.int x :: .ref q :: st) M := by
  subst hn
  intro a hF H locs ls hP hD hS hl
  refine va_put C.1 C.2.1 C.words hO.2.1 ty0 hO.2.2.1 hO.2.2.2 C.2.2.2.1 C.K hP hD hS q ((zws_get (z5lt hq)).trans (by rw [zcell5 hq])) hO.1 k hk (C.words _ hw) (fun x h => by rw [hs]; exact h) hfin (hO.2.2.1 k hk) hn2 hfit (by rw [List.length_map, zfs_len]; exact (List.getElem?_eq_some_iff.mp hd).1) d (fun H1 locs1 hP1 hD1 hS1 => ?_)
  have e : (yW Y M).set q (yA Y q, .inr (ci, ((zfs M q).map (zcv (yA Y))).set k (zcv (yA Y) (.int x)))) = yW Y (zwr M q k x) := z_set5 (v := .int x) hq zwr_cell (zfs_wr hd (by simp [zfv, zwr]))
  rw [e] at hP1 hD1
  exact kk _ a hF H1 locs1 ls hP1 hD1 hS1 hl
theorem z_putiN (C : zC Y X own cc nL R ret) {ci N ix q : Nat} {Cn ref host : String} {T : u_T} {ty0 : Nat → FieldType} (k : Nat) {x : Int32} {f : zMem → Option ρ} (hO : zOK ci Cn T N ty0) (hq : zkd q = (5, ci)) (hk : k < N) (hw : (own, ix, ref, (T k).2.1, (T k).2.2.1, host) ∈ zNF) (hs : ref = (T k).1) (hfin : (T k).2.2.2 = false) (hd : (zfl q)[k]? = some (0, 0)) (hn2 : narrow (ty0 k) (.int x) = .int x) (hfit : fits (ty0 k) (.int x) = true) (d : decode cc pc = .ok (.putfield ix, 3)) (hn : pc + 3 = n) (kk : ∀ M', zR Y X nL Φ (f M') n lo st M') : zR Y X nL Φ (zlet (zwr M q k x) f) pc lo (.int x :: .ref q :: st) M := by
  subst hn
  intro a hF H locs ls hP hD hS hl
  refine va_putN C.1 C.2.1 C.words hO.2.1 ty0 hO.2.2.1 hO.2.2.2 C.2.2.2.1 C.K hP hD hS q ((zws_get (z5lt hq)).trans (by rw [zcell5 hq])) hO.1 k hk (va_Nw.use rfl (C.N.1 _ hw)) (fun x h => by rw [hs]; exact h) hfin (hO.2.2.1 k hk) hn2 hfit (by rw [List.length_map, zfs_len]; exact (List.getElem?_eq_some_iff.mp hd).1) d (fun H1 locs1 hP1 hD1 hS1 => ?_)
  have e : (yW Y M).set q (yA Y q, .inr (ci, ((zfs M q).map (zcv (yA Y))).set k (zcv (yA Y) (.int x)))) = yW Y (zwr M q k x) := z_set5 (v := .int x) hq zwr_cell (zfs_wr hd (by simp [zfv, zwr]))
  rw [e] at hP1 hD1
  exact kk _ a hF H1 locs1 ls hP1 hD1 hS1 hl
theorem z_putrN (C : zC Y X own cc nL R ret) {ci N ix q r : Nat} {Cn ref host : String} {T : u_T} {ty0 : Nat → FieldType} (k : Nat) {f : zMem → Option ρ} (hO : zOK ci Cn T N ty0) (hq : zkd q = (5, ci)) (hk : k < N) (hw : (own, ix, ref, (T k).2.1, (T k).2.2.1, host) ∈ zNF) (hs : ref = (T k).1) (hfin : (T k).2.2.2 = false) (hd : (zfl q)[k]? = some (3, 0)) (hn2 : ∀ z : Nat, narrow (ty0 k) (.ref z) = .ref z) (hfit : ∀ z : Nat, fits (ty0 k) (.ref z) = true) (d : decode cc pc = .ok (.putfield ix, 3)) (hn : pc + 3 = n) (kk : ∀ M', zR Y X nL Φ (f M') n lo st M') : zR Y X nL Φ (zguard (decide (r < 119)) (zlet (zwr M q k (nI r)) f)) pc lo (.ref r :: .ref q :: st) M := by
  subst hn
  refine z_guard fun hg => ?_
  have hg : r < 119 := of_decide_eq_true hg
  intro a hF H locs ls hP hD hS hl
  refine va_putN C.1 C.2.1 C.words hO.2.1 ty0 hO.2.2.1 hO.2.2.2 C.2.2.2.1 C.K hP hD hS q ((zws_get (z5lt hq)).trans (by rw [zcell5 hq])) hO.1 k hk (va_Nw.use rfl (C.N.1 _ hw)) (fun x h => by rw [hs]; exact h) hfin (hO.2.2.1 k hk) (hn2 _) (hfit _) (by rw [List.length_map, zfs_len]; exact (List.getElem?_eq_some_iff.mp hd).1) d (fun H1 locs1 hP1 hD1 hS1 => ?_)
  have e : (yW Y M).set q (yA Y q, .inr (ci, ((zfs M q).map (zcv (yA Y))).set k (zcv (yA Y) (.ref r)))) = yW Y (zwr M q k (nI r)) := z_set5 (v := .ref r) hq zwr_cell (zfs_wr hd (by
    have h1 : (zwr M q k (nI r)).1 q k = nI r := by simp [zwr]
    unfold zfv
    rw [h1]
    show Value.ref (zcl (nI r)) = _
    unfold zcl
    rw [nI_clamp (by omega)]))
  rw [e] at hP1 hD1
  exact kk _ a hF H1 locs1 ls hP1 hD1 hS1 hl
theorem z_putl (C : zC Y X own cc nL R ret) {ci N ix q : Nat} {Cn ref : String} {T : u_T} {ty0 : Nat → FieldType} (k : Nat) {x : Int64} {f : zMem → Option ρ} (hO : zOK ci Cn T N ty0) (hq : zkd q = (5, ci)) (hk : k < N) (hw : Cond.fieldLink own ix ref (T k).2.1 (T k).2.2.1 ∈ zTab) (hs : ref = (T k).1) (hfin : (T k).2.2.2 = false) (hd : (zfl q)[k]? = some (1, 0)) (ho : ∀ j : Nat, j < (zfl q).length → j ≠ k → ((zfl q).getD j (0, 0)).1 ≠ 1) (hn2 : narrow (ty0 k) (.long x) = .long x) (hfit : fits (ty0 k) (.long x) = true) (d : decode cc pc = .ok (.putfield ix, 3)) (hn : pc + 3 = n) (kk : ∀ M', zR Y X nL Φ (f M') n lo st M') : zR Y X nL Φ (zlet (zwl M q x) f) pc lo (.long x :: .ref q :: st) M := by
  subst hn
  intro a hF H locs ls hP hD hS hl
  refine va_put C.1 C.2.1 C.words hO.2.1 ty0 hO.2.2.1 hO.2.2.2 C.2.2.2.1 C.K hP hD hS q ((zws_get (z5lt hq)).trans (by rw [zcell5 hq])) hO.1 k hk (C.words _ hw) (fun x h => by rw [hs]; exact h) hfin (hO.2.2.1 k hk) hn2 hfit (by rw [List.length_map, zfs_len]; exact (List.getElem?_eq_some_iff.mp hd).1) d (fun H1 locs1 hP1 hD1 hS1 => ?_)
  have e : (yW Y M).set q (yA Y q, .inr (ci, ((zfs M q).map (zcv (yA Y))).set k (zcv (yA Y) (.long x)))) = yW Y (zwl M q x) := by
    refine z_set5 (v := .long x) hq (fun c hc => zcell_congr rfl (by simp [zwl, hc])) ?_
    apply List.ext_getElem?
    intro j
    have hkl : k < (zfl q).length := (List.getElem?_eq_some_iff.mp hd).1
    by_cases hj : j = k
    · subst hj
      rw [List.getElem?_set_self (by rw [zfs_len]; exact hkl), zfs_get, hd, Option.map_some]
      simp [zfv, zwl]
    · rw [List.getElem?_set_ne (fun e => hj e.symm), zfs_get, zfs_get]
      cases hz : (zfl q)[j]? with
      | none => rfl
      | some dd =>
        have h1 := ho j (List.getElem?_eq_some_iff.mp hz).1 hj
        rw [List.getD_eq_getElem?_getD, hz] at h1
        have h1 : dd.1 ≠ 1 := h1
        simp [zfv, zwl, h1]
  rw [e] at hP1 hD1
  exact kk _ a hF H1 locs1 ls hP1 hD1 hS1 hl
theorem z_getsL (C : zC Y X own cc nL R ret) {ix : Nat} (hw : Cond.fieldLink own ix "LensBench" "LEAST_OF" "[I" ∈ zTab) (d : decode cc pc = .ok (.getstatic ix, 3)) (hn : pc + 3 = n) (kk : zR Y X nL Φ F n lo (.ref 119 :: st) M) : zR Y X nL Φ F pc lo st M := by
  subst hn
  intro a hF H locs ls hP hD hS hl
  exact va_gets C.1 C.2.1 C.S.1 hS C.2.2.2.1 (C.words _ hw) (fun _ h => h) d (kk a hF H locs ls hP hD hS hl)
theorem z_getsM (C : zC Y X own cc nL R ret) {ix : Nat} (hw : Cond.fieldLink own ix "LensBench" "MOST_OF" "[I" ∈ zTab) (d : decode cc pc = .ok (.getstatic ix, 3)) (hn : pc + 3 = n) (kk : zR Y X nL Φ F n lo (.ref 120 :: st) M) : zR Y X nL Φ F pc lo st M := by
  subst hn
  intro a hF H locs ls hP hD hS hl
  exact va_gets C.1 C.2.1 C.S.2.1 hS C.2.2.2.1 (C.words _ hw) (fun _ h => h) d (kk a hF H locs ls hP hD hS hl)
theorem z_getsLN (C : zC Y X own cc nL R ret) {ix : Nat} {host : String} (hw : (own, ix, "LensBench", "LEAST_OF", "[I", host) ∈ zNF) (d : decode cc pc = .ok (.getstatic ix, 3)) (hn : pc + 3 = n) (kk : zR Y X nL Φ F n lo (.ref 119 :: st) M) : zR Y X nL Φ F pc lo st M := by
  subst hn
  intro a hF H locs ls hP hD hS hl
  exact va_getsN C.1 C.2.1 C.S.1 hS C.2.2.2.1 (va_Nw.use rfl (C.N.1 _ hw)) (fun _ h => h) d (kk a hF H locs ls hP hD hS hl)
theorem z_getsMN (C : zC Y X own cc nL R ret) {ix : Nat} {host : String} (hw : (own, ix, "LensBench", "MOST_OF", "[I", host) ∈ zNF) (d : decode cc pc = .ok (.getstatic ix, 3)) (hn : pc + 3 = n) (kk : zR Y X nL Φ F n lo (.ref 120 :: st) M) : zR Y X nL Φ F pc lo st M := by
  subst hn
  intro a hF H locs ls hP hD hS hl
  exact va_getsN C.1 C.2.1 C.S.2.1 hS C.2.2.2.1 (va_Nw.use rfl (C.N.1 _ hw)) (fun _ h => h) d (kk a hF H locs ls hP hD hS hl)
theorem z_iret (C : zC Y X own cc nL R (some .int)) {res : ρ → Int32} {mem : ρ → zMem} {a : ρ} {x : Int32} (hr : res a = x) (hm : mem a = M) (d : decode cc pc = .ok (.ireturn, 1)) : zR Y X nL (zFi Y X res mem) (some a) pc lo [.int x] M := by
  intro b hb H locs ls hP hD hS hl
  cases hb
  subst hr
  subst hm
  exact W.iret C.1 C.2.1 C.rets (fun t ht hW => ⟨⟨res a, mem a, rfl, ⟨rfl, rfl⟩, C.P hP hD hS t ht hW⟩, hS.F ht⟩) hS.2.2 d C.locks
theorem z_zret (C : zC Y X own cc nL R (some .boolean)) {res : ρ → Int32} {mem : ρ → zMem} {a : ρ} {x : Int32} (hr : res a = x) (hm : mem a = M) (d : decode cc pc = .ok (.ireturn, 1)) : zR Y X nL (zFi Y X res mem) (zguard (zisb x) (some a)) pc lo [.int x] M := by
  refine z_guard fun hg => ?_
  intro b hb H locs ls hP hD hS hl
  cases hb
  subst hr
  subst hm
  have hx : narrow .boolean (.int (res a)) = .int (res a) := by
    simp only [zisb, Bool.or_eq_true, decide_eq_true_eq] at hg
    rcases hg with h | h <;> rw [h] <;> rfl
  exact W.zret C.1 C.2.1 C.rets hx (fun t ht hW => ⟨⟨res a, mem a, rfl, ⟨rfl, rfl⟩, C.P hP hD hS t ht hW⟩, hS.F ht⟩) hS.2.2 d C.locks
theorem z_zretK (C : zC Y X own cc nL R (some .boolean)) {res : ρ → Int32} {mem : ρ → zMem} {a : ρ} {x : Int32} (hx : zisb x = true) (hr : res a = x) (hm : mem a = M) (d : decode cc pc = .ok (.ireturn, 1)) : zR Y X nL (zFi Y X res mem) (some a) pc lo [.int x] M := by
  have h := z_zret (lo := lo) C hr hm d
  unfold zguard at h
  rw [if_pos hx] at h
  exact h
theorem z_lret (C : zC Y X own cc nL R (some .long)) {res : ρ → Int64} {mem : ρ → zMem} {a : ρ} {x : Int64} (hr : res a = x) (hm : mem a = M) (d : decode cc pc = .ok (.lreturn, 1)) : zR Y X nL (zFl Y X res mem) (some a) pc lo [.long x] M := by
  intro b hb H locs ls hP hD hS hl
  cases hb
  subst hr
  subst hm
  exact W.lret C.1 C.2.1 C.rets (fun t ht hW => ⟨⟨res a, mem a, rfl, ⟨rfl, rfl⟩, C.P hP hD hS t ht hW⟩, hS.F ht⟩) hS.2.2 d C.locks
theorem z_vret (C : zC Y X own cc nL R none) {mem : ρ → zMem} {a : ρ} (hm : mem a = M) (d : decode cc pc = .ok (.return_, 1)) : zR Y X nL (zFv Y X mem) (some a) pc lo [] M := by
  intro b hb H locs ls hP hD hS hl
  cases hb
  subst hm
  exact W.vret C.1 C.2.1 C.rets (fun t ht hW => ⟨⟨mem a, rfl, rfl, C.P hP hD hS t ht hW⟩, hS.F ht⟩) hS.2.2 d C.locks
theorem zgood {ws : List Cond} (h : ∀ w ∈ ws, w ∈ zTab) : GoodIn zTab ws := fun w hw => ⟨h w hw, good_of_word (List.mem_filter.mp (h w hw)).2⟩
theorem z_in {w : Cond} (i : Nat) (h : lw_tbl[i]? = some w) (g : goodWord w = true) : w ∈ zTab := List.mem_filter.mpr ⟨List.mem_of_getElem? h, g⟩
theorem zgoodC {y : MethodName} {c2 : ByteArray} {n2 : Nat} {rt : Option FieldType} (h : Cond.code y c2 n2 rt ∈ zTab) : ∀ w ∈ (Cond.code y c2 n2 rt :: zTab), w ∈ zTab := fun w hw => (List.mem_cons.mp hw).elim (fun e => e ▸ h) id
theorem zblind {as : List Value} : FrameBlind (va_Pc (as.map (zcv (yA Y))) (zP Y M)) := by
  intro a U g mk h
  obtain ⟨h0, h1, h2, h3, h4, h5, h6⟩ := h
  exact ⟨h0, h1, h2, va_K.moved (u := U) (U := U.calling g mk a) (Vm.Alike.refl U.vm) h3, h4, zNs.same (u := U) (U := U.calling g mk a) rfl h5, zSs.moved (u := U) (U := U.calling g mk a) (Vm.Alike.refl U.vm) h6⟩
/-- a call from here runs, and ends as Q says -/
def zRn (Y : zY) (X : zX) (nL : Nat) (pc : Nat) (lo : List (Nat × Value)) (st0 st : List Value) (M : zMem) (Q : Array Value → State → Outcome → State → Prop) : Prop :=
  ∀ (H : Heap) (locs : List Loc) (ls : Array Slot), va_P (yD Y) vwCl (yW Y M) H → va_D (yF Y) (yW Y M) → va_S (yF Y) (xS X).heap H locs → lv_has ls nL (lo.map (fun q => (q.1, zcv (yA Y) q.2))) →
    ∃ av : Array Value, va_Run (xP X) (xL X) (xE X) (xR X) (xS X) (xM X) (xA X) (xB X) (xH X) (xC X) H locs (xK X) (xN X) 0 0 (F0 (xM X) pc ls (st0.map (zcv (yA Y)))) (st.map (zcv (yA Y))) (Q av) (yF Y)
theorem z_ci {β : Type} {f : Option β} {g : β → Option ρ} {st0 : List Value} (res : β → Int32) (mem : β → zMem) (hr : ∀ b, f = some b → zRn Y X nL pc lo st0 st M (zQi Y (res b) (mem b))) (hn : pc + 3 = n) (kk : ∀ b, zR Y X nL Φ (g b) n lo (.int (res b) :: st) (mem b)) : zR Y X nL Φ (f.bind g) pc lo st0 M := by
  subst hn
  intro a hF H locs ls hP hD hS hl
  cases hf : f with
  | none => rw [hf] at hF; cases hF
  | some b =>
    rw [hf] at hF
    obtain ⟨av, hrun⟩ := hr b hf H locs ls hP hD hS hl
    refine va_calli hrun hS (fun _ _ h => h) (fun _ h => h) (fun r u t H1 locs1 ht hvm hw hB hz1 hk1 hS1 => ?_)
    obtain ⟨rfl, rfl⟩ := hw
    subst ht
    exact kk b a hF t.heap locs1 ls hB.2.1 hB.2.2.2.1 hS1 hl
theorem z_cl {β : Type} {f : Option β} {g : β → Option ρ} {st0 : List Value} (res : β → Int64) (mem : β → zMem) (hr : ∀ b, f = some b → zRn Y X nL pc lo st0 st M (zQl Y (res b) (mem b))) (hn : pc + 3 = n) (kk : ∀ b, zR Y X nL Φ (g b) n lo (.long (res b) :: st) (mem b)) : zR Y X nL Φ (f.bind g) pc lo st0 M := by
  subst hn
  intro a hF H locs ls hP hD hS hl
  cases hf : f with
  | none => rw [hf] at hF; cases hF
  | some b =>
    rw [hf] at hF
    obtain ⟨av, hrun⟩ := hr b hf H locs ls hP hD hS hl
    refine va_calll hrun hS (fun _ _ h => h) (fun _ h => h) (fun r u t H1 locs1 ht hvm hw hB hz1 hk1 hS1 => ?_)
    obtain ⟨rfl, rfl⟩ := hw
    subst ht
    exact kk b a hF t.heap locs1 ls hB.2.1 hB.2.2.2.1 hS1 hl
theorem z_cv {β : Type} {f : Option β} {g : β → Option ρ} {st0 : List Value} (mem : β → zMem) (hr : ∀ b, f = some b → zRn Y X nL pc lo st0 st M (zQv Y (mem b))) (hn : pc + 3 = n) (kk : ∀ b, zR Y X nL Φ (g b) n lo st (mem b)) : zR Y X nL Φ (f.bind g) pc lo st0 M := by
  subst hn
  intro a hF H locs ls hP hD hS hl
  cases hf : f with
  | none => rw [hf] at hF; cases hF
  | some b =>
    rw [hf] at hF
    obtain ⟨av, hrun⟩ := hr b hf H locs ls hP hD hS hl
    refine va_callv hrun hS (fun _ _ h => h) (fun _ h => h) (fun u t H1 locs1 ht hvm hw hB hz1 hk1 hS1 => ?_)
    obtain rfl := hw
    subst ht
    exact kk b a hF t.heap locs1 ls hB.2.1 hB.2.2.2.1 hS1 hl
theorem z_S (C : zC Y X own cc nL R ret) {y : MethodName} {c2 : ByteArray} {n2 : Nat} {rt : Option FieldType} {fr k ix : Nat} {Q : Array Value → State → Outcome → State → Prop} {st0 : List Value} (as : List Value) {na : Nat} (hna : as.length = na) (hM : zMt Y y c2 n2 rt fr k as M Q) (hw1 : Cond.methodLink own ix y ∈ zTab) (hw2 : Cond.static y ∈ zTab) (hw3 : Cond.initialized y.cls ∈ zTab) (hw4 : Cond.code y c2 n2 rt ∈ zTab)
    (hd : y.cls ≠ "java/lang/invoke/MethodHandle" ∧ y.cls ≠ "java/lang/invoke/VarHandle" ∧ (parseMethodDescriptor y.desc).map (fun d => d.parameters.length) = some na) (hR : fr + 1 ≤ R.frames ∧ 8 + (n2 + 11) + k ≤ R.locals) (hcat : (st.map fun v => v.category).sum ≤ 8) (hst : st0 = as.reverse ++ st) (d : decode cc pc = .ok (.invokestatic ix, 3)) : zRn Y X nL pc lo st0 st M Q := by
  intro H locs ls hP hD hS hl
  subst hst
  refine ⟨_, va_runS (As := as.map (zcv (yA Y))) ⟨C.1, C.2.1, C.2.2.1, C.2.2.2.1, C.words⟩ (hM (xL X)) (va_cwS na C.words (zgood ?_) rfl rfl rfl hd (by rw [C.room]; exact hR)) ⟨zblind, fun U hU hW => ⟨rfl, C.P hP hD hS U hU hW⟩⟩ rfl (by rw [List.length_map]; exact hna) hl.1 (by show List.map _ _ = _; rw [List.map_append, List.map_reverse]) (lv_room (by rw [zcv_sum]; exact hcat)) d (by rw [C.room]; exact C.2.2.2.2.2.2.2.2.1)⟩
  intro w hw
  rcases List.mem_append.mp hw with h | h
  · simp only [List.mem_cons, List.not_mem_nil, or_false] at h
    rcases h with rfl | rfl | rfl
    · exact hw1
    · exact hw2
    · exact hw3
  · exact zgoodC hw4 w h
theorem z_SN (C : zC Y X own cc nL R ret) {y : MethodName} {c2 : ByteArray} {n2 : Nat} {rt : Option FieldType} {fr k ix : Nat} {host : String} {Q : Array Value → State → Outcome → State → Prop} {st0 : List Value} (as : List Value) {na : Nat} (hna : as.length = na) (hM : zMt Y y c2 n2 rt fr k as M Q) (hw1 : (own, ix, y, host) ∈ zNM) (hw2 : Cond.static y ∈ zTab) (hw3 : Cond.initialized y.cls ∈ zTab) (hw4 : Cond.code y c2 n2 rt ∈ zTab)
    (hd : y.cls ≠ "java/lang/invoke/MethodHandle" ∧ y.cls ≠ "java/lang/invoke/VarHandle" ∧ (parseMethodDescriptor y.desc).map (fun d => d.parameters.length) = some na) (hR : fr + 1 ≤ R.frames ∧ 8 + (n2 + 11) + k ≤ R.locals) (hcat : (st.map fun v => v.category).sum ≤ 8) (hst : st0 = as.reverse ++ st) (d : decode cc pc = .ok (.invokestatic ix, 3)) : zRn Y X nL pc lo st0 st M Q := by
  intro H locs ls hP hD hS hl
  subst hst
  exact ⟨_, va_runSN (As := as.map (zcv (yA Y))) ⟨C.1, C.2.1, C.2.2.1, C.2.2.2.1, C.words⟩ (hM (xL X)) ⟨va_cnB na C.words (zgood (zgoodC hw4)) rfl rfl rfl (C.N.2.1 _ hw1) (C.words _ hw3) hd (by rw [C.room]; exact hR), C.words _ hw2, trivial⟩ ⟨zblind, fun U hU hW => ⟨rfl, C.P hP hD hS U hU hW⟩⟩ rfl (by rw [List.length_map]; exact hna) hl.1 (by show List.map _ _ = _; rw [List.map_append, List.map_reverse]) (lv_room (by rw [zcv_sum]; exact hcat)) d (by rw [C.room]; exact C.2.2.2.2.2.2.2.2.1)⟩
theorem z_recv (C : zC Y X own cc nL R ret) {q ci : Nat} {r : vw_C} (hq : zkd q = (5, ci)) (hc : vwCl[ci]? = some r) {H : Heap} (hP : va_P (yD Y) vwCl (yW Y M) H) : ∃ cell : Cell, H[yA Y q]? = some cell ∧ cell.vm.isStatics = false ∧ (xS X).vm.findClass r.1 = some cell.cls :=
  va_recv C.K hP hc ((zws_get (z5lt hq)).trans (by rw [zcell5 hq]))
theorem z_V (C : zC Y X own cc nL R ret) {y : MethodName} {c2 : ByteArray} {n2 : Nat} {rt : Option FieldType} {fr k ix q ci : Nat} {r : vw_C} {Q : Array Value → State → Outcome → State → Prop} {st0 : List Value} (as : List Value) {na : Nat} (hna : as.length = na) (hM : zMt Y y c2 n2 rt fr k (.ref q :: as) M Q) (hq : zkd q = (5, ci)) (hc : vwCl[ci]? = some r) (hw1 : Cond.methodLink own ix y ∈ zTab) (hw2 : Cond.instanceMethod y ∈ zTab) (hw5 : Cond.selects r.1 y y ∈ zTab) (hw3 : Cond.initialized r.1 ∈ zTab) (hw4 : Cond.code y c2 n2 rt ∈ zTab)
    (hd : y.cls = r.1 ∧ y.cls ≠ "java/lang/invoke/MethodHandle" ∧ y.cls ≠ "java/lang/invoke/VarHandle" ∧ (parseMethodDescriptor y.desc).map (fun d => d.parameters.length) = some na) (hR : fr + 1 ≤ R.frames ∧ 8 + (n2 + 11) + k ≤ R.locals) (hcat : (st.map fun v => v.category).sum ≤ 8) (hst : st0 = as.reverse ++ .ref q :: st) (d : decode cc pc = .ok (.invokevirtual ix, 3)) : zRn Y X nL pc lo st0 st M Q := by
  intro H locs ls hP hD hS hl
  subst hst
  refine ⟨_, va_runV (As := as.map (zcv (yA Y))) (C := r.1) ⟨C.1, C.2.1, C.2.2.1, C.2.2.2.1, C.words⟩ (hM (xL X)) (cwV na C.words (zgood ?_) rfl rfl rfl hd (by rw [C.room]; exact hR)) ⟨zblind, z_recv C hq hc hP, fun U hU hW => ⟨rfl, C.P hP hD hS U hU hW⟩⟩ rfl (by rw [List.length_map]; exact hna) hl.1 (by show List.map _ _ = _; rw [List.map_append, List.map_reverse]; rfl) (lv_room (by rw [zcv_sum]; exact hcat)) d (by rw [C.room]; exact C.2.2.2.2.2.2.2.2.1)⟩
  intro w hw
  rcases List.mem_append.mp hw with h | h
  · simp only [List.mem_cons, List.not_mem_nil, or_false] at h
    rcases h with rfl | rfl | rfl | rfl
    · exact hw1
    · exact hw2
    · exact hw5
    · exact hw3
  · exact zgoodC hw4 w h
theorem z_VN (C : zC Y X own cc nL R ret) {y : MethodName} {c2 : ByteArray} {n2 : Nat} {rt : Option FieldType} {fr k ix q ci : Nat} {r : vw_C} {host : String} {Q : Array Value → State → Outcome → State → Prop} {st0 : List Value} (as : List Value) {na : Nat} (hna : as.length = na) (hM : zMt Y y c2 n2 rt fr k (.ref q :: as) M Q) (hq : zkd q = (5, ci)) (hc : vwCl[ci]? = some r) (hw1 : (own, ix, y, host) ∈ zNM) (hw2 : Cond.instanceMethod y ∈ zTab) (hw5 : Cond.selects r.1 y y ∈ zTab) (hw3 : Cond.initialized y.cls ∈ zTab) (hw4 : Cond.code y c2 n2 rt ∈ zTab)
    (hd : y.cls ≠ "java/lang/invoke/MethodHandle" ∧ y.cls ≠ "java/lang/invoke/VarHandle" ∧ (parseMethodDescriptor y.desc).map (fun d => d.parameters.length) = some na) (hR : fr + 1 ≤ R.frames ∧ 8 + (n2 + 11) + k ≤ R.locals) (hcat : (st.map fun v => v.category).sum ≤ 8) (hst : st0 = as.reverse ++ .ref q :: st) (d : decode cc pc = .ok (.invokevirtual ix, 3)) : zRn Y X nL pc lo st0 st M Q := by
  intro H locs ls hP hD hS hl
  subst hst
  exact ⟨_, va_runVN (As := as.map (zcv (yA Y))) (C := r.1) ⟨C.1, C.2.1, C.2.2.1, C.2.2.2.1, C.words⟩ (hM (xL X)) ⟨va_cnB na C.words (zgood (zgoodC hw4)) rfl rfl rfl (C.N.2.1 _ hw1) (C.words _ hw3) hd (by rw [C.room]; exact hR), C.words _ hw2, C.words _ hw5⟩ ⟨zblind, z_recv C hq hc hP, fun U hU hW => ⟨rfl, C.P hP hD hS U hU hW⟩⟩ rfl (by rw [List.length_map]; exact hna) hl.1 (by show List.map _ _ = _; rw [List.map_append, List.map_reverse]; rfl) (lv_room (by rw [zcv_sum]; exact hcat)) d (by rw [C.room]; exact C.2.2.2.2.2.2.2.2.1)⟩
end ZR
/-- a contract out of a walk of the body -/
theorem zMt_of {Y : zY} {y : MethodName} {own : String} {cc : ByteArray} {nL fr k : Nat} {ret : Option FieldType} {as : List Value} {M : zMem} {Q : Array Value → State → Outcome → State → Prop} (hy : plainName y.cls = true) (ho : y.cls = own) (hlen : (lg_sl as).length ≤ nL)
    (body : ∀ X : zX, zC Y X own cc nL (zrm fr k) ret → zG Y X nL (MQ (xB X) Q (xA X) (xS X) (xK X) (xN X) (yF Y)) 0 (lv_args 0 as) [] M) : zMt Y y cc nL ret fr k as M Q := by
  intro l
  subst ho
  refine Met.ofW (cc := cc) (maxL := nL) (ret := ret) hy rfl ?_
  intro p e s m args below meth c s₁ B hml hv
  obtain ⟨rfl, hb0, hP, hK, hD, hN, hSs⟩ := hv
  rw [lg_entry_eq]
  have hl := lv_entry (as.map (zcv (yA Y))) (n := nL) (by rw [zcv_sl]; exact hlen)
  rw [zcv_args] at hl
  exact body (p, l, e, zrm fr k, s, m, (as.map (zcv (yA Y))).toArray, below, meth, c, 0, 0) ⟨B.exec, B.bytes, hml, findClass_of_methodNamed B.named, fun w hw => atoms_spec (ws := Cond.code y cc nL ret :: zTab) B.pre w (List.mem_cons_of_mem _ hw), B.notSynchronized, B.returns, rfl, ⟨Nat.zero_le _, Nat.zero_le _⟩, hb0, hK, hN, hSs⟩ s.heap [] _ hP hD va_S.rf hl
/-- the same for a member that the machine has no entry for, of a class that has entries -/
theorem zMt_ofF {Y : zY} {y : MethodName} {own : String} {cc : ByteArray} {nL fr k : Nat} {ret : Option FieldType} {as : List Value} {M : zMem} {Q : Array Value → State → Outcome → State → Prop} (hy : plainFor y = true) (ho : y.cls = own) (hlen : (lg_sl as).length ≤ nL)
    (body : ∀ X : zX, zC Y X own cc nL (zrm fr k) ret → zG Y X nL (MQ (xB X) Q (xA X) (xS X) (xK X) (xN X) (yF Y)) 0 (lv_args 0 as) [] M) : zMt Y y cc nL ret fr k as M Q := by
  intro l
  subst ho
  refine va_MetF (cc := cc) (maxL := nL) (ret := ret) hy rfl ?_
  intro p e s m args below meth c s₁ B hml hv
  obtain ⟨rfl, hb0, hP, hK, hD, hN, hSs⟩ := hv
  rw [lg_entry_eq]
  have hl := lv_entry (as.map (zcv (yA Y))) (n := nL) (by rw [zcv_sl]; exact hlen)
  rw [zcv_args] at hl
  exact body (p, l, e, zrm fr k, s, m, (as.map (zcv (yA Y))).toArray, below, meth, c, 0, 0) ⟨B.exec, B.bytes, hml, findClass_of_methodNamed B.named, fun w hw => atoms_spec (ws := Cond.code y cc nL ret :: zTab) B.pre w (List.mem_cons_of_mem _ hw), B.notSynchronized, B.returns, rfl, ⟨Nat.zero_le _, Nat.zero_le _⟩, hb0, hK, hN, hSs⟩ s.heap [] _ hP hD va_S.rf hl
end
