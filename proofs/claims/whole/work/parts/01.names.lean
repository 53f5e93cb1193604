-- ===== PART A: goes FIRST, ahead of the names: the tables' words, and 'selects' of the private methods out of them =====
/-- a private method of a class that the tables say can be made, by its rows of tables_1 -/
def lw_okq (q : MethodName × Nat) : Prop := (q.1.cls ≠ "java/lang/invoke/MethodHandle" ∧ q.1.cls ≠ "java/lang/invoke/VarHandle") ∧ Cond.instantiable q.1.cls q.2 ∈ tables_1 ∧ Cond.privateMethod q.1 ∈ tables_1 ∧ Cond.instanceMethod q.1 ∈ tables_1
theorem lw_p0 : lw_okq (⟨"LensBench", "lensChanges", "()V"⟩, 8) := ⟨⟨by decide +kernel, by decide +kernel⟩, List.mem_of_getElem? (i := 15) (by decide +kernel), List.mem_of_getElem? (i := 285) (by decide +kernel), List.mem_of_getElem? (i := 286) (by decide +kernel)⟩
theorem lw_p1 : lw_okq (⟨"LensBench$Lens", "add", "(IIII)I"⟩, 4) := ⟨⟨by decide +kernel, by decide +kernel⟩, List.mem_of_getElem? (i := 23) (by decide +kernel), List.mem_of_getElem? (i := 289) (by decide +kernel), List.mem_of_getElem? (i := 290) (by decide +kernel)⟩
theorem lw_p2 : lw_okq (⟨"LensBench", "isBody", "(I)Z"⟩, 8) := ⟨⟨by decide +kernel, by decide +kernel⟩, List.mem_of_getElem? (i := 15) (by decide +kernel), List.mem_of_getElem? (i := 298) (by decide +kernel), List.mem_of_getElem? (i := 299) (by decide +kernel)⟩
theorem lw_p3 : lw_okq (⟨"LensBench$Lens", "lightAt", "(III)I"⟩, 4) := ⟨⟨by decide +kernel, by decide +kernel⟩, List.mem_of_getElem? (i := 23) (by decide +kernel), List.mem_of_getElem? (i := 337) (by decide +kernel), List.mem_of_getElem? (i := 338) (by decide +kernel)⟩
theorem lw_p4 : lw_okq (⟨"LensBench$Lens", "lightPast", "(IIII)I"⟩, 4) := ⟨⟨by decide +kernel, by decide +kernel⟩, List.mem_of_getElem? (i := 23) (by decide +kernel), List.mem_of_getElem? (i := 341) (by decide +kernel), List.mem_of_getElem? (i := 342) (by decide +kernel)⟩
theorem lw_p5 : lw_okq (⟨"LensBench", "markPictures", "(II)I"⟩, 8) := ⟨⟨by decide +kernel, by decide +kernel⟩, List.mem_of_getElem? (i := 15) (by decide +kernel), List.mem_of_getElem? (i := 360) (by decide +kernel), List.mem_of_getElem? (i := 361) (by decide +kernel)⟩
theorem lw_p6 : lw_okq (⟨"LensBench$Plane", "lookAnew", "()V"⟩, 6) := ⟨⟨by decide +kernel, by decide +kernel⟩, List.mem_of_getElem? (i := 74) (by decide +kernel), List.mem_of_getElem? (i := 364) (by decide +kernel), List.mem_of_getElem? (i := 365) (by decide +kernel)⟩
theorem lw_p7 : lw_okq (⟨"LensBench$Plane", "signOfArea", "(I)I"⟩, 6) := ⟨⟨by decide +kernel, by decide +kernel⟩, List.mem_of_getElem? (i := 74) (by decide +kernel), List.mem_of_getElem? (i := 382) (by decide +kernel), List.mem_of_getElem? (i := 383) (by decide +kernel)⟩
theorem lw_p8 : lw_okq (⟨"LensBench$Groups", "split", "(I)I"⟩, 4) := ⟨⟨by decide +kernel, by decide +kernel⟩, List.mem_of_getElem? (i := 102) (by decide +kernel), List.mem_of_getElem? (i := 396) (by decide +kernel), List.mem_of_getElem? (i := 397) (by decide +kernel)⟩
theorem lw_p9 : lw_okq (⟨"LensBench$Groups", "collect", "(I)I"⟩, 4) := ⟨⟨by decide +kernel, by decide +kernel⟩, List.mem_of_getElem? (i := 102) (by decide +kernel), List.mem_of_getElem? (i := 400) (by decide +kernel), List.mem_of_getElem? (i := 401) (by decide +kernel)⟩
theorem lw_p10 : lw_okq (⟨"LensBench$Groups", "queueNeighbours", "(II)I"⟩, 4) := ⟨⟨by decide +kernel, by decide +kernel⟩, List.mem_of_getElem? (i := 102) (by decide +kernel), List.mem_of_getElem? (i := 404) (by decide +kernel), List.mem_of_getElem? (i := 405) (by decide +kernel)⟩
theorem lw_p11 : lw_okq (⟨"LensBench$Plane", "parityAt", "(II)I"⟩, 6) := ⟨⟨by decide +kernel, by decide +kernel⟩, List.mem_of_getElem? (i := 74) (by decide +kernel), List.mem_of_getElem? (i := 420) (by decide +kernel), List.mem_of_getElem? (i := 421) (by decide +kernel)⟩
theorem lw_p12 : lw_okq (⟨"LensBench$Plane", "isCritical", "(II)Z"⟩, 6) := ⟨⟨by decide +kernel, by decide +kernel⟩, List.mem_of_getElem? (i := 74) (by decide +kernel), List.mem_of_getElem? (i := 435) (by decide +kernel), List.mem_of_getElem? (i := 436) (by decide +kernel)⟩
theorem lw_p13 : lw_okq (⟨"LensBench$Plane", "countOfParity", "(I)I"⟩, 6) := ⟨⟨by decide +kernel, by decide +kernel⟩, List.mem_of_getElem? (i := 74) (by decide +kernel), List.mem_of_getElem? (i := 444) (by decide +kernel), List.mem_of_getElem? (i := 445) (by decide +kernel)⟩
theorem lw_p14 : lw_okq (⟨"LensBench", "markCriticals", "()I"⟩, 8) := ⟨⟨by decide +kernel, by decide +kernel⟩, List.mem_of_getElem? (i := 15) (by decide +kernel), List.mem_of_getElem? (i := 448) (by decide +kernel), List.mem_of_getElem? (i := 449) (by decide +kernel)⟩
theorem lw_p15 : lw_okq (⟨"LensBench$Tally", "start", "()V"⟩, 4) := ⟨⟨by decide +kernel, by decide +kernel⟩, List.mem_of_getElem? (i := 50) (by decide +kernel), List.mem_of_getElem? (i := 456) (by decide +kernel), List.mem_of_getElem? (i := 457) (by decide +kernel)⟩
def lw_privs_1 : List (MethodName × Nat) := [(⟨"LensBench", "lensChanges", "()V"⟩, 8), (⟨"LensBench$Lens", "add", "(IIII)I"⟩, 4), (⟨"LensBench", "isBody", "(I)Z"⟩, 8), (⟨"LensBench$Lens", "lightAt", "(III)I"⟩, 4), (⟨"LensBench$Lens", "lightPast", "(IIII)I"⟩, 4), (⟨"LensBench", "markPictures", "(II)I"⟩, 8), (⟨"LensBench$Plane", "lookAnew", "()V"⟩, 6), (⟨"LensBench$Plane", "signOfArea", "(I)I"⟩, 6), (⟨"LensBench$Groups", "split", "(I)I"⟩, 4), (⟨"LensBench$Groups", "collect", "(I)I"⟩, 4), (⟨"LensBench$Groups", "queueNeighbours", "(II)I"⟩, 4), (⟨"LensBench$Plane", "parityAt", "(II)I"⟩, 6), (⟨"LensBench$Plane", "isCritical", "(II)Z"⟩, 6), (⟨"LensBench$Plane", "countOfParity", "(I)I"⟩, 6), (⟨"LensBench", "markCriticals", "()I"⟩, 8), (⟨"LensBench$Tally", "start", "()V"⟩, 4)]
theorem lw_r1 : ∀ q ∈ lw_privs_1, lw_okq q := List.forall_mem_cons.mpr ⟨lw_p0, List.forall_mem_cons.mpr ⟨lw_p1, List.forall_mem_cons.mpr ⟨lw_p2, List.forall_mem_cons.mpr ⟨lw_p3, List.forall_mem_cons.mpr ⟨lw_p4, List.forall_mem_cons.mpr ⟨lw_p5, List.forall_mem_cons.mpr ⟨lw_p6, List.forall_mem_cons.mpr ⟨lw_p7, List.forall_mem_cons.mpr ⟨lw_p8, List.forall_mem_cons.mpr ⟨lw_p9, List.forall_mem_cons.mpr ⟨lw_p10, List.forall_mem_cons.mpr ⟨lw_p11, List.forall_mem_cons.mpr ⟨lw_p12, List.forall_mem_cons.mpr ⟨lw_p13, List.forall_mem_cons.mpr ⟨lw_p14, List.forall_mem_cons.mpr ⟨lw_p15, fun _ h => absurd h List.not_mem_nil⟩⟩⟩⟩⟩⟩⟩⟩⟩⟩⟩⟩⟩⟩⟩⟩
theorem lw_p16 : lw_okq (⟨"LensBench$Tally", "numberOf", "(I)I"⟩, 4) := ⟨⟨by decide +kernel, by decide +kernel⟩, List.mem_of_getElem? (i := 50) (by decide +kernel), List.mem_of_getElem? (i := 461) (by decide +kernel), List.mem_of_getElem? (i := 462) (by decide +kernel)⟩
theorem lw_p17 : lw_okq (⟨"LensBench$Tally", "take", "(II)I"⟩, 4) := ⟨⟨by decide +kernel, by decide +kernel⟩, List.mem_of_getElem? (i := 50) (by decide +kernel), List.mem_of_getElem? (i := 466) (by decide +kernel), List.mem_of_getElem? (i := 467) (by decide +kernel)⟩
theorem lw_p18 : lw_okq (⟨"LensBench$Tally", "greatest", "()I"⟩, 4) := ⟨⟨by decide +kernel, by decide +kernel⟩, List.mem_of_getElem? (i := 50) (by decide +kernel), List.mem_of_getElem? (i := 470) (by decide +kernel), List.mem_of_getElem? (i := 471) (by decide +kernel)⟩
theorem lw_p19 : lw_okq (⟨"LensBench$Plane", "delayOnWay", "(IIIIII)J"⟩, 6) := ⟨⟨by decide +kernel, by decide +kernel⟩, List.mem_of_getElem? (i := 74) (by decide +kernel), List.mem_of_getElem? (i := 479) (by decide +kernel), List.mem_of_getElem? (i := 480) (by decide +kernel)⟩
theorem lw_p20 : lw_okq (⟨"LensBench$Plane", "stretchOf", "(I)I"⟩, 6) := ⟨⟨by decide +kernel, by decide +kernel⟩, List.mem_of_getElem? (i := 74) (by decide +kernel), List.mem_of_getElem? (i := 496) (by decide +kernel), List.mem_of_getElem? (i := 497) (by decide +kernel)⟩
theorem lw_p21 : lw_okq (⟨"LensBench$Plane", "doubledStretchAt", "(II)J"⟩, 6) := ⟨⟨by decide +kernel, by decide +kernel⟩, List.mem_of_getElem? (i := 74) (by decide +kernel), List.mem_of_getElem? (i := 501) (by decide +kernel), List.mem_of_getElem? (i := 502) (by decide +kernel)⟩
theorem lw_p22 : lw_okq (⟨"LensBench$Text", "add", "(I)V"⟩, 4) := ⟨⟨by decide +kernel, by decide +kernel⟩, List.mem_of_getElem? (i := 125) (by decide +kernel), List.mem_of_getElem? (i := 515) (by decide +kernel), List.mem_of_getElem? (i := 516) (by decide +kernel)⟩
theorem lw_p23 : lw_okq (⟨"LensBench$Text", "tellBodies", "()I"⟩, 4) := ⟨⟨by decide +kernel, by decide +kernel⟩, List.mem_of_getElem? (i := 125) (by decide +kernel), List.mem_of_getElem? (i := 527) (by decide +kernel), List.mem_of_getElem? (i := 528) (by decide +kernel)⟩
theorem lw_p24 : lw_okq (⟨"LensBench$Text", "takeItem", "([I)Z"⟩, 4) := ⟨⟨by decide +kernel, by decide +kernel⟩, List.mem_of_getElem? (i := 125) (by decide +kernel), List.mem_of_getElem? (i := 531) (by decide +kernel), List.mem_of_getElem? (i := 532) (by decide +kernel)⟩
theorem lw_p25 : lw_okq (⟨"LensBench$Text", "takeKind", "()I"⟩, 4) := ⟨⟨by decide +kernel, by decide +kernel⟩, List.mem_of_getElem? (i := 125) (by decide +kernel), List.mem_of_getElem? (i := 535) (by decide +kernel), List.mem_of_getElem? (i := 536) (by decide +kernel)⟩
theorem lw_p26 : lw_okq (⟨"LensBench$Text", "takeSign", "(C)Z"⟩, 4) := ⟨⟨by decide +kernel, by decide +kernel⟩, List.mem_of_getElem? (i := 125) (by decide +kernel), List.mem_of_getElem? (i := 539) (by decide +kernel), List.mem_of_getElem? (i := 540) (by decide +kernel)⟩
theorem lw_p27 : lw_okq (⟨"LensBench$Text", "takeNumber", "([II)Z"⟩, 4) := ⟨⟨by decide +kernel, by decide +kernel⟩, List.mem_of_getElem? (i := 125) (by decide +kernel), List.mem_of_getElem? (i := 544) (by decide +kernel), List.mem_of_getElem? (i := 545) (by decide +kernel)⟩
theorem lw_p28 : lw_okq (⟨"LensBench$Trials", "addPair", "(IIII)I"⟩, 18) := ⟨⟨by decide +kernel, by decide +kernel⟩, List.mem_of_getElem? (i := 148) (by decide +kernel), List.mem_of_getElem? (i := 554) (by decide +kernel), List.mem_of_getElem? (i := 555) (by decide +kernel)⟩
theorem lw_p29 : lw_okq (⟨"LensBench", "isTrial", "(II)Z"⟩, 8) := ⟨⟨by decide +kernel, by decide +kernel⟩, List.mem_of_getElem? (i := 15) (by decide +kernel), List.mem_of_getElem? (i := 570) (by decide +kernel), List.mem_of_getElem? (i := 571) (by decide +kernel)⟩
theorem lw_p30 : lw_okq (⟨"LensBench$Trials", "load", "(II)V"⟩, 18) := ⟨⟨by decide +kernel, by decide +kernel⟩, List.mem_of_getElem? (i := 148) (by decide +kernel), List.mem_of_getElem? (i := 574) (by decide +kernel), List.mem_of_getElem? (i := 575) (by decide +kernel)⟩
theorem lw_p31 : lw_okq (⟨"LensBench$Trials", "startRow", "(I)V"⟩, 18) := ⟨⟨by decide +kernel, by decide +kernel⟩, List.mem_of_getElem? (i := 148) (by decide +kernel), List.mem_of_getElem? (i := 578) (by decide +kernel), List.mem_of_getElem? (i := 579) (by decide +kernel)⟩
def lw_privs_2 : List (MethodName × Nat) := [(⟨"LensBench$Tally", "numberOf", "(I)I"⟩, 4), (⟨"LensBench$Tally", "take", "(II)I"⟩, 4), (⟨"LensBench$Tally", "greatest", "()I"⟩, 4), (⟨"LensBench$Plane", "delayOnWay", "(IIIIII)J"⟩, 6), (⟨"LensBench$Plane", "stretchOf", "(I)I"⟩, 6), (⟨"LensBench$Plane", "doubledStretchAt", "(II)J"⟩, 6), (⟨"LensBench$Text", "add", "(I)V"⟩, 4), (⟨"LensBench$Text", "tellBodies", "()I"⟩, 4), (⟨"LensBench$Text", "takeItem", "([I)Z"⟩, 4), (⟨"LensBench$Text", "takeKind", "()I"⟩, 4), (⟨"LensBench$Text", "takeSign", "(C)Z"⟩, 4), (⟨"LensBench$Text", "takeNumber", "([II)Z"⟩, 4), (⟨"LensBench$Trials", "addPair", "(IIII)I"⟩, 18), (⟨"LensBench", "isTrial", "(II)Z"⟩, 8), (⟨"LensBench$Trials", "load", "(II)V"⟩, 18), (⟨"LensBench$Trials", "startRow", "(I)V"⟩, 18)]
theorem lw_r2 : ∀ q ∈ lw_privs_2, lw_okq q := List.forall_mem_cons.mpr ⟨lw_p16, List.forall_mem_cons.mpr ⟨lw_p17, List.forall_mem_cons.mpr ⟨lw_p18, List.forall_mem_cons.mpr ⟨lw_p19, List.forall_mem_cons.mpr ⟨lw_p20, List.forall_mem_cons.mpr ⟨lw_p21, List.forall_mem_cons.mpr ⟨lw_p22, List.forall_mem_cons.mpr ⟨lw_p23, List.forall_mem_cons.mpr ⟨lw_p24, List.forall_mem_cons.mpr ⟨lw_p25, List.forall_mem_cons.mpr ⟨lw_p26, List.forall_mem_cons.mpr ⟨lw_p27, List.forall_mem_cons.mpr ⟨lw_p28, List.forall_mem_cons.mpr ⟨lw_p29, List.forall_mem_cons.mpr ⟨lw_p30, List.forall_mem_cons.mpr ⟨lw_p31, fun _ h => absurd h List.not_mem_nil⟩⟩⟩⟩⟩⟩⟩⟩⟩⟩⟩⟩⟩⟩⟩⟩
theorem lw_p32 : lw_okq (⟨"LensBench$Trials", "addToRow", "(IIIII)V"⟩, 18) := ⟨⟨by decide +kernel, by decide +kernel⟩, List.mem_of_getElem? (i := 148) (by decide +kernel), List.mem_of_getElem? (i := 583) (by decide +kernel), List.mem_of_getElem? (i := 584) (by decide +kernel)⟩
theorem lw_p33 : lw_okq (⟨"LensBench$Trials", "holds", "(I)Z"⟩, 18) := ⟨⟨by decide +kernel, by decide +kernel⟩, List.mem_of_getElem? (i := 148) (by decide +kernel), List.mem_of_getElem? (i := 589) (by decide +kernel), List.mem_of_getElem? (i := 590) (by decide +kernel)⟩
theorem lw_p34 : lw_okq (⟨"LensBench$Trials", "aim", "(I)V"⟩, 18) := ⟨⟨by decide +kernel, by decide +kernel⟩, List.mem_of_getElem? (i := 148) (by decide +kernel), List.mem_of_getElem? (i := 593) (by decide +kernel), List.mem_of_getElem? (i := 594) (by decide +kernel)⟩
theorem lw_p35 : lw_okq (⟨"LensBench$Trials", "shownBy", "(I)I"⟩, 18) := ⟨⟨by decide +kernel, by decide +kernel⟩, List.mem_of_getElem? (i := 148) (by decide +kernel), List.mem_of_getElem? (i := 597) (by decide +kernel), List.mem_of_getElem? (i := 598) (by decide +kernel)⟩
theorem lw_p36 : lw_okq (⟨"LensBench$Trials", "gather", "()V"⟩, 18) := ⟨⟨by decide +kernel, by decide +kernel⟩, List.mem_of_getElem? (i := 148) (by decide +kernel), List.mem_of_getElem? (i := 606) (by decide +kernel), List.mem_of_getElem? (i := 607) (by decide +kernel)⟩
theorem lw_p37 : lw_okq (⟨"LensBench$Trials", "least", "()I"⟩, 18) := ⟨⟨by decide +kernel, by decide +kernel⟩, List.mem_of_getElem? (i := 148) (by decide +kernel), List.mem_of_getElem? (i := 611) (by decide +kernel), List.mem_of_getElem? (i := 612) (by decide +kernel)⟩
theorem lw_p38 : lw_okq (⟨"LensBench$Trials", "weightOf", "(II)I"⟩, 18) := ⟨⟨by decide +kernel, by decide +kernel⟩, List.mem_of_getElem? (i := 148) (by decide +kernel), List.mem_of_getElem? (i := 615) (by decide +kernel), List.mem_of_getElem? (i := 616) (by decide +kernel)⟩
theorem lw_p39 : lw_okq (⟨"LensBench$Trials", "twins", "()I"⟩, 18) := ⟨⟨by decide +kernel, by decide +kernel⟩, List.mem_of_getElem? (i := 148) (by decide +kernel), List.mem_of_getElem? (i := 619) (by decide +kernel), List.mem_of_getElem? (i := 620) (by decide +kernel)⟩
theorem lw_p40 : lw_okq (⟨"LensBench$Trials", "splitHeaps", "(I)V"⟩, 18) := ⟨⟨by decide +kernel, by decide +kernel⟩, List.mem_of_getElem? (i := 148) (by decide +kernel), List.mem_of_getElem? (i := 623) (by decide +kernel), List.mem_of_getElem? (i := 624) (by decide +kernel)⟩
theorem lw_p41 : lw_okq (⟨"LensBench$Trials", "nextLook", "()I"⟩, 18) := ⟨⟨by decide +kernel, by decide +kernel⟩, List.mem_of_getElem? (i := 148) (by decide +kernel), List.mem_of_getElem? (i := 630) (by decide +kernel), List.mem_of_getElem? (i := 631) (by decide +kernel)⟩
theorem lw_p42 : lw_okq (⟨"LensBench$Trials", "sureWeight", "(I)I"⟩, 18) := ⟨⟨by decide +kernel, by decide +kernel⟩, List.mem_of_getElem? (i := 148) (by decide +kernel), List.mem_of_getElem? (i := 639) (by decide +kernel), List.mem_of_getElem? (i := 640) (by decide +kernel)⟩
theorem lw_p43 : lw_okq (⟨"LensBench$Trials", "addSpot", "(II)I"⟩, 18) := ⟨⟨by decide +kernel, by decide +kernel⟩, List.mem_of_getElem? (i := 148) (by decide +kernel), List.mem_of_getElem? (i := 647) (by decide +kernel), List.mem_of_getElem? (i := 648) (by decide +kernel)⟩
theorem lw_p44 : lw_okq (⟨"LensBench$Brightness", "farOf", "(I)I"⟩, 6) := ⟨⟨by decide +kernel, by decide +kernel⟩, List.mem_of_getElem? (i := 216) (by decide +kernel), List.mem_of_getElem? (i := 664) (by decide +kernel), List.mem_of_getElem? (i := 665) (by decide +kernel)⟩
theorem lw_p45 : lw_okq (⟨"LensBench$Brightness", "contradictions", "()I"⟩, 6) := ⟨⟨by decide +kernel, by decide +kernel⟩, List.mem_of_getElem? (i := 216) (by decide +kernel), List.mem_of_getElem? (i := 672) (by decide +kernel), List.mem_of_getElem? (i := 673) (by decide +kernel)⟩
theorem lw_p46 : lw_okq (⟨"LensBench$Brightness", "widen", "(II)V"⟩, 6) := ⟨⟨by decide +kernel, by decide +kernel⟩, List.mem_of_getElem? (i := 216) (by decide +kernel), List.mem_of_getElem? (i := 677) (by decide +kernel), List.mem_of_getElem? (i := 678) (by decide +kernel)⟩
theorem lw_p47 : lw_okq (⟨"LensBench$Brightness", "toldCount", "()I"⟩, 6) := ⟨⟨by decide +kernel, by decide +kernel⟩, List.mem_of_getElem? (i := 216) (by decide +kernel), List.mem_of_getElem? (i := 692) (by decide +kernel), List.mem_of_getElem? (i := 693) (by decide +kernel)⟩
def lw_privs_3 : List (MethodName × Nat) := [(⟨"LensBench$Trials", "addToRow", "(IIIII)V"⟩, 18), (⟨"LensBench$Trials", "holds", "(I)Z"⟩, 18), (⟨"LensBench$Trials", "aim", "(I)V"⟩, 18), (⟨"LensBench$Trials", "shownBy", "(I)I"⟩, 18), (⟨"LensBench$Trials", "gather", "()V"⟩, 18), (⟨"LensBench$Trials", "least", "()I"⟩, 18), (⟨"LensBench$Trials", "weightOf", "(II)I"⟩, 18), (⟨"LensBench$Trials", "twins", "()I"⟩, 18), (⟨"LensBench$Trials", "splitHeaps", "(I)V"⟩, 18), (⟨"LensBench$Trials", "nextLook", "()I"⟩, 18), (⟨"LensBench$Trials", "sureWeight", "(I)I"⟩, 18), (⟨"LensBench$Trials", "addSpot", "(II)I"⟩, 18), (⟨"LensBench$Brightness", "farOf", "(I)I"⟩, 6), (⟨"LensBench$Brightness", "contradictions", "()I"⟩, 6), (⟨"LensBench$Brightness", "widen", "(II)V"⟩, 6), (⟨"LensBench$Brightness", "toldCount", "()I"⟩, 6)]
theorem lw_r3 : ∀ q ∈ lw_privs_3, lw_okq q := List.forall_mem_cons.mpr ⟨lw_p32, List.forall_mem_cons.mpr ⟨lw_p33, List.forall_mem_cons.mpr ⟨lw_p34, List.forall_mem_cons.mpr ⟨lw_p35, List.forall_mem_cons.mpr ⟨lw_p36, List.forall_mem_cons.mpr ⟨lw_p37, List.forall_mem_cons.mpr ⟨lw_p38, List.forall_mem_cons.mpr ⟨lw_p39, List.forall_mem_cons.mpr ⟨lw_p40, List.forall_mem_cons.mpr ⟨lw_p41, List.forall_mem_cons.mpr ⟨lw_p42, List.forall_mem_cons.mpr ⟨lw_p43, List.forall_mem_cons.mpr ⟨lw_p44, List.forall_mem_cons.mpr ⟨lw_p45, List.forall_mem_cons.mpr ⟨lw_p46, List.forall_mem_cons.mpr ⟨lw_p47, fun _ h => absurd h List.not_mem_nil⟩⟩⟩⟩⟩⟩⟩⟩⟩⟩⟩⟩⟩⟩⟩⟩
theorem lw_p48 : lw_okq (⟨"LensBench$Lens", "weights", "()I"⟩, 4) := ⟨⟨by decide +kernel, by decide +kernel⟩, List.mem_of_getElem? (i := 23) (by decide +kernel), List.mem_of_getElem? (i := 696) (by decide +kernel), List.mem_of_getElem? (i := 697) (by decide +kernel)⟩
theorem lw_p49 : lw_okq (⟨"LensBenchModel", "isBody", "(I)Z"⟩, 34) := ⟨⟨by decide +kernel, by decide +kernel⟩, List.mem_of_getElem? (i := 704) (by decide +kernel), List.mem_of_getElem? (i := 829) (by decide +kernel), List.mem_of_getElem? (i := 830) (by decide +kernel)⟩
theorem lw_p50 : lw_okq (⟨"LensBenchModel", "bendOf", "(IIIII)I"⟩, 34) := ⟨⟨by decide +kernel, by decide +kernel⟩, List.mem_of_getElem? (i := 704) (by decide +kernel), List.mem_of_getElem? (i := 851) (by decide +kernel), List.mem_of_getElem? (i := 852) (by decide +kernel)⟩
theorem lw_p51 : lw_okq (⟨"LensBenchModel", "fromOf", "(III)I"⟩, 34) := ⟨⟨by decide +kernel, by decide +kernel⟩, List.mem_of_getElem? (i := 704) (by decide +kernel), List.mem_of_getElem? (i := 859) (by decide +kernel), List.mem_of_getElem? (i := 860) (by decide +kernel)⟩
theorem lw_p52 : lw_okq (⟨"LensBenchModel", "cellOf", "(III)I"⟩, 34) := ⟨⟨by decide +kernel, by decide +kernel⟩, List.mem_of_getElem? (i := 704) (by decide +kernel), List.mem_of_getElem? (i := 867) (by decide +kernel), List.mem_of_getElem? (i := 868) (by decide +kernel)⟩
theorem lw_p53 : lw_okq (⟨"LensBenchModel", "findPictures", "(II)I"⟩, 34) := ⟨⟨by decide +kernel, by decide +kernel⟩, List.mem_of_getElem? (i := 704) (by decide +kernel), List.mem_of_getElem? (i := 879) (by decide +kernel), List.mem_of_getElem? (i := 880) (by decide +kernel)⟩
theorem lw_p54 : lw_okq (⟨"LensBenchModel", "findPlane", "()V"⟩, 34) := ⟨⟨by decide +kernel, by decide +kernel⟩, List.mem_of_getElem? (i := 704) (by decide +kernel), List.mem_of_getElem? (i := 883) (by decide +kernel), List.mem_of_getElem? (i := 884) (by decide +kernel)⟩
theorem lw_p55 : lw_okq (⟨"LensBenchModel", "cellX", "(II)I"⟩, 34) := ⟨⟨by decide +kernel, by decide +kernel⟩, List.mem_of_getElem? (i := 704) (by decide +kernel), List.mem_of_getElem? (i := 890) (by decide +kernel), List.mem_of_getElem? (i := 891) (by decide +kernel)⟩
theorem lw_p56 : lw_okq (⟨"LensBenchModel", "cellY", "(II)I"⟩, 34) := ⟨⟨by decide +kernel, by decide +kernel⟩, List.mem_of_getElem? (i := 704) (by decide +kernel), List.mem_of_getElem? (i := 894) (by decide +kernel), List.mem_of_getElem? (i := 895) (by decide +kernel)⟩
theorem lw_p57 : lw_okq (⟨"LensBenchModel", "findGroups", "()V"⟩, 34) := ⟨⟨by decide +kernel, by decide +kernel⟩, List.mem_of_getElem? (i := 704) (by decide +kernel), List.mem_of_getElem? (i := 898) (by decide +kernel), List.mem_of_getElem? (i := 899) (by decide +kernel)⟩
theorem lw_p58 : lw_okq (⟨"LensBenchModel", "spread", "(I)V"⟩, 34) := ⟨⟨by decide +kernel, by decide +kernel⟩, List.mem_of_getElem? (i := 704) (by decide +kernel), List.mem_of_getElem? (i := 902) (by decide +kernel), List.mem_of_getElem? (i := 903) (by decide +kernel)⟩
theorem lw_p59 : lw_okq (⟨"LensBenchModel", "parityOf", "(II)I"⟩, 34) := ⟨⟨by decide +kernel, by decide +kernel⟩, List.mem_of_getElem? (i := 704) (by decide +kernel), List.mem_of_getElem? (i := 916) (by decide +kernel), List.mem_of_getElem? (i := 917) (by decide +kernel)⟩
theorem lw_p60 : lw_okq (⟨"LensBenchModel", "findAround", "(II)V"⟩, 34) := ⟨⟨by decide +kernel, by decide +kernel⟩, List.mem_of_getElem? (i := 704) (by decide +kernel), List.mem_of_getElem? (i := 927) (by decide +kernel), List.mem_of_getElem? (i := 928) (by decide +kernel)⟩
theorem lw_p61 : lw_okq (⟨"LensBenchModel", "criticalNow", "(II)Z"⟩, 34) := ⟨⟨by decide +kernel, by decide +kernel⟩, List.mem_of_getElem? (i := 704) (by decide +kernel), List.mem_of_getElem? (i := 935) (by decide +kernel), List.mem_of_getElem? (i := 936) (by decide +kernel)⟩
theorem lw_p62 : lw_okq (⟨"LensBenchModel", "item", "(I)V"⟩, 34) := ⟨⟨by decide +kernel, by decide +kernel⟩, List.mem_of_getElem? (i := 704) (by decide +kernel), List.mem_of_getElem? (i := 970) (by decide +kernel), List.mem_of_getElem? (i := 971) (by decide +kernel)⟩
theorem lw_p63 : lw_okq (⟨"LensBenchModel", "here", "()I"⟩, 34) := ⟨⟨by decide +kernel, by decide +kernel⟩, List.mem_of_getElem? (i := 704) (by decide +kernel), List.mem_of_getElem? (i := 974) (by decide +kernel), List.mem_of_getElem? (i := 975) (by decide +kernel)⟩
def lw_privs_4 : List (MethodName × Nat) := [(⟨"LensBench$Lens", "weights", "()I"⟩, 4), (⟨"LensBenchModel", "isBody", "(I)Z"⟩, 34), (⟨"LensBenchModel", "bendOf", "(IIIII)I"⟩, 34), (⟨"LensBenchModel", "fromOf", "(III)I"⟩, 34), (⟨"LensBenchModel", "cellOf", "(III)I"⟩, 34), (⟨"LensBenchModel", "findPictures", "(II)I"⟩, 34), (⟨"LensBenchModel", "findPlane", "()V"⟩, 34), (⟨"LensBenchModel", "cellX", "(II)I"⟩, 34), (⟨"LensBenchModel", "cellY", "(II)I"⟩, 34), (⟨"LensBenchModel", "findGroups", "()V"⟩, 34), (⟨"LensBenchModel", "spread", "(I)V"⟩, 34), (⟨"LensBenchModel", "parityOf", "(II)I"⟩, 34), (⟨"LensBenchModel", "findAround", "(II)V"⟩, 34), (⟨"LensBenchModel", "criticalNow", "(II)Z"⟩, 34), (⟨"LensBenchModel", "item", "(I)V"⟩, 34), (⟨"LensBenchModel", "here", "()I"⟩, 34)]
theorem lw_r4 : ∀ q ∈ lw_privs_4, lw_okq q := List.forall_mem_cons.mpr ⟨lw_p48, List.forall_mem_cons.mpr ⟨lw_p49, List.forall_mem_cons.mpr ⟨lw_p50, List.forall_mem_cons.mpr ⟨lw_p51, List.forall_mem_cons.mpr ⟨lw_p52, List.forall_mem_cons.mpr ⟨lw_p53, List.forall_mem_cons.mpr ⟨lw_p54, List.forall_mem_cons.mpr ⟨lw_p55, List.forall_mem_cons.mpr ⟨lw_p56, List.forall_mem_cons.mpr ⟨lw_p57, List.forall_mem_cons.mpr ⟨lw_p58, List.forall_mem_cons.mpr ⟨lw_p59, List.forall_mem_cons.mpr ⟨lw_p60, List.forall_mem_cons.mpr ⟨lw_p61, List.forall_mem_cons.mpr ⟨lw_p62, List.forall_mem_cons.mpr ⟨lw_p63, fun _ h => absurd h List.not_mem_nil⟩⟩⟩⟩⟩⟩⟩⟩⟩⟩⟩⟩⟩⟩⟩⟩
theorem lw_p64 : lw_okq (⟨"LensBenchModel", "number", "(IZ)I"⟩, 34) := ⟨⟨by decide +kernel, by decide +kernel⟩, List.mem_of_getElem? (i := 704) (by decide +kernel), List.mem_of_getElem? (i := 978) (by decide +kernel), List.mem_of_getElem? (i := 979) (by decide +kernel)⟩
theorem lw_p65 : lw_okq (⟨"LensBenchModel", "isDigit", "()Z"⟩, 34) := ⟨⟨by decide +kernel, by decide +kernel⟩, List.mem_of_getElem? (i := 704) (by decide +kernel), List.mem_of_getElem? (i := 982) (by decide +kernel), List.mem_of_getElem? (i := 983) (by decide +kernel)⟩
theorem lw_p66 : lw_okq (⟨"LensBenchModel", "sign", "(I)V"⟩, 34) := ⟨⟨by decide +kernel, by decide +kernel⟩, List.mem_of_getElem? (i := 704) (by decide +kernel), List.mem_of_getElem? (i := 986) (by decide +kernel), List.mem_of_getElem? (i := 987) (by decide +kernel)⟩
theorem lw_p67 : lw_okq (⟨"LensBenchModel", "isTry", "(II)Z"⟩, 34) := ⟨⟨by decide +kernel, by decide +kernel⟩, List.mem_of_getElem? (i := 704) (by decide +kernel), List.mem_of_getElem? (i := 1006) (by decide +kernel), List.mem_of_getElem? (i := 1007) (by decide +kernel)⟩
theorem lw_p68 : lw_okq (⟨"LensBenchModel", "keepWeights", "()V"⟩, 34) := ⟨⟨by decide +kernel, by decide +kernel⟩, List.mem_of_getElem? (i := 704) (by decide +kernel), List.mem_of_getElem? (i := 1013) (by decide +kernel), List.mem_of_getElem? (i := 1014) (by decide +kernel)⟩
theorem lw_p69 : lw_okq (⟨"LensBenchModel", "weigh", "(III)V"⟩, 34) := ⟨⟨by decide +kernel, by decide +kernel⟩, List.mem_of_getElem? (i := 704) (by decide +kernel), List.mem_of_getElem? (i := 1017) (by decide +kernel), List.mem_of_getElem? (i := 1018) (by decide +kernel)⟩
theorem lw_p70 : lw_okq (⟨"LensBenchModel", "doesFit", "()Z"⟩, 34) := ⟨⟨by decide +kernel, by decide +kernel⟩, List.mem_of_getElem? (i := 704) (by decide +kernel), List.mem_of_getElem? (i := 1024) (by decide +kernel), List.mem_of_getElem? (i := 1025) (by decide +kernel)⟩
theorem lw_p71 : lw_okq (⟨"LensBenchModel", "isWithin", "(II)Z"⟩, 34) := ⟨⟨by decide +kernel, by decide +kernel⟩, List.mem_of_getElem? (i := 704) (by decide +kernel), List.mem_of_getElem? (i := 1028) (by decide +kernel), List.mem_of_getElem? (i := 1029) (by decide +kernel)⟩
theorem lw_p72 : lw_okq (⟨"LensBenchModel", "giveBack", "()V"⟩, 34) := ⟨⟨by decide +kernel, by decide +kernel⟩, List.mem_of_getElem? (i := 704) (by decide +kernel), List.mem_of_getElem? (i := 1032) (by decide +kernel), List.mem_of_getElem? (i := 1033) (by decide +kernel)⟩
theorem lw_p73 : lw_okq (⟨"LensBenchModel", "findFitting", "(II)I"⟩, 34) := ⟨⟨by decide +kernel, by decide +kernel⟩, List.mem_of_getElem? (i := 704) (by decide +kernel), List.mem_of_getElem? (i := 1040) (by decide +kernel), List.mem_of_getElem? (i := 1041) (by decide +kernel)⟩
theorem lw_p74 : lw_okq (⟨"LensBenchModel", "heap", "(III)I"⟩, 34) := ⟨⟨by decide +kernel, by decide +kernel⟩, List.mem_of_getElem? (i := 704) (by decide +kernel), List.mem_of_getElem? (i := 1044) (by decide +kernel), List.mem_of_getElem? (i := 1045) (by decide +kernel)⟩
theorem lw_p75 : lw_okq (⟨"LensBenchModel", "isAlike", "(IIII)Z"⟩, 34) := ⟨⟨by decide +kernel, by decide +kernel⟩, List.mem_of_getElem? (i := 704) (by decide +kernel), List.mem_of_getElem? (i := 1048) (by decide +kernel), List.mem_of_getElem? (i := 1049) (by decide +kernel)⟩
theorem lw_p76 : lw_okq (⟨"LensBenchModel", "findTold", "()V"⟩, 34) := ⟨⟨by decide +kernel, by decide +kernel⟩, List.mem_of_getElem? (i := 704) (by decide +kernel), List.mem_of_getElem? (i := 1072) (by decide +kernel), List.mem_of_getElem? (i := 1073) (by decide +kernel)⟩
theorem lw_p77 : lw_okq (⟨"LensBenchModel", "farOf", "(II)I"⟩, 34) := ⟨⟨by decide +kernel, by decide +kernel⟩, List.mem_of_getElem? (i := 704) (by decide +kernel), List.mem_of_getElem? (i := 1076) (by decide +kernel), List.mem_of_getElem? (i := 1077) (by decide +kernel)⟩
def lw_privs_5 : List (MethodName × Nat) := [(⟨"LensBenchModel", "number", "(IZ)I"⟩, 34), (⟨"LensBenchModel", "isDigit", "()Z"⟩, 34), (⟨"LensBenchModel", "sign", "(I)V"⟩, 34), (⟨"LensBenchModel", "isTry", "(II)Z"⟩, 34), (⟨"LensBenchModel", "keepWeights", "()V"⟩, 34), (⟨"LensBenchModel", "weigh", "(III)V"⟩, 34), (⟨"LensBenchModel", "doesFit", "()Z"⟩, 34), (⟨"LensBenchModel", "isWithin", "(II)Z"⟩, 34), (⟨"LensBenchModel", "giveBack", "()V"⟩, 34), (⟨"LensBenchModel", "findFitting", "(II)I"⟩, 34), (⟨"LensBenchModel", "heap", "(III)I"⟩, 34), (⟨"LensBenchModel", "isAlike", "(IIII)Z"⟩, 34), (⟨"LensBenchModel", "findTold", "()V"⟩, 34), (⟨"LensBenchModel", "farOf", "(II)I"⟩, 34)]
theorem lw_r5 : ∀ q ∈ lw_privs_5, lw_okq q := List.forall_mem_cons.mpr ⟨lw_p64, List.forall_mem_cons.mpr ⟨lw_p65, List.forall_mem_cons.mpr ⟨lw_p66, List.forall_mem_cons.mpr ⟨lw_p67, List.forall_mem_cons.mpr ⟨lw_p68, List.forall_mem_cons.mpr ⟨lw_p69, List.forall_mem_cons.mpr ⟨lw_p70, List.forall_mem_cons.mpr ⟨lw_p71, List.forall_mem_cons.mpr ⟨lw_p72, List.forall_mem_cons.mpr ⟨lw_p73, List.forall_mem_cons.mpr ⟨lw_p74, List.forall_mem_cons.mpr ⟨lw_p75, List.forall_mem_cons.mpr ⟨lw_p76, List.forall_mem_cons.mpr ⟨lw_p77, fun _ h => absurd h List.not_mem_nil⟩⟩⟩⟩⟩⟩⟩⟩⟩⟩⟩⟩⟩⟩
def lw_privs : List (MethodName × Nat) := lw_privs_1 ++ (lw_privs_2 ++ (lw_privs_3 ++ (lw_privs_4 ++ (lw_privs_5))))
def lw_tbl : List Cond := k2_sels lw_privs ++ tables_1
theorem lw_privs_ok : ∀ q ∈ lw_privs, lw_okq q := by
  show ∀ q ∈ lw_privs_1 ++ (lw_privs_2 ++ (lw_privs_3 ++ (lw_privs_4 ++ (lw_privs_5)))), lw_okq q
  exact List.forall_mem_append.mpr ⟨lw_r1, List.forall_mem_append.mpr ⟨lw_r2, List.forall_mem_append.mpr ⟨lw_r3, List.forall_mem_append.mpr ⟨lw_r4, lw_r5⟩⟩⟩⟩
-- ===== end of PART A; then your names; then what follows =====
/-! ===== BEGIN words of one list among another's, by their places ===== -/
theorem goodIn_r {big : List Cond} (ws : List Cond) (ps : List Nat) (hp : ws = ps.filterMap (fun i => big[i]?)) (h : ws.all goodWord = true) : GoodIn big ws := by
  intro w hw
  have h1 := List.all_eq_true.mp h w hw
  rw [hp] at hw
  obtain ⟨i, -, hi⟩ := List.mem_filterMap.mp hw
  have hm : w ∈ big := by first | exact List.mem_of_getElem? hi | exact List.getElem?_mem hi
  exact ⟨hm, good_of_word h1⟩
theorem goodIn_app {big a b : List Cond} (ha : GoodIn big a) (hb : GoodIn big b) : GoodIn big (a ++ b) := fun w h => (List.mem_append.mp h).elim (ha w) (hb w)
theorem goodIn_ca {big a b : List Cond} {c : Cond} (ha : GoodIn big (c :: a)) (hb : GoodIn big b) : GoodIn big (c :: (a ++ b)) := fun w h => (List.mem_cons.mp h).elim (fun e => ha w (List.mem_cons.mpr (Or.inl e))) (fun h => (List.mem_append.mp h).elim (fun h => ha w (List.mem_cons.mpr (Or.inr h))) (hb w))
theorem goodIn_sub {big ws : List Cond} (hm : ∀ w ∈ ws, w ∈ big) (h : ws.all goodWord = true) : GoodIn big ws := fun w hw => ⟨hm w hw, good_of_word (List.all_eq_true.mp h w hw)⟩
/-! ===== END ===== -/

/-! ===== BEGIN new T[n][m]: the outer array a place, the inner ones among the pooled ===== -/
/-- f, but v at every address of l -/
def vr_up {α : Type} (f : Nat → α) (l : List Nat) (v : α) : Nat → α := fun a => if a ∈ l then v else f a
theorem vr_up_in {α : Type} {f : Nat → α} {l : List Nat} {v : α} {a : Nat} (h : a ∈ l) : vr_up f l v a = v := if_pos h
theorem vr_up_ne {α : Type} {f : Nat → α} {l : List Nat} {v : α} {a : Nat} (h : a ∉ l) : vr_up f l v a = f a := if_neg h
theorem vr_rows {L l : List Nat} {f : Nat → va_E} {e : va_E} (h : ∀ a, a ∈ l → a ∉ L) : va_pl L f ++ l.map (fun a => (a, e)) = va_pl (L ++ l) (vr_up f l e) := by
  unfold va_pl
  rw [List.map_append]
  congr 1
  · apply List.map_congr_left
    intro a ha
    rw [vr_up_ne (fun q => h a q ha)]
  · apply List.map_congr_left
    intro a ha
    rw [vr_up_in ha]
theorem vr_lay {X rows : va_W} {x : Nat × va_E} {pl : va_W} {D : va_G} {cl : List vw_C} {H : Heap} (hP : va_P D cl (((X ++ pl) ++ [x]) ++ rows) H) : va_P D cl ((X ++ [x]) ++ (pl ++ rows)) H := by
  rw [List.append_assoc (X ++ pl)] at hP
  have h := va_P.swap hP
  rw [← List.append_assoc X] at h
  have h2 := va_P.swap h
  rw [List.append_assoc (X ++ [x])] at h2
  exact h2
theorem vr_layD {X rows : va_W} {x : Nat × va_E} {pl : va_W} {A : Nat → Prop} (hD : va_D A (((X ++ pl) ++ [x]) ++ rows)) : va_D A ((X ++ [x]) ++ (pl ++ rows)) := by
  rw [List.append_assoc (X ++ pl)] at hD
  have h := va_D.swap hD
  rw [← List.append_assoc X] at h
  have h2 := va_D.swap h
  rw [List.append_assoc (X ++ [x])] at h2
  exact h2
theorem vr_outer (c : ClassId) (N h0 : Nat) : ∀ i : Nat, Jvm.Free.Multi.outerC c N h0 i = arrV c N (fun j => va_rf (if j < i then some (h0 + 1 + j) else none))
  | 0 => by
    show ({ cls := c, slots := Array.replicate N .null, vm := .none } : Cell) = _
    rw [arrV_new]
    refine congrArg (arrV c N) (funext fun j => ?_)
    simp [va_rf]
  | i + 1 => by
    show (Jvm.Free.Multi.outerC c N h0 i).setSlot i (.ref (h0 + 1 + i)) = _
    rw [vr_outer c N h0 i, arrV_store]
    refine congrArg (arrV c N) (funext fun j => ?_)
    by_cases e : j = i
    · subst e
      simp [updV, va_rf]
    · by_cases h : j < i
      · simp [updV, e, h, Nat.lt_succ_of_lt h]
      · simp [updV, e, h, show ¬ j < i + 1 by omega]
/-- the tables know the class of arrays over arrays of a type -/
def va_AOA (ty : FieldType) (U : State) : Prop := (Cond.arrayOver (.array ty)).before #[] U = true
theorem va_AOA.use {ty : FieldType} {A : Array Value} {U : State} (h : va_AOA ty U) : (Cond.arrayOver (.array ty)).before A U = true := h
section VGM
variable {p : Program} {l : Launch} {e : Env} {R : Room} {s : State} {m : MethodId} {args : Array Value} {below : List Frame} {meth : Method} {c : Code} {H : Heap} {locs : List Loc} {cells slots : Nat} {Q : State → Prop}
variable {cc : ByteArray} {pc : Nat} {ls : Array Slot} {rest : List Value} {D : va_G} {cl : List vw_C} {A : Nat → Prop} {a : Nat} {tys : List (ClassId × FieldType)} {ws : va_W} {H0 : Heap}
theorem va_mna {X : va_W} {L : List Nat} {f : Nat → va_E} {cc : ByteArray} (hexec : p.tables.exec = Jvm.exec) (hb : c.code = cc) {own : String} {index : Nat} {ty : FieldType} {cy : ClassId} (hown : s.vm.findClass own = some m.cls) (hclink : (Cond.classLink own index ("[" ++ (FieldType.array ty).toString)).before args s = true) (hover : va_AOA ty s) (harr : (Cond.arrayClass ty).before args s = true) (hcy : s.vm.findClass (FieldType.array ty).toString = some cy)
    (hK : va_K D cl tys s) (hP : va_P D cl (X ++ va_pl L f) H) (hD : va_D A (X ++ va_pl L f)) (hS : va_S A H0 H locs) (hA : ∀ q, H0.size ≤ q → A q) {n k : Int32} {N' K' : Nat} {z : vp_A} (hn : ¬ n < 0) (hk : ¬ k < 0) (hN : n.toNatClampNeg = N') (hM : k.toNatClampNeg = K')
    (hb1 : N' * 4 ≤ 536870912) (hb2 : K' * componentBytes ty ≤ 536870912) (hb3 : K' ≤ 536870912) (hdf : fits ty (defaultValue ty) = true) (hdd : (defaultValue ty).isDefault = true) (hcells : cells + (1 + N') ≤ R.cells) (hslots : slots + (N' + N' * K') ≤ R.slots) (hz : ∀ c : ClassId, Jvm.Free.Multi.innerC c K' (defaultValue ty) = vp_cell c z) (hdg : decode cc pc = .ok (.multianewarray index 2, 4))
    (kk : ∀ (q : Nat) (r : Nat → Nat) (cA : ClassId) (H1 : Heap), (∀ i j : Nat, i < N' → j < N' → r i = r j → i = j) → (∀ i : Nat, i < N' → r i ∉ L) → va_K D cl (tys ++ [(cA, .array ty)]) s →
      va_P D cl ((X ++ [(q, .inl (cA, N', .inr (.inr (.inr (.inr (fun i => if i < N' then some (r i) else none))))))]) ++ va_pl (L ++ (List.range N').map r) (vr_up f ((List.range N').map r) (.inl (cy, z)))) H1 → va_D A ((X ++ [(q, .inl (cA, N', .inr (.inr (.inr (.inr (fun i => if i < N' then some (r i) else none))))))]) ++ va_pl (L ++ (List.range N').map r) (vr_up f ((List.range N').map r) (.inl (cy, z)))) → va_S A H0 H1 locs →
      W p l e R s m args below meth c H1 locs (cells + 1 + N') (slots + N' + N' * K') Q (F0 m (pc + 4) ls (.ref q :: rest))) : W p l e R s m args below meth c H locs cells slots Q (F0 m pc ls (.int k :: .int n :: rest)) := by
  subst hN
  subst hM
  intro T hT Xs
  obtain ⟨vm₁, cA, comp, -, fA, fC, hO, -, X', step⟩ := Xs.multianewarray2F hexec hown hclink (va_AOA.use hover) harr (g := F0 m pc ls (.int k :: .int n :: rest)) rfl (by rw [hb]; exact hdg) rfl hn hk hb1 hb2 hb3 hdf hdd hcells hslots
  have ec : some cy = some comp := hcy.symm.trans fC
  cases ec
  generalize hF : Jvm.Free.Multi.fill (T.setVm vm₁) cA cy n.toNatClampNeg k.toNatClampNeg (defaultValue ty) n.toNatClampNeg = F at X' step
  have hTh : (T.setVm vm₁).heap = H := hT
  obtain ⟨f1, f2, -, -⟩ := Jvm.Free.Multi.fill_facts (T.setVm vm₁) cA cy n.toNatClampNeg k.toNatClampNeg (defaultValue ty) n.toNatClampNeg
  rw [hF, hTh] at f1 f2
  have hold : ∀ x : Nat, x < H.size → F.heap[x]? = H[x]? := fun x hx => by
    have := Jvm.Free.Multi.fill_old (T.setVm vm₁) cA cy n.toNatClampNeg k.toNatClampNeg (defaultValue ty) (a := x) (by rw [hTh]; exact hx) n.toNatClampNeg
    rw [hF, hTh] at this
    exact this
  have hrow : ∀ j : Nat, j < n.toNatClampNeg → F.heap[H.size + 1 + j]? = some (vp_cell cy z) := fun j hj => by
    have := Jvm.Free.Multi.fill_inner (T.setVm vm₁) cA cy n.toNatClampNeg k.toNatClampNeg (defaultValue ty) n.toNatClampNeg j hj
    rw [hF, hTh, hz] at this
    exact this
  have hout : Jvm.Free.Multi.outerC cA n.toNatClampNeg H.size n.toNatClampNeg = vp_cell cA (n.toNatClampNeg, .inr (.inr (.inr (.inr (fun i => if i < n.toNatClampNeg then some (H.size + 1 + i) else none))))) := by
    rw [vp_cell_q]
    exact vr_outer cA n.toNatClampNeg H.size n.toNatClampNeg
  rw [hout] at f2
  have hlt : ∀ a, a ∈ L → a < H.size := fun a ha => by
    obtain ⟨k9, hk9⟩ := va_pl_get (X := X) (f := f) ha
    exact (hP k9 _ hk9).lt
  have hnl : ∀ i : Nat, i < n.toNatClampNeg → H.size + 1 + i ∉ L := fun i _ h => by
    have := hlt _ h
    omega
  have hnm : ∀ a, a ∈ (List.range n.toNatClampNeg).map (fun i => H.size + 1 + i) → a ∉ L := fun a ha h => by
    obtain ⟨i, -, rfl⟩ := List.mem_map.mp ha
    have := hlt _ h
    omega
  have hP0 : va_P D cl (X ++ va_pl L f) F.heap := hP.kept (fun k9 x hx => hold x.1 ((hP k9 x hx).lt))
  have hP1 : va_P D cl ((X ++ va_pl L f) ++ [(H.size, .inl (cA, n.toNatClampNeg, .inr (.inr (.inr (.inr (fun i => if i < n.toNatClampNeg then some (H.size + 1 + i) else none))))))]) F.heap := hP0.app (fun k9 x hx => by
    have h0 : k9 < 1 := (List.getElem?_eq_some_iff.mp hx).1
    rw [show k9 = 0 by omega] at hx
    cases hx
    exact f2)
  have hP2 : va_P D cl (((X ++ va_pl L f) ++ [(H.size, .inl (cA, n.toNatClampNeg, .inr (.inr (.inr (.inr (fun i => if i < n.toNatClampNeg then some (H.size + 1 + i) else none))))))]) ++ ((List.range n.toNatClampNeg).map (fun i => H.size + 1 + i)).map (fun a => (a, .inl (cy, z)))) F.heap := hP1.app (fun k9 x hx => by
    obtain ⟨a, ha, rfl⟩ := List.mem_map.mp (List.mem_of_getElem? hx)
    obtain ⟨i, hi, rfl⟩ := List.mem_map.mp ha
    exact hrow i (List.mem_range.mp hi))
  have hD2 : va_D A (((X ++ va_pl L f) ++ [(H.size, .inl (cA, n.toNatClampNeg, .inr (.inr (.inr (.inr (fun i => if i < n.toNatClampNeg then some (H.size + 1 + i) else none))))))]) ++ ((List.range n.toNatClampNeg).map (fun i => H.size + 1 + i)).map (fun a => (a, .inl (cy, z)))) := by
    have hD1 := hD.push (e := .inl (cA, n.toNatClampNeg, .inr (.inr (.inr (.inr (fun i => if i < n.toNatClampNeg then some (H.size + 1 + i) else none)))))) hP rfl (hA _ hS.1)
    generalize hW1 : (X ++ va_pl L f) ++ [(H.size, .inl (cA, n.toNatClampNeg, .inr (.inr (.inr (.inr (fun i => if i < n.toNatClampNeg then some (H.size + 1 + i) else none))))))] = W1 at hD1 hP1 ⊢
    have hle : ∀ (k9 : Nat) (x : Nat × va_E), W1[k9]? = some x → x.1 ≤ H.size := fun k9 x hx => by
      rw [← hW1] at hx
      by_cases hl : k9 < (X ++ va_pl L f).length
      · rw [List.getElem?_append_left hl] at hx
        exact Nat.le_of_lt ((hP k9 x hx).lt)
      · rw [List.getElem?_append_right (by omega)] at hx
        have h0 : k9 - (X ++ va_pl L f).length < 1 := (List.getElem?_eq_some_iff.mp hx).1
        rw [show k9 - (X ++ va_pl L f).length = 0 by omega] at hx
        cases hx
        exact Nat.le_refl _
    have hr : ∀ (k9 : Nat) (x : Nat × va_E), (((List.range n.toNatClampNeg).map (fun i => H.size + 1 + i)).map (fun a => ((a, .inl (cy, z)) : Nat × va_E)))[k9]? = some x → x.1 = H.size + 1 + k9 := fun k9 x hx => by
      rw [List.getElem?_map, List.getElem?_map] at hx
      by_cases h9 : k9 < n.toNatClampNeg
      · rw [List.getElem?_range h9] at hx
        cases hx
        rfl
      · have hn0 : (List.range n.toNatClampNeg)[k9]? = none := List.getElem?_eq_none (by rw [List.length_range]; omega)
        rw [hn0] at hx
        cases hx
    refine ⟨fun i j x y hi hj hxy => ?_, fun k9 x hx => ?_⟩
    · by_cases h1 : i < W1.length <;> by_cases h2 : j < W1.length
      · rw [List.getElem?_append_left h1] at hi
        rw [List.getElem?_append_left h2] at hj
        exact hD1.1 i j x y hi hj hxy
      · rw [List.getElem?_append_left h1] at hi
        rw [List.getElem?_append_right (by omega)] at hj
        have := hle _ _ hi
        have := hr _ _ hj
        omega
      · rw [List.getElem?_append_right (by omega)] at hi
        rw [List.getElem?_append_left h2] at hj
        have := hle _ _ hj
        have := hr _ _ hi
        omega
      · rw [List.getElem?_append_right (by omega)] at hi hj
        have := hr _ _ hi
        have := hr _ _ hj
        omega
    · by_cases h1 : k9 < W1.length
      · rw [List.getElem?_append_left h1] at hx
        exact hD1.2 k9 x hx
      · rw [List.getElem?_append_right (by omega)] at hx
        have := hr _ _ hx
        exact hA _ (by have := hS.1; omega)
  have hAr : ArrOfT s cA (.array ty) := fun N9 z9 => by
    obtain ⟨-, k9, hk9, cm9, hkk9⟩ := (hO 0 0 0).1
    exact ⟨(fun q hq => by cases hq), k9, hk9, cm9, hkk9⟩
  have hK2 : va_K D cl (tys ++ [(cA, .array ty)]) s := ⟨hK.1, fun k9 x hx => by
    by_cases hl : k9 < tys.length
    · rw [List.getElem?_append_left hl] at hx
      exact hK.2 k9 x hx
    · rw [List.getElem?_append_right (by omega)] at hx
      have h0 : k9 - tys.length < 1 := (List.getElem?_eq_some_iff.mp hx).1
      rw [show k9 - tys.length = 0 by omega] at hx
      cases hx
      exact ⟨hAr, fA⟩⟩
  obtain ⟨t, a1, b1⟩ := kk H.size (fun i => H.size + 1 + i) cA F.heap (fun i j _ _ h => by have h9 : H.size + 1 + i = H.size + 1 + j := h; omega) hnl hK2 (by rw [← vr_rows hnm]; exact vr_lay hP2) (by rw [← vr_rows hnm]; exact vr_layD hD2) ⟨by rw [f1]; have := hS.1; omega, fun x h1 h2 => (hold x (Nat.lt_of_lt_of_le h1 hS.1)).trans (hS.2.1 x h1 h2), hS.2.2⟩ F rfl X'
  refine ⟨t, step t ?_, b1⟩
  have e : T.heap.size = H.size := by rw [hT]
  rw [e]
  exact a1
end VGM
/-! ===== END ===== -/

def RX0 : String := "LensBench$Brightness"
def TX0 : u_T := fun k => match k with
  | 0 => ("LensBench$Brightness", "plane", "LLensBench$Plane;", true)
  | 1 => ("LensBench$Brightness", "tally", "LLensBench$Tally;", true)
  | 2 => ("LensBench$Brightness", "told", "[I", true)
  | 3 => ("LensBench$Brightness", "darkest", "[I", true)
  | 4 => ("LensBench$Brightness", "lightest", "[I", true)
  | _ => ("LensBench$Brightness", "noise", "I", false)
def tyX0 : Nat → FieldType := fun k => match k with
  | 0 => .object "LensBench$Plane"
  | 1 => .object "LensBench$Tally"
  | 2 => .array .int
  | 3 => .array .int
  | 4 => .array .int
  | _ => .int
abbrev wsX00 : List Cond := u_ws RX0 TX0 6
theorem nmX0 : ∀ a, a < 6 → ∀ b, b < 6 → a ≠ b → (TX0 a).2.1 ≠ (TX0 b).2.1 := by decide +kernel
theorem tyX0_ok : ∀ k, k < 6 → parseFieldDescriptor (TX0 k).2.2.1 = some (tyX0 k) := by decide +kernel
abbrev cX0_init : ByteArray := prog_2_method_1_code
def yX0_init : MethodName := ⟨RX0, "<init>", "(LLensBench$Plane;LLensBench$Tally;)V"⟩
abbrev cX0_toldCount : ByteArray := prog_2_method_2_code
def yX0_toldCount : MethodName := ⟨RX0, "toldCount", "()I"⟩
abbrev cX0_farOf : ByteArray := prog_2_method_3_code
def yX0_farOf : MethodName := ⟨RX0, "farOf", "(I)I"⟩
abbrev cX0_contradictions : ByteArray := prog_2_method_4_code
def yX0_contradictions : MethodName := ⟨RX0, "contradictions", "()I"⟩
abbrev cX0_widen : ByteArray := prog_2_method_5_code
def yX0_widen : MethodName := ⟨RX0, "widen", "(II)V"⟩
def RX1 : String := "LensBench$Groups"
def TX1 : u_T := fun k => match k with
  | 0 => ("LensBench$Groups", "waiting", "[Z", true)
  | 1 => ("LensBench$Groups", "queue", "[I", true)
  | 2 => ("LensBench$Groups", "wantedFirst", "I", false)
  | _ => ("LensBench$Groups", "wantedSize", "I", false)
def tyX1 : Nat → FieldType := fun k => match k with
  | 0 => .array .boolean
  | 1 => .array .int
  | 2 => .int
  | _ => .int
abbrev wsX10 : List Cond := u_ws RX1 TX1 4
theorem nmX1 : ∀ a, a < 4 → ∀ b, b < 4 → a ≠ b → (TX1 a).2.1 ≠ (TX1 b).2.1 := by decide +kernel
theorem tyX1_ok : ∀ k, k < 4 → parseFieldDescriptor (TX1 k).2.2.1 = some (tyX1 k) := by decide +kernel
abbrev cX1_init : ByteArray := prog_3_method_1_code
def yX1_init : MethodName := ⟨RX1, "<init>", "()V"⟩
abbrev cX1_split : ByteArray := prog_3_method_2_code
def yX1_split : MethodName := ⟨RX1, "split", "(I)I"⟩
abbrev cX1_collect : ByteArray := prog_3_method_3_code
def yX1_collect : MethodName := ⟨RX1, "collect", "(I)I"⟩
abbrev cX1_queueNeighbours : ByteArray := prog_3_method_4_code
def yX1_queueNeighbours : MethodName := ⟨RX1, "queueNeighbours", "(II)I"⟩
def RX2 : String := "LensBench$Lens"
def TX2 : u_T := fun k => match k with
  | 0 => ("LensBench$Lens", "bodies", "[[I", false)
  | 1 => ("LensBench$Lens", "bodyCount", "I", false)
  | 2 => ("LensBench$Lens", "g", "I", false)
  | _ => ("LensBench$Lens", "h", "I", false)
def tyX2 : Nat → FieldType := fun k => match k with
  | 0 => .array (.array .int)
  | 1 => .int
  | 2 => .int
  | _ => .int
abbrev wsX20 : List Cond := u_ws RX2 TX2 4
theorem nmX2 : ∀ a, a < 4 → ∀ b, b < 4 → a ≠ b → (TX2 a).2.1 ≠ (TX2 b).2.1 := by decide +kernel
theorem tyX2_ok : ∀ k, k < 4 → parseFieldDescriptor (TX2 k).2.2.1 = some (tyX2 k) := by decide +kernel
abbrev cX2_init : ByteArray := prog_4_method_1_code
def yX2_init : MethodName := ⟨RX2, "<init>", "()V"⟩
abbrev cX2_add : ByteArray := prog_4_method_2_code
def yX2_add : MethodName := ⟨RX2, "add", "(IIII)I"⟩
abbrev cX2_weights : ByteArray := prog_4_method_3_code
def yX2_weights : MethodName := ⟨RX2, "weights", "()I"⟩
abbrev cX2_lightAt : ByteArray := prog_4_method_4_code
def yX2_lightAt : MethodName := ⟨RX2, "lightAt", "(III)I"⟩
abbrev cX2_lightPast : ByteArray := prog_4_method_5_code
def yX2_lightPast : MethodName := ⟨RX2, "lightPast", "(IIII)I"⟩
abbrev cX2_bendBy : ByteArray := prog_4_method_6_code
def yX2_bendBy : MethodName := ⟨RX2, "bendBy", "(I[IIIII)I"⟩
abbrev cX2_askedBy : ByteArray := prog_4_method_7_code
def yX2_askedBy : MethodName := ⟨RX2, "askedBy", "(I)I"⟩
abbrev cX2_isCutAway : ByteArray := prog_4_method_8_code
def yX2_isCutAway : MethodName := ⟨RX2, "isCutAway", "([II)Z"⟩
abbrev cX2_squares : ByteArray := prog_4_method_9_code
def yX2_squares : MethodName := ⟨RX2, "squares", "([III)I"⟩
def RX3 : String := "LensBench$Plane"
def TX3 : u_T := fun k => match k with
  | 0 => ("LensBench$Plane", "lens", "LLensBench$Lens;", true)
  | 1 => ("LensBench$Plane", "lightX", "[I", true)
  | 2 => ("LensBench$Plane", "lightY", "[I", true)
  | 3 => ("LensBench$Plane", "cellKeys", "[I", true)
  | 4 => ("LensBench$Plane", "parities", "[I", true)
  | _ => ("LensBench$Plane", "stale", "Z", false)
def tyX3 : Nat → FieldType := fun k => match k with
  | 0 => .object "LensBench$Lens"
  | 1 => .array .int
  | 2 => .array .int
  | 3 => .array .int
  | 4 => .array .int
  | _ => .boolean
abbrev wsX30 : List Cond := u_ws RX3 TX3 6
theorem nmX3 : ∀ a, a < 6 → ∀ b, b < 6 → a ≠ b → (TX3 a).2.1 ≠ (TX3 b).2.1 := by decide +kernel
theorem tyX3_ok : ∀ k, k < 6 → parseFieldDescriptor (TX3 k).2.2.1 = some (tyX3 k) := by decide +kernel
abbrev cX3_init : ByteArray := prog_5_method_1_code
def yX3_init : MethodName := ⟨RX3, "<init>", "(LLensBench$Lens;)V"⟩
abbrev cX3_lookAnew : ByteArray := prog_5_method_2_code
def yX3_lookAnew : MethodName := ⟨RX3, "lookAnew", "()V"⟩
abbrev cX3_placeAt : ByteArray := prog_5_method_3_code
def yX3_placeAt : MethodName := ⟨RX3, "placeAt", "(II)I"⟩
abbrev cX3_across : ByteArray := prog_5_method_4_code
def yX3_across : MethodName := ⟨RX3, "across", "([II)I"⟩
abbrev cX3_down : ByteArray := prog_5_method_5_code
def yX3_down : MethodName := ⟨RX3, "down", "([II)I"⟩
abbrev cX3_signOfArea : ByteArray := prog_5_method_6_code
def yX3_signOfArea : MethodName := ⟨RX3, "signOfArea", "(I)I"⟩
abbrev cX3_parityAt : ByteArray := prog_5_method_7_code
def yX3_parityAt : MethodName := ⟨RX3, "parityAt", "(II)I"⟩
abbrev cX3_isCritical : ByteArray := prog_5_method_8_code
def yX3_isCritical : MethodName := ⟨RX3, "isCritical", "(II)Z"⟩
abbrev cX3_countOfParity : ByteArray := prog_5_method_9_code
def yX3_countOfParity : MethodName := ⟨RX3, "countOfParity", "(I)I"⟩
abbrev cX3_delayOnWay : ByteArray := prog_5_method_10_code
def yX3_delayOnWay : MethodName := ⟨RX3, "delayOnWay", "(IIIIII)J"⟩
abbrev cX3_delayAlong : ByteArray := prog_5_method_11_code
def yX3_delayAlong : MethodName := ⟨RX3, "delayAlong", "([IIIII)J"⟩
abbrev cX3_stretchOf : ByteArray := prog_5_method_12_code
def yX3_stretchOf : MethodName := ⟨RX3, "stretchOf", "(I)I"⟩
abbrev cX3_doubledStretchAt : ByteArray := prog_5_method_13_code
def yX3_doubledStretchAt : MethodName := ⟨RX3, "doubledStretchAt", "(II)J"⟩
def RX4 : String := "LensBench$Tally"
def TX4 : u_T := fun k => match k with
  | 0 => ("LensBench$Tally", "numberAt", "[I", true)
  | 1 => ("LensBench$Tally", "keys", "[I", true)
  | 2 => ("LensBench$Tally", "counts", "[I", true)
  | _ => ("LensBench$Tally", "distinct", "I", false)
def tyX4 : Nat → FieldType := fun k => match k with
  | 0 => .array .int
  | 1 => .array .int
  | 2 => .array .int
  | _ => .int
abbrev wsX40 : List Cond := u_ws RX4 TX4 4
theorem nmX4 : ∀ a, a < 4 → ∀ b, b < 4 → a ≠ b → (TX4 a).2.1 ≠ (TX4 b).2.1 := by decide +kernel
theorem tyX4_ok : ∀ k, k < 4 → parseFieldDescriptor (TX4 k).2.2.1 = some (tyX4 k) := by decide +kernel
abbrev cX4_init : ByteArray := prog_6_method_1_code
def yX4_init : MethodName := ⟨RX4, "<init>", "()V"⟩
abbrev cX4_start : ByteArray := prog_6_method_2_code
def yX4_start : MethodName := ⟨RX4, "start", "()V"⟩
abbrev cX4_numberOf : ByteArray := prog_6_method_3_code
def yX4_numberOf : MethodName := ⟨RX4, "numberOf", "(I)I"⟩
abbrev cX4_take : ByteArray := prog_6_method_4_code
def yX4_take : MethodName := ⟨RX4, "take", "(II)I"⟩
abbrev cX4_greatest : ByteArray := prog_6_method_5_code
def yX4_greatest : MethodName := ⟨RX4, "greatest", "()I"⟩
def RX5 : String := "LensBench$Text"
def TX5 : u_T := fun k => match k with
  | 0 => ("LensBench$Text", "bytes", "[I", true)
  | 1 => ("LensBench$Text", "bodies", "[[I", false)
  | 2 => ("LensBench$Text", "length", "I", false)
  | _ => ("LensBench$Text", "at", "I", false)
def tyX5 : Nat → FieldType := fun k => match k with
  | 0 => .array .int
  | 1 => .array (.array .int)
  | 2 => .int
  | _ => .int
abbrev wsX50 : List Cond := u_ws RX5 TX5 4
theorem nmX5 : ∀ a, a < 4 → ∀ b, b < 4 → a ≠ b → (TX5 a).2.1 ≠ (TX5 b).2.1 := by decide +kernel
theorem tyX5_ok : ∀ k, k < 4 → parseFieldDescriptor (TX5 k).2.2.1 = some (tyX5 k) := by decide +kernel
abbrev cX5_init : ByteArray := prog_7_method_1_code
def yX5_init : MethodName := ⟨RX5, "<init>", "()V"⟩
abbrev cX5_add : ByteArray := prog_7_method_2_code
def yX5_add : MethodName := ⟨RX5, "add", "(I)V"⟩
abbrev cX5_tellBodies : ByteArray := prog_7_method_3_code
def yX5_tellBodies : MethodName := ⟨RX5, "tellBodies", "()I"⟩
abbrev cX5_takeItem : ByteArray := prog_7_method_4_code
def yX5_takeItem : MethodName := ⟨RX5, "takeItem", "([I)Z"⟩
abbrev cX5_takeKind : ByteArray := prog_7_method_5_code
def yX5_takeKind : MethodName := ⟨RX5, "takeKind", "()I"⟩
abbrev cX5_takeSign : ByteArray := prog_7_method_6_code
def yX5_takeSign : MethodName := ⟨RX5, "takeSign", "(C)Z"⟩
abbrev cX5_takeNumber : ByteArray := prog_7_method_7_code
def yX5_takeNumber : MethodName := ⟨RX5, "takeNumber", "([II)Z"⟩
def RX6 : String := "LensBench$Trials"
def TX6 : u_T := fun k => match k with
  | 0 => ("LensBench$Trials", "lens", "LLensBench$Lens;", true)
  | 1 => ("LensBench$Trials", "tally", "LLensBench$Tally;", true)
  | 2 => ("LensBench$Trials", "pairs", "[[I", true)
  | 3 => ("LensBench$Trials", "spots", "[[I", true)
  | 4 => ("LensBench$Trials", "pairCount", "I", false)
  | 5 => ("LensBench$Trials", "spotCount", "I", false)
  | 6 => ("LensBench$Trials", "slack", "I", false)
  | 7 => ("LensBench$Trials", "fixedParts", "[I", true)
  | 8 => ("LensBench$Trials", "triedParts", "[[I", true)
  | 9 => ("LensBench$Trials", "aimed", "[I", true)
  | 10 => ("LensBench$Trials", "fitting", "[I", true)
  | 11 => ("LensBench$Trials", "heaps", "[I", true)
  | 12 => ("LensBench$Trials", "bodiesTried", "I", false)
  | 13 => ("LensBench$Trials", "digits", "I", false)
  | 14 => ("LensBench$Trials", "modelCount", "I", false)
  | 15 => ("LensBench$Trials", "fitCount", "I", false)
  | 16 => ("LensBench$Trials", "stale", "Z", false)
  | _ => ("LensBench$Trials", "isGathered", "Z", false)
def tyX6 : Nat → FieldType := fun k => match k with
  | 0 => .object "LensBench$Lens"
  | 1 => .object "LensBench$Tally"
  | 2 => .array (.array .int)
  | 3 => .array (.array .int)
  | 4 => .int
  | 5 => .int
  | 6 => .int
  | 7 => .array .int
  | 8 => .array (.array .int)
  | 9 => .array .int
  | 10 => .array .int
  | 11 => .array .int
  | 12 => .int
  | 13 => .int
  | 14 => .int
  | 15 => .int
  | 16 => .boolean
  | _ => .boolean
abbrev wsX60 : List Cond := u_ws RX6 TX6 18
theorem nmX6 : ∀ a, a < 18 → ∀ b, b < 18 → a ≠ b → (TX6 a).2.1 ≠ (TX6 b).2.1 := by decide +kernel
theorem tyX6_ok : ∀ k, k < 18 → parseFieldDescriptor (TX6 k).2.2.1 = some (tyX6 k) := by decide +kernel
abbrev cX6_init : ByteArray := prog_8_method_1_code
def yX6_init : MethodName := ⟨RX6, "<init>", "(LLensBench$Lens;LLensBench$Tally;)V"⟩
abbrev cX6_addPair : ByteArray := prog_8_method_2_code
def yX6_addPair : MethodName := ⟨RX6, "addPair", "(IIII)I"⟩
abbrev cX6_addSpot : ByteArray := prog_8_method_3_code
def yX6_addSpot : MethodName := ⟨RX6, "addSpot", "(II)I"⟩
abbrev cX6_load : ByteArray := prog_8_method_4_code
def yX6_load : MethodName := ⟨RX6, "load", "(II)V"⟩
abbrev cX6_startRow : ByteArray := prog_8_method_5_code
def yX6_startRow : MethodName := ⟨RX6, "startRow", "(I)V"⟩
abbrev cX6_addToRow : ByteArray := prog_8_method_6_code
def yX6_addToRow : MethodName := ⟨RX6, "addToRow", "(IIIII)V"⟩
abbrev cX6_aim : ByteArray := prog_8_method_7_code
def yX6_aim : MethodName := ⟨RX6, "aim", "(I)V"⟩
abbrev cX6_shownBy : ByteArray := prog_8_method_8_code
def yX6_shownBy : MethodName := ⟨RX6, "shownBy", "(I)I"⟩
abbrev cX6_holds : ByteArray := prog_8_method_9_code
def yX6_holds : MethodName := ⟨RX6, "holds", "(I)Z"⟩
abbrev cX6_gather : ByteArray := prog_8_method_10_code
def yX6_gather : MethodName := ⟨RX6, "gather", "()V"⟩
abbrev cX6_weightOf : ByteArray := prog_8_method_11_code
def yX6_weightOf : MethodName := ⟨RX6, "weightOf", "(II)I"⟩
abbrev cX6_least : ByteArray := prog_8_method_12_code
def yX6_least : MethodName := ⟨RX6, "least", "()I"⟩
abbrev cX6_sureWeight : ByteArray := prog_8_method_13_code
def yX6_sureWeight : MethodName := ⟨RX6, "sureWeight", "(I)I"⟩
abbrev cX6_twins : ByteArray := prog_8_method_14_code
def yX6_twins : MethodName := ⟨RX6, "twins", "()I"⟩
abbrev cX6_nextLook : ByteArray := prog_8_method_15_code
def yX6_nextLook : MethodName := ⟨RX6, "nextLook", "()I"⟩
abbrev cX6_splitHeaps : ByteArray := prog_8_method_16_code
def yX6_splitHeaps : MethodName := ⟨RX6, "splitHeaps", "(I)V"⟩
def RX7 : String := "LensBench"
def TX7 : u_T := fun k => match k with
  | 0 => ("LensBench", "lens", "LLensBench$Lens;", true)
  | 1 => ("LensBench", "plane", "LLensBench$Plane;", true)
  | 2 => ("LensBench", "groups", "LLensBench$Groups;", true)
  | 3 => ("LensBench", "tally", "LLensBench$Tally;", true)
  | 4 => ("LensBench", "text", "LLensBench$Text;", true)
  | 5 => ("LensBench", "trials", "LLensBench$Trials;", true)
  | 6 => ("LensBench", "brightness", "LLensBench$Brightness;", true)
  | _ => ("LensBench", "traced", "J", false)
def tyX7 : Nat → FieldType := fun k => match k with
  | 0 => .object "LensBench$Lens"
  | 1 => .object "LensBench$Plane"
  | 2 => .object "LensBench$Groups"
  | 3 => .object "LensBench$Tally"
  | 4 => .object "LensBench$Text"
  | 5 => .object "LensBench$Trials"
  | 6 => .object "LensBench$Brightness"
  | _ => .long
abbrev wsX70 : List Cond := u_ws RX7 TX7 8
theorem nmX7 : ∀ a, a < 8 → ∀ b, b < 8 → a ≠ b → (TX7 a).2.1 ≠ (TX7 b).2.1 := by decide +kernel
theorem tyX7_ok : ∀ k, k < 8 → parseFieldDescriptor (TX7 k).2.2.1 = some (tyX7 k) := by decide +kernel
abbrev cX7_init : ByteArray := prog_1_method_1_code
def yX7_init : MethodName := ⟨RX7, "<init>", "()V"⟩
abbrev cX7_body : ByteArray := prog_1_method_2_code
def yX7_body : MethodName := ⟨RX7, "body", "(IIII)I"⟩
abbrev cX7_set : ByteArray := prog_1_method_3_code
def yX7_set : MethodName := ⟨RX7, "set", "(III)I"⟩
abbrev cX7_drop : ByteArray := prog_1_method_4_code
def yX7_drop : MethodName := ⟨RX7, "drop", "()I"⟩
abbrev cX7_field : ByteArray := prog_1_method_5_code
def yX7_field : MethodName := ⟨RX7, "field", "(II)I"⟩
abbrev cX7_bend : ByteArray := prog_1_method_6_code
def yX7_bend : MethodName := ⟨RX7, "bend", "(IIIII)I"⟩
abbrev cX7_from : ByteArray := prog_1_method_7_code
def yX7_from : MethodName := ⟨RX7, "from", "(III)I"⟩
abbrev cX7_cell : ByteArray := prog_1_method_8_code
def yX7_cell : MethodName := ⟨RX7, "cell", "(III)I"⟩
abbrev cX7_pictures : ByteArray := prog_1_method_9_code
def yX7_pictures : MethodName := ⟨RX7, "pictures", "(III)I"⟩
abbrev cX7_group : ByteArray := prog_1_method_10_code
def yX7_group : MethodName := ⟨RX7, "group", "(IIII)I"⟩
abbrev cX7_parity : ByteArray := prog_1_method_11_code
def yX7_parity : MethodName := ⟨RX7, "parity", "(II)I"⟩
abbrev cX7_critical : ByteArray := prog_1_method_12_code
def yX7_critical : MethodName := ⟨RX7, "critical", "(II)I"⟩
abbrev cX7_rings : ByteArray := prog_1_method_13_code
def yX7_rings : MethodName := ⟨RX7, "rings", "(I)I"⟩
abbrev cX7_brightest : ByteArray := prog_1_method_14_code
def yX7_brightest : MethodName := ⟨RX7, "brightest", "(I)I"⟩
abbrev cX7_delay : ByteArray := prog_1_method_15_code
def yX7_delay : MethodName := ⟨RX7, "delay", "(IIIIII)J"⟩
abbrev cX7_stretch : ByteArray := prog_1_method_16_code
def yX7_stretch : MethodName := ⟨RX7, "stretch", "(I)I"⟩
abbrev cX7_type : ByteArray := prog_1_method_17_code
def yX7_type : MethodName := ⟨RX7, "type", "(JI)I"⟩
abbrev cX7_clear : ByteArray := prog_1_method_18_code
def yX7_clear : MethodName := ⟨RX7, "clear", "()I"⟩
abbrev cX7_read : ByteArray := prog_1_method_19_code
def yX7_read : MethodName := ⟨RX7, "read", "()I"⟩
abbrev cX7_pair : ByteArray := prog_1_method_20_code
def yX7_pair : MethodName := ⟨RX7, "pair", "(IIII)I"⟩
abbrev cX7_wipe : ByteArray := prog_1_method_21_code
def yX7_wipe : MethodName := ⟨RX7, "wipe", "()I"⟩
abbrev cX7_tolerance : ByteArray := prog_1_method_22_code
def yX7_tolerance : MethodName := ⟨RX7, "tolerance", "(II)I"⟩
abbrev cX7_fits : ByteArray := prog_1_method_23_code
def yX7_fits : MethodName := ⟨RX7, "fits", "(III)I"⟩
abbrev cX7_models : ByteArray := prog_1_method_24_code
def yX7_models : MethodName := ⟨RX7, "models", "(III)I"⟩
abbrev cX7_sure : ByteArray := prog_1_method_25_code
def yX7_sure : MethodName := ⟨RX7, "sure", "(III)I"⟩
abbrev cX7_spot : ByteArray := prog_1_method_26_code
def yX7_spot : MethodName := ⟨RX7, "spot", "(II)I"⟩
abbrev cX7_forget : ByteArray := prog_1_method_27_code
def yX7_forget : MethodName := ⟨RX7, "forget", "()I"⟩
abbrev cX7_bright : ByteArray := prog_1_method_28_code
def yX7_bright : MethodName := ⟨RX7, "bright", "(III)I"⟩
abbrev cX7_far : ByteArray := prog_1_method_29_code
def yX7_far : MethodName := ⟨RX7, "far", "(II)I"⟩
abbrev cX7_contradicts : ByteArray := prog_1_method_30_code
def yX7_contradicts : MethodName := ⟨RX7, "contradicts", "()I"⟩
abbrev cX7_filled : ByteArray := prog_1_method_31_code
def yX7_filled : MethodName := ⟨RX7, "filled", "(II)I"⟩
abbrev cX7_count : ByteArray := prog_1_method_32_code
def yX7_count : MethodName := ⟨RX7, "count", "(I)I"⟩
abbrev cX7_trace : ByteArray := prog_1_method_33_code
def yX7_trace : MethodName := ⟨RX7, "trace", "()J"⟩
abbrev cX7_within : ByteArray := prog_1_method_34_code
def yX7_within : MethodName := ⟨RX7, "within", "(III)Z"⟩
abbrev cX7_isWithin : ByteArray := prog_1_method_35_code
def yX7_isWithin : MethodName := ⟨RX7, "isWithin", "(III)Z"⟩
abbrev cX7_isAsked : ByteArray := prog_1_method_36_code
def yX7_isAsked : MethodName := ⟨RX7, "isAsked", "(III)Z"⟩
abbrev cX7_isFeature : ByteArray := prog_1_method_37_code
def yX7_isFeature : MethodName := ⟨RX7, "isFeature", "(II)Z"⟩
abbrev cX7_isBody : ByteArray := prog_1_method_38_code
def yX7_isBody : MethodName := ⟨RX7, "isBody", "(I)Z"⟩
abbrev cX7_isTrial : ByteArray := prog_1_method_39_code
def yX7_isTrial : MethodName := ⟨RX7, "isTrial", "(II)Z"⟩
abbrev cX7_lensChanges : ByteArray := prog_1_method_40_code
def yX7_lensChanges : MethodName := ⟨RX7, "lensChanges", "()V"⟩
abbrev cX7_markPictures : ByteArray := prog_1_method_41_code
def yX7_markPictures : MethodName := ⟨RX7, "markPictures", "(II)I"⟩
abbrev cX7_markCriticals : ByteArray := prog_1_method_42_code
def yX7_markCriticals : MethodName := ⟨RX7, "markCriticals", "()I"⟩
abbrev cX7_pixelAt : ByteArray := prog_1_method_43_code
def yX7_pixelAt : MethodName := ⟨RX7, "pixelAt", "(II)I"⟩
abbrev cX7_xOf : ByteArray := prog_1_method_44_code
def yX7_xOf : MethodName := ⟨RX7, "xOf", "(I)I"⟩
abbrev cX7_yOf : ByteArray := prog_1_method_45_code
def yX7_yOf : MethodName := ⟨RX7, "yOf", "(I)I"⟩
abbrev cX7_cellOf : ByteArray := prog_1_method_46_code
def yX7_cellOf : MethodName := ⟨RX7, "cellOf", "(I)I"⟩
abbrev cX7_keyOf : ByteArray := prog_1_method_47_code
def yX7_keyOf : MethodName := ⟨RX7, "keyOf", "(II)I"⟩
def RX8 : String := "LensBenchModel"
def TX8 : u_T := fun k => match k with
  | 0 => ("LensBenchModel", "body", "[I", true)
  | 1 => ("LensBenchModel", "bodies", "I", false)
  | 2 => ("LensBenchModel", "fieldG", "I", false)
  | 3 => ("LensBenchModel", "fieldH", "I", false)
  | 4 => ("LensBenchModel", "text", "[B", true)
  | 5 => ("LensBenchModel", "typed", "I", false)
  | 6 => ("LensBenchModel", "pairs", "I", false)
  | 7 => ("LensBenchModel", "pair", "[I", true)
  | 8 => ("LensBenchModel", "tolerated", "I", false)
  | 9 => ("LensBenchModel", "noise", "I", false)
  | 10 => ("LensBenchModel", "spots", "I", false)
  | 11 => ("LensBenchModel", "spotX", "[I", true)
  | 12 => ("LensBenchModel", "spotY", "[I", true)
  | 13 => ("LensBenchModel", "told", "[I", true)
  | 14 => ("LensBenchModel", "trace", "J", false)
  | 15 => ("LensBenchModel", "planeX", "[I", true)
  | 16 => ("LensBenchModel", "planeY", "[I", true)
  | 17 => ("LensBenchModel", "isOne", "[Z", true)
  | 18 => ("LensBenchModel", "groupOf", "[I", true)
  | 19 => ("LensBenchModel", "line", "[I", true)
  | 20 => ("LensBenchModel", "firstOf", "[I", true)
  | 21 => ("LensBenchModel", "manyOf", "[I", true)
  | 22 => ("LensBenchModel", "groups", "I", false)
  | 23 => ("LensBenchModel", "place", "I", false)
  | 24 => ("LensBenchModel", "fault", "I", false)
  | 25 => ("LensBenchModel", "one", "I", false)
  | 26 => ("LensBenchModel", "two", "I", false)
  | 27 => ("LensBenchModel", "three", "I", false)
  | 28 => ("LensBenchModel", "fitting", "[I", true)
  | 29 => ("LensBenchModel", "signX", "[I", true)
  | 30 => ("LensBenchModel", "signY", "[I", true)
  | 31 => ("LensBenchModel", "slot", "[I", true)
  | 32 => ("LensBenchModel", "tally", "[I", true)
  | _ => ("LensBenchModel", "heaps", "I", false)
def tyX8 : Nat → FieldType := fun k => match k with
  | 0 => .array .int
  | 1 => .int
  | 2 => .int
  | 3 => .int
  | 4 => .array .byte
  | 5 => .int
  | 6 => .int
  | 7 => .array .int
  | 8 => .int
  | 9 => .int
  | 10 => .int
  | 11 => .array .int
  | 12 => .array .int
  | 13 => .array .int
  | 14 => .long
  | 15 => .array .int
  | 16 => .array .int
  | 17 => .array .boolean
  | 18 => .array .int
  | 19 => .array .int
  | 20 => .array .int
  | 21 => .array .int
  | 22 => .int
  | 23 => .int
  | 24 => .int
  | 25 => .int
  | 26 => .int
  | 27 => .int
  | 28 => .array .int
  | 29 => .array .int
  | 30 => .array .int
  | 31 => .array .int
  | 32 => .array .int
  | _ => .int
abbrev wsX80 : List Cond := u_ws RX8 TX8 34
theorem nmX8 : ∀ a, a < 34 → ∀ b, b < 34 → a ≠ b → (TX8 a).2.1 ≠ (TX8 b).2.1 := by decide +kernel
theorem tyX8_ok : ∀ k, k < 34 → parseFieldDescriptor (TX8 k).2.2.1 = some (tyX8 k) := by decide +kernel
abbrev cX8_init : ByteArray := prog_10_method_1_code
def yX8_init : MethodName := ⟨RX8, "<init>", "()V"⟩
abbrev cX8_in : ByteArray := prog_10_method_3_code
def yX8_in : MethodName := ⟨RX8, "in", "(III)Z"⟩
abbrev cX8_isNear : ByteArray := prog_10_method_4_code
def yX8_isNear : MethodName := ⟨RX8, "isNear", "(III)Z"⟩
abbrev cX8_floored : ByteArray := prog_10_method_5_code
def yX8_floored : MethodName := ⟨RX8, "floored", "(JI)I"⟩
abbrev cX8_isTold : ByteArray := prog_10_method_6_code
def yX8_isTold : MethodName := ⟨RX8, "isTold", "(II)Z"⟩
abbrev cX8_isBody : ByteArray := prog_10_method_7_code
def yX8_isBody : MethodName := ⟨RX8, "isBody", "(I)Z"⟩
abbrev cX8_body : ByteArray := prog_10_method_8_code
def yX8_body : MethodName := ⟨RX8, "body", "(IIII)I"⟩
abbrev cX8_set : ByteArray := prog_10_method_9_code
def yX8_set : MethodName := ⟨RX8, "set", "(III)I"⟩
abbrev cX8_drop : ByteArray := prog_10_method_10_code
def yX8_drop : MethodName := ⟨RX8, "drop", "()I"⟩
abbrev cX8_field : ByteArray := prog_10_method_11_code
def yX8_field : MethodName := ⟨RX8, "field", "(II)I"⟩
abbrev cX8_bendOf : ByteArray := prog_10_method_12_code
def yX8_bendOf : MethodName := ⟨RX8, "bendOf", "(IIIII)I"⟩
abbrev cX8_bend : ByteArray := prog_10_method_13_code
def yX8_bend : MethodName := ⟨RX8, "bend", "(IIIII)I"⟩
abbrev cX8_fromOf : ByteArray := prog_10_method_14_code
def yX8_fromOf : MethodName := ⟨RX8, "fromOf", "(III)I"⟩
abbrev cX8_from : ByteArray := prog_10_method_15_code
def yX8_from : MethodName := ⟨RX8, "from", "(III)I"⟩
abbrev cX8_cellOf : ByteArray := prog_10_method_16_code
def yX8_cellOf : MethodName := ⟨RX8, "cellOf", "(III)I"⟩
abbrev cX8_cell : ByteArray := prog_10_method_17_code
def yX8_cell : MethodName := ⟨RX8, "cell", "(III)I"⟩
abbrev cX8_at : ByteArray := prog_10_method_18_code
def yX8_at : MethodName := ⟨RX8, "at", "(II)I"⟩
abbrev cX8_findPlane : ByteArray := prog_10_method_19_code
def yX8_findPlane : MethodName := ⟨RX8, "findPlane", "()V"⟩
abbrev cX8_findAround : ByteArray := prog_10_method_20_code
def yX8_findAround : MethodName := ⟨RX8, "findAround", "(II)V"⟩
abbrev cX8_findTold : ByteArray := prog_10_method_21_code
def yX8_findTold : MethodName := ⟨RX8, "findTold", "()V"⟩
abbrev cX8_cellX : ByteArray := prog_10_method_22_code
def yX8_cellX : MethodName := ⟨RX8, "cellX", "(II)I"⟩
abbrev cX8_cellY : ByteArray := prog_10_method_23_code
def yX8_cellY : MethodName := ⟨RX8, "cellY", "(II)I"⟩
abbrev cX8_signOf : ByteArray := prog_10_method_24_code
def yX8_signOf : MethodName := ⟨RX8, "signOf", "(J)I"⟩
abbrev cX8_parityOf : ByteArray := prog_10_method_25_code
def yX8_parityOf : MethodName := ⟨RX8, "parityOf", "(II)I"⟩
abbrev cX8_isPixel : ByteArray := prog_10_method_26_code
def yX8_isPixel : MethodName := ⟨RX8, "isPixel", "(II)Z"⟩
abbrev cX8_pixel : ByteArray := prog_10_method_27_code
def yX8_pixel : MethodName := ⟨RX8, "pixel", "(II)I"⟩
abbrev cX8_spread : ByteArray := prog_10_method_28_code
def yX8_spread : MethodName := ⟨RX8, "spread", "(I)V"⟩
abbrev cX8_findGroups : ByteArray := prog_10_method_29_code
def yX8_findGroups : MethodName := ⟨RX8, "findGroups", "()V"⟩
abbrev cX8_findPictures : ByteArray := prog_10_method_30_code
def yX8_findPictures : MethodName := ⟨RX8, "findPictures", "(II)I"⟩
abbrev cX8_pictures : ByteArray := prog_10_method_31_code
def yX8_pictures : MethodName := ⟨RX8, "pictures", "(III)I"⟩
abbrev cX8_group : ByteArray := prog_10_method_32_code
def yX8_group : MethodName := ⟨RX8, "group", "(IIII)I"⟩
abbrev cX8_parity : ByteArray := prog_10_method_33_code
def yX8_parity : MethodName := ⟨RX8, "parity", "(II)I"⟩
abbrev cX8_critical : ByteArray := prog_10_method_34_code
def yX8_critical : MethodName := ⟨RX8, "critical", "(II)I"⟩
abbrev cX8_criticalNow : ByteArray := prog_10_method_35_code
def yX8_criticalNow : MethodName := ⟨RX8, "criticalNow", "(II)Z"⟩
abbrev cX8_rings : ByteArray := prog_10_method_36_code
def yX8_rings : MethodName := ⟨RX8, "rings", "(I)I"⟩
abbrev cX8_brightest : ByteArray := prog_10_method_37_code
def yX8_brightest : MethodName := ⟨RX8, "brightest", "(I)I"⟩
abbrev cX8_delay : ByteArray := prog_10_method_38_code
def yX8_delay : MethodName := ⟨RX8, "delay", "(IIIIII)J"⟩
abbrev cX8_stretch : ByteArray := prog_10_method_39_code
def yX8_stretch : MethodName := ⟨RX8, "stretch", "(I)I"⟩
abbrev cX8_type : ByteArray := prog_10_method_40_code
def yX8_type : MethodName := ⟨RX8, "type", "(JI)I"⟩
abbrev cX8_clear : ByteArray := prog_10_method_41_code
def yX8_clear : MethodName := ⟨RX8, "clear", "()I"⟩
abbrev cX8_here : ByteArray := prog_10_method_42_code
def yX8_here : MethodName := ⟨RX8, "here", "()I"⟩
abbrev cX8_isDigit : ByteArray := prog_10_method_43_code
def yX8_isDigit : MethodName := ⟨RX8, "isDigit", "()Z"⟩
abbrev cX8_sign : ByteArray := prog_10_method_44_code
def yX8_sign : MethodName := ⟨RX8, "sign", "(I)V"⟩
abbrev cX8_number : ByteArray := prog_10_method_45_code
def yX8_number : MethodName := ⟨RX8, "number", "(IZ)I"⟩
abbrev cX8_item : ByteArray := prog_10_method_46_code
def yX8_item : MethodName := ⟨RX8, "item", "(I)V"⟩
abbrev cX8_read : ByteArray := prog_10_method_47_code
def yX8_read : MethodName := ⟨RX8, "read", "()I"⟩
abbrev cX8_pair : ByteArray := prog_10_method_48_code
def yX8_pair : MethodName := ⟨RX8, "pair", "(IIII)I"⟩
abbrev cX8_wipe : ByteArray := prog_10_method_49_code
def yX8_wipe : MethodName := ⟨RX8, "wipe", "()I"⟩
abbrev cX8_tolerance : ByteArray := prog_10_method_50_code
def yX8_tolerance : MethodName := ⟨RX8, "tolerance", "(II)I"⟩
abbrev cX8_modelsOf : ByteArray := prog_10_method_51_code
def yX8_modelsOf : MethodName := ⟨RX8, "modelsOf", "(II)I"⟩
abbrev cX8_keepWeights : ByteArray := prog_10_method_52_code
def yX8_keepWeights : MethodName := ⟨RX8, "keepWeights", "()V"⟩
abbrev cX8_giveBack : ByteArray := prog_10_method_53_code
def yX8_giveBack : MethodName := ⟨RX8, "giveBack", "()V"⟩
abbrev cX8_digit : ByteArray := prog_10_method_54_code
def yX8_digit : MethodName := ⟨RX8, "digit", "(III)I"⟩
abbrev cX8_weigh : ByteArray := prog_10_method_55_code
def yX8_weigh : MethodName := ⟨RX8, "weigh", "(III)V"⟩
abbrev cX8_isWithin : ByteArray := prog_10_method_56_code
def yX8_isWithin : MethodName := ⟨RX8, "isWithin", "(II)Z"⟩
abbrev cX8_doesFit : ByteArray := prog_10_method_57_code
def yX8_doesFit : MethodName := ⟨RX8, "doesFit", "()Z"⟩
abbrev cX8_isTry : ByteArray := prog_10_method_58_code
def yX8_isTry : MethodName := ⟨RX8, "isTry", "(II)Z"⟩
abbrev cX8_fits : ByteArray := prog_10_method_59_code
def yX8_fits : MethodName := ⟨RX8, "fits", "(III)I"⟩
abbrev cX8_findFitting : ByteArray := prog_10_method_60_code
def yX8_findFitting : MethodName := ⟨RX8, "findFitting", "(II)I"⟩
abbrev cX8_isAlike : ByteArray := prog_10_method_61_code
def yX8_isAlike : MethodName := ⟨RX8, "isAlike", "(IIII)Z"⟩
abbrev cX8_heap : ByteArray := prog_10_method_62_code
def yX8_heap : MethodName := ⟨RX8, "heap", "(III)I"⟩
abbrev cX8_models : ByteArray := prog_10_method_63_code
def yX8_models : MethodName := ⟨RX8, "models", "(III)I"⟩
abbrev cX8_sure : ByteArray := prog_10_method_64_code
def yX8_sure : MethodName := ⟨RX8, "sure", "(III)I"⟩
abbrev cX8_spot : ByteArray := prog_10_method_65_code
def yX8_spot : MethodName := ⟨RX8, "spot", "(II)I"⟩
abbrev cX8_forget : ByteArray := prog_10_method_66_code
def yX8_forget : MethodName := ⟨RX8, "forget", "()I"⟩
abbrev cX8_bright : ByteArray := prog_10_method_67_code
def yX8_bright : MethodName := ⟨RX8, "bright", "(III)I"⟩
abbrev cX8_farOf : ByteArray := prog_10_method_68_code
def yX8_farOf : MethodName := ⟨RX8, "farOf", "(II)I"⟩
abbrev cX8_far : ByteArray := prog_10_method_69_code
def yX8_far : MethodName := ⟨RX8, "far", "(II)I"⟩
abbrev cX8_contradicts : ByteArray := prog_10_method_70_code
def yX8_contradicts : MethodName := ⟨RX8, "contradicts", "()I"⟩
abbrev cX8_filled : ByteArray := prog_10_method_71_code
def yX8_filled : MethodName := ⟨RX8, "filled", "(II)I"⟩
abbrev cX8_count : ByteArray := prog_10_method_72_code
def yX8_count : MethodName := ⟨RX8, "count", "(I)I"⟩
abbrev cX8_trace : ByteArray := prog_10_method_73_code
def yX8_trace : MethodName := ⟨RX8, "trace", "()J"⟩
def RJ6 : String := "java/lang/Integer"
abbrev cJ6_signum_0f7a4 : ByteArray := prog_11_method_56_code
def yJ6_signum_0f7a4 : MethodName := ⟨RJ6, "signum", "(I)I"⟩
def RJ13 : String := "java/lang/Long"
abbrev cJ13_compare_74951 : ByteArray := prog_12_method_42_code
def yJ13_compare_74951 : MethodName := ⟨RJ13, "compare", "(JJ)I"⟩
def RJ9 : String := "java/lang/Math"
abbrev cJ9_floorDiv_7cf53 : ByteArray := prog_13_method_47_code
def yJ9_floorDiv_7cf53 : MethodName := ⟨RJ9, "floorDiv", "(II)I"⟩
abbrev cJ9_floorDiv_f86c9 : ByteArray := prog_13_method_49_code
def yJ9_floorDiv_f86c9 : MethodName := ⟨RJ9, "floorDiv", "(JJ)J"⟩
abbrev cJ9_abs_0f7a4 : ByteArray := prog_13_method_59_code
def yJ9_abs_0f7a4 : MethodName := ⟨RJ9, "abs", "(I)I"⟩
abbrev cJ9_max_7cf53 : ByteArray := prog_13_method_65_code
def yJ9_max_7cf53 : MethodName := ⟨RJ9, "max", "(II)I"⟩
abbrev cJ9_min_7cf53 : ByteArray := prog_13_method_69_code
def yJ9_min_7cf53 : MethodName := ⟨RJ9, "min", "(II)I"⟩
def RJ7 : String := "java/util/Arrays"
abbrev cJ7_fill_53178 : ByteArray := prog_14_method_103_code
def yJ7_fill_53178 : MethodName := ⟨RJ7, "fill", "([II)V"⟩
def RL : String := "LensBenchLaw"
abbrev cL_law : ByteArray := code
abbrev vwCl : List vw_C := [(RX0, TX0, 6), (RX1, TX1, 4), (RX2, TX2, 4), (RX3, TX3, 6), (RX4, TX4, 4), (RX5, TX5, 4), (RX6, TX6, 18), (RX7, TX7, 8), (RX8, TX8, 34)]
