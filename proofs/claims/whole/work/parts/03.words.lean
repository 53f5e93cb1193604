/-! ===== the words that the walks use, by their places; descriptors; field tables ===== -/
theorem w0 : Cond.selects RX7 yX7_lensChanges yX7_lensChanges ∈ zTab := z_in 0 (by decide +kernel) rfl
theorem w1 : Cond.selects RX2 yX2_add yX2_add ∈ zTab := z_in 1 (by decide +kernel) rfl
theorem w2 : Cond.selects RX7 yX7_isBody yX7_isBody ∈ zTab := z_in 2 (by decide +kernel) rfl
theorem w3 : Cond.selects RX2 yX2_lightAt yX2_lightAt ∈ zTab := z_in 3 (by decide +kernel) rfl
theorem w4 : Cond.selects RX2 yX2_lightPast yX2_lightPast ∈ zTab := z_in 4 (by decide +kernel) rfl
theorem w5 : Cond.selects RX7 yX7_markPictures yX7_markPictures ∈ zTab := z_in 5 (by decide +kernel) rfl
theorem w6 : Cond.selects RX3 yX3_lookAnew yX3_lookAnew ∈ zTab := z_in 6 (by decide +kernel) rfl
theorem w7 : Cond.selects RX3 yX3_signOfArea yX3_signOfArea ∈ zTab := z_in 7 (by decide +kernel) rfl
theorem w8 : Cond.selects RX1 yX1_split yX1_split ∈ zTab := z_in 8 (by decide +kernel) rfl
theorem w9 : Cond.selects RX1 yX1_collect yX1_collect ∈ zTab := z_in 9 (by decide +kernel) rfl
theorem w10 : Cond.selects RX1 yX1_queueNeighbours yX1_queueNeighbours ∈ zTab := z_in 10 (by decide +kernel) rfl
theorem w11 : Cond.selects RX3 yX3_parityAt yX3_parityAt ∈ zTab := z_in 11 (by decide +kernel) rfl
theorem w12 : Cond.selects RX3 yX3_isCritical yX3_isCritical ∈ zTab := z_in 12 (by decide +kernel) rfl
theorem w13 : Cond.selects RX3 yX3_countOfParity yX3_countOfParity ∈ zTab := z_in 13 (by decide +kernel) rfl
theorem w14 : Cond.selects RX7 yX7_markCriticals yX7_markCriticals ∈ zTab := z_in 14 (by decide +kernel) rfl
theorem w15 : Cond.selects RX4 yX4_start yX4_start ∈ zTab := z_in 15 (by decide +kernel) rfl
theorem w16 : Cond.selects RX4 yX4_numberOf yX4_numberOf ∈ zTab := z_in 16 (by decide +kernel) rfl
theorem w17 : Cond.selects RX4 yX4_take yX4_take ∈ zTab := z_in 17 (by decide +kernel) rfl
theorem w18 : Cond.selects RX4 yX4_greatest yX4_greatest ∈ zTab := z_in 18 (by decide +kernel) rfl
theorem w19 : Cond.selects RX3 yX3_delayOnWay yX3_delayOnWay ∈ zTab := z_in 19 (by decide +kernel) rfl
theorem w20 : Cond.selects RX3 yX3_stretchOf yX3_stretchOf ∈ zTab := z_in 20 (by decide +kernel) rfl
theorem w21 : Cond.selects RX3 yX3_doubledStretchAt yX3_doubledStretchAt ∈ zTab := z_in 21 (by decide +kernel) rfl
theorem w22 : Cond.selects RX5 yX5_add yX5_add ∈ zTab := z_in 22 (by decide +kernel) rfl
theorem w23 : Cond.selects RX5 yX5_tellBodies yX5_tellBodies ∈ zTab := z_in 23 (by decide +kernel) rfl
theorem w24 : Cond.selects RX5 yX5_takeItem yX5_takeItem ∈ zTab := z_in 24 (by decide +kernel) rfl
theorem w25 : Cond.selects RX5 yX5_takeKind yX5_takeKind ∈ zTab := z_in 25 (by decide +kernel) rfl
theorem w26 : Cond.selects RX5 yX5_takeSign yX5_takeSign ∈ zTab := z_in 26 (by decide +kernel) rfl
theorem w27 : Cond.selects RX5 yX5_takeNumber yX5_takeNumber ∈ zTab := z_in 27 (by decide +kernel) rfl
theorem w28 : Cond.selects RX6 yX6_addPair yX6_addPair ∈ zTab := z_in 28 (by decide +kernel) rfl
theorem w29 : Cond.selects RX7 yX7_isTrial yX7_isTrial ∈ zTab := z_in 29 (by decide +kernel) rfl
theorem w30 : Cond.selects RX6 yX6_load yX6_load ∈ zTab := z_in 30 (by decide +kernel) rfl
theorem w31 : Cond.selects RX6 yX6_startRow yX6_startRow ∈ zTab := z_in 31 (by decide +kernel) rfl
theorem w32 : Cond.selects RX6 yX6_addToRow yX6_addToRow ∈ zTab := z_in 32 (by decide +kernel) rfl
theorem w33 : Cond.selects RX6 yX6_holds yX6_holds ∈ zTab := z_in 33 (by decide +kernel) rfl
theorem w34 : Cond.selects RX6 yX6_aim yX6_aim ∈ zTab := z_in 34 (by decide +kernel) rfl
theorem w35 : Cond.selects RX6 yX6_shownBy yX6_shownBy ∈ zTab := z_in 35 (by decide +kernel) rfl
theorem w36 : Cond.selects RX6 yX6_gather yX6_gather ∈ zTab := z_in 36 (by decide +kernel) rfl
theorem w37 : Cond.selects RX6 yX6_least yX6_least ∈ zTab := z_in 37 (by decide +kernel) rfl
theorem w38 : Cond.selects RX6 yX6_weightOf yX6_weightOf ∈ zTab := z_in 38 (by decide +kernel) rfl
theorem w39 : Cond.selects RX6 yX6_twins yX6_twins ∈ zTab := z_in 39 (by decide +kernel) rfl
theorem w40 : Cond.selects RX6 yX6_splitHeaps yX6_splitHeaps ∈ zTab := z_in 40 (by decide +kernel) rfl
theorem w41 : Cond.selects RX6 yX6_nextLook yX6_nextLook ∈ zTab := z_in 41 (by decide +kernel) rfl
theorem w42 : Cond.selects RX6 yX6_sureWeight yX6_sureWeight ∈ zTab := z_in 42 (by decide +kernel) rfl
theorem w43 : Cond.selects RX6 yX6_addSpot yX6_addSpot ∈ zTab := z_in 43 (by decide +kernel) rfl
theorem w44 : Cond.selects RX0 yX0_farOf yX0_farOf ∈ zTab := z_in 44 (by decide +kernel) rfl
theorem w45 : Cond.selects RX0 yX0_contradictions yX0_contradictions ∈ zTab := z_in 45 (by decide +kernel) rfl
theorem w46 : Cond.selects RX0 yX0_widen yX0_widen ∈ zTab := z_in 46 (by decide +kernel) rfl
theorem w47 : Cond.selects RX0 yX0_toldCount yX0_toldCount ∈ zTab := z_in 47 (by decide +kernel) rfl
theorem w48 : Cond.selects RX2 yX2_weights yX2_weights ∈ zTab := z_in 48 (by decide +kernel) rfl
theorem w49 : Cond.selects RX8 yX8_isBody yX8_isBody ∈ zTab := z_in 49 (by decide +kernel) rfl
theorem w50 : Cond.selects RX8 yX8_bendOf yX8_bendOf ∈ zTab := z_in 50 (by decide +kernel) rfl
theorem w51 : Cond.selects RX8 yX8_fromOf yX8_fromOf ∈ zTab := z_in 51 (by decide +kernel) rfl
theorem w52 : Cond.selects RX8 yX8_cellOf yX8_cellOf ∈ zTab := z_in 52 (by decide +kernel) rfl
theorem w53 : Cond.selects RX8 yX8_findPictures yX8_findPictures ∈ zTab := z_in 53 (by decide +kernel) rfl
theorem w54 : Cond.selects RX8 yX8_findPlane yX8_findPlane ∈ zTab := z_in 54 (by decide +kernel) rfl
theorem w55 : Cond.selects RX8 yX8_cellX yX8_cellX ∈ zTab := z_in 55 (by decide +kernel) rfl
theorem w56 : Cond.selects RX8 yX8_cellY yX8_cellY ∈ zTab := z_in 56 (by decide +kernel) rfl
theorem w57 : Cond.selects RX8 yX8_findGroups yX8_findGroups ∈ zTab := z_in 57 (by decide +kernel) rfl
theorem w58 : Cond.selects RX8 yX8_spread yX8_spread ∈ zTab := z_in 58 (by decide +kernel) rfl
theorem w59 : Cond.selects RX8 yX8_parityOf yX8_parityOf ∈ zTab := z_in 59 (by decide +kernel) rfl
theorem w60 : Cond.selects RX8 yX8_findAround yX8_findAround ∈ zTab := z_in 60 (by decide +kernel) rfl
theorem w61 : Cond.selects RX8 yX8_criticalNow yX8_criticalNow ∈ zTab := z_in 61 (by decide +kernel) rfl
theorem w62 : Cond.selects RX8 yX8_item yX8_item ∈ zTab := z_in 62 (by decide +kernel) rfl
theorem w63 : Cond.selects RX8 yX8_here yX8_here ∈ zTab := z_in 63 (by decide +kernel) rfl
theorem w64 : Cond.selects RX8 yX8_number yX8_number ∈ zTab := z_in 64 (by decide +kernel) rfl
theorem w65 : Cond.selects RX8 yX8_isDigit yX8_isDigit ∈ zTab := z_in 65 (by decide +kernel) rfl
theorem w66 : Cond.selects RX8 yX8_sign yX8_sign ∈ zTab := z_in 66 (by decide +kernel) rfl
theorem w67 : Cond.selects RX8 yX8_isTry yX8_isTry ∈ zTab := z_in 67 (by decide +kernel) rfl
theorem w68 : Cond.selects RX8 yX8_keepWeights yX8_keepWeights ∈ zTab := z_in 68 (by decide +kernel) rfl
theorem w69 : Cond.selects RX8 yX8_weigh yX8_weigh ∈ zTab := z_in 69 (by decide +kernel) rfl
theorem w70 : Cond.selects RX8 yX8_doesFit yX8_doesFit ∈ zTab := z_in 70 (by decide +kernel) rfl
theorem w71 : Cond.selects RX8 yX8_isWithin yX8_isWithin ∈ zTab := z_in 71 (by decide +kernel) rfl
theorem w72 : Cond.selects RX8 yX8_giveBack yX8_giveBack ∈ zTab := z_in 72 (by decide +kernel) rfl
theorem w73 : Cond.selects RX8 yX8_findFitting yX8_findFitting ∈ zTab := z_in 73 (by decide +kernel) rfl
theorem w74 : Cond.selects RX8 yX8_heap yX8_heap ∈ zTab := z_in 74 (by decide +kernel) rfl
theorem w75 : Cond.selects RX8 yX8_isAlike yX8_isAlike ∈ zTab := z_in 75 (by decide +kernel) rfl
theorem w76 : Cond.selects RX8 yX8_findTold yX8_findTold ∈ zTab := z_in 76 (by decide +kernel) rfl
theorem w77 : Cond.selects RX8 yX8_farOf yX8_farOf ∈ zTab := z_in 77 (by decide +kernel) rfl
theorem w79 : Cond.initialized RX7 ∈ zTab := z_in 79 (by decide +kernel) rfl
theorem w80 : Cond.initialized RX2 ∈ zTab := z_in 80 (by decide +kernel) rfl
theorem w81 : Cond.initialized RX4 ∈ zTab := z_in 81 (by decide +kernel) rfl
theorem w82 : Cond.initialized RX3 ∈ zTab := z_in 82 (by decide +kernel) rfl
theorem w83 : Cond.initialized RX1 ∈ zTab := z_in 83 (by decide +kernel) rfl
theorem w84 : Cond.initialized RX5 ∈ zTab := z_in 84 (by decide +kernel) rfl
theorem w85 : Cond.initialized RX6 ∈ zTab := z_in 85 (by decide +kernel) rfl
theorem w86 : Cond.initialized RX0 ∈ zTab := z_in 86 (by decide +kernel) rfl
theorem w87 : Cond.initialized RJ7 ∈ zTab := z_in 87 (by decide +kernel) rfl
theorem w88 : Cond.initialized RX8 ∈ zTab := z_in 88 (by decide +kernel) rfl
theorem w89 : Cond.initialized RJ9 ∈ zTab := z_in 89 (by decide +kernel) rfl
theorem w90 : Cond.initialized RJ13 ∈ zTab := z_in 90 (by decide +kernel) rfl
theorem w91 : Cond.initialized RJ6 ∈ zTab := z_in 91 (by decide +kernel) rfl
theorem w108 : Cond.fieldLink RX2 11 "LensBench$Lens" "bodies" "[[I" ∈ zTab := z_in 108 (by decide +kernel) rfl
theorem w111 : Cond.fieldLink RX2 16 "LensBench$Lens" "bodyCount" "I" ∈ zTab := z_in 111 (by decide +kernel) rfl
theorem w113 : Cond.fieldLink RX2 28 "LensBench$Lens" "g" "I" ∈ zTab := z_in 113 (by decide +kernel) rfl
theorem w115 : Cond.fieldLink RX2 31 "LensBench$Lens" "h" "I" ∈ zTab := z_in 115 (by decide +kernel) rfl
theorem w133 : Cond.fieldLink RX4 9 "LensBench$Tally" "numberAt" "[I" ∈ zTab := z_in 133 (by decide +kernel) rfl
theorem w134 : Cond.fieldLink RX4 13 "LensBench$Tally" "keys" "[I" ∈ zTab := z_in 134 (by decide +kernel) rfl
theorem w136 : Cond.fieldLink RX4 16 "LensBench$Tally" "counts" "[I" ∈ zTab := z_in 136 (by decide +kernel) rfl
theorem w139 : Cond.fieldLink RX4 25 "LensBench$Tally" "distinct" "I" ∈ zTab := z_in 139 (by decide +kernel) rfl
theorem w157 : Cond.fieldLink RX3 28 "LensBench$Plane" "lens" "LLensBench$Lens;" ∈ zTab := z_in 157 (by decide +kernel) rfl
theorem w158 : Cond.fieldLink RX3 9 "LensBench$Plane" "lightX" "[I" ∈ zTab := z_in 158 (by decide +kernel) rfl
theorem w159 : Cond.fieldLink RX3 15 "LensBench$Plane" "lightY" "[I" ∈ zTab := z_in 159 (by decide +kernel) rfl
theorem w160 : Cond.fieldLink RX3 18 "LensBench$Plane" "cellKeys" "[I" ∈ zTab := z_in 160 (by decide +kernel) rfl
theorem w163 : Cond.fieldLink RX3 21 "LensBench$Plane" "parities" "[I" ∈ zTab := z_in 163 (by decide +kernel) rfl
theorem w164 : Cond.fieldLink RX3 24 "LensBench$Plane" "stale" "Z" ∈ zTab := z_in 164 (by decide +kernel) rfl
theorem w185 : Cond.fieldLink RX1 9 "LensBench$Groups" "waiting" "[Z" ∈ zTab := z_in 185 (by decide +kernel) rfl
theorem w187 : Cond.fieldLink RX1 15 "LensBench$Groups" "queue" "[I" ∈ zTab := z_in 187 (by decide +kernel) rfl
theorem w188 : Cond.fieldLink RX1 23 "LensBench$Groups" "wantedFirst" "I" ∈ zTab := z_in 188 (by decide +kernel) rfl
theorem w190 : Cond.fieldLink RX1 27 "LensBench$Groups" "wantedSize" "I" ∈ zTab := z_in 190 (by decide +kernel) rfl
theorem w209 : Cond.fieldLink RX5 9 "LensBench$Text" "bytes" "[I" ∈ zTab := z_in 209 (by decide +kernel) rfl
theorem w210 : Cond.fieldLink RX5 17 "LensBench$Text" "bodies" "[[I" ∈ zTab := z_in 210 (by decide +kernel) rfl
theorem w212 : Cond.fieldLink RX5 20 "LensBench$Text" "length" "I" ∈ zTab := z_in 212 (by decide +kernel) rfl
theorem w214 : Cond.fieldLink RX5 24 "LensBench$Text" "at" "I" ∈ zTab := z_in 214 (by decide +kernel) rfl
theorem w232 : Cond.fieldLink RX6 49 "LensBench$Trials" "lens" "LLensBench$Lens;" ∈ zTab := z_in 232 (by decide +kernel) rfl
theorem w233 : Cond.fieldLink RX6 53 "LensBench$Trials" "tally" "LLensBench$Tally;" ∈ zTab := z_in 233 (by decide +kernel) rfl
theorem w234 : Cond.fieldLink RX6 13 "LensBench$Trials" "pairs" "[[I" ∈ zTab := z_in 234 (by decide +kernel) rfl
theorem w235 : Cond.fieldLink RX6 16 "LensBench$Trials" "spots" "[[I" ∈ zTab := z_in 235 (by decide +kernel) rfl
theorem w236 : Cond.fieldLink RX6 57 "LensBench$Trials" "pairCount" "I" ∈ zTab := z_in 236 (by decide +kernel) rfl
theorem w238 : Cond.fieldLink RX6 60 "LensBench$Trials" "spotCount" "I" ∈ zTab := z_in 238 (by decide +kernel) rfl
theorem w240 : Cond.fieldLink RX6 19 "LensBench$Trials" "slack" "I" ∈ zTab := z_in 240 (by decide +kernel) rfl
theorem w242 : Cond.fieldLink RX6 23 "LensBench$Trials" "fixedParts" "[I" ∈ zTab := z_in 242 (by decide +kernel) rfl
theorem w243 : Cond.fieldLink RX6 27 "LensBench$Trials" "triedParts" "[[I" ∈ zTab := z_in 243 (by decide +kernel) rfl
theorem w244 : Cond.fieldLink RX6 30 "LensBench$Trials" "aimed" "[I" ∈ zTab := z_in 244 (by decide +kernel) rfl
theorem w245 : Cond.fieldLink RX6 33 "LensBench$Trials" "fitting" "[I" ∈ zTab := z_in 245 (by decide +kernel) rfl
theorem w246 : Cond.fieldLink RX6 36 "LensBench$Trials" "heaps" "[I" ∈ zTab := z_in 246 (by decide +kernel) rfl
theorem w247 : Cond.fieldLink RX6 39 "LensBench$Trials" "bodiesTried" "I" ∈ zTab := z_in 247 (by decide +kernel) rfl
theorem w248 : Cond.fieldLink RX6 42 "LensBench$Trials" "digits" "I" ∈ zTab := z_in 248 (by decide +kernel) rfl
theorem w249 : Cond.fieldLink RX6 63 "LensBench$Trials" "modelCount" "I" ∈ zTab := z_in 249 (by decide +kernel) rfl
theorem w251 : Cond.fieldLink RX6 108 "LensBench$Trials" "fitCount" "I" ∈ zTab := z_in 251 (by decide +kernel) rfl
theorem w253 : Cond.fieldLink RX6 45 "LensBench$Trials" "stale" "Z" ∈ zTab := z_in 253 (by decide +kernel) rfl
theorem w255 : Cond.fieldLink RX6 74 "LensBench$Trials" "isGathered" "Z" ∈ zTab := z_in 255 (by decide +kernel) rfl
theorem w300 : Cond.static yJ7_fill_53178 ∈ zTab := z_in 300 (by decide +kernel) rfl
theorem w301 : Cond.code yJ7_fill_53178 cJ7_fill_53178 4 none ∈ zTab := z_in 301 (by decide +kernel) rfl
theorem w302 : Cond.fieldLink RX0 25 "LensBench$Brightness" "plane" "LLensBench$Plane;" ∈ zTab := z_in 302 (by decide +kernel) rfl
theorem w303 : Cond.fieldLink RX0 29 "LensBench$Brightness" "tally" "LLensBench$Tally;" ∈ zTab := z_in 303 (by decide +kernel) rfl
theorem w304 : Cond.fieldLink RX0 9 "LensBench$Brightness" "told" "[I" ∈ zTab := z_in 304 (by decide +kernel) rfl
theorem w306 : Cond.fieldLink RX0 15 "LensBench$Brightness" "darkest" "[I" ∈ zTab := z_in 306 (by decide +kernel) rfl
theorem w307 : Cond.fieldLink RX0 18 "LensBench$Brightness" "lightest" "[I" ∈ zTab := z_in 307 (by decide +kernel) rfl
theorem w308 : Cond.fieldLink RX0 21 "LensBench$Brightness" "noise" "I" ∈ zTab := z_in 308 (by decide +kernel) rfl
theorem w323 : Cond.fieldLink RX7 20 "LensBench" "lens" "LLensBench$Lens;" ∈ zTab := z_in 323 (by decide +kernel) rfl
theorem w324 : Cond.fieldLink RX7 28 "LensBench" "plane" "LLensBench$Plane;" ∈ zTab := z_in 324 (by decide +kernel) rfl
theorem w325 : Cond.fieldLink RX7 35 "LensBench" "groups" "LLensBench$Groups;" ∈ zTab := z_in 325 (by decide +kernel) rfl
theorem w326 : Cond.fieldLink RX7 24 "LensBench" "tally" "LLensBench$Tally;" ∈ zTab := z_in 326 (by decide +kernel) rfl
theorem w327 : Cond.fieldLink RX7 42 "LensBench" "text" "LLensBench$Text;" ∈ zTab := z_in 327 (by decide +kernel) rfl
theorem w328 : Cond.fieldLink RX7 51 "LensBench" "trials" "LLensBench$Trials;" ∈ zTab := z_in 328 (by decide +kernel) rfl
theorem w329 : Cond.fieldLink RX7 60 "LensBench" "brightness" "LLensBench$Brightness;" ∈ zTab := z_in 329 (by decide +kernel) rfl
theorem w330 : Cond.fieldLink RX7 101 "LensBench" "traced" "J" ∈ zTab := z_in 330 (by decide +kernel) rfl
theorem w352 : Cond.methodLink RX7 64 yX7_isFeature ∈ zTab := z_in 352 (by decide +kernel) rfl
theorem w353 : Cond.static yX7_isFeature ∈ zTab := z_in 353 (by decide +kernel) rfl
theorem w354 : Cond.code yX7_isFeature cX7_isFeature 2 (some .boolean) ∈ zTab := z_in 354 (by decide +kernel) rfl
theorem w355 : Cond.fieldLink RX7 275 "LensBench" "LEAST_OF" "[I" ∈ zTab := z_in 355 (by decide +kernel) rfl
theorem w357 : Cond.fieldLink RX7 278 "LensBench" "MOST_OF" "[I" ∈ zTab := z_in 357 (by decide +kernel) rfl
theorem w359 : Cond.methodLink RX7 83 yX7_within ∈ zTab := z_in 359 (by decide +kernel) rfl
theorem w360 : Cond.static yX7_within ∈ zTab := z_in 360 (by decide +kernel) rfl
theorem w361 : Cond.code yX7_within cX7_within 3 (some .boolean) ∈ zTab := z_in 361 (by decide +kernel) rfl
theorem w362 : Cond.methodLink RX7 72 yX7_lensChanges ∈ zTab := z_in 362 (by decide +kernel) rfl
theorem w364 : Cond.instanceMethod yX7_lensChanges ∈ zTab := z_in 364 (by decide +kernel) rfl
theorem w365 : Cond.code yX7_lensChanges cX7_lensChanges 1 none ∈ zTab := z_in 365 (by decide +kernel) rfl
theorem w368 : Cond.instanceMethod yX2_add ∈ zTab := z_in 368 (by decide +kernel) rfl
theorem w369 : Cond.code yX2_add cX2_add 7 (some .int) ∈ zTab := z_in 369 (by decide +kernel) rfl
theorem w375 : Cond.methodLink RX7 79 yX7_isBody ∈ zTab := z_in 375 (by decide +kernel) rfl
theorem w377 : Cond.instanceMethod yX7_isBody ∈ zTab := z_in 377 (by decide +kernel) rfl
theorem w378 : Cond.code yX7_isBody cX7_isBody 2 (some .boolean) ∈ zTab := z_in 378 (by decide +kernel) rfl
theorem w379 : Cond.constant RX7 87 (-1000000000 : Int32) ∈ zTab := z_in 379 (by decide +kernel) rfl
theorem w392 : Cond.methodLink RX7 98 yX7_isAsked ∈ zTab := z_in 392 (by decide +kernel) rfl
theorem w393 : Cond.static yX7_isAsked ∈ zTab := z_in 393 (by decide +kernel) rfl
theorem w394 : Cond.code yX7_isAsked cX7_isAsked 3 (some .boolean) ∈ zTab := z_in 394 (by decide +kernel) rfl
theorem w395 : Cond.methodLink RX7 120 yX7_isWithin ∈ zTab := z_in 395 (by decide +kernel) rfl
theorem w396 : Cond.static yX7_isWithin ∈ zTab := z_in 396 (by decide +kernel) rfl
theorem w397 : Cond.code yX7_isWithin cX7_isWithin 3 (some .boolean) ∈ zTab := z_in 397 (by decide +kernel) rfl
theorem w399 : Cond.static yX2_askedBy ∈ zTab := z_in 399 (by decide +kernel) rfl
theorem w400 : Cond.code yX2_askedBy cX2_askedBy 1 (some .int) ∈ zTab := z_in 400 (by decide +kernel) rfl
theorem w402 : Cond.static yX2_bendBy ∈ zTab := z_in 402 (by decide +kernel) rfl
theorem w403 : Cond.code yX2_bendBy cX2_bendBy 8 (some .int) ∈ zTab := z_in 403 (by decide +kernel) rfl
theorem w404 : Cond.methodLink RX2 38 yX2_squares ∈ zTab := z_in 404 (by decide +kernel) rfl
theorem w405 : Cond.static yX2_squares ∈ zTab := z_in 405 (by decide +kernel) rfl
theorem w406 : Cond.code yX2_squares cX2_squares 5 (some .int) ∈ zTab := z_in 406 (by decide +kernel) rfl
theorem w407 : Cond.methodLink RX2 42 yX2_isCutAway ∈ zTab := z_in 407 (by decide +kernel) rfl
theorem w408 : Cond.static yX2_isCutAway ∈ zTab := z_in 408 (by decide +kernel) rfl
theorem w409 : Cond.code yX2_isCutAway cX2_isCutAway 2 (some .boolean) ∈ zTab := z_in 409 (by decide +kernel) rfl
theorem w416 : Cond.instanceMethod yX2_lightAt ∈ zTab := z_in 416 (by decide +kernel) rfl
theorem w417 : Cond.code yX2_lightAt cX2_lightAt 4 (some .int) ∈ zTab := z_in 417 (by decide +kernel) rfl
theorem w418 : Cond.methodLink RX2 24 yX2_lightPast ∈ zTab := z_in 418 (by decide +kernel) rfl
theorem w420 : Cond.instanceMethod yX2_lightPast ∈ zTab := z_in 420 (by decide +kernel) rfl
theorem w421 : Cond.code yX2_lightPast cX2_lightPast 7 (some .int) ∈ zTab := z_in 421 (by decide +kernel) rfl
theorem w422 : Cond.methodLink RX2 34 yX2_bendBy ∈ zTab := z_in 422 (by decide +kernel) rfl
theorem w427 : Cond.methodLink RX7 117 yX7_cellOf ∈ zTab := z_in 427 (by decide +kernel) rfl
theorem w428 : Cond.static yX7_cellOf ∈ zTab := z_in 428 (by decide +kernel) rfl
theorem w429 : Cond.code yX7_cellOf cX7_cellOf 1 (some .int) ∈ zTab := z_in 429 (by decide +kernel) rfl
theorem w430 : Cond.methodLink RX7 286 yJ9_floorDiv_7cf53 ∈ zTab := z_in 430 (by decide +kernel) rfl
theorem w431 : Cond.static yJ9_floorDiv_7cf53 ∈ zTab := z_in 431 (by decide +kernel) rfl
theorem w432 : Cond.code yJ9_floorDiv_7cf53 cJ9_floorDiv_7cf53 3 (some .int) ∈ zTab := z_in 432 (by decide +kernel) rfl
theorem w437 : Cond.methodLink RX7 123 yX7_markPictures ∈ zTab := z_in 437 (by decide +kernel) rfl
theorem w439 : Cond.instanceMethod yX7_markPictures ∈ zTab := z_in 439 (by decide +kernel) rfl
theorem w440 : Cond.code yX7_markPictures cX7_markPictures 7 (some .int) ∈ zTab := z_in 440 (by decide +kernel) rfl
theorem w443 : Cond.instanceMethod yX3_lookAnew ∈ zTab := z_in 443 (by decide +kernel) rfl
theorem w444 : Cond.code yX3_lookAnew cX3_lookAnew 4 none ∈ zTab := z_in 444 (by decide +kernel) rfl
theorem w445 : Cond.methodLink RX3 32 yX3_placeAt ∈ zTab := z_in 445 (by decide +kernel) rfl
theorem w446 : Cond.static yX3_placeAt ∈ zTab := z_in 446 (by decide +kernel) rfl
theorem w447 : Cond.code yX3_placeAt cX3_placeAt 2 (some .int) ∈ zTab := z_in 447 (by decide +kernel) rfl
theorem w450 : Cond.static yX7_xOf ∈ zTab := z_in 450 (by decide +kernel) rfl
theorem w451 : Cond.code yX7_xOf cX7_xOf 1 (some .int) ∈ zTab := z_in 451 (by decide +kernel) rfl
theorem w453 : Cond.static yX7_yOf ∈ zTab := z_in 453 (by decide +kernel) rfl
theorem w454 : Cond.code yX7_yOf cX7_yOf 1 (some .int) ∈ zTab := z_in 454 (by decide +kernel) rfl
theorem w457 : Cond.static yX7_keyOf ∈ zTab := z_in 457 (by decide +kernel) rfl
theorem w458 : Cond.code yX7_keyOf cX7_keyOf 2 (some .int) ∈ zTab := z_in 458 (by decide +kernel) rfl
theorem w459 : Cond.methodLink RX3 55 yX3_signOfArea ∈ zTab := z_in 459 (by decide +kernel) rfl
theorem w461 : Cond.instanceMethod yX3_signOfArea ∈ zTab := z_in 461 (by decide +kernel) rfl
theorem w462 : Cond.code yX3_signOfArea cX3_signOfArea 6 (some .int) ∈ zTab := z_in 462 (by decide +kernel) rfl
theorem w463 : Cond.methodLink RX3 58 yX3_across ∈ zTab := z_in 463 (by decide +kernel) rfl
theorem w464 : Cond.static yX3_across ∈ zTab := z_in 464 (by decide +kernel) rfl
theorem w465 : Cond.code yX3_across cX3_across 2 (some .int) ∈ zTab := z_in 465 (by decide +kernel) rfl
theorem w466 : Cond.methodLink RX3 62 yX3_down ∈ zTab := z_in 466 (by decide +kernel) rfl
theorem w467 : Cond.static yX3_down ∈ zTab := z_in 467 (by decide +kernel) rfl
theorem w468 : Cond.code yX3_down cX3_down 2 (some .int) ∈ zTab := z_in 468 (by decide +kernel) rfl
theorem w469 : Cond.methodLink RX3 65 yJ13_compare_74951 ∈ zTab := z_in 469 (by decide +kernel) rfl
theorem w470 : Cond.static yJ13_compare_74951 ∈ zTab := z_in 470 (by decide +kernel) rfl
theorem w471 : Cond.code yJ13_compare_74951 cJ13_compare_74951 4 (some .int) ∈ zTab := z_in 471 (by decide +kernel) rfl
theorem w472 : Cond.methodLink RX7 260 yX7_keyOf ∈ zTab := z_in 472 (by decide +kernel) rfl
theorem w475 : Cond.instanceMethod yX1_split ∈ zTab := z_in 475 (by decide +kernel) rfl
theorem w476 : Cond.code yX1_split cX1_split 5 (some .int) ∈ zTab := z_in 476 (by decide +kernel) rfl
theorem w477 : Cond.methodLink RX1 19 yX1_collect ∈ zTab := z_in 477 (by decide +kernel) rfl
theorem w479 : Cond.instanceMethod yX1_collect ∈ zTab := z_in 479 (by decide +kernel) rfl
theorem w480 : Cond.code yX1_collect cX1_collect 4 (some .int) ∈ zTab := z_in 480 (by decide +kernel) rfl
theorem w481 : Cond.methodLink RX1 30 yX1_queueNeighbours ∈ zTab := z_in 481 (by decide +kernel) rfl
theorem w483 : Cond.instanceMethod yX1_queueNeighbours ∈ zTab := z_in 483 (by decide +kernel) rfl
theorem w484 : Cond.code yX1_queueNeighbours cX1_queueNeighbours 9 (some .int) ∈ zTab := z_in 484 (by decide +kernel) rfl
theorem w485 : Cond.methodLink RX1 34 yJ9_max_7cf53 ∈ zTab := z_in 485 (by decide +kernel) rfl
theorem w486 : Cond.static yJ9_max_7cf53 ∈ zTab := z_in 486 (by decide +kernel) rfl
theorem w487 : Cond.code yJ9_max_7cf53 cJ9_max_7cf53 2 (some .int) ∈ zTab := z_in 487 (by decide +kernel) rfl
theorem w488 : Cond.methodLink RX1 39 yJ9_min_7cf53 ∈ zTab := z_in 488 (by decide +kernel) rfl
theorem w489 : Cond.static yJ9_min_7cf53 ∈ zTab := z_in 489 (by decide +kernel) rfl
theorem w490 : Cond.code yJ9_min_7cf53 cJ9_min_7cf53 2 (some .int) ∈ zTab := z_in 490 (by decide +kernel) rfl
theorem w495 : Cond.methodLink RX7 133 yX7_xOf ∈ zTab := z_in 495 (by decide +kernel) rfl
theorem w496 : Cond.methodLink RX7 136 yX7_yOf ∈ zTab := z_in 496 (by decide +kernel) rfl
theorem w499 : Cond.instanceMethod yX3_parityAt ∈ zTab := z_in 499 (by decide +kernel) rfl
theorem w500 : Cond.code yX3_parityAt cX3_parityAt 3 (some .int) ∈ zTab := z_in 500 (by decide +kernel) rfl
theorem w502 : Cond.static yX7_pixelAt ∈ zTab := z_in 502 (by decide +kernel) rfl
theorem w503 : Cond.code yX7_pixelAt cX7_pixelAt 2 (some .int) ∈ zTab := z_in 503 (by decide +kernel) rfl
theorem w514 : Cond.instanceMethod yX3_isCritical ∈ zTab := z_in 514 (by decide +kernel) rfl
theorem w515 : Cond.code yX3_isCritical cX3_isCritical 4 (some .boolean) ∈ zTab := z_in 515 (by decide +kernel) rfl
theorem w516 : Cond.methodLink RX3 74 yX3_parityAt ∈ zTab := z_in 516 (by decide +kernel) rfl
theorem w523 : Cond.instanceMethod yX3_countOfParity ∈ zTab := z_in 523 (by decide +kernel) rfl
theorem w524 : Cond.code yX3_countOfParity cX3_countOfParity 4 (some .int) ∈ zTab := z_in 524 (by decide +kernel) rfl
theorem w525 : Cond.methodLink RX7 154 yX7_markCriticals ∈ zTab := z_in 525 (by decide +kernel) rfl
theorem w527 : Cond.instanceMethod yX7_markCriticals ∈ zTab := z_in 527 (by decide +kernel) rfl
theorem w528 : Cond.code yX7_markCriticals cX7_markCriticals 4 (some .int) ∈ zTab := z_in 528 (by decide +kernel) rfl
theorem w535 : Cond.instanceMethod yX4_start ∈ zTab := z_in 535 (by decide +kernel) rfl
theorem w536 : Cond.code yX4_start cX4_start 1 none ∈ zTab := z_in 536 (by decide +kernel) rfl
theorem w537 : Cond.methodLink RX4 19 yJ7_fill_53178 ∈ zTab := z_in 537 (by decide +kernel) rfl
theorem w540 : Cond.instanceMethod yX4_numberOf ∈ zTab := z_in 540 (by decide +kernel) rfl
theorem w541 : Cond.code yX4_numberOf cX4_numberOf 5 (some .int) ∈ zTab := z_in 541 (by decide +kernel) rfl
theorem w542 : Cond.constant RX4 29 (-1640531535 : Int32) ∈ zTab := z_in 542 (by decide +kernel) rfl
theorem w543 : Cond.methodLink RX4 30 yX4_take ∈ zTab := z_in 543 (by decide +kernel) rfl
theorem w545 : Cond.instanceMethod yX4_take ∈ zTab := z_in 545 (by decide +kernel) rfl
theorem w546 : Cond.code yX4_take cX4_take 4 (some .int) ∈ zTab := z_in 546 (by decide +kernel) rfl
theorem w549 : Cond.instanceMethod yX4_greatest ∈ zTab := z_in 549 (by decide +kernel) rfl
theorem w550 : Cond.code yX4_greatest cX4_greatest 3 (some .int) ∈ zTab := z_in 550 (by decide +kernel) rfl
theorem w555 : Cond.constantLong RX7 177 (-1000000000 : Int64) ∈ zTab := z_in 555 (by decide +kernel) rfl
theorem w558 : Cond.instanceMethod yX3_delayOnWay ∈ zTab := z_in 558 (by decide +kernel) rfl
theorem w559 : Cond.code yX3_delayOnWay cX3_delayOnWay 7 (some .long) ∈ zTab := z_in 559 (by decide +kernel) rfl
theorem w560 : Cond.methodLink RX3 77 yX3_delayAlong ∈ zTab := z_in 560 (by decide +kernel) rfl
theorem w561 : Cond.static yX3_delayAlong ∈ zTab := z_in 561 (by decide +kernel) rfl
theorem w562 : Cond.code yX3_delayAlong cX3_delayAlong 10 (some .long) ∈ zTab := z_in 562 (by decide +kernel) rfl
theorem w563 : Cond.methodLink RX3 81 yJ6_signum_0f7a4 ∈ zTab := z_in 563 (by decide +kernel) rfl
theorem w564 : Cond.static yJ6_signum_0f7a4 ∈ zTab := z_in 564 (by decide +kernel) rfl
theorem w565 : Cond.code yJ6_signum_0f7a4 cJ6_signum_0f7a4 1 (some .int) ∈ zTab := z_in 565 (by decide +kernel) rfl
theorem w566 : Cond.methodLink RX3 86 yJ9_abs_0f7a4 ∈ zTab := z_in 566 (by decide +kernel) rfl
theorem w567 : Cond.static yJ9_abs_0f7a4 ∈ zTab := z_in 567 (by decide +kernel) rfl
theorem w568 : Cond.code yJ9_abs_0f7a4 cJ9_abs_0f7a4 1 (some .int) ∈ zTab := z_in 568 (by decide +kernel) rfl
theorem w575 : Cond.instanceMethod yX3_stretchOf ∈ zTab := z_in 575 (by decide +kernel) rfl
theorem w576 : Cond.code yX3_stretchOf cX3_stretchOf 6 (some .int) ∈ zTab := z_in 576 (by decide +kernel) rfl
theorem w577 : Cond.methodLink RX3 91 yJ9_max_7cf53 ∈ zTab := z_in 577 (by decide +kernel) rfl
theorem w578 : Cond.methodLink RX3 94 yX3_doubledStretchAt ∈ zTab := z_in 578 (by decide +kernel) rfl
theorem w580 : Cond.instanceMethod yX3_doubledStretchAt ∈ zTab := z_in 580 (by decide +kernel) rfl
theorem w581 : Cond.code yX3_doubledStretchAt cX3_doubledStretchAt 8 (some .long) ∈ zTab := z_in 581 (by decide +kernel) rfl
theorem w582 : Cond.constantLong RX3 104 (2 : Int64) ∈ zTab := z_in 582 (by decide +kernel) rfl
theorem w583 : Cond.constantLong RX3 98 (128 : Int64) ∈ zTab := z_in 583 (by decide +kernel) rfl
theorem w584 : Cond.methodLink RX3 100 yJ9_floorDiv_f86c9 ∈ zTab := z_in 584 (by decide +kernel) rfl
theorem w585 : Cond.static yJ9_floorDiv_f86c9 ∈ zTab := z_in 585 (by decide +kernel) rfl
theorem w586 : Cond.code yJ9_floorDiv_f86c9 cJ9_floorDiv_f86c9 6 (some .long) ∈ zTab := z_in 586 (by decide +kernel) rfl
theorem w591 : Cond.constantLong RX7 189 (255 : Int64) ∈ zTab := z_in 591 (by decide +kernel) rfl
theorem w594 : Cond.instanceMethod yX5_add ∈ zTab := z_in 594 (by decide +kernel) rfl
theorem w595 : Cond.code yX5_add cX5_add 2 none ∈ zTab := z_in 595 (by decide +kernel) rfl
theorem w606 : Cond.instanceMethod yX5_tellBodies ∈ zTab := z_in 606 (by decide +kernel) rfl
theorem w607 : Cond.code yX5_tellBodies cX5_tellBodies 2 (some .int) ∈ zTab := z_in 607 (by decide +kernel) rfl
theorem w608 : Cond.methodLink RX5 27 yX5_takeItem ∈ zTab := z_in 608 (by decide +kernel) rfl
theorem w610 : Cond.instanceMethod yX5_takeItem ∈ zTab := z_in 610 (by decide +kernel) rfl
theorem w611 : Cond.code yX5_takeItem cX5_takeItem 3 (some .boolean) ∈ zTab := z_in 611 (by decide +kernel) rfl
theorem w612 : Cond.methodLink RX5 31 yX5_takeKind ∈ zTab := z_in 612 (by decide +kernel) rfl
theorem w614 : Cond.instanceMethod yX5_takeKind ∈ zTab := z_in 614 (by decide +kernel) rfl
theorem w615 : Cond.code yX5_takeKind cX5_takeKind 1 (some .int) ∈ zTab := z_in 615 (by decide +kernel) rfl
theorem w616 : Cond.methodLink RX5 42 yX5_takeSign ∈ zTab := z_in 616 (by decide +kernel) rfl
theorem w618 : Cond.instanceMethod yX5_takeSign ∈ zTab := z_in 618 (by decide +kernel) rfl
theorem w619 : Cond.code yX5_takeSign cX5_takeSign 2 (some .boolean) ∈ zTab := z_in 619 (by decide +kernel) rfl
theorem w621 : Cond.methodLink RX5 38 yX5_takeNumber ∈ zTab := z_in 621 (by decide +kernel) rfl
theorem w623 : Cond.instanceMethod yX5_takeNumber ∈ zTab := z_in 623 (by decide +kernel) rfl
theorem w624 : Cond.code yX5_takeNumber cX5_takeNumber 6 (some .boolean) ∈ zTab := z_in 624 (by decide +kernel) rfl
theorem w633 : Cond.instanceMethod yX6_addPair ∈ zTab := z_in 633 (by decide +kernel) rfl
theorem w634 : Cond.code yX6_addPair cX6_addPair 6 (some .int) ∈ zTab := z_in 634 (by decide +kernel) rfl
theorem w647 : Cond.methodLink RX7 217 yX7_isTrial ∈ zTab := z_in 647 (by decide +kernel) rfl
theorem w649 : Cond.instanceMethod yX7_isTrial ∈ zTab := z_in 649 (by decide +kernel) rfl
theorem w650 : Cond.code yX7_isTrial cX7_isTrial 3 (some .boolean) ∈ zTab := z_in 650 (by decide +kernel) rfl
theorem w653 : Cond.instanceMethod yX6_load ∈ zTab := z_in 653 (by decide +kernel) rfl
theorem w654 : Cond.code yX6_load cX6_load 5 none ∈ zTab := z_in 654 (by decide +kernel) rfl
theorem w655 : Cond.methodLink RX6 66 yX6_startRow ∈ zTab := z_in 655 (by decide +kernel) rfl
theorem w657 : Cond.instanceMethod yX6_startRow ∈ zTab := z_in 657 (by decide +kernel) rfl
theorem w658 : Cond.code yX6_startRow cX6_startRow 2 none ∈ zTab := z_in 658 (by decide +kernel) rfl
theorem w659 : Cond.methodLink RX6 77 yJ7_fill_53178 ∈ zTab := z_in 659 (by decide +kernel) rfl
theorem w660 : Cond.methodLink RX6 70 yX6_addToRow ∈ zTab := z_in 660 (by decide +kernel) rfl
theorem w662 : Cond.instanceMethod yX6_addToRow ∈ zTab := z_in 662 (by decide +kernel) rfl
theorem w663 : Cond.code yX6_addToRow cX6_addToRow 9 none ∈ zTab := z_in 663 (by decide +kernel) rfl
theorem w668 : Cond.instanceMethod yX6_holds ∈ zTab := z_in 668 (by decide +kernel) rfl
theorem w669 : Cond.code yX6_holds cX6_holds 3 (some .boolean) ∈ zTab := z_in 669 (by decide +kernel) rfl
theorem w670 : Cond.methodLink RX6 96 yX6_aim ∈ zTab := z_in 670 (by decide +kernel) rfl
theorem w672 : Cond.instanceMethod yX6_aim ∈ zTab := z_in 672 (by decide +kernel) rfl
theorem w673 : Cond.code yX6_aim cX6_aim 4 none ∈ zTab := z_in 673 (by decide +kernel) rfl
theorem w674 : Cond.methodLink RX6 99 yX6_shownBy ∈ zTab := z_in 674 (by decide +kernel) rfl
theorem w676 : Cond.instanceMethod yX6_shownBy ∈ zTab := z_in 676 (by decide +kernel) rfl
theorem w677 : Cond.code yX6_shownBy cX6_shownBy 4 (some .int) ∈ zTab := z_in 677 (by decide +kernel) rfl
theorem w678 : Cond.methodLink RX6 103 yJ9_abs_0f7a4 ∈ zTab := z_in 678 (by decide +kernel) rfl
theorem w685 : Cond.instanceMethod yX6_gather ∈ zTab := z_in 685 (by decide +kernel) rfl
theorem w686 : Cond.code yX6_gather cX6_gather 2 none ∈ zTab := z_in 686 (by decide +kernel) rfl
theorem w687 : Cond.methodLink RX6 111 yX6_holds ∈ zTab := z_in 687 (by decide +kernel) rfl
theorem w690 : Cond.instanceMethod yX6_least ∈ zTab := z_in 690 (by decide +kernel) rfl
theorem w691 : Cond.code yX6_least cX6_least 6 (some .int) ∈ zTab := z_in 691 (by decide +kernel) rfl
theorem w692 : Cond.methodLink RX6 115 yX6_weightOf ∈ zTab := z_in 692 (by decide +kernel) rfl
theorem w694 : Cond.instanceMethod yX6_weightOf ∈ zTab := z_in 694 (by decide +kernel) rfl
theorem w695 : Cond.code yX6_weightOf cX6_weightOf 5 (some .int) ∈ zTab := z_in 695 (by decide +kernel) rfl
theorem w698 : Cond.instanceMethod yX6_twins ∈ zTab := z_in 698 (by decide +kernel) rfl
theorem w699 : Cond.code yX6_twins cX6_twins 3 (some .int) ∈ zTab := z_in 699 (by decide +kernel) rfl
theorem w700 : Cond.methodLink RX6 119 yX6_splitHeaps ∈ zTab := z_in 700 (by decide +kernel) rfl
theorem w702 : Cond.instanceMethod yX6_splitHeaps ∈ zTab := z_in 702 (by decide +kernel) rfl
theorem w703 : Cond.code yX6_splitHeaps cX6_splitHeaps 3 none ∈ zTab := z_in 703 (by decide +kernel) rfl
theorem w709 : Cond.instanceMethod yX6_nextLook ∈ zTab := z_in 709 (by decide +kernel) rfl
theorem w710 : Cond.code yX6_nextLook cX6_nextLook 5 (some .int) ∈ zTab := z_in 710 (by decide +kernel) rfl
theorem w718 : Cond.instanceMethod yX6_sureWeight ∈ zTab := z_in 718 (by decide +kernel) rfl
theorem w719 : Cond.code yX6_sureWeight cX6_sureWeight 4 (some .int) ∈ zTab := z_in 719 (by decide +kernel) rfl
theorem w726 : Cond.instanceMethod yX6_addSpot ∈ zTab := z_in 726 (by decide +kernel) rfl
theorem w727 : Cond.code yX6_addSpot cX6_addSpot 3 (some .int) ∈ zTab := z_in 727 (by decide +kernel) rfl
theorem w736 : Cond.methodLink RX7 254 yX7_pixelAt ∈ zTab := z_in 736 (by decide +kernel) rfl
theorem w743 : Cond.instanceMethod yX0_farOf ∈ zTab := z_in 743 (by decide +kernel) rfl
theorem w744 : Cond.code yX0_farOf cX0_farOf 5 (some .int) ∈ zTab := z_in 744 (by decide +kernel) rfl
theorem w751 : Cond.instanceMethod yX0_contradictions ∈ zTab := z_in 751 (by decide +kernel) rfl
theorem w752 : Cond.code yX0_contradictions cX0_contradictions 3 (some .int) ∈ zTab := z_in 752 (by decide +kernel) rfl
theorem w754 : Cond.methodLink RX0 49 yX0_widen ∈ zTab := z_in 754 (by decide +kernel) rfl
theorem w756 : Cond.instanceMethod yX0_widen ∈ zTab := z_in 756 (by decide +kernel) rfl
theorem w757 : Cond.code yX0_widen cX0_widen 6 none ∈ zTab := z_in 757 (by decide +kernel) rfl
theorem w759 : Cond.methodLink RX0 60 yJ9_min_7cf53 ∈ zTab := z_in 759 (by decide +kernel) rfl
theorem w760 : Cond.methodLink RX0 66 yJ9_max_7cf53 ∈ zTab := z_in 760 (by decide +kernel) rfl
theorem w771 : Cond.instanceMethod yX0_toldCount ∈ zTab := z_in 771 (by decide +kernel) rfl
theorem w772 : Cond.code yX0_toldCount cX0_toldCount 3 (some .int) ∈ zTab := z_in 772 (by decide +kernel) rfl
theorem w775 : Cond.instanceMethod yX2_weights ∈ zTab := z_in 775 (by decide +kernel) rfl
theorem w776 : Cond.code yX2_weights cX2_weights 3 (some .int) ∈ zTab := z_in 776 (by decide +kernel) rfl
theorem w788 : Cond.fieldLink RX8 7 "LensBenchModel" "body" "[I" ∈ zTab := z_in 788 (by decide +kernel) rfl
theorem w789 : Cond.fieldLink RX8 78 "LensBenchModel" "bodies" "I" ∈ zTab := z_in 789 (by decide +kernel) rfl
theorem w790 : Cond.fieldLink RX8 93 "LensBenchModel" "fieldG" "I" ∈ zTab := z_in 790 (by decide +kernel) rfl
theorem w791 : Cond.fieldLink RX8 96 "LensBenchModel" "fieldH" "I" ∈ zTab := z_in 791 (by decide +kernel) rfl
theorem w792 : Cond.fieldLink RX8 13 "LensBenchModel" "text" "[B" ∈ zTab := z_in 792 (by decide +kernel) rfl
theorem w793 : Cond.fieldLink RX8 174 "LensBenchModel" "typed" "I" ∈ zTab := z_in 793 (by decide +kernel) rfl
theorem w794 : Cond.fieldLink RX8 203 "LensBenchModel" "pairs" "I" ∈ zTab := z_in 794 (by decide +kernel) rfl
theorem w795 : Cond.fieldLink RX8 17 "LensBenchModel" "pair" "[I" ∈ zTab := z_in 795 (by decide +kernel) rfl
theorem w796 : Cond.fieldLink RX8 20 "LensBenchModel" "tolerated" "I" ∈ zTab := z_in 796 (by decide +kernel) rfl
theorem w797 : Cond.fieldLink RX8 24 "LensBenchModel" "noise" "I" ∈ zTab := z_in 797 (by decide +kernel) rfl
theorem w798 : Cond.fieldLink RX8 240 "LensBenchModel" "spots" "I" ∈ zTab := z_in 798 (by decide +kernel) rfl
theorem w799 : Cond.fieldLink RX8 27 "LensBenchModel" "spotX" "[I" ∈ zTab := z_in 799 (by decide +kernel) rfl
theorem w800 : Cond.fieldLink RX8 30 "LensBenchModel" "spotY" "[I" ∈ zTab := z_in 800 (by decide +kernel) rfl
theorem w801 : Cond.fieldLink RX8 33 "LensBenchModel" "told" "[I" ∈ zTab := z_in 801 (by decide +kernel) rfl
theorem w802 : Cond.fieldLink RX8 99 "LensBenchModel" "trace" "J" ∈ zTab := z_in 802 (by decide +kernel) rfl
theorem w803 : Cond.fieldLink RX8 36 "LensBenchModel" "planeX" "[I" ∈ zTab := z_in 803 (by decide +kernel) rfl
theorem w804 : Cond.fieldLink RX8 39 "LensBenchModel" "planeY" "[I" ∈ zTab := z_in 804 (by decide +kernel) rfl
theorem w805 : Cond.fieldLink RX8 42 "LensBenchModel" "isOne" "[Z" ∈ zTab := z_in 805 (by decide +kernel) rfl
theorem w806 : Cond.fieldLink RX8 46 "LensBenchModel" "groupOf" "[I" ∈ zTab := z_in 806 (by decide +kernel) rfl
theorem w807 : Cond.fieldLink RX8 49 "LensBenchModel" "line" "[I" ∈ zTab := z_in 807 (by decide +kernel) rfl
theorem w808 : Cond.fieldLink RX8 52 "LensBenchModel" "firstOf" "[I" ∈ zTab := z_in 808 (by decide +kernel) rfl
theorem w809 : Cond.fieldLink RX8 55 "LensBenchModel" "manyOf" "[I" ∈ zTab := z_in 809 (by decide +kernel) rfl
theorem w810 : Cond.fieldLink RX8 132 "LensBenchModel" "groups" "I" ∈ zTab := z_in 810 (by decide +kernel) rfl
theorem w811 : Cond.fieldLink RX8 179 "LensBenchModel" "place" "I" ∈ zTab := z_in 811 (by decide +kernel) rfl
theorem w812 : Cond.fieldLink RX8 186 "LensBenchModel" "fault" "I" ∈ zTab := z_in 812 (by decide +kernel) rfl
theorem w813 : Cond.fieldLink RX8 206 "LensBenchModel" "one" "I" ∈ zTab := z_in 813 (by decide +kernel) rfl
theorem w814 : Cond.fieldLink RX8 209 "LensBenchModel" "two" "I" ∈ zTab := z_in 814 (by decide +kernel) rfl
theorem w815 : Cond.fieldLink RX8 212 "LensBenchModel" "three" "I" ∈ zTab := z_in 815 (by decide +kernel) rfl
theorem w816 : Cond.fieldLink RX8 58 "LensBenchModel" "fitting" "[I" ∈ zTab := z_in 816 (by decide +kernel) rfl
theorem w817 : Cond.fieldLink RX8 62 "LensBenchModel" "signX" "[I" ∈ zTab := z_in 817 (by decide +kernel) rfl
theorem w818 : Cond.fieldLink RX8 65 "LensBenchModel" "signY" "[I" ∈ zTab := z_in 818 (by decide +kernel) rfl
theorem w819 : Cond.fieldLink RX8 68 "LensBenchModel" "slot" "[I" ∈ zTab := z_in 819 (by decide +kernel) rfl
theorem w820 : Cond.fieldLink RX8 71 "LensBenchModel" "tally" "[I" ∈ zTab := z_in 820 (by decide +kernel) rfl
theorem w821 : Cond.fieldLink RX8 243 "LensBenchModel" "heaps" "I" ∈ zTab := z_in 821 (by decide +kernel) rfl
theorem w896 : Cond.methodLink RX8 74 yX8_in ∈ zTab := z_in 896 (by decide +kernel) rfl
theorem w897 : Cond.static yX8_in ∈ zTab := z_in 897 (by decide +kernel) rfl
theorem w898 : Cond.code yX8_in cX8_in 3 (some .boolean) ∈ zTab := z_in 898 (by decide +kernel) rfl
theorem w899 : Cond.methodLink RX8 81 yX8_isNear ∈ zTab := z_in 899 (by decide +kernel) rfl
theorem w900 : Cond.static yX8_isNear ∈ zTab := z_in 900 (by decide +kernel) rfl
theorem w901 : Cond.code yX8_isNear cX8_isNear 3 (some .boolean) ∈ zTab := z_in 901 (by decide +kernel) rfl
theorem w906 : Cond.methodLink RX8 84 yX8_isBody ∈ zTab := z_in 906 (by decide +kernel) rfl
theorem w908 : Cond.instanceMethod yX8_isBody ∈ zTab := z_in 908 (by decide +kernel) rfl
theorem w909 : Cond.code yX8_isBody cX8_isBody 2 (some .boolean) ∈ zTab := z_in 909 (by decide +kernel) rfl
theorem w910 : Cond.methodLink RX8 88 yX8_isTold ∈ zTab := z_in 910 (by decide +kernel) rfl
theorem w911 : Cond.static yX8_isTold ∈ zTab := z_in 911 (by decide +kernel) rfl
theorem w912 : Cond.code yX8_isTold cX8_isTold 2 (some .boolean) ∈ zTab := z_in 912 (by decide +kernel) rfl
theorem w913 : Cond.constant RX8 92 (-1000000000 : Int32) ∈ zTab := z_in 913 (by decide +kernel) rfl
theorem w926 : Cond.constantLong RX8 103 (11 : Int64) ∈ zTab := z_in 926 (by decide +kernel) rfl
theorem w927 : Cond.constantLong RX8 105 (111 : Int64) ∈ zTab := z_in 927 (by decide +kernel) rfl
theorem w928 : Cond.methodLink RX8 107 yX8_bendOf ∈ zTab := z_in 928 (by decide +kernel) rfl
theorem w930 : Cond.instanceMethod yX8_bendOf ∈ zTab := z_in 930 (by decide +kernel) rfl
theorem w931 : Cond.code yX8_bendOf cX8_bendOf 11 (some .int) ∈ zTab := z_in 931 (by decide +kernel) rfl
theorem w936 : Cond.methodLink RX8 111 yX8_fromOf ∈ zTab := z_in 936 (by decide +kernel) rfl
theorem w938 : Cond.instanceMethod yX8_fromOf ∈ zTab := z_in 938 (by decide +kernel) rfl
theorem w939 : Cond.code yX8_fromOf cX8_fromOf 6 (some .int) ∈ zTab := z_in 939 (by decide +kernel) rfl
theorem w944 : Cond.methodLink RX8 121 yX8_cellOf ∈ zTab := z_in 944 (by decide +kernel) rfl
theorem w946 : Cond.instanceMethod yX8_cellOf ∈ zTab := z_in 946 (by decide +kernel) rfl
theorem w947 : Cond.code yX8_cellOf cX8_cellOf 4 (some .int) ∈ zTab := z_in 947 (by decide +kernel) rfl
theorem w948 : Cond.constantLong RX8 115 (8 : Int64) ∈ zTab := z_in 948 (by decide +kernel) rfl
theorem w949 : Cond.methodLink RX8 117 yX8_floored ∈ zTab := z_in 949 (by decide +kernel) rfl
theorem w950 : Cond.static yX8_floored ∈ zTab := z_in 950 (by decide +kernel) rfl
theorem w951 : Cond.code yX8_floored cX8_floored 5 (some .int) ∈ zTab := z_in 951 (by decide +kernel) rfl
theorem w956 : Cond.methodLink RX8 154 yX8_findPictures ∈ zTab := z_in 956 (by decide +kernel) rfl
theorem w958 : Cond.instanceMethod yX8_findPictures ∈ zTab := z_in 958 (by decide +kernel) rfl
theorem w959 : Cond.code yX8_findPictures cX8_findPictures 5 (some .int) ∈ zTab := z_in 959 (by decide +kernel) rfl
theorem w960 : Cond.methodLink RX8 145 yX8_findPlane ∈ zTab := z_in 960 (by decide +kernel) rfl
theorem w962 : Cond.instanceMethod yX8_findPlane ∈ zTab := z_in 962 (by decide +kernel) rfl
theorem w963 : Cond.code yX8_findPlane cX8_findPlane 3 none ∈ zTab := z_in 963 (by decide +kernel) rfl
theorem w964 : Cond.methodLink RX8 124 yX8_at ∈ zTab := z_in 964 (by decide +kernel) rfl
theorem w965 : Cond.static yX8_at ∈ zTab := z_in 965 (by decide +kernel) rfl
theorem w966 : Cond.code yX8_at cX8_at 2 (some .int) ∈ zTab := z_in 966 (by decide +kernel) rfl
theorem w967 : Cond.methodLink RX8 148 yX8_cellX ∈ zTab := z_in 967 (by decide +kernel) rfl
theorem w969 : Cond.instanceMethod yX8_cellX ∈ zTab := z_in 969 (by decide +kernel) rfl
theorem w970 : Cond.code yX8_cellX cX8_cellX 3 (some .int) ∈ zTab := z_in 970 (by decide +kernel) rfl
theorem w971 : Cond.methodLink RX8 151 yX8_cellY ∈ zTab := z_in 971 (by decide +kernel) rfl
theorem w973 : Cond.instanceMethod yX8_cellY ∈ zTab := z_in 973 (by decide +kernel) rfl
theorem w974 : Cond.code yX8_cellY cX8_cellY 3 (some .int) ∈ zTab := z_in 974 (by decide +kernel) rfl
theorem w975 : Cond.methodLink RX8 157 yX8_findGroups ∈ zTab := z_in 975 (by decide +kernel) rfl
theorem w977 : Cond.instanceMethod yX8_findGroups ∈ zTab := z_in 977 (by decide +kernel) rfl
theorem w978 : Cond.code yX8_findGroups cX8_findGroups 2 none ∈ zTab := z_in 978 (by decide +kernel) rfl
theorem w979 : Cond.methodLink RX8 141 yX8_spread ∈ zTab := z_in 979 (by decide +kernel) rfl
theorem w981 : Cond.instanceMethod yX8_spread ∈ zTab := z_in 981 (by decide +kernel) rfl
theorem w982 : Cond.code yX8_spread cX8_spread 9 none ∈ zTab := z_in 982 (by decide +kernel) rfl
theorem w983 : Cond.methodLink RX8 135 yX8_isPixel ∈ zTab := z_in 983 (by decide +kernel) rfl
theorem w984 : Cond.static yX8_isPixel ∈ zTab := z_in 984 (by decide +kernel) rfl
theorem w985 : Cond.code yX8_isPixel cX8_isPixel 2 (some .boolean) ∈ zTab := z_in 985 (by decide +kernel) rfl
theorem w986 : Cond.methodLink RX8 138 yX8_pixel ∈ zTab := z_in 986 (by decide +kernel) rfl
theorem w987 : Cond.static yX8_pixel ∈ zTab := z_in 987 (by decide +kernel) rfl
theorem w988 : Cond.code yX8_pixel cX8_pixel 2 (some .int) ∈ zTab := z_in 988 (by decide +kernel) rfl
theorem w993 : Cond.methodLink RX8 160 yX8_parityOf ∈ zTab := z_in 993 (by decide +kernel) rfl
theorem w995 : Cond.instanceMethod yX8_parityOf ∈ zTab := z_in 995 (by decide +kernel) rfl
theorem w996 : Cond.code yX8_parityOf cX8_parityOf 11 (some .int) ∈ zTab := z_in 996 (by decide +kernel) rfl
theorem w997 : Cond.methodLink RX8 128 yX8_signOf ∈ zTab := z_in 997 (by decide +kernel) rfl
theorem w998 : Cond.static yX8_signOf ∈ zTab := z_in 998 (by decide +kernel) rfl
theorem w999 : Cond.code yX8_signOf cX8_signOf 2 (some .int) ∈ zTab := z_in 999 (by decide +kernel) rfl
theorem w1004 : Cond.methodLink RX8 163 yX8_findAround ∈ zTab := z_in 1004 (by decide +kernel) rfl
theorem w1006 : Cond.instanceMethod yX8_findAround ∈ zTab := z_in 1006 (by decide +kernel) rfl
theorem w1007 : Cond.code yX8_findAround cX8_findAround 5 none ∈ zTab := z_in 1007 (by decide +kernel) rfl
theorem w1012 : Cond.methodLink RX8 167 yX8_criticalNow ∈ zTab := z_in 1012 (by decide +kernel) rfl
theorem w1014 : Cond.instanceMethod yX8_criticalNow ∈ zTab := z_in 1014 (by decide +kernel) rfl
theorem w1015 : Cond.code yX8_criticalNow cX8_criticalNow 5 (some .boolean) ∈ zTab := z_in 1015 (by decide +kernel) rfl
theorem w1028 : Cond.constantLong RX8 170 (-1000000000 : Int64) ∈ zTab := z_in 1028 (by decide +kernel) rfl
theorem w1029 : Cond.constantLong RX8 172 (2 : Int64) ∈ zTab := z_in 1029 (by decide +kernel) rfl
theorem w1038 : Cond.constantLong RX8 177 (255 : Int64) ∈ zTab := z_in 1038 (by decide +kernel) rfl
theorem w1047 : Cond.methodLink RX8 200 yX8_item ∈ zTab := z_in 1047 (by decide +kernel) rfl
theorem w1049 : Cond.instanceMethod yX8_item ∈ zTab := z_in 1049 (by decide +kernel) rfl
theorem w1050 : Cond.code yX8_item cX8_item 4 none ∈ zTab := z_in 1050 (by decide +kernel) rfl
theorem w1051 : Cond.methodLink RX8 182 yX8_here ∈ zTab := z_in 1051 (by decide +kernel) rfl
theorem w1053 : Cond.instanceMethod yX8_here ∈ zTab := z_in 1053 (by decide +kernel) rfl
theorem w1054 : Cond.code yX8_here cX8_here 1 (some .int) ∈ zTab := z_in 1054 (by decide +kernel) rfl
theorem w1055 : Cond.methodLink RX8 193 yX8_number ∈ zTab := z_in 1055 (by decide +kernel) rfl
theorem w1057 : Cond.instanceMethod yX8_number ∈ zTab := z_in 1057 (by decide +kernel) rfl
theorem w1058 : Cond.code yX8_number cX8_number 7 (some .int) ∈ zTab := z_in 1058 (by decide +kernel) rfl
theorem w1059 : Cond.methodLink RX8 189 yX8_isDigit ∈ zTab := z_in 1059 (by decide +kernel) rfl
theorem w1061 : Cond.instanceMethod yX8_isDigit ∈ zTab := z_in 1061 (by decide +kernel) rfl
theorem w1062 : Cond.code yX8_isDigit cX8_isDigit 1 (some .boolean) ∈ zTab := z_in 1062 (by decide +kernel) rfl
theorem w1063 : Cond.methodLink RX8 197 yX8_sign ∈ zTab := z_in 1063 (by decide +kernel) rfl
theorem w1065 : Cond.instanceMethod yX8_sign ∈ zTab := z_in 1065 (by decide +kernel) rfl
theorem w1066 : Cond.code yX8_sign cX8_sign 2 none ∈ zTab := z_in 1066 (by decide +kernel) rfl
theorem w1083 : Cond.methodLink RX8 221 yX8_isTry ∈ zTab := z_in 1083 (by decide +kernel) rfl
theorem w1085 : Cond.instanceMethod yX8_isTry ∈ zTab := z_in 1085 (by decide +kernel) rfl
theorem w1086 : Cond.code yX8_isTry cX8_isTry 3 (some .boolean) ∈ zTab := z_in 1086 (by decide +kernel) rfl
theorem w1087 : Cond.methodLink RX8 224 yX8_modelsOf ∈ zTab := z_in 1087 (by decide +kernel) rfl
theorem w1088 : Cond.static yX8_modelsOf ∈ zTab := z_in 1088 (by decide +kernel) rfl
theorem w1089 : Cond.code yX8_modelsOf cX8_modelsOf 4 (some .int) ∈ zTab := z_in 1089 (by decide +kernel) rfl
theorem w1090 : Cond.methodLink RX8 227 yX8_keepWeights ∈ zTab := z_in 1090 (by decide +kernel) rfl
theorem w1092 : Cond.instanceMethod yX8_keepWeights ∈ zTab := z_in 1092 (by decide +kernel) rfl
theorem w1093 : Cond.code yX8_keepWeights cX8_keepWeights 1 none ∈ zTab := z_in 1093 (by decide +kernel) rfl
theorem w1094 : Cond.methodLink RX8 230 yX8_weigh ∈ zTab := z_in 1094 (by decide +kernel) rfl
theorem w1096 : Cond.instanceMethod yX8_weigh ∈ zTab := z_in 1096 (by decide +kernel) rfl
theorem w1097 : Cond.code yX8_weigh cX8_weigh 5 none ∈ zTab := z_in 1097 (by decide +kernel) rfl
theorem w1098 : Cond.methodLink RX8 215 yX8_digit ∈ zTab := z_in 1098 (by decide +kernel) rfl
theorem w1099 : Cond.static yX8_digit ∈ zTab := z_in 1099 (by decide +kernel) rfl
theorem w1100 : Cond.code yX8_digit cX8_digit 5 (some .int) ∈ zTab := z_in 1100 (by decide +kernel) rfl
theorem w1101 : Cond.methodLink RX8 234 yX8_doesFit ∈ zTab := z_in 1101 (by decide +kernel) rfl
theorem w1103 : Cond.instanceMethod yX8_doesFit ∈ zTab := z_in 1103 (by decide +kernel) rfl
theorem w1104 : Cond.code yX8_doesFit cX8_doesFit 3 (some .boolean) ∈ zTab := z_in 1104 (by decide +kernel) rfl
theorem w1105 : Cond.methodLink RX8 218 yX8_isWithin ∈ zTab := z_in 1105 (by decide +kernel) rfl
theorem w1107 : Cond.instanceMethod yX8_isWithin ∈ zTab := z_in 1107 (by decide +kernel) rfl
theorem w1108 : Cond.code yX8_isWithin cX8_isWithin 4 (some .boolean) ∈ zTab := z_in 1108 (by decide +kernel) rfl
theorem w1109 : Cond.methodLink RX8 237 yX8_giveBack ∈ zTab := z_in 1109 (by decide +kernel) rfl
theorem w1111 : Cond.instanceMethod yX8_giveBack ∈ zTab := z_in 1111 (by decide +kernel) rfl
theorem w1112 : Cond.code yX8_giveBack cX8_giveBack 1 none ∈ zTab := z_in 1112 (by decide +kernel) rfl
theorem w1117 : Cond.methodLink RX8 250 yX8_findFitting ∈ zTab := z_in 1117 (by decide +kernel) rfl
theorem w1119 : Cond.instanceMethod yX8_findFitting ∈ zTab := z_in 1119 (by decide +kernel) rfl
theorem w1120 : Cond.code yX8_findFitting cX8_findFitting 7 (some .int) ∈ zTab := z_in 1120 (by decide +kernel) rfl
theorem w1121 : Cond.methodLink RX8 253 yX8_heap ∈ zTab := z_in 1121 (by decide +kernel) rfl
theorem w1123 : Cond.instanceMethod yX8_heap ∈ zTab := z_in 1123 (by decide +kernel) rfl
theorem w1124 : Cond.code yX8_heap cX8_heap 8 (some .int) ∈ zTab := z_in 1124 (by decide +kernel) rfl
theorem w1125 : Cond.methodLink RX8 246 yX8_isAlike ∈ zTab := z_in 1125 (by decide +kernel) rfl
theorem w1127 : Cond.instanceMethod yX8_isAlike ∈ zTab := z_in 1127 (by decide +kernel) rfl
theorem w1128 : Cond.code yX8_isAlike cX8_isAlike 7 (some .boolean) ∈ zTab := z_in 1128 (by decide +kernel) rfl
theorem w1149 : Cond.methodLink RX8 256 yX8_findTold ∈ zTab := z_in 1149 (by decide +kernel) rfl
theorem w1151 : Cond.instanceMethod yX8_findTold ∈ zTab := z_in 1151 (by decide +kernel) rfl
theorem w1152 : Cond.code yX8_findTold cX8_findTold 2 none ∈ zTab := z_in 1152 (by decide +kernel) rfl
theorem w1153 : Cond.methodLink RX8 259 yX8_farOf ∈ zTab := z_in 1153 (by decide +kernel) rfl
theorem w1155 : Cond.instanceMethod yX8_farOf ∈ zTab := z_in 1155 (by decide +kernel) rfl
theorem w1156 : Cond.code yX8_farOf cX8_farOf 6 (some .int) ∈ zTab := z_in 1156 (by decide +kernel) rfl
theorem hdX0_toldCount : yX0_toldCount.cls = RX0 ∧ yX0_toldCount.cls ≠ "java/lang/invoke/MethodHandle" ∧ yX0_toldCount.cls ≠ "java/lang/invoke/VarHandle" ∧ (parseMethodDescriptor yX0_toldCount.desc).map (fun d => d.parameters.length) = some 0 := by decide +kernel
theorem hdX0_toldCountN : yX0_toldCount.cls ≠ "java/lang/invoke/MethodHandle" ∧ yX0_toldCount.cls ≠ "java/lang/invoke/VarHandle" ∧ (parseMethodDescriptor yX0_toldCount.desc).map (fun d => d.parameters.length) = some 0 := hdX0_toldCount.2
theorem hdX0_farOf : yX0_farOf.cls = RX0 ∧ yX0_farOf.cls ≠ "java/lang/invoke/MethodHandle" ∧ yX0_farOf.cls ≠ "java/lang/invoke/VarHandle" ∧ (parseMethodDescriptor yX0_farOf.desc).map (fun d => d.parameters.length) = some 1 := by decide +kernel
theorem hdX0_farOfN : yX0_farOf.cls ≠ "java/lang/invoke/MethodHandle" ∧ yX0_farOf.cls ≠ "java/lang/invoke/VarHandle" ∧ (parseMethodDescriptor yX0_farOf.desc).map (fun d => d.parameters.length) = some 1 := hdX0_farOf.2
theorem hdJ7_fill_53178 : yJ7_fill_53178.cls ≠ "java/lang/invoke/MethodHandle" ∧ yJ7_fill_53178.cls ≠ "java/lang/invoke/VarHandle" ∧ (parseMethodDescriptor yJ7_fill_53178.desc).map (fun d => d.parameters.length) = some 2 := by decide +kernel
theorem hdX4_start : yX4_start.cls = RX4 ∧ yX4_start.cls ≠ "java/lang/invoke/MethodHandle" ∧ yX4_start.cls ≠ "java/lang/invoke/VarHandle" ∧ (parseMethodDescriptor yX4_start.desc).map (fun d => d.parameters.length) = some 0 := by decide +kernel
theorem hdX4_startN : yX4_start.cls ≠ "java/lang/invoke/MethodHandle" ∧ yX4_start.cls ≠ "java/lang/invoke/VarHandle" ∧ (parseMethodDescriptor yX4_start.desc).map (fun d => d.parameters.length) = some 0 := hdX4_start.2
theorem hdX4_take : yX4_take.cls = RX4 ∧ yX4_take.cls ≠ "java/lang/invoke/MethodHandle" ∧ yX4_take.cls ≠ "java/lang/invoke/VarHandle" ∧ (parseMethodDescriptor yX4_take.desc).map (fun d => d.parameters.length) = some 2 := by decide +kernel
theorem hdX4_takeN : yX4_take.cls ≠ "java/lang/invoke/MethodHandle" ∧ yX4_take.cls ≠ "java/lang/invoke/VarHandle" ∧ (parseMethodDescriptor yX4_take.desc).map (fun d => d.parameters.length) = some 2 := hdX4_take.2
theorem hdX4_numberOf : yX4_numberOf.cls = RX4 ∧ yX4_numberOf.cls ≠ "java/lang/invoke/MethodHandle" ∧ yX4_numberOf.cls ≠ "java/lang/invoke/VarHandle" ∧ (parseMethodDescriptor yX4_numberOf.desc).map (fun d => d.parameters.length) = some 1 := by decide +kernel
theorem hdX4_numberOfN : yX4_numberOf.cls ≠ "java/lang/invoke/MethodHandle" ∧ yX4_numberOf.cls ≠ "java/lang/invoke/VarHandle" ∧ (parseMethodDescriptor yX4_numberOf.desc).map (fun d => d.parameters.length) = some 1 := hdX4_numberOf.2
theorem hdJ9_min_7cf53 : yJ9_min_7cf53.cls ≠ "java/lang/invoke/MethodHandle" ∧ yJ9_min_7cf53.cls ≠ "java/lang/invoke/VarHandle" ∧ (parseMethodDescriptor yJ9_min_7cf53.desc).map (fun d => d.parameters.length) = some 2 := by decide +kernel
theorem hdJ9_max_7cf53 : yJ9_max_7cf53.cls ≠ "java/lang/invoke/MethodHandle" ∧ yJ9_max_7cf53.cls ≠ "java/lang/invoke/VarHandle" ∧ (parseMethodDescriptor yJ9_max_7cf53.desc).map (fun d => d.parameters.length) = some 2 := by decide +kernel
theorem hdX0_widen : yX0_widen.cls = RX0 ∧ yX0_widen.cls ≠ "java/lang/invoke/MethodHandle" ∧ yX0_widen.cls ≠ "java/lang/invoke/VarHandle" ∧ (parseMethodDescriptor yX0_widen.desc).map (fun d => d.parameters.length) = some 2 := by decide +kernel
theorem hdX0_widenN : yX0_widen.cls ≠ "java/lang/invoke/MethodHandle" ∧ yX0_widen.cls ≠ "java/lang/invoke/VarHandle" ∧ (parseMethodDescriptor yX0_widen.desc).map (fun d => d.parameters.length) = some 2 := hdX0_widen.2
theorem hdX0_contradictions : yX0_contradictions.cls = RX0 ∧ yX0_contradictions.cls ≠ "java/lang/invoke/MethodHandle" ∧ yX0_contradictions.cls ≠ "java/lang/invoke/VarHandle" ∧ (parseMethodDescriptor yX0_contradictions.desc).map (fun d => d.parameters.length) = some 0 := by decide +kernel
theorem hdX0_contradictionsN : yX0_contradictions.cls ≠ "java/lang/invoke/MethodHandle" ∧ yX0_contradictions.cls ≠ "java/lang/invoke/VarHandle" ∧ (parseMethodDescriptor yX0_contradictions.desc).map (fun d => d.parameters.length) = some 0 := hdX0_contradictions.2
theorem hdX1_queueNeighbours : yX1_queueNeighbours.cls = RX1 ∧ yX1_queueNeighbours.cls ≠ "java/lang/invoke/MethodHandle" ∧ yX1_queueNeighbours.cls ≠ "java/lang/invoke/VarHandle" ∧ (parseMethodDescriptor yX1_queueNeighbours.desc).map (fun d => d.parameters.length) = some 2 := by decide +kernel
theorem hdX1_queueNeighboursN : yX1_queueNeighbours.cls ≠ "java/lang/invoke/MethodHandle" ∧ yX1_queueNeighbours.cls ≠ "java/lang/invoke/VarHandle" ∧ (parseMethodDescriptor yX1_queueNeighbours.desc).map (fun d => d.parameters.length) = some 2 := hdX1_queueNeighbours.2
theorem hdX1_collect : yX1_collect.cls = RX1 ∧ yX1_collect.cls ≠ "java/lang/invoke/MethodHandle" ∧ yX1_collect.cls ≠ "java/lang/invoke/VarHandle" ∧ (parseMethodDescriptor yX1_collect.desc).map (fun d => d.parameters.length) = some 1 := by decide +kernel
theorem hdX1_collectN : yX1_collect.cls ≠ "java/lang/invoke/MethodHandle" ∧ yX1_collect.cls ≠ "java/lang/invoke/VarHandle" ∧ (parseMethodDescriptor yX1_collect.desc).map (fun d => d.parameters.length) = some 1 := hdX1_collect.2
theorem hdX1_split : yX1_split.cls = RX1 ∧ yX1_split.cls ≠ "java/lang/invoke/MethodHandle" ∧ yX1_split.cls ≠ "java/lang/invoke/VarHandle" ∧ (parseMethodDescriptor yX1_split.desc).map (fun d => d.parameters.length) = some 1 := by decide +kernel
theorem hdX1_splitN : yX1_split.cls ≠ "java/lang/invoke/MethodHandle" ∧ yX1_split.cls ≠ "java/lang/invoke/VarHandle" ∧ (parseMethodDescriptor yX1_split.desc).map (fun d => d.parameters.length) = some 1 := hdX1_split.2
theorem hdX2_add : yX2_add.cls = RX2 ∧ yX2_add.cls ≠ "java/lang/invoke/MethodHandle" ∧ yX2_add.cls ≠ "java/lang/invoke/VarHandle" ∧ (parseMethodDescriptor yX2_add.desc).map (fun d => d.parameters.length) = some 4 := by decide +kernel
theorem hdX2_addN : yX2_add.cls ≠ "java/lang/invoke/MethodHandle" ∧ yX2_add.cls ≠ "java/lang/invoke/VarHandle" ∧ (parseMethodDescriptor yX2_add.desc).map (fun d => d.parameters.length) = some 4 := hdX2_add.2
theorem hdX2_weights : yX2_weights.cls = RX2 ∧ yX2_weights.cls ≠ "java/lang/invoke/MethodHandle" ∧ yX2_weights.cls ≠ "java/lang/invoke/VarHandle" ∧ (parseMethodDescriptor yX2_weights.desc).map (fun d => d.parameters.length) = some 0 := by decide +kernel
theorem hdX2_weightsN : yX2_weights.cls ≠ "java/lang/invoke/MethodHandle" ∧ yX2_weights.cls ≠ "java/lang/invoke/VarHandle" ∧ (parseMethodDescriptor yX2_weights.desc).map (fun d => d.parameters.length) = some 0 := hdX2_weights.2
theorem hdX2_squares : yX2_squares.cls ≠ "java/lang/invoke/MethodHandle" ∧ yX2_squares.cls ≠ "java/lang/invoke/VarHandle" ∧ (parseMethodDescriptor yX2_squares.desc).map (fun d => d.parameters.length) = some 3 := by decide +kernel
theorem hdX2_isCutAway : yX2_isCutAway.cls ≠ "java/lang/invoke/MethodHandle" ∧ yX2_isCutAway.cls ≠ "java/lang/invoke/VarHandle" ∧ (parseMethodDescriptor yX2_isCutAway.desc).map (fun d => d.parameters.length) = some 2 := by decide +kernel
theorem hdX2_bendBy : yX2_bendBy.cls ≠ "java/lang/invoke/MethodHandle" ∧ yX2_bendBy.cls ≠ "java/lang/invoke/VarHandle" ∧ (parseMethodDescriptor yX2_bendBy.desc).map (fun d => d.parameters.length) = some 6 := by decide +kernel
theorem hdX2_lightPast : yX2_lightPast.cls = RX2 ∧ yX2_lightPast.cls ≠ "java/lang/invoke/MethodHandle" ∧ yX2_lightPast.cls ≠ "java/lang/invoke/VarHandle" ∧ (parseMethodDescriptor yX2_lightPast.desc).map (fun d => d.parameters.length) = some 4 := by decide +kernel
theorem hdX2_lightPastN : yX2_lightPast.cls ≠ "java/lang/invoke/MethodHandle" ∧ yX2_lightPast.cls ≠ "java/lang/invoke/VarHandle" ∧ (parseMethodDescriptor yX2_lightPast.desc).map (fun d => d.parameters.length) = some 4 := hdX2_lightPast.2
theorem hdX2_lightAt : yX2_lightAt.cls = RX2 ∧ yX2_lightAt.cls ≠ "java/lang/invoke/MethodHandle" ∧ yX2_lightAt.cls ≠ "java/lang/invoke/VarHandle" ∧ (parseMethodDescriptor yX2_lightAt.desc).map (fun d => d.parameters.length) = some 3 := by decide +kernel
theorem hdX2_lightAtN : yX2_lightAt.cls ≠ "java/lang/invoke/MethodHandle" ∧ yX2_lightAt.cls ≠ "java/lang/invoke/VarHandle" ∧ (parseMethodDescriptor yX2_lightAt.desc).map (fun d => d.parameters.length) = some 3 := hdX2_lightAt.2
theorem hdX2_askedBy : yX2_askedBy.cls ≠ "java/lang/invoke/MethodHandle" ∧ yX2_askedBy.cls ≠ "java/lang/invoke/VarHandle" ∧ (parseMethodDescriptor yX2_askedBy.desc).map (fun d => d.parameters.length) = some 1 := by decide +kernel
theorem hdX3_placeAt : yX3_placeAt.cls ≠ "java/lang/invoke/MethodHandle" ∧ yX3_placeAt.cls ≠ "java/lang/invoke/VarHandle" ∧ (parseMethodDescriptor yX3_placeAt.desc).map (fun d => d.parameters.length) = some 2 := by decide +kernel
theorem hdX7_xOf : yX7_xOf.cls ≠ "java/lang/invoke/MethodHandle" ∧ yX7_xOf.cls ≠ "java/lang/invoke/VarHandle" ∧ (parseMethodDescriptor yX7_xOf.desc).map (fun d => d.parameters.length) = some 1 := by decide +kernel
theorem hdX7_yOf : yX7_yOf.cls ≠ "java/lang/invoke/MethodHandle" ∧ yX7_yOf.cls ≠ "java/lang/invoke/VarHandle" ∧ (parseMethodDescriptor yX7_yOf.desc).map (fun d => d.parameters.length) = some 1 := by decide +kernel
theorem hdJ9_floorDiv_7cf53 : yJ9_floorDiv_7cf53.cls ≠ "java/lang/invoke/MethodHandle" ∧ yJ9_floorDiv_7cf53.cls ≠ "java/lang/invoke/VarHandle" ∧ (parseMethodDescriptor yJ9_floorDiv_7cf53.desc).map (fun d => d.parameters.length) = some 2 := by decide +kernel
theorem hdX7_cellOf : yX7_cellOf.cls ≠ "java/lang/invoke/MethodHandle" ∧ yX7_cellOf.cls ≠ "java/lang/invoke/VarHandle" ∧ (parseMethodDescriptor yX7_cellOf.desc).map (fun d => d.parameters.length) = some 1 := by decide +kernel
theorem hdX7_keyOf : yX7_keyOf.cls ≠ "java/lang/invoke/MethodHandle" ∧ yX7_keyOf.cls ≠ "java/lang/invoke/VarHandle" ∧ (parseMethodDescriptor yX7_keyOf.desc).map (fun d => d.parameters.length) = some 2 := by decide +kernel
theorem hdX3_across : yX3_across.cls ≠ "java/lang/invoke/MethodHandle" ∧ yX3_across.cls ≠ "java/lang/invoke/VarHandle" ∧ (parseMethodDescriptor yX3_across.desc).map (fun d => d.parameters.length) = some 2 := by decide +kernel
theorem hdX3_down : yX3_down.cls ≠ "java/lang/invoke/MethodHandle" ∧ yX3_down.cls ≠ "java/lang/invoke/VarHandle" ∧ (parseMethodDescriptor yX3_down.desc).map (fun d => d.parameters.length) = some 2 := by decide +kernel
theorem hdJ13_compare_74951 : yJ13_compare_74951.cls ≠ "java/lang/invoke/MethodHandle" ∧ yJ13_compare_74951.cls ≠ "java/lang/invoke/VarHandle" ∧ (parseMethodDescriptor yJ13_compare_74951.desc).map (fun d => d.parameters.length) = some 2 := by decide +kernel
theorem hdX3_signOfArea : yX3_signOfArea.cls = RX3 ∧ yX3_signOfArea.cls ≠ "java/lang/invoke/MethodHandle" ∧ yX3_signOfArea.cls ≠ "java/lang/invoke/VarHandle" ∧ (parseMethodDescriptor yX3_signOfArea.desc).map (fun d => d.parameters.length) = some 1 := by decide +kernel
theorem hdX3_signOfAreaN : yX3_signOfArea.cls ≠ "java/lang/invoke/MethodHandle" ∧ yX3_signOfArea.cls ≠ "java/lang/invoke/VarHandle" ∧ (parseMethodDescriptor yX3_signOfArea.desc).map (fun d => d.parameters.length) = some 1 := hdX3_signOfArea.2
theorem hdX3_lookAnew : yX3_lookAnew.cls = RX3 ∧ yX3_lookAnew.cls ≠ "java/lang/invoke/MethodHandle" ∧ yX3_lookAnew.cls ≠ "java/lang/invoke/VarHandle" ∧ (parseMethodDescriptor yX3_lookAnew.desc).map (fun d => d.parameters.length) = some 0 := by decide +kernel
theorem hdX3_lookAnewN : yX3_lookAnew.cls ≠ "java/lang/invoke/MethodHandle" ∧ yX3_lookAnew.cls ≠ "java/lang/invoke/VarHandle" ∧ (parseMethodDescriptor yX3_lookAnew.desc).map (fun d => d.parameters.length) = some 0 := hdX3_lookAnew.2
theorem hdX7_pixelAt : yX7_pixelAt.cls ≠ "java/lang/invoke/MethodHandle" ∧ yX7_pixelAt.cls ≠ "java/lang/invoke/VarHandle" ∧ (parseMethodDescriptor yX7_pixelAt.desc).map (fun d => d.parameters.length) = some 2 := by decide +kernel
theorem hdX3_parityAt : yX3_parityAt.cls = RX3 ∧ yX3_parityAt.cls ≠ "java/lang/invoke/MethodHandle" ∧ yX3_parityAt.cls ≠ "java/lang/invoke/VarHandle" ∧ (parseMethodDescriptor yX3_parityAt.desc).map (fun d => d.parameters.length) = some 2 := by decide +kernel
theorem hdX3_parityAtN : yX3_parityAt.cls ≠ "java/lang/invoke/MethodHandle" ∧ yX3_parityAt.cls ≠ "java/lang/invoke/VarHandle" ∧ (parseMethodDescriptor yX3_parityAt.desc).map (fun d => d.parameters.length) = some 2 := hdX3_parityAt.2
theorem hdX3_isCritical : yX3_isCritical.cls = RX3 ∧ yX3_isCritical.cls ≠ "java/lang/invoke/MethodHandle" ∧ yX3_isCritical.cls ≠ "java/lang/invoke/VarHandle" ∧ (parseMethodDescriptor yX3_isCritical.desc).map (fun d => d.parameters.length) = some 2 := by decide +kernel
theorem hdX3_isCriticalN : yX3_isCritical.cls ≠ "java/lang/invoke/MethodHandle" ∧ yX3_isCritical.cls ≠ "java/lang/invoke/VarHandle" ∧ (parseMethodDescriptor yX3_isCritical.desc).map (fun d => d.parameters.length) = some 2 := hdX3_isCritical.2
theorem hdX3_countOfParity : yX3_countOfParity.cls = RX3 ∧ yX3_countOfParity.cls ≠ "java/lang/invoke/MethodHandle" ∧ yX3_countOfParity.cls ≠ "java/lang/invoke/VarHandle" ∧ (parseMethodDescriptor yX3_countOfParity.desc).map (fun d => d.parameters.length) = some 1 := by decide +kernel
theorem hdX3_countOfParityN : yX3_countOfParity.cls ≠ "java/lang/invoke/MethodHandle" ∧ yX3_countOfParity.cls ≠ "java/lang/invoke/VarHandle" ∧ (parseMethodDescriptor yX3_countOfParity.desc).map (fun d => d.parameters.length) = some 1 := hdX3_countOfParity.2
theorem hdJ6_signum_0f7a4 : yJ6_signum_0f7a4.cls ≠ "java/lang/invoke/MethodHandle" ∧ yJ6_signum_0f7a4.cls ≠ "java/lang/invoke/VarHandle" ∧ (parseMethodDescriptor yJ6_signum_0f7a4.desc).map (fun d => d.parameters.length) = some 1 := by decide +kernel
theorem hdJ9_abs_0f7a4 : yJ9_abs_0f7a4.cls ≠ "java/lang/invoke/MethodHandle" ∧ yJ9_abs_0f7a4.cls ≠ "java/lang/invoke/VarHandle" ∧ (parseMethodDescriptor yJ9_abs_0f7a4.desc).map (fun d => d.parameters.length) = some 1 := by decide +kernel
theorem hdX3_delayAlong : yX3_delayAlong.cls ≠ "java/lang/invoke/MethodHandle" ∧ yX3_delayAlong.cls ≠ "java/lang/invoke/VarHandle" ∧ (parseMethodDescriptor yX3_delayAlong.desc).map (fun d => d.parameters.length) = some 5 := by decide +kernel
theorem hdX3_delayOnWay : yX3_delayOnWay.cls = RX3 ∧ yX3_delayOnWay.cls ≠ "java/lang/invoke/MethodHandle" ∧ yX3_delayOnWay.cls ≠ "java/lang/invoke/VarHandle" ∧ (parseMethodDescriptor yX3_delayOnWay.desc).map (fun d => d.parameters.length) = some 6 := by decide +kernel
theorem hdX3_delayOnWayN : yX3_delayOnWay.cls ≠ "java/lang/invoke/MethodHandle" ∧ yX3_delayOnWay.cls ≠ "java/lang/invoke/VarHandle" ∧ (parseMethodDescriptor yX3_delayOnWay.desc).map (fun d => d.parameters.length) = some 6 := hdX3_delayOnWay.2
theorem hdX3_doubledStretchAt : yX3_doubledStretchAt.cls = RX3 ∧ yX3_doubledStretchAt.cls ≠ "java/lang/invoke/MethodHandle" ∧ yX3_doubledStretchAt.cls ≠ "java/lang/invoke/VarHandle" ∧ (parseMethodDescriptor yX3_doubledStretchAt.desc).map (fun d => d.parameters.length) = some 2 := by decide +kernel
theorem hdX3_doubledStretchAtN : yX3_doubledStretchAt.cls ≠ "java/lang/invoke/MethodHandle" ∧ yX3_doubledStretchAt.cls ≠ "java/lang/invoke/VarHandle" ∧ (parseMethodDescriptor yX3_doubledStretchAt.desc).map (fun d => d.parameters.length) = some 2 := hdX3_doubledStretchAt.2
theorem hdJ9_floorDiv_f86c9 : yJ9_floorDiv_f86c9.cls ≠ "java/lang/invoke/MethodHandle" ∧ yJ9_floorDiv_f86c9.cls ≠ "java/lang/invoke/VarHandle" ∧ (parseMethodDescriptor yJ9_floorDiv_f86c9.desc).map (fun d => d.parameters.length) = some 2 := by decide +kernel
theorem hdX3_stretchOf : yX3_stretchOf.cls = RX3 ∧ yX3_stretchOf.cls ≠ "java/lang/invoke/MethodHandle" ∧ yX3_stretchOf.cls ≠ "java/lang/invoke/VarHandle" ∧ (parseMethodDescriptor yX3_stretchOf.desc).map (fun d => d.parameters.length) = some 1 := by decide +kernel
theorem hdX3_stretchOfN : yX3_stretchOf.cls ≠ "java/lang/invoke/MethodHandle" ∧ yX3_stretchOf.cls ≠ "java/lang/invoke/VarHandle" ∧ (parseMethodDescriptor yX3_stretchOf.desc).map (fun d => d.parameters.length) = some 1 := hdX3_stretchOf.2
theorem hdX4_greatest : yX4_greatest.cls = RX4 ∧ yX4_greatest.cls ≠ "java/lang/invoke/MethodHandle" ∧ yX4_greatest.cls ≠ "java/lang/invoke/VarHandle" ∧ (parseMethodDescriptor yX4_greatest.desc).map (fun d => d.parameters.length) = some 0 := by decide +kernel
theorem hdX4_greatestN : yX4_greatest.cls ≠ "java/lang/invoke/MethodHandle" ∧ yX4_greatest.cls ≠ "java/lang/invoke/VarHandle" ∧ (parseMethodDescriptor yX4_greatest.desc).map (fun d => d.parameters.length) = some 0 := hdX4_greatest.2
theorem hdX5_add : yX5_add.cls = RX5 ∧ yX5_add.cls ≠ "java/lang/invoke/MethodHandle" ∧ yX5_add.cls ≠ "java/lang/invoke/VarHandle" ∧ (parseMethodDescriptor yX5_add.desc).map (fun d => d.parameters.length) = some 1 := by decide +kernel
theorem hdX5_addN : yX5_add.cls ≠ "java/lang/invoke/MethodHandle" ∧ yX5_add.cls ≠ "java/lang/invoke/VarHandle" ∧ (parseMethodDescriptor yX5_add.desc).map (fun d => d.parameters.length) = some 1 := hdX5_add.2
theorem hdX5_takeSign : yX5_takeSign.cls = RX5 ∧ yX5_takeSign.cls ≠ "java/lang/invoke/MethodHandle" ∧ yX5_takeSign.cls ≠ "java/lang/invoke/VarHandle" ∧ (parseMethodDescriptor yX5_takeSign.desc).map (fun d => d.parameters.length) = some 1 := by decide +kernel
theorem hdX5_takeSignN : yX5_takeSign.cls ≠ "java/lang/invoke/MethodHandle" ∧ yX5_takeSign.cls ≠ "java/lang/invoke/VarHandle" ∧ (parseMethodDescriptor yX5_takeSign.desc).map (fun d => d.parameters.length) = some 1 := hdX5_takeSign.2
theorem hdX5_takeKind : yX5_takeKind.cls = RX5 ∧ yX5_takeKind.cls ≠ "java/lang/invoke/MethodHandle" ∧ yX5_takeKind.cls ≠ "java/lang/invoke/VarHandle" ∧ (parseMethodDescriptor yX5_takeKind.desc).map (fun d => d.parameters.length) = some 0 := by decide +kernel
theorem hdX5_takeKindN : yX5_takeKind.cls ≠ "java/lang/invoke/MethodHandle" ∧ yX5_takeKind.cls ≠ "java/lang/invoke/VarHandle" ∧ (parseMethodDescriptor yX5_takeKind.desc).map (fun d => d.parameters.length) = some 0 := hdX5_takeKind.2
theorem hdX7_within : yX7_within.cls ≠ "java/lang/invoke/MethodHandle" ∧ yX7_within.cls ≠ "java/lang/invoke/VarHandle" ∧ (parseMethodDescriptor yX7_within.desc).map (fun d => d.parameters.length) = some 3 := by decide +kernel
theorem hdX5_takeNumber : yX5_takeNumber.cls = RX5 ∧ yX5_takeNumber.cls ≠ "java/lang/invoke/MethodHandle" ∧ yX5_takeNumber.cls ≠ "java/lang/invoke/VarHandle" ∧ (parseMethodDescriptor yX5_takeNumber.desc).map (fun d => d.parameters.length) = some 2 := by decide +kernel
theorem hdX5_takeNumberN : yX5_takeNumber.cls ≠ "java/lang/invoke/MethodHandle" ∧ yX5_takeNumber.cls ≠ "java/lang/invoke/VarHandle" ∧ (parseMethodDescriptor yX5_takeNumber.desc).map (fun d => d.parameters.length) = some 2 := hdX5_takeNumber.2
theorem hdX5_takeItem : yX5_takeItem.cls = RX5 ∧ yX5_takeItem.cls ≠ "java/lang/invoke/MethodHandle" ∧ yX5_takeItem.cls ≠ "java/lang/invoke/VarHandle" ∧ (parseMethodDescriptor yX5_takeItem.desc).map (fun d => d.parameters.length) = some 1 := by decide +kernel
theorem hdX5_takeItemN : yX5_takeItem.cls ≠ "java/lang/invoke/MethodHandle" ∧ yX5_takeItem.cls ≠ "java/lang/invoke/VarHandle" ∧ (parseMethodDescriptor yX5_takeItem.desc).map (fun d => d.parameters.length) = some 1 := hdX5_takeItem.2
theorem hdX5_tellBodies : yX5_tellBodies.cls = RX5 ∧ yX5_tellBodies.cls ≠ "java/lang/invoke/MethodHandle" ∧ yX5_tellBodies.cls ≠ "java/lang/invoke/VarHandle" ∧ (parseMethodDescriptor yX5_tellBodies.desc).map (fun d => d.parameters.length) = some 0 := by decide +kernel
theorem hdX5_tellBodiesN : yX5_tellBodies.cls ≠ "java/lang/invoke/MethodHandle" ∧ yX5_tellBodies.cls ≠ "java/lang/invoke/VarHandle" ∧ (parseMethodDescriptor yX5_tellBodies.desc).map (fun d => d.parameters.length) = some 0 := hdX5_tellBodies.2
theorem hdX6_addPair : yX6_addPair.cls = RX6 ∧ yX6_addPair.cls ≠ "java/lang/invoke/MethodHandle" ∧ yX6_addPair.cls ≠ "java/lang/invoke/VarHandle" ∧ (parseMethodDescriptor yX6_addPair.desc).map (fun d => d.parameters.length) = some 4 := by decide +kernel
theorem hdX6_addPairN : yX6_addPair.cls ≠ "java/lang/invoke/MethodHandle" ∧ yX6_addPair.cls ≠ "java/lang/invoke/VarHandle" ∧ (parseMethodDescriptor yX6_addPair.desc).map (fun d => d.parameters.length) = some 4 := hdX6_addPair.2
theorem hdX6_addSpot : yX6_addSpot.cls = RX6 ∧ yX6_addSpot.cls ≠ "java/lang/invoke/MethodHandle" ∧ yX6_addSpot.cls ≠ "java/lang/invoke/VarHandle" ∧ (parseMethodDescriptor yX6_addSpot.desc).map (fun d => d.parameters.length) = some 2 := by decide +kernel
theorem hdX6_addSpotN : yX6_addSpot.cls ≠ "java/lang/invoke/MethodHandle" ∧ yX6_addSpot.cls ≠ "java/lang/invoke/VarHandle" ∧ (parseMethodDescriptor yX6_addSpot.desc).map (fun d => d.parameters.length) = some 2 := hdX6_addSpot.2
theorem hdX6_startRow : yX6_startRow.cls = RX6 ∧ yX6_startRow.cls ≠ "java/lang/invoke/MethodHandle" ∧ yX6_startRow.cls ≠ "java/lang/invoke/VarHandle" ∧ (parseMethodDescriptor yX6_startRow.desc).map (fun d => d.parameters.length) = some 1 := by decide +kernel
theorem hdX6_startRowN : yX6_startRow.cls ≠ "java/lang/invoke/MethodHandle" ∧ yX6_startRow.cls ≠ "java/lang/invoke/VarHandle" ∧ (parseMethodDescriptor yX6_startRow.desc).map (fun d => d.parameters.length) = some 1 := hdX6_startRow.2
theorem hdX6_addToRow : yX6_addToRow.cls = RX6 ∧ yX6_addToRow.cls ≠ "java/lang/invoke/MethodHandle" ∧ yX6_addToRow.cls ≠ "java/lang/invoke/VarHandle" ∧ (parseMethodDescriptor yX6_addToRow.desc).map (fun d => d.parameters.length) = some 5 := by decide +kernel
theorem hdX6_addToRowN : yX6_addToRow.cls ≠ "java/lang/invoke/MethodHandle" ∧ yX6_addToRow.cls ≠ "java/lang/invoke/VarHandle" ∧ (parseMethodDescriptor yX6_addToRow.desc).map (fun d => d.parameters.length) = some 5 := hdX6_addToRow.2
theorem hdX6_load : yX6_load.cls = RX6 ∧ yX6_load.cls ≠ "java/lang/invoke/MethodHandle" ∧ yX6_load.cls ≠ "java/lang/invoke/VarHandle" ∧ (parseMethodDescriptor yX6_load.desc).map (fun d => d.parameters.length) = some 2 := by decide +kernel
theorem hdX6_loadN : yX6_load.cls ≠ "java/lang/invoke/MethodHandle" ∧ yX6_load.cls ≠ "java/lang/invoke/VarHandle" ∧ (parseMethodDescriptor yX6_load.desc).map (fun d => d.parameters.length) = some 2 := hdX6_load.2
theorem hdX6_aim : yX6_aim.cls = RX6 ∧ yX6_aim.cls ≠ "java/lang/invoke/MethodHandle" ∧ yX6_aim.cls ≠ "java/lang/invoke/VarHandle" ∧ (parseMethodDescriptor yX6_aim.desc).map (fun d => d.parameters.length) = some 1 := by decide +kernel
theorem hdX6_aimN : yX6_aim.cls ≠ "java/lang/invoke/MethodHandle" ∧ yX6_aim.cls ≠ "java/lang/invoke/VarHandle" ∧ (parseMethodDescriptor yX6_aim.desc).map (fun d => d.parameters.length) = some 1 := hdX6_aim.2
theorem hdX6_shownBy : yX6_shownBy.cls = RX6 ∧ yX6_shownBy.cls ≠ "java/lang/invoke/MethodHandle" ∧ yX6_shownBy.cls ≠ "java/lang/invoke/VarHandle" ∧ (parseMethodDescriptor yX6_shownBy.desc).map (fun d => d.parameters.length) = some 1 := by decide +kernel
theorem hdX6_shownByN : yX6_shownBy.cls ≠ "java/lang/invoke/MethodHandle" ∧ yX6_shownBy.cls ≠ "java/lang/invoke/VarHandle" ∧ (parseMethodDescriptor yX6_shownBy.desc).map (fun d => d.parameters.length) = some 1 := hdX6_shownBy.2
theorem hdX6_holds : yX6_holds.cls = RX6 ∧ yX6_holds.cls ≠ "java/lang/invoke/MethodHandle" ∧ yX6_holds.cls ≠ "java/lang/invoke/VarHandle" ∧ (parseMethodDescriptor yX6_holds.desc).map (fun d => d.parameters.length) = some 1 := by decide +kernel
theorem hdX6_holdsN : yX6_holds.cls ≠ "java/lang/invoke/MethodHandle" ∧ yX6_holds.cls ≠ "java/lang/invoke/VarHandle" ∧ (parseMethodDescriptor yX6_holds.desc).map (fun d => d.parameters.length) = some 1 := hdX6_holds.2
theorem hdX6_gather : yX6_gather.cls = RX6 ∧ yX6_gather.cls ≠ "java/lang/invoke/MethodHandle" ∧ yX6_gather.cls ≠ "java/lang/invoke/VarHandle" ∧ (parseMethodDescriptor yX6_gather.desc).map (fun d => d.parameters.length) = some 0 := by decide +kernel
theorem hdX6_gatherN : yX6_gather.cls ≠ "java/lang/invoke/MethodHandle" ∧ yX6_gather.cls ≠ "java/lang/invoke/VarHandle" ∧ (parseMethodDescriptor yX6_gather.desc).map (fun d => d.parameters.length) = some 0 := hdX6_gather.2
theorem hdX6_weightOf : yX6_weightOf.cls = RX6 ∧ yX6_weightOf.cls ≠ "java/lang/invoke/MethodHandle" ∧ yX6_weightOf.cls ≠ "java/lang/invoke/VarHandle" ∧ (parseMethodDescriptor yX6_weightOf.desc).map (fun d => d.parameters.length) = some 2 := by decide +kernel
theorem hdX6_weightOfN : yX6_weightOf.cls ≠ "java/lang/invoke/MethodHandle" ∧ yX6_weightOf.cls ≠ "java/lang/invoke/VarHandle" ∧ (parseMethodDescriptor yX6_weightOf.desc).map (fun d => d.parameters.length) = some 2 := hdX6_weightOf.2
theorem hdX6_least : yX6_least.cls = RX6 ∧ yX6_least.cls ≠ "java/lang/invoke/MethodHandle" ∧ yX6_least.cls ≠ "java/lang/invoke/VarHandle" ∧ (parseMethodDescriptor yX6_least.desc).map (fun d => d.parameters.length) = some 0 := by decide +kernel
theorem hdX6_leastN : yX6_least.cls ≠ "java/lang/invoke/MethodHandle" ∧ yX6_least.cls ≠ "java/lang/invoke/VarHandle" ∧ (parseMethodDescriptor yX6_least.desc).map (fun d => d.parameters.length) = some 0 := hdX6_least.2
theorem hdX6_sureWeight : yX6_sureWeight.cls = RX6 ∧ yX6_sureWeight.cls ≠ "java/lang/invoke/MethodHandle" ∧ yX6_sureWeight.cls ≠ "java/lang/invoke/VarHandle" ∧ (parseMethodDescriptor yX6_sureWeight.desc).map (fun d => d.parameters.length) = some 1 := by decide +kernel
theorem hdX6_sureWeightN : yX6_sureWeight.cls ≠ "java/lang/invoke/MethodHandle" ∧ yX6_sureWeight.cls ≠ "java/lang/invoke/VarHandle" ∧ (parseMethodDescriptor yX6_sureWeight.desc).map (fun d => d.parameters.length) = some 1 := hdX6_sureWeight.2
theorem hdX6_splitHeaps : yX6_splitHeaps.cls = RX6 ∧ yX6_splitHeaps.cls ≠ "java/lang/invoke/MethodHandle" ∧ yX6_splitHeaps.cls ≠ "java/lang/invoke/VarHandle" ∧ (parseMethodDescriptor yX6_splitHeaps.desc).map (fun d => d.parameters.length) = some 1 := by decide +kernel
theorem hdX6_splitHeapsN : yX6_splitHeaps.cls ≠ "java/lang/invoke/MethodHandle" ∧ yX6_splitHeaps.cls ≠ "java/lang/invoke/VarHandle" ∧ (parseMethodDescriptor yX6_splitHeaps.desc).map (fun d => d.parameters.length) = some 1 := hdX6_splitHeaps.2
theorem hdX6_twins : yX6_twins.cls = RX6 ∧ yX6_twins.cls ≠ "java/lang/invoke/MethodHandle" ∧ yX6_twins.cls ≠ "java/lang/invoke/VarHandle" ∧ (parseMethodDescriptor yX6_twins.desc).map (fun d => d.parameters.length) = some 0 := by decide +kernel
theorem hdX6_twinsN : yX6_twins.cls ≠ "java/lang/invoke/MethodHandle" ∧ yX6_twins.cls ≠ "java/lang/invoke/VarHandle" ∧ (parseMethodDescriptor yX6_twins.desc).map (fun d => d.parameters.length) = some 0 := hdX6_twins.2
theorem hdX6_nextLook : yX6_nextLook.cls = RX6 ∧ yX6_nextLook.cls ≠ "java/lang/invoke/MethodHandle" ∧ yX6_nextLook.cls ≠ "java/lang/invoke/VarHandle" ∧ (parseMethodDescriptor yX6_nextLook.desc).map (fun d => d.parameters.length) = some 0 := by decide +kernel
theorem hdX6_nextLookN : yX6_nextLook.cls ≠ "java/lang/invoke/MethodHandle" ∧ yX6_nextLook.cls ≠ "java/lang/invoke/VarHandle" ∧ (parseMethodDescriptor yX6_nextLook.desc).map (fun d => d.parameters.length) = some 0 := hdX6_nextLook.2
theorem hdX7_isFeature : yX7_isFeature.cls ≠ "java/lang/invoke/MethodHandle" ∧ yX7_isFeature.cls ≠ "java/lang/invoke/VarHandle" ∧ (parseMethodDescriptor yX7_isFeature.desc).map (fun d => d.parameters.length) = some 2 := by decide +kernel
theorem hdX7_lensChanges : yX7_lensChanges.cls = RX7 ∧ yX7_lensChanges.cls ≠ "java/lang/invoke/MethodHandle" ∧ yX7_lensChanges.cls ≠ "java/lang/invoke/VarHandle" ∧ (parseMethodDescriptor yX7_lensChanges.desc).map (fun d => d.parameters.length) = some 0 := by decide +kernel
theorem hdX7_lensChangesN : yX7_lensChanges.cls ≠ "java/lang/invoke/MethodHandle" ∧ yX7_lensChanges.cls ≠ "java/lang/invoke/VarHandle" ∧ (parseMethodDescriptor yX7_lensChanges.desc).map (fun d => d.parameters.length) = some 0 := hdX7_lensChanges.2
theorem hdX7_body : yX7_body.cls = RX7 ∧ yX7_body.cls ≠ "java/lang/invoke/MethodHandle" ∧ yX7_body.cls ≠ "java/lang/invoke/VarHandle" ∧ (parseMethodDescriptor yX7_body.desc).map (fun d => d.parameters.length) = some 4 := by decide +kernel
theorem hdX7_bodyN : yX7_body.cls ≠ "java/lang/invoke/MethodHandle" ∧ yX7_body.cls ≠ "java/lang/invoke/VarHandle" ∧ (parseMethodDescriptor yX7_body.desc).map (fun d => d.parameters.length) = some 4 := hdX7_body.2
theorem hdX7_isBody : yX7_isBody.cls = RX7 ∧ yX7_isBody.cls ≠ "java/lang/invoke/MethodHandle" ∧ yX7_isBody.cls ≠ "java/lang/invoke/VarHandle" ∧ (parseMethodDescriptor yX7_isBody.desc).map (fun d => d.parameters.length) = some 1 := by decide +kernel
theorem hdX7_isBodyN : yX7_isBody.cls ≠ "java/lang/invoke/MethodHandle" ∧ yX7_isBody.cls ≠ "java/lang/invoke/VarHandle" ∧ (parseMethodDescriptor yX7_isBody.desc).map (fun d => d.parameters.length) = some 1 := hdX7_isBody.2
theorem hdX7_set : yX7_set.cls = RX7 ∧ yX7_set.cls ≠ "java/lang/invoke/MethodHandle" ∧ yX7_set.cls ≠ "java/lang/invoke/VarHandle" ∧ (parseMethodDescriptor yX7_set.desc).map (fun d => d.parameters.length) = some 3 := by decide +kernel
theorem hdX7_setN : yX7_set.cls ≠ "java/lang/invoke/MethodHandle" ∧ yX7_set.cls ≠ "java/lang/invoke/VarHandle" ∧ (parseMethodDescriptor yX7_set.desc).map (fun d => d.parameters.length) = some 3 := hdX7_set.2
theorem hdX7_drop : yX7_drop.cls = RX7 ∧ yX7_drop.cls ≠ "java/lang/invoke/MethodHandle" ∧ yX7_drop.cls ≠ "java/lang/invoke/VarHandle" ∧ (parseMethodDescriptor yX7_drop.desc).map (fun d => d.parameters.length) = some 0 := by decide +kernel
theorem hdX7_dropN : yX7_drop.cls ≠ "java/lang/invoke/MethodHandle" ∧ yX7_drop.cls ≠ "java/lang/invoke/VarHandle" ∧ (parseMethodDescriptor yX7_drop.desc).map (fun d => d.parameters.length) = some 0 := hdX7_drop.2
theorem hdX7_field : yX7_field.cls = RX7 ∧ yX7_field.cls ≠ "java/lang/invoke/MethodHandle" ∧ yX7_field.cls ≠ "java/lang/invoke/VarHandle" ∧ (parseMethodDescriptor yX7_field.desc).map (fun d => d.parameters.length) = some 2 := by decide +kernel
theorem hdX7_fieldN : yX7_field.cls ≠ "java/lang/invoke/MethodHandle" ∧ yX7_field.cls ≠ "java/lang/invoke/VarHandle" ∧ (parseMethodDescriptor yX7_field.desc).map (fun d => d.parameters.length) = some 2 := hdX7_field.2
theorem hdX7_isWithin : yX7_isWithin.cls ≠ "java/lang/invoke/MethodHandle" ∧ yX7_isWithin.cls ≠ "java/lang/invoke/VarHandle" ∧ (parseMethodDescriptor yX7_isWithin.desc).map (fun d => d.parameters.length) = some 3 := by decide +kernel
theorem hdX7_isAsked : yX7_isAsked.cls ≠ "java/lang/invoke/MethodHandle" ∧ yX7_isAsked.cls ≠ "java/lang/invoke/VarHandle" ∧ (parseMethodDescriptor yX7_isAsked.desc).map (fun d => d.parameters.length) = some 3 := by decide +kernel
theorem hdX7_bend : yX7_bend.cls = RX7 ∧ yX7_bend.cls ≠ "java/lang/invoke/MethodHandle" ∧ yX7_bend.cls ≠ "java/lang/invoke/VarHandle" ∧ (parseMethodDescriptor yX7_bend.desc).map (fun d => d.parameters.length) = some 5 := by decide +kernel
theorem hdX7_bendN : yX7_bend.cls ≠ "java/lang/invoke/MethodHandle" ∧ yX7_bend.cls ≠ "java/lang/invoke/VarHandle" ∧ (parseMethodDescriptor yX7_bend.desc).map (fun d => d.parameters.length) = some 5 := hdX7_bend.2
theorem hdX7_from : yX7_from.cls = RX7 ∧ yX7_from.cls ≠ "java/lang/invoke/MethodHandle" ∧ yX7_from.cls ≠ "java/lang/invoke/VarHandle" ∧ (parseMethodDescriptor yX7_from.desc).map (fun d => d.parameters.length) = some 3 := by decide +kernel
theorem hdX7_fromN : yX7_from.cls ≠ "java/lang/invoke/MethodHandle" ∧ yX7_from.cls ≠ "java/lang/invoke/VarHandle" ∧ (parseMethodDescriptor yX7_from.desc).map (fun d => d.parameters.length) = some 3 := hdX7_from.2
theorem hdX7_cell : yX7_cell.cls = RX7 ∧ yX7_cell.cls ≠ "java/lang/invoke/MethodHandle" ∧ yX7_cell.cls ≠ "java/lang/invoke/VarHandle" ∧ (parseMethodDescriptor yX7_cell.desc).map (fun d => d.parameters.length) = some 3 := by decide +kernel
theorem hdX7_cellN : yX7_cell.cls ≠ "java/lang/invoke/MethodHandle" ∧ yX7_cell.cls ≠ "java/lang/invoke/VarHandle" ∧ (parseMethodDescriptor yX7_cell.desc).map (fun d => d.parameters.length) = some 3 := hdX7_cell.2
theorem hdX7_markPictures : yX7_markPictures.cls = RX7 ∧ yX7_markPictures.cls ≠ "java/lang/invoke/MethodHandle" ∧ yX7_markPictures.cls ≠ "java/lang/invoke/VarHandle" ∧ (parseMethodDescriptor yX7_markPictures.desc).map (fun d => d.parameters.length) = some 2 := by decide +kernel
theorem hdX7_markPicturesN : yX7_markPictures.cls ≠ "java/lang/invoke/MethodHandle" ∧ yX7_markPictures.cls ≠ "java/lang/invoke/VarHandle" ∧ (parseMethodDescriptor yX7_markPictures.desc).map (fun d => d.parameters.length) = some 2 := hdX7_markPictures.2
theorem hdX7_pictures : yX7_pictures.cls = RX7 ∧ yX7_pictures.cls ≠ "java/lang/invoke/MethodHandle" ∧ yX7_pictures.cls ≠ "java/lang/invoke/VarHandle" ∧ (parseMethodDescriptor yX7_pictures.desc).map (fun d => d.parameters.length) = some 3 := by decide +kernel
theorem hdX7_picturesN : yX7_pictures.cls ≠ "java/lang/invoke/MethodHandle" ∧ yX7_pictures.cls ≠ "java/lang/invoke/VarHandle" ∧ (parseMethodDescriptor yX7_pictures.desc).map (fun d => d.parameters.length) = some 3 := hdX7_pictures.2
theorem hdX7_group : yX7_group.cls = RX7 ∧ yX7_group.cls ≠ "java/lang/invoke/MethodHandle" ∧ yX7_group.cls ≠ "java/lang/invoke/VarHandle" ∧ (parseMethodDescriptor yX7_group.desc).map (fun d => d.parameters.length) = some 4 := by decide +kernel
theorem hdX7_groupN : yX7_group.cls ≠ "java/lang/invoke/MethodHandle" ∧ yX7_group.cls ≠ "java/lang/invoke/VarHandle" ∧ (parseMethodDescriptor yX7_group.desc).map (fun d => d.parameters.length) = some 4 := hdX7_group.2
theorem hdX7_parity : yX7_parity.cls = RX7 ∧ yX7_parity.cls ≠ "java/lang/invoke/MethodHandle" ∧ yX7_parity.cls ≠ "java/lang/invoke/VarHandle" ∧ (parseMethodDescriptor yX7_parity.desc).map (fun d => d.parameters.length) = some 2 := by decide +kernel
theorem hdX7_parityN : yX7_parity.cls ≠ "java/lang/invoke/MethodHandle" ∧ yX7_parity.cls ≠ "java/lang/invoke/VarHandle" ∧ (parseMethodDescriptor yX7_parity.desc).map (fun d => d.parameters.length) = some 2 := hdX7_parity.2
theorem hdX7_critical : yX7_critical.cls = RX7 ∧ yX7_critical.cls ≠ "java/lang/invoke/MethodHandle" ∧ yX7_critical.cls ≠ "java/lang/invoke/VarHandle" ∧ (parseMethodDescriptor yX7_critical.desc).map (fun d => d.parameters.length) = some 2 := by decide +kernel
theorem hdX7_criticalN : yX7_critical.cls ≠ "java/lang/invoke/MethodHandle" ∧ yX7_critical.cls ≠ "java/lang/invoke/VarHandle" ∧ (parseMethodDescriptor yX7_critical.desc).map (fun d => d.parameters.length) = some 2 := hdX7_critical.2
theorem hdX7_markCriticals : yX7_markCriticals.cls = RX7 ∧ yX7_markCriticals.cls ≠ "java/lang/invoke/MethodHandle" ∧ yX7_markCriticals.cls ≠ "java/lang/invoke/VarHandle" ∧ (parseMethodDescriptor yX7_markCriticals.desc).map (fun d => d.parameters.length) = some 0 := by decide +kernel
theorem hdX7_markCriticalsN : yX7_markCriticals.cls ≠ "java/lang/invoke/MethodHandle" ∧ yX7_markCriticals.cls ≠ "java/lang/invoke/VarHandle" ∧ (parseMethodDescriptor yX7_markCriticals.desc).map (fun d => d.parameters.length) = some 0 := hdX7_markCriticals.2
theorem hdX7_rings : yX7_rings.cls = RX7 ∧ yX7_rings.cls ≠ "java/lang/invoke/MethodHandle" ∧ yX7_rings.cls ≠ "java/lang/invoke/VarHandle" ∧ (parseMethodDescriptor yX7_rings.desc).map (fun d => d.parameters.length) = some 1 := by decide +kernel
theorem hdX7_ringsN : yX7_rings.cls ≠ "java/lang/invoke/MethodHandle" ∧ yX7_rings.cls ≠ "java/lang/invoke/VarHandle" ∧ (parseMethodDescriptor yX7_rings.desc).map (fun d => d.parameters.length) = some 1 := hdX7_rings.2
theorem hdX7_brightest : yX7_brightest.cls = RX7 ∧ yX7_brightest.cls ≠ "java/lang/invoke/MethodHandle" ∧ yX7_brightest.cls ≠ "java/lang/invoke/VarHandle" ∧ (parseMethodDescriptor yX7_brightest.desc).map (fun d => d.parameters.length) = some 1 := by decide +kernel
theorem hdX7_brightestN : yX7_brightest.cls ≠ "java/lang/invoke/MethodHandle" ∧ yX7_brightest.cls ≠ "java/lang/invoke/VarHandle" ∧ (parseMethodDescriptor yX7_brightest.desc).map (fun d => d.parameters.length) = some 1 := hdX7_brightest.2
theorem hdX7_delay : yX7_delay.cls = RX7 ∧ yX7_delay.cls ≠ "java/lang/invoke/MethodHandle" ∧ yX7_delay.cls ≠ "java/lang/invoke/VarHandle" ∧ (parseMethodDescriptor yX7_delay.desc).map (fun d => d.parameters.length) = some 6 := by decide +kernel
theorem hdX7_delayN : yX7_delay.cls ≠ "java/lang/invoke/MethodHandle" ∧ yX7_delay.cls ≠ "java/lang/invoke/VarHandle" ∧ (parseMethodDescriptor yX7_delay.desc).map (fun d => d.parameters.length) = some 6 := hdX7_delay.2
theorem hdX7_stretch : yX7_stretch.cls = RX7 ∧ yX7_stretch.cls ≠ "java/lang/invoke/MethodHandle" ∧ yX7_stretch.cls ≠ "java/lang/invoke/VarHandle" ∧ (parseMethodDescriptor yX7_stretch.desc).map (fun d => d.parameters.length) = some 1 := by decide +kernel
theorem hdX7_stretchN : yX7_stretch.cls ≠ "java/lang/invoke/MethodHandle" ∧ yX7_stretch.cls ≠ "java/lang/invoke/VarHandle" ∧ (parseMethodDescriptor yX7_stretch.desc).map (fun d => d.parameters.length) = some 1 := hdX7_stretch.2
theorem hdX7_type : yX7_type.cls = RX7 ∧ yX7_type.cls ≠ "java/lang/invoke/MethodHandle" ∧ yX7_type.cls ≠ "java/lang/invoke/VarHandle" ∧ (parseMethodDescriptor yX7_type.desc).map (fun d => d.parameters.length) = some 2 := by decide +kernel
theorem hdX7_typeN : yX7_type.cls ≠ "java/lang/invoke/MethodHandle" ∧ yX7_type.cls ≠ "java/lang/invoke/VarHandle" ∧ (parseMethodDescriptor yX7_type.desc).map (fun d => d.parameters.length) = some 2 := hdX7_type.2
theorem hdX7_clear : yX7_clear.cls = RX7 ∧ yX7_clear.cls ≠ "java/lang/invoke/MethodHandle" ∧ yX7_clear.cls ≠ "java/lang/invoke/VarHandle" ∧ (parseMethodDescriptor yX7_clear.desc).map (fun d => d.parameters.length) = some 0 := by decide +kernel
theorem hdX7_clearN : yX7_clear.cls ≠ "java/lang/invoke/MethodHandle" ∧ yX7_clear.cls ≠ "java/lang/invoke/VarHandle" ∧ (parseMethodDescriptor yX7_clear.desc).map (fun d => d.parameters.length) = some 0 := hdX7_clear.2
theorem hdX7_read : yX7_read.cls = RX7 ∧ yX7_read.cls ≠ "java/lang/invoke/MethodHandle" ∧ yX7_read.cls ≠ "java/lang/invoke/VarHandle" ∧ (parseMethodDescriptor yX7_read.desc).map (fun d => d.parameters.length) = some 0 := by decide +kernel
theorem hdX7_readN : yX7_read.cls ≠ "java/lang/invoke/MethodHandle" ∧ yX7_read.cls ≠ "java/lang/invoke/VarHandle" ∧ (parseMethodDescriptor yX7_read.desc).map (fun d => d.parameters.length) = some 0 := hdX7_read.2
theorem hdX7_pair : yX7_pair.cls = RX7 ∧ yX7_pair.cls ≠ "java/lang/invoke/MethodHandle" ∧ yX7_pair.cls ≠ "java/lang/invoke/VarHandle" ∧ (parseMethodDescriptor yX7_pair.desc).map (fun d => d.parameters.length) = some 4 := by decide +kernel
theorem hdX7_pairN : yX7_pair.cls ≠ "java/lang/invoke/MethodHandle" ∧ yX7_pair.cls ≠ "java/lang/invoke/VarHandle" ∧ (parseMethodDescriptor yX7_pair.desc).map (fun d => d.parameters.length) = some 4 := hdX7_pair.2
theorem hdX7_wipe : yX7_wipe.cls = RX7 ∧ yX7_wipe.cls ≠ "java/lang/invoke/MethodHandle" ∧ yX7_wipe.cls ≠ "java/lang/invoke/VarHandle" ∧ (parseMethodDescriptor yX7_wipe.desc).map (fun d => d.parameters.length) = some 0 := by decide +kernel
theorem hdX7_wipeN : yX7_wipe.cls ≠ "java/lang/invoke/MethodHandle" ∧ yX7_wipe.cls ≠ "java/lang/invoke/VarHandle" ∧ (parseMethodDescriptor yX7_wipe.desc).map (fun d => d.parameters.length) = some 0 := hdX7_wipe.2
theorem hdX7_tolerance : yX7_tolerance.cls = RX7 ∧ yX7_tolerance.cls ≠ "java/lang/invoke/MethodHandle" ∧ yX7_tolerance.cls ≠ "java/lang/invoke/VarHandle" ∧ (parseMethodDescriptor yX7_tolerance.desc).map (fun d => d.parameters.length) = some 2 := by decide +kernel
theorem hdX7_toleranceN : yX7_tolerance.cls ≠ "java/lang/invoke/MethodHandle" ∧ yX7_tolerance.cls ≠ "java/lang/invoke/VarHandle" ∧ (parseMethodDescriptor yX7_tolerance.desc).map (fun d => d.parameters.length) = some 2 := hdX7_tolerance.2
theorem hdX7_isTrial : yX7_isTrial.cls = RX7 ∧ yX7_isTrial.cls ≠ "java/lang/invoke/MethodHandle" ∧ yX7_isTrial.cls ≠ "java/lang/invoke/VarHandle" ∧ (parseMethodDescriptor yX7_isTrial.desc).map (fun d => d.parameters.length) = some 2 := by decide +kernel
theorem hdX7_isTrialN : yX7_isTrial.cls ≠ "java/lang/invoke/MethodHandle" ∧ yX7_isTrial.cls ≠ "java/lang/invoke/VarHandle" ∧ (parseMethodDescriptor yX7_isTrial.desc).map (fun d => d.parameters.length) = some 2 := hdX7_isTrial.2
theorem hdX7_fits : yX7_fits.cls = RX7 ∧ yX7_fits.cls ≠ "java/lang/invoke/MethodHandle" ∧ yX7_fits.cls ≠ "java/lang/invoke/VarHandle" ∧ (parseMethodDescriptor yX7_fits.desc).map (fun d => d.parameters.length) = some 3 := by decide +kernel
theorem hdX7_fitsN : yX7_fits.cls ≠ "java/lang/invoke/MethodHandle" ∧ yX7_fits.cls ≠ "java/lang/invoke/VarHandle" ∧ (parseMethodDescriptor yX7_fits.desc).map (fun d => d.parameters.length) = some 3 := hdX7_fits.2
theorem hdX7_models : yX7_models.cls = RX7 ∧ yX7_models.cls ≠ "java/lang/invoke/MethodHandle" ∧ yX7_models.cls ≠ "java/lang/invoke/VarHandle" ∧ (parseMethodDescriptor yX7_models.desc).map (fun d => d.parameters.length) = some 3 := by decide +kernel
theorem hdX7_modelsN : yX7_models.cls ≠ "java/lang/invoke/MethodHandle" ∧ yX7_models.cls ≠ "java/lang/invoke/VarHandle" ∧ (parseMethodDescriptor yX7_models.desc).map (fun d => d.parameters.length) = some 3 := hdX7_models.2
theorem hdX7_sure : yX7_sure.cls = RX7 ∧ yX7_sure.cls ≠ "java/lang/invoke/MethodHandle" ∧ yX7_sure.cls ≠ "java/lang/invoke/VarHandle" ∧ (parseMethodDescriptor yX7_sure.desc).map (fun d => d.parameters.length) = some 3 := by decide +kernel
theorem hdX7_sureN : yX7_sure.cls ≠ "java/lang/invoke/MethodHandle" ∧ yX7_sure.cls ≠ "java/lang/invoke/VarHandle" ∧ (parseMethodDescriptor yX7_sure.desc).map (fun d => d.parameters.length) = some 3 := hdX7_sure.2
theorem hdX7_spot : yX7_spot.cls = RX7 ∧ yX7_spot.cls ≠ "java/lang/invoke/MethodHandle" ∧ yX7_spot.cls ≠ "java/lang/invoke/VarHandle" ∧ (parseMethodDescriptor yX7_spot.desc).map (fun d => d.parameters.length) = some 2 := by decide +kernel
theorem hdX7_spotN : yX7_spot.cls ≠ "java/lang/invoke/MethodHandle" ∧ yX7_spot.cls ≠ "java/lang/invoke/VarHandle" ∧ (parseMethodDescriptor yX7_spot.desc).map (fun d => d.parameters.length) = some 2 := hdX7_spot.2
theorem hdX7_forget : yX7_forget.cls = RX7 ∧ yX7_forget.cls ≠ "java/lang/invoke/MethodHandle" ∧ yX7_forget.cls ≠ "java/lang/invoke/VarHandle" ∧ (parseMethodDescriptor yX7_forget.desc).map (fun d => d.parameters.length) = some 0 := by decide +kernel
theorem hdX7_forgetN : yX7_forget.cls ≠ "java/lang/invoke/MethodHandle" ∧ yX7_forget.cls ≠ "java/lang/invoke/VarHandle" ∧ (parseMethodDescriptor yX7_forget.desc).map (fun d => d.parameters.length) = some 0 := hdX7_forget.2
theorem hdX7_bright : yX7_bright.cls = RX7 ∧ yX7_bright.cls ≠ "java/lang/invoke/MethodHandle" ∧ yX7_bright.cls ≠ "java/lang/invoke/VarHandle" ∧ (parseMethodDescriptor yX7_bright.desc).map (fun d => d.parameters.length) = some 3 := by decide +kernel
theorem hdX7_brightN : yX7_bright.cls ≠ "java/lang/invoke/MethodHandle" ∧ yX7_bright.cls ≠ "java/lang/invoke/VarHandle" ∧ (parseMethodDescriptor yX7_bright.desc).map (fun d => d.parameters.length) = some 3 := hdX7_bright.2
theorem hdX7_far : yX7_far.cls = RX7 ∧ yX7_far.cls ≠ "java/lang/invoke/MethodHandle" ∧ yX7_far.cls ≠ "java/lang/invoke/VarHandle" ∧ (parseMethodDescriptor yX7_far.desc).map (fun d => d.parameters.length) = some 2 := by decide +kernel
theorem hdX7_farN : yX7_far.cls ≠ "java/lang/invoke/MethodHandle" ∧ yX7_far.cls ≠ "java/lang/invoke/VarHandle" ∧ (parseMethodDescriptor yX7_far.desc).map (fun d => d.parameters.length) = some 2 := hdX7_far.2
theorem hdX7_contradicts : yX7_contradicts.cls = RX7 ∧ yX7_contradicts.cls ≠ "java/lang/invoke/MethodHandle" ∧ yX7_contradicts.cls ≠ "java/lang/invoke/VarHandle" ∧ (parseMethodDescriptor yX7_contradicts.desc).map (fun d => d.parameters.length) = some 0 := by decide +kernel
theorem hdX7_contradictsN : yX7_contradicts.cls ≠ "java/lang/invoke/MethodHandle" ∧ yX7_contradicts.cls ≠ "java/lang/invoke/VarHandle" ∧ (parseMethodDescriptor yX7_contradicts.desc).map (fun d => d.parameters.length) = some 0 := hdX7_contradicts.2
theorem hdX7_filled : yX7_filled.cls = RX7 ∧ yX7_filled.cls ≠ "java/lang/invoke/MethodHandle" ∧ yX7_filled.cls ≠ "java/lang/invoke/VarHandle" ∧ (parseMethodDescriptor yX7_filled.desc).map (fun d => d.parameters.length) = some 2 := by decide +kernel
theorem hdX7_filledN : yX7_filled.cls ≠ "java/lang/invoke/MethodHandle" ∧ yX7_filled.cls ≠ "java/lang/invoke/VarHandle" ∧ (parseMethodDescriptor yX7_filled.desc).map (fun d => d.parameters.length) = some 2 := hdX7_filled.2
theorem hdX7_count : yX7_count.cls = RX7 ∧ yX7_count.cls ≠ "java/lang/invoke/MethodHandle" ∧ yX7_count.cls ≠ "java/lang/invoke/VarHandle" ∧ (parseMethodDescriptor yX7_count.desc).map (fun d => d.parameters.length) = some 1 := by decide +kernel
theorem hdX7_countN : yX7_count.cls ≠ "java/lang/invoke/MethodHandle" ∧ yX7_count.cls ≠ "java/lang/invoke/VarHandle" ∧ (parseMethodDescriptor yX7_count.desc).map (fun d => d.parameters.length) = some 1 := hdX7_count.2
theorem hdX7_trace : yX7_trace.cls = RX7 ∧ yX7_trace.cls ≠ "java/lang/invoke/MethodHandle" ∧ yX7_trace.cls ≠ "java/lang/invoke/VarHandle" ∧ (parseMethodDescriptor yX7_trace.desc).map (fun d => d.parameters.length) = some 0 := by decide +kernel
theorem hdX7_traceN : yX7_trace.cls ≠ "java/lang/invoke/MethodHandle" ∧ yX7_trace.cls ≠ "java/lang/invoke/VarHandle" ∧ (parseMethodDescriptor yX7_trace.desc).map (fun d => d.parameters.length) = some 0 := hdX7_trace.2
theorem hdX8_in : yX8_in.cls ≠ "java/lang/invoke/MethodHandle" ∧ yX8_in.cls ≠ "java/lang/invoke/VarHandle" ∧ (parseMethodDescriptor yX8_in.desc).map (fun d => d.parameters.length) = some 3 := by decide +kernel
theorem hdX8_isNear : yX8_isNear.cls ≠ "java/lang/invoke/MethodHandle" ∧ yX8_isNear.cls ≠ "java/lang/invoke/VarHandle" ∧ (parseMethodDescriptor yX8_isNear.desc).map (fun d => d.parameters.length) = some 3 := by decide +kernel
theorem hdX8_floored : yX8_floored.cls ≠ "java/lang/invoke/MethodHandle" ∧ yX8_floored.cls ≠ "java/lang/invoke/VarHandle" ∧ (parseMethodDescriptor yX8_floored.desc).map (fun d => d.parameters.length) = some 2 := by decide +kernel
theorem hdX8_isTold : yX8_isTold.cls ≠ "java/lang/invoke/MethodHandle" ∧ yX8_isTold.cls ≠ "java/lang/invoke/VarHandle" ∧ (parseMethodDescriptor yX8_isTold.desc).map (fun d => d.parameters.length) = some 2 := by decide +kernel
theorem hdX8_isBody : yX8_isBody.cls = RX8 ∧ yX8_isBody.cls ≠ "java/lang/invoke/MethodHandle" ∧ yX8_isBody.cls ≠ "java/lang/invoke/VarHandle" ∧ (parseMethodDescriptor yX8_isBody.desc).map (fun d => d.parameters.length) = some 1 := by decide +kernel
theorem hdX8_isBodyN : yX8_isBody.cls ≠ "java/lang/invoke/MethodHandle" ∧ yX8_isBody.cls ≠ "java/lang/invoke/VarHandle" ∧ (parseMethodDescriptor yX8_isBody.desc).map (fun d => d.parameters.length) = some 1 := hdX8_isBody.2
theorem hdX8_body : yX8_body.cls = RX8 ∧ yX8_body.cls ≠ "java/lang/invoke/MethodHandle" ∧ yX8_body.cls ≠ "java/lang/invoke/VarHandle" ∧ (parseMethodDescriptor yX8_body.desc).map (fun d => d.parameters.length) = some 4 := by decide +kernel
theorem hdX8_bodyN : yX8_body.cls ≠ "java/lang/invoke/MethodHandle" ∧ yX8_body.cls ≠ "java/lang/invoke/VarHandle" ∧ (parseMethodDescriptor yX8_body.desc).map (fun d => d.parameters.length) = some 4 := hdX8_body.2
theorem hdX8_set : yX8_set.cls = RX8 ∧ yX8_set.cls ≠ "java/lang/invoke/MethodHandle" ∧ yX8_set.cls ≠ "java/lang/invoke/VarHandle" ∧ (parseMethodDescriptor yX8_set.desc).map (fun d => d.parameters.length) = some 3 := by decide +kernel
theorem hdX8_setN : yX8_set.cls ≠ "java/lang/invoke/MethodHandle" ∧ yX8_set.cls ≠ "java/lang/invoke/VarHandle" ∧ (parseMethodDescriptor yX8_set.desc).map (fun d => d.parameters.length) = some 3 := hdX8_set.2
theorem hdX8_drop : yX8_drop.cls = RX8 ∧ yX8_drop.cls ≠ "java/lang/invoke/MethodHandle" ∧ yX8_drop.cls ≠ "java/lang/invoke/VarHandle" ∧ (parseMethodDescriptor yX8_drop.desc).map (fun d => d.parameters.length) = some 0 := by decide +kernel
theorem hdX8_dropN : yX8_drop.cls ≠ "java/lang/invoke/MethodHandle" ∧ yX8_drop.cls ≠ "java/lang/invoke/VarHandle" ∧ (parseMethodDescriptor yX8_drop.desc).map (fun d => d.parameters.length) = some 0 := hdX8_drop.2
theorem hdX8_field : yX8_field.cls = RX8 ∧ yX8_field.cls ≠ "java/lang/invoke/MethodHandle" ∧ yX8_field.cls ≠ "java/lang/invoke/VarHandle" ∧ (parseMethodDescriptor yX8_field.desc).map (fun d => d.parameters.length) = some 2 := by decide +kernel
theorem hdX8_fieldN : yX8_field.cls ≠ "java/lang/invoke/MethodHandle" ∧ yX8_field.cls ≠ "java/lang/invoke/VarHandle" ∧ (parseMethodDescriptor yX8_field.desc).map (fun d => d.parameters.length) = some 2 := hdX8_field.2
theorem hdX8_bendOf : yX8_bendOf.cls = RX8 ∧ yX8_bendOf.cls ≠ "java/lang/invoke/MethodHandle" ∧ yX8_bendOf.cls ≠ "java/lang/invoke/VarHandle" ∧ (parseMethodDescriptor yX8_bendOf.desc).map (fun d => d.parameters.length) = some 5 := by decide +kernel
theorem hdX8_bendOfN : yX8_bendOf.cls ≠ "java/lang/invoke/MethodHandle" ∧ yX8_bendOf.cls ≠ "java/lang/invoke/VarHandle" ∧ (parseMethodDescriptor yX8_bendOf.desc).map (fun d => d.parameters.length) = some 5 := hdX8_bendOf.2
theorem hdX8_bend : yX8_bend.cls = RX8 ∧ yX8_bend.cls ≠ "java/lang/invoke/MethodHandle" ∧ yX8_bend.cls ≠ "java/lang/invoke/VarHandle" ∧ (parseMethodDescriptor yX8_bend.desc).map (fun d => d.parameters.length) = some 5 := by decide +kernel
theorem hdX8_bendN : yX8_bend.cls ≠ "java/lang/invoke/MethodHandle" ∧ yX8_bend.cls ≠ "java/lang/invoke/VarHandle" ∧ (parseMethodDescriptor yX8_bend.desc).map (fun d => d.parameters.length) = some 5 := hdX8_bend.2
theorem hdX8_fromOf : yX8_fromOf.cls = RX8 ∧ yX8_fromOf.cls ≠ "java/lang/invoke/MethodHandle" ∧ yX8_fromOf.cls ≠ "java/lang/invoke/VarHandle" ∧ (parseMethodDescriptor yX8_fromOf.desc).map (fun d => d.parameters.length) = some 3 := by decide +kernel
theorem hdX8_fromOfN : yX8_fromOf.cls ≠ "java/lang/invoke/MethodHandle" ∧ yX8_fromOf.cls ≠ "java/lang/invoke/VarHandle" ∧ (parseMethodDescriptor yX8_fromOf.desc).map (fun d => d.parameters.length) = some 3 := hdX8_fromOf.2
theorem hdX8_from : yX8_from.cls = RX8 ∧ yX8_from.cls ≠ "java/lang/invoke/MethodHandle" ∧ yX8_from.cls ≠ "java/lang/invoke/VarHandle" ∧ (parseMethodDescriptor yX8_from.desc).map (fun d => d.parameters.length) = some 3 := by decide +kernel
theorem hdX8_fromN : yX8_from.cls ≠ "java/lang/invoke/MethodHandle" ∧ yX8_from.cls ≠ "java/lang/invoke/VarHandle" ∧ (parseMethodDescriptor yX8_from.desc).map (fun d => d.parameters.length) = some 3 := hdX8_from.2
theorem hdX8_cellOf : yX8_cellOf.cls = RX8 ∧ yX8_cellOf.cls ≠ "java/lang/invoke/MethodHandle" ∧ yX8_cellOf.cls ≠ "java/lang/invoke/VarHandle" ∧ (parseMethodDescriptor yX8_cellOf.desc).map (fun d => d.parameters.length) = some 3 := by decide +kernel
theorem hdX8_cellOfN : yX8_cellOf.cls ≠ "java/lang/invoke/MethodHandle" ∧ yX8_cellOf.cls ≠ "java/lang/invoke/VarHandle" ∧ (parseMethodDescriptor yX8_cellOf.desc).map (fun d => d.parameters.length) = some 3 := hdX8_cellOf.2
theorem hdX8_cell : yX8_cell.cls = RX8 ∧ yX8_cell.cls ≠ "java/lang/invoke/MethodHandle" ∧ yX8_cell.cls ≠ "java/lang/invoke/VarHandle" ∧ (parseMethodDescriptor yX8_cell.desc).map (fun d => d.parameters.length) = some 3 := by decide +kernel
theorem hdX8_cellN : yX8_cell.cls ≠ "java/lang/invoke/MethodHandle" ∧ yX8_cell.cls ≠ "java/lang/invoke/VarHandle" ∧ (parseMethodDescriptor yX8_cell.desc).map (fun d => d.parameters.length) = some 3 := hdX8_cell.2
theorem hdX8_at : yX8_at.cls ≠ "java/lang/invoke/MethodHandle" ∧ yX8_at.cls ≠ "java/lang/invoke/VarHandle" ∧ (parseMethodDescriptor yX8_at.desc).map (fun d => d.parameters.length) = some 2 := by decide +kernel
theorem hdX8_findPlane : yX8_findPlane.cls = RX8 ∧ yX8_findPlane.cls ≠ "java/lang/invoke/MethodHandle" ∧ yX8_findPlane.cls ≠ "java/lang/invoke/VarHandle" ∧ (parseMethodDescriptor yX8_findPlane.desc).map (fun d => d.parameters.length) = some 0 := by decide +kernel
theorem hdX8_findPlaneN : yX8_findPlane.cls ≠ "java/lang/invoke/MethodHandle" ∧ yX8_findPlane.cls ≠ "java/lang/invoke/VarHandle" ∧ (parseMethodDescriptor yX8_findPlane.desc).map (fun d => d.parameters.length) = some 0 := hdX8_findPlane.2
theorem hdX8_findAround : yX8_findAround.cls = RX8 ∧ yX8_findAround.cls ≠ "java/lang/invoke/MethodHandle" ∧ yX8_findAround.cls ≠ "java/lang/invoke/VarHandle" ∧ (parseMethodDescriptor yX8_findAround.desc).map (fun d => d.parameters.length) = some 2 := by decide +kernel
theorem hdX8_findAroundN : yX8_findAround.cls ≠ "java/lang/invoke/MethodHandle" ∧ yX8_findAround.cls ≠ "java/lang/invoke/VarHandle" ∧ (parseMethodDescriptor yX8_findAround.desc).map (fun d => d.parameters.length) = some 2 := hdX8_findAround.2
theorem hdX8_findTold : yX8_findTold.cls = RX8 ∧ yX8_findTold.cls ≠ "java/lang/invoke/MethodHandle" ∧ yX8_findTold.cls ≠ "java/lang/invoke/VarHandle" ∧ (parseMethodDescriptor yX8_findTold.desc).map (fun d => d.parameters.length) = some 0 := by decide +kernel
theorem hdX8_findToldN : yX8_findTold.cls ≠ "java/lang/invoke/MethodHandle" ∧ yX8_findTold.cls ≠ "java/lang/invoke/VarHandle" ∧ (parseMethodDescriptor yX8_findTold.desc).map (fun d => d.parameters.length) = some 0 := hdX8_findTold.2
theorem hdX8_cellX : yX8_cellX.cls = RX8 ∧ yX8_cellX.cls ≠ "java/lang/invoke/MethodHandle" ∧ yX8_cellX.cls ≠ "java/lang/invoke/VarHandle" ∧ (parseMethodDescriptor yX8_cellX.desc).map (fun d => d.parameters.length) = some 2 := by decide +kernel
theorem hdX8_cellXN : yX8_cellX.cls ≠ "java/lang/invoke/MethodHandle" ∧ yX8_cellX.cls ≠ "java/lang/invoke/VarHandle" ∧ (parseMethodDescriptor yX8_cellX.desc).map (fun d => d.parameters.length) = some 2 := hdX8_cellX.2
theorem hdX8_cellY : yX8_cellY.cls = RX8 ∧ yX8_cellY.cls ≠ "java/lang/invoke/MethodHandle" ∧ yX8_cellY.cls ≠ "java/lang/invoke/VarHandle" ∧ (parseMethodDescriptor yX8_cellY.desc).map (fun d => d.parameters.length) = some 2 := by decide +kernel
theorem hdX8_cellYN : yX8_cellY.cls ≠ "java/lang/invoke/MethodHandle" ∧ yX8_cellY.cls ≠ "java/lang/invoke/VarHandle" ∧ (parseMethodDescriptor yX8_cellY.desc).map (fun d => d.parameters.length) = some 2 := hdX8_cellY.2
theorem hdX8_signOf : yX8_signOf.cls ≠ "java/lang/invoke/MethodHandle" ∧ yX8_signOf.cls ≠ "java/lang/invoke/VarHandle" ∧ (parseMethodDescriptor yX8_signOf.desc).map (fun d => d.parameters.length) = some 1 := by decide +kernel
theorem hdX8_parityOf : yX8_parityOf.cls = RX8 ∧ yX8_parityOf.cls ≠ "java/lang/invoke/MethodHandle" ∧ yX8_parityOf.cls ≠ "java/lang/invoke/VarHandle" ∧ (parseMethodDescriptor yX8_parityOf.desc).map (fun d => d.parameters.length) = some 2 := by decide +kernel
theorem hdX8_parityOfN : yX8_parityOf.cls ≠ "java/lang/invoke/MethodHandle" ∧ yX8_parityOf.cls ≠ "java/lang/invoke/VarHandle" ∧ (parseMethodDescriptor yX8_parityOf.desc).map (fun d => d.parameters.length) = some 2 := hdX8_parityOf.2
theorem hdX8_isPixel : yX8_isPixel.cls ≠ "java/lang/invoke/MethodHandle" ∧ yX8_isPixel.cls ≠ "java/lang/invoke/VarHandle" ∧ (parseMethodDescriptor yX8_isPixel.desc).map (fun d => d.parameters.length) = some 2 := by decide +kernel
theorem hdX8_pixel : yX8_pixel.cls ≠ "java/lang/invoke/MethodHandle" ∧ yX8_pixel.cls ≠ "java/lang/invoke/VarHandle" ∧ (parseMethodDescriptor yX8_pixel.desc).map (fun d => d.parameters.length) = some 2 := by decide +kernel
theorem hdX8_spread : yX8_spread.cls = RX8 ∧ yX8_spread.cls ≠ "java/lang/invoke/MethodHandle" ∧ yX8_spread.cls ≠ "java/lang/invoke/VarHandle" ∧ (parseMethodDescriptor yX8_spread.desc).map (fun d => d.parameters.length) = some 1 := by decide +kernel
theorem hdX8_spreadN : yX8_spread.cls ≠ "java/lang/invoke/MethodHandle" ∧ yX8_spread.cls ≠ "java/lang/invoke/VarHandle" ∧ (parseMethodDescriptor yX8_spread.desc).map (fun d => d.parameters.length) = some 1 := hdX8_spread.2
theorem hdX8_findGroups : yX8_findGroups.cls = RX8 ∧ yX8_findGroups.cls ≠ "java/lang/invoke/MethodHandle" ∧ yX8_findGroups.cls ≠ "java/lang/invoke/VarHandle" ∧ (parseMethodDescriptor yX8_findGroups.desc).map (fun d => d.parameters.length) = some 0 := by decide +kernel
theorem hdX8_findGroupsN : yX8_findGroups.cls ≠ "java/lang/invoke/MethodHandle" ∧ yX8_findGroups.cls ≠ "java/lang/invoke/VarHandle" ∧ (parseMethodDescriptor yX8_findGroups.desc).map (fun d => d.parameters.length) = some 0 := hdX8_findGroups.2
theorem hdX8_findPictures : yX8_findPictures.cls = RX8 ∧ yX8_findPictures.cls ≠ "java/lang/invoke/MethodHandle" ∧ yX8_findPictures.cls ≠ "java/lang/invoke/VarHandle" ∧ (parseMethodDescriptor yX8_findPictures.desc).map (fun d => d.parameters.length) = some 2 := by decide +kernel
theorem hdX8_findPicturesN : yX8_findPictures.cls ≠ "java/lang/invoke/MethodHandle" ∧ yX8_findPictures.cls ≠ "java/lang/invoke/VarHandle" ∧ (parseMethodDescriptor yX8_findPictures.desc).map (fun d => d.parameters.length) = some 2 := hdX8_findPictures.2
theorem hdX8_pictures : yX8_pictures.cls = RX8 ∧ yX8_pictures.cls ≠ "java/lang/invoke/MethodHandle" ∧ yX8_pictures.cls ≠ "java/lang/invoke/VarHandle" ∧ (parseMethodDescriptor yX8_pictures.desc).map (fun d => d.parameters.length) = some 3 := by decide +kernel
theorem hdX8_picturesN : yX8_pictures.cls ≠ "java/lang/invoke/MethodHandle" ∧ yX8_pictures.cls ≠ "java/lang/invoke/VarHandle" ∧ (parseMethodDescriptor yX8_pictures.desc).map (fun d => d.parameters.length) = some 3 := hdX8_pictures.2
theorem hdX8_group : yX8_group.cls = RX8 ∧ yX8_group.cls ≠ "java/lang/invoke/MethodHandle" ∧ yX8_group.cls ≠ "java/lang/invoke/VarHandle" ∧ (parseMethodDescriptor yX8_group.desc).map (fun d => d.parameters.length) = some 4 := by decide +kernel
theorem hdX8_groupN : yX8_group.cls ≠ "java/lang/invoke/MethodHandle" ∧ yX8_group.cls ≠ "java/lang/invoke/VarHandle" ∧ (parseMethodDescriptor yX8_group.desc).map (fun d => d.parameters.length) = some 4 := hdX8_group.2
theorem hdX8_parity : yX8_parity.cls = RX8 ∧ yX8_parity.cls ≠ "java/lang/invoke/MethodHandle" ∧ yX8_parity.cls ≠ "java/lang/invoke/VarHandle" ∧ (parseMethodDescriptor yX8_parity.desc).map (fun d => d.parameters.length) = some 2 := by decide +kernel
theorem hdX8_parityN : yX8_parity.cls ≠ "java/lang/invoke/MethodHandle" ∧ yX8_parity.cls ≠ "java/lang/invoke/VarHandle" ∧ (parseMethodDescriptor yX8_parity.desc).map (fun d => d.parameters.length) = some 2 := hdX8_parity.2
theorem hdX8_criticalNow : yX8_criticalNow.cls = RX8 ∧ yX8_criticalNow.cls ≠ "java/lang/invoke/MethodHandle" ∧ yX8_criticalNow.cls ≠ "java/lang/invoke/VarHandle" ∧ (parseMethodDescriptor yX8_criticalNow.desc).map (fun d => d.parameters.length) = some 2 := by decide +kernel
theorem hdX8_criticalNowN : yX8_criticalNow.cls ≠ "java/lang/invoke/MethodHandle" ∧ yX8_criticalNow.cls ≠ "java/lang/invoke/VarHandle" ∧ (parseMethodDescriptor yX8_criticalNow.desc).map (fun d => d.parameters.length) = some 2 := hdX8_criticalNow.2
theorem hdX8_critical : yX8_critical.cls = RX8 ∧ yX8_critical.cls ≠ "java/lang/invoke/MethodHandle" ∧ yX8_critical.cls ≠ "java/lang/invoke/VarHandle" ∧ (parseMethodDescriptor yX8_critical.desc).map (fun d => d.parameters.length) = some 2 := by decide +kernel
theorem hdX8_criticalN : yX8_critical.cls ≠ "java/lang/invoke/MethodHandle" ∧ yX8_critical.cls ≠ "java/lang/invoke/VarHandle" ∧ (parseMethodDescriptor yX8_critical.desc).map (fun d => d.parameters.length) = some 2 := hdX8_critical.2
theorem hdX8_rings : yX8_rings.cls = RX8 ∧ yX8_rings.cls ≠ "java/lang/invoke/MethodHandle" ∧ yX8_rings.cls ≠ "java/lang/invoke/VarHandle" ∧ (parseMethodDescriptor yX8_rings.desc).map (fun d => d.parameters.length) = some 1 := by decide +kernel
theorem hdX8_ringsN : yX8_rings.cls ≠ "java/lang/invoke/MethodHandle" ∧ yX8_rings.cls ≠ "java/lang/invoke/VarHandle" ∧ (parseMethodDescriptor yX8_rings.desc).map (fun d => d.parameters.length) = some 1 := hdX8_rings.2
theorem hdX8_brightest : yX8_brightest.cls = RX8 ∧ yX8_brightest.cls ≠ "java/lang/invoke/MethodHandle" ∧ yX8_brightest.cls ≠ "java/lang/invoke/VarHandle" ∧ (parseMethodDescriptor yX8_brightest.desc).map (fun d => d.parameters.length) = some 1 := by decide +kernel
theorem hdX8_brightestN : yX8_brightest.cls ≠ "java/lang/invoke/MethodHandle" ∧ yX8_brightest.cls ≠ "java/lang/invoke/VarHandle" ∧ (parseMethodDescriptor yX8_brightest.desc).map (fun d => d.parameters.length) = some 1 := hdX8_brightest.2
theorem hdX8_delay : yX8_delay.cls = RX8 ∧ yX8_delay.cls ≠ "java/lang/invoke/MethodHandle" ∧ yX8_delay.cls ≠ "java/lang/invoke/VarHandle" ∧ (parseMethodDescriptor yX8_delay.desc).map (fun d => d.parameters.length) = some 6 := by decide +kernel
theorem hdX8_delayN : yX8_delay.cls ≠ "java/lang/invoke/MethodHandle" ∧ yX8_delay.cls ≠ "java/lang/invoke/VarHandle" ∧ (parseMethodDescriptor yX8_delay.desc).map (fun d => d.parameters.length) = some 6 := hdX8_delay.2
theorem hdX8_stretch : yX8_stretch.cls = RX8 ∧ yX8_stretch.cls ≠ "java/lang/invoke/MethodHandle" ∧ yX8_stretch.cls ≠ "java/lang/invoke/VarHandle" ∧ (parseMethodDescriptor yX8_stretch.desc).map (fun d => d.parameters.length) = some 1 := by decide +kernel
theorem hdX8_stretchN : yX8_stretch.cls ≠ "java/lang/invoke/MethodHandle" ∧ yX8_stretch.cls ≠ "java/lang/invoke/VarHandle" ∧ (parseMethodDescriptor yX8_stretch.desc).map (fun d => d.parameters.length) = some 1 := hdX8_stretch.2
theorem hdX8_type : yX8_type.cls = RX8 ∧ yX8_type.cls ≠ "java/lang/invoke/MethodHandle" ∧ yX8_type.cls ≠ "java/lang/invoke/VarHandle" ∧ (parseMethodDescriptor yX8_type.desc).map (fun d => d.parameters.length) = some 2 := by decide +kernel
theorem hdX8_typeN : yX8_type.cls ≠ "java/lang/invoke/MethodHandle" ∧ yX8_type.cls ≠ "java/lang/invoke/VarHandle" ∧ (parseMethodDescriptor yX8_type.desc).map (fun d => d.parameters.length) = some 2 := hdX8_type.2
theorem hdX8_clear : yX8_clear.cls = RX8 ∧ yX8_clear.cls ≠ "java/lang/invoke/MethodHandle" ∧ yX8_clear.cls ≠ "java/lang/invoke/VarHandle" ∧ (parseMethodDescriptor yX8_clear.desc).map (fun d => d.parameters.length) = some 0 := by decide +kernel
theorem hdX8_clearN : yX8_clear.cls ≠ "java/lang/invoke/MethodHandle" ∧ yX8_clear.cls ≠ "java/lang/invoke/VarHandle" ∧ (parseMethodDescriptor yX8_clear.desc).map (fun d => d.parameters.length) = some 0 := hdX8_clear.2
theorem hdX8_here : yX8_here.cls = RX8 ∧ yX8_here.cls ≠ "java/lang/invoke/MethodHandle" ∧ yX8_here.cls ≠ "java/lang/invoke/VarHandle" ∧ (parseMethodDescriptor yX8_here.desc).map (fun d => d.parameters.length) = some 0 := by decide +kernel
theorem hdX8_hereN : yX8_here.cls ≠ "java/lang/invoke/MethodHandle" ∧ yX8_here.cls ≠ "java/lang/invoke/VarHandle" ∧ (parseMethodDescriptor yX8_here.desc).map (fun d => d.parameters.length) = some 0 := hdX8_here.2
theorem hdX8_isDigit : yX8_isDigit.cls = RX8 ∧ yX8_isDigit.cls ≠ "java/lang/invoke/MethodHandle" ∧ yX8_isDigit.cls ≠ "java/lang/invoke/VarHandle" ∧ (parseMethodDescriptor yX8_isDigit.desc).map (fun d => d.parameters.length) = some 0 := by decide +kernel
theorem hdX8_isDigitN : yX8_isDigit.cls ≠ "java/lang/invoke/MethodHandle" ∧ yX8_isDigit.cls ≠ "java/lang/invoke/VarHandle" ∧ (parseMethodDescriptor yX8_isDigit.desc).map (fun d => d.parameters.length) = some 0 := hdX8_isDigit.2
theorem hdX8_sign : yX8_sign.cls = RX8 ∧ yX8_sign.cls ≠ "java/lang/invoke/MethodHandle" ∧ yX8_sign.cls ≠ "java/lang/invoke/VarHandle" ∧ (parseMethodDescriptor yX8_sign.desc).map (fun d => d.parameters.length) = some 1 := by decide +kernel
theorem hdX8_signN : yX8_sign.cls ≠ "java/lang/invoke/MethodHandle" ∧ yX8_sign.cls ≠ "java/lang/invoke/VarHandle" ∧ (parseMethodDescriptor yX8_sign.desc).map (fun d => d.parameters.length) = some 1 := hdX8_sign.2
theorem hdX8_number : yX8_number.cls = RX8 ∧ yX8_number.cls ≠ "java/lang/invoke/MethodHandle" ∧ yX8_number.cls ≠ "java/lang/invoke/VarHandle" ∧ (parseMethodDescriptor yX8_number.desc).map (fun d => d.parameters.length) = some 2 := by decide +kernel
theorem hdX8_numberN : yX8_number.cls ≠ "java/lang/invoke/MethodHandle" ∧ yX8_number.cls ≠ "java/lang/invoke/VarHandle" ∧ (parseMethodDescriptor yX8_number.desc).map (fun d => d.parameters.length) = some 2 := hdX8_number.2
theorem hdX8_item : yX8_item.cls = RX8 ∧ yX8_item.cls ≠ "java/lang/invoke/MethodHandle" ∧ yX8_item.cls ≠ "java/lang/invoke/VarHandle" ∧ (parseMethodDescriptor yX8_item.desc).map (fun d => d.parameters.length) = some 1 := by decide +kernel
theorem hdX8_itemN : yX8_item.cls ≠ "java/lang/invoke/MethodHandle" ∧ yX8_item.cls ≠ "java/lang/invoke/VarHandle" ∧ (parseMethodDescriptor yX8_item.desc).map (fun d => d.parameters.length) = some 1 := hdX8_item.2
theorem hdX8_read : yX8_read.cls = RX8 ∧ yX8_read.cls ≠ "java/lang/invoke/MethodHandle" ∧ yX8_read.cls ≠ "java/lang/invoke/VarHandle" ∧ (parseMethodDescriptor yX8_read.desc).map (fun d => d.parameters.length) = some 0 := by decide +kernel
theorem hdX8_readN : yX8_read.cls ≠ "java/lang/invoke/MethodHandle" ∧ yX8_read.cls ≠ "java/lang/invoke/VarHandle" ∧ (parseMethodDescriptor yX8_read.desc).map (fun d => d.parameters.length) = some 0 := hdX8_read.2
theorem hdX8_pair : yX8_pair.cls = RX8 ∧ yX8_pair.cls ≠ "java/lang/invoke/MethodHandle" ∧ yX8_pair.cls ≠ "java/lang/invoke/VarHandle" ∧ (parseMethodDescriptor yX8_pair.desc).map (fun d => d.parameters.length) = some 4 := by decide +kernel
theorem hdX8_pairN : yX8_pair.cls ≠ "java/lang/invoke/MethodHandle" ∧ yX8_pair.cls ≠ "java/lang/invoke/VarHandle" ∧ (parseMethodDescriptor yX8_pair.desc).map (fun d => d.parameters.length) = some 4 := hdX8_pair.2
theorem hdX8_wipe : yX8_wipe.cls = RX8 ∧ yX8_wipe.cls ≠ "java/lang/invoke/MethodHandle" ∧ yX8_wipe.cls ≠ "java/lang/invoke/VarHandle" ∧ (parseMethodDescriptor yX8_wipe.desc).map (fun d => d.parameters.length) = some 0 := by decide +kernel
theorem hdX8_wipeN : yX8_wipe.cls ≠ "java/lang/invoke/MethodHandle" ∧ yX8_wipe.cls ≠ "java/lang/invoke/VarHandle" ∧ (parseMethodDescriptor yX8_wipe.desc).map (fun d => d.parameters.length) = some 0 := hdX8_wipe.2
theorem hdX8_tolerance : yX8_tolerance.cls = RX8 ∧ yX8_tolerance.cls ≠ "java/lang/invoke/MethodHandle" ∧ yX8_tolerance.cls ≠ "java/lang/invoke/VarHandle" ∧ (parseMethodDescriptor yX8_tolerance.desc).map (fun d => d.parameters.length) = some 2 := by decide +kernel
theorem hdX8_toleranceN : yX8_tolerance.cls ≠ "java/lang/invoke/MethodHandle" ∧ yX8_tolerance.cls ≠ "java/lang/invoke/VarHandle" ∧ (parseMethodDescriptor yX8_tolerance.desc).map (fun d => d.parameters.length) = some 2 := hdX8_tolerance.2
theorem hdX8_modelsOf : yX8_modelsOf.cls ≠ "java/lang/invoke/MethodHandle" ∧ yX8_modelsOf.cls ≠ "java/lang/invoke/VarHandle" ∧ (parseMethodDescriptor yX8_modelsOf.desc).map (fun d => d.parameters.length) = some 2 := by decide +kernel
theorem hdX8_keepWeights : yX8_keepWeights.cls = RX8 ∧ yX8_keepWeights.cls ≠ "java/lang/invoke/MethodHandle" ∧ yX8_keepWeights.cls ≠ "java/lang/invoke/VarHandle" ∧ (parseMethodDescriptor yX8_keepWeights.desc).map (fun d => d.parameters.length) = some 0 := by decide +kernel
theorem hdX8_keepWeightsN : yX8_keepWeights.cls ≠ "java/lang/invoke/MethodHandle" ∧ yX8_keepWeights.cls ≠ "java/lang/invoke/VarHandle" ∧ (parseMethodDescriptor yX8_keepWeights.desc).map (fun d => d.parameters.length) = some 0 := hdX8_keepWeights.2
theorem hdX8_giveBack : yX8_giveBack.cls = RX8 ∧ yX8_giveBack.cls ≠ "java/lang/invoke/MethodHandle" ∧ yX8_giveBack.cls ≠ "java/lang/invoke/VarHandle" ∧ (parseMethodDescriptor yX8_giveBack.desc).map (fun d => d.parameters.length) = some 0 := by decide +kernel
theorem hdX8_giveBackN : yX8_giveBack.cls ≠ "java/lang/invoke/MethodHandle" ∧ yX8_giveBack.cls ≠ "java/lang/invoke/VarHandle" ∧ (parseMethodDescriptor yX8_giveBack.desc).map (fun d => d.parameters.length) = some 0 := hdX8_giveBack.2
theorem hdX8_digit : yX8_digit.cls ≠ "java/lang/invoke/MethodHandle" ∧ yX8_digit.cls ≠ "java/lang/invoke/VarHandle" ∧ (parseMethodDescriptor yX8_digit.desc).map (fun d => d.parameters.length) = some 3 := by decide +kernel
theorem hdX8_weigh : yX8_weigh.cls = RX8 ∧ yX8_weigh.cls ≠ "java/lang/invoke/MethodHandle" ∧ yX8_weigh.cls ≠ "java/lang/invoke/VarHandle" ∧ (parseMethodDescriptor yX8_weigh.desc).map (fun d => d.parameters.length) = some 3 := by decide +kernel
theorem hdX8_weighN : yX8_weigh.cls ≠ "java/lang/invoke/MethodHandle" ∧ yX8_weigh.cls ≠ "java/lang/invoke/VarHandle" ∧ (parseMethodDescriptor yX8_weigh.desc).map (fun d => d.parameters.length) = some 3 := hdX8_weigh.2
theorem hdX8_isWithin : yX8_isWithin.cls = RX8 ∧ yX8_isWithin.cls ≠ "java/lang/invoke/MethodHandle" ∧ yX8_isWithin.cls ≠ "java/lang/invoke/VarHandle" ∧ (parseMethodDescriptor yX8_isWithin.desc).map (fun d => d.parameters.length) = some 2 := by decide +kernel
theorem hdX8_isWithinN : yX8_isWithin.cls ≠ "java/lang/invoke/MethodHandle" ∧ yX8_isWithin.cls ≠ "java/lang/invoke/VarHandle" ∧ (parseMethodDescriptor yX8_isWithin.desc).map (fun d => d.parameters.length) = some 2 := hdX8_isWithin.2
theorem hdX8_doesFit : yX8_doesFit.cls = RX8 ∧ yX8_doesFit.cls ≠ "java/lang/invoke/MethodHandle" ∧ yX8_doesFit.cls ≠ "java/lang/invoke/VarHandle" ∧ (parseMethodDescriptor yX8_doesFit.desc).map (fun d => d.parameters.length) = some 0 := by decide +kernel
theorem hdX8_doesFitN : yX8_doesFit.cls ≠ "java/lang/invoke/MethodHandle" ∧ yX8_doesFit.cls ≠ "java/lang/invoke/VarHandle" ∧ (parseMethodDescriptor yX8_doesFit.desc).map (fun d => d.parameters.length) = some 0 := hdX8_doesFit.2
theorem hdX8_isTry : yX8_isTry.cls = RX8 ∧ yX8_isTry.cls ≠ "java/lang/invoke/MethodHandle" ∧ yX8_isTry.cls ≠ "java/lang/invoke/VarHandle" ∧ (parseMethodDescriptor yX8_isTry.desc).map (fun d => d.parameters.length) = some 2 := by decide +kernel
theorem hdX8_isTryN : yX8_isTry.cls ≠ "java/lang/invoke/MethodHandle" ∧ yX8_isTry.cls ≠ "java/lang/invoke/VarHandle" ∧ (parseMethodDescriptor yX8_isTry.desc).map (fun d => d.parameters.length) = some 2 := hdX8_isTry.2
theorem hdX8_fits : yX8_fits.cls = RX8 ∧ yX8_fits.cls ≠ "java/lang/invoke/MethodHandle" ∧ yX8_fits.cls ≠ "java/lang/invoke/VarHandle" ∧ (parseMethodDescriptor yX8_fits.desc).map (fun d => d.parameters.length) = some 3 := by decide +kernel
theorem hdX8_fitsN : yX8_fits.cls ≠ "java/lang/invoke/MethodHandle" ∧ yX8_fits.cls ≠ "java/lang/invoke/VarHandle" ∧ (parseMethodDescriptor yX8_fits.desc).map (fun d => d.parameters.length) = some 3 := hdX8_fits.2
theorem hdX8_findFitting : yX8_findFitting.cls = RX8 ∧ yX8_findFitting.cls ≠ "java/lang/invoke/MethodHandle" ∧ yX8_findFitting.cls ≠ "java/lang/invoke/VarHandle" ∧ (parseMethodDescriptor yX8_findFitting.desc).map (fun d => d.parameters.length) = some 2 := by decide +kernel
theorem hdX8_findFittingN : yX8_findFitting.cls ≠ "java/lang/invoke/MethodHandle" ∧ yX8_findFitting.cls ≠ "java/lang/invoke/VarHandle" ∧ (parseMethodDescriptor yX8_findFitting.desc).map (fun d => d.parameters.length) = some 2 := hdX8_findFitting.2
theorem hdX8_isAlike : yX8_isAlike.cls = RX8 ∧ yX8_isAlike.cls ≠ "java/lang/invoke/MethodHandle" ∧ yX8_isAlike.cls ≠ "java/lang/invoke/VarHandle" ∧ (parseMethodDescriptor yX8_isAlike.desc).map (fun d => d.parameters.length) = some 4 := by decide +kernel
theorem hdX8_isAlikeN : yX8_isAlike.cls ≠ "java/lang/invoke/MethodHandle" ∧ yX8_isAlike.cls ≠ "java/lang/invoke/VarHandle" ∧ (parseMethodDescriptor yX8_isAlike.desc).map (fun d => d.parameters.length) = some 4 := hdX8_isAlike.2
theorem hdX8_heap : yX8_heap.cls = RX8 ∧ yX8_heap.cls ≠ "java/lang/invoke/MethodHandle" ∧ yX8_heap.cls ≠ "java/lang/invoke/VarHandle" ∧ (parseMethodDescriptor yX8_heap.desc).map (fun d => d.parameters.length) = some 3 := by decide +kernel
theorem hdX8_heapN : yX8_heap.cls ≠ "java/lang/invoke/MethodHandle" ∧ yX8_heap.cls ≠ "java/lang/invoke/VarHandle" ∧ (parseMethodDescriptor yX8_heap.desc).map (fun d => d.parameters.length) = some 3 := hdX8_heap.2
theorem hdX8_models : yX8_models.cls = RX8 ∧ yX8_models.cls ≠ "java/lang/invoke/MethodHandle" ∧ yX8_models.cls ≠ "java/lang/invoke/VarHandle" ∧ (parseMethodDescriptor yX8_models.desc).map (fun d => d.parameters.length) = some 3 := by decide +kernel
theorem hdX8_modelsN : yX8_models.cls ≠ "java/lang/invoke/MethodHandle" ∧ yX8_models.cls ≠ "java/lang/invoke/VarHandle" ∧ (parseMethodDescriptor yX8_models.desc).map (fun d => d.parameters.length) = some 3 := hdX8_models.2
theorem hdX8_sure : yX8_sure.cls = RX8 ∧ yX8_sure.cls ≠ "java/lang/invoke/MethodHandle" ∧ yX8_sure.cls ≠ "java/lang/invoke/VarHandle" ∧ (parseMethodDescriptor yX8_sure.desc).map (fun d => d.parameters.length) = some 3 := by decide +kernel
theorem hdX8_sureN : yX8_sure.cls ≠ "java/lang/invoke/MethodHandle" ∧ yX8_sure.cls ≠ "java/lang/invoke/VarHandle" ∧ (parseMethodDescriptor yX8_sure.desc).map (fun d => d.parameters.length) = some 3 := hdX8_sure.2
theorem hdX8_spot : yX8_spot.cls = RX8 ∧ yX8_spot.cls ≠ "java/lang/invoke/MethodHandle" ∧ yX8_spot.cls ≠ "java/lang/invoke/VarHandle" ∧ (parseMethodDescriptor yX8_spot.desc).map (fun d => d.parameters.length) = some 2 := by decide +kernel
theorem hdX8_spotN : yX8_spot.cls ≠ "java/lang/invoke/MethodHandle" ∧ yX8_spot.cls ≠ "java/lang/invoke/VarHandle" ∧ (parseMethodDescriptor yX8_spot.desc).map (fun d => d.parameters.length) = some 2 := hdX8_spot.2
theorem hdX8_forget : yX8_forget.cls = RX8 ∧ yX8_forget.cls ≠ "java/lang/invoke/MethodHandle" ∧ yX8_forget.cls ≠ "java/lang/invoke/VarHandle" ∧ (parseMethodDescriptor yX8_forget.desc).map (fun d => d.parameters.length) = some 0 := by decide +kernel
theorem hdX8_forgetN : yX8_forget.cls ≠ "java/lang/invoke/MethodHandle" ∧ yX8_forget.cls ≠ "java/lang/invoke/VarHandle" ∧ (parseMethodDescriptor yX8_forget.desc).map (fun d => d.parameters.length) = some 0 := hdX8_forget.2
theorem hdX8_bright : yX8_bright.cls = RX8 ∧ yX8_bright.cls ≠ "java/lang/invoke/MethodHandle" ∧ yX8_bright.cls ≠ "java/lang/invoke/VarHandle" ∧ (parseMethodDescriptor yX8_bright.desc).map (fun d => d.parameters.length) = some 3 := by decide +kernel
theorem hdX8_brightN : yX8_bright.cls ≠ "java/lang/invoke/MethodHandle" ∧ yX8_bright.cls ≠ "java/lang/invoke/VarHandle" ∧ (parseMethodDescriptor yX8_bright.desc).map (fun d => d.parameters.length) = some 3 := hdX8_bright.2
theorem hdX8_farOf : yX8_farOf.cls = RX8 ∧ yX8_farOf.cls ≠ "java/lang/invoke/MethodHandle" ∧ yX8_farOf.cls ≠ "java/lang/invoke/VarHandle" ∧ (parseMethodDescriptor yX8_farOf.desc).map (fun d => d.parameters.length) = some 2 := by decide +kernel
theorem hdX8_farOfN : yX8_farOf.cls ≠ "java/lang/invoke/MethodHandle" ∧ yX8_farOf.cls ≠ "java/lang/invoke/VarHandle" ∧ (parseMethodDescriptor yX8_farOf.desc).map (fun d => d.parameters.length) = some 2 := hdX8_farOf.2
theorem hdX8_far : yX8_far.cls = RX8 ∧ yX8_far.cls ≠ "java/lang/invoke/MethodHandle" ∧ yX8_far.cls ≠ "java/lang/invoke/VarHandle" ∧ (parseMethodDescriptor yX8_far.desc).map (fun d => d.parameters.length) = some 2 := by decide +kernel
theorem hdX8_farN : yX8_far.cls ≠ "java/lang/invoke/MethodHandle" ∧ yX8_far.cls ≠ "java/lang/invoke/VarHandle" ∧ (parseMethodDescriptor yX8_far.desc).map (fun d => d.parameters.length) = some 2 := hdX8_far.2
theorem hdX8_contradicts : yX8_contradicts.cls = RX8 ∧ yX8_contradicts.cls ≠ "java/lang/invoke/MethodHandle" ∧ yX8_contradicts.cls ≠ "java/lang/invoke/VarHandle" ∧ (parseMethodDescriptor yX8_contradicts.desc).map (fun d => d.parameters.length) = some 0 := by decide +kernel
theorem hdX8_contradictsN : yX8_contradicts.cls ≠ "java/lang/invoke/MethodHandle" ∧ yX8_contradicts.cls ≠ "java/lang/invoke/VarHandle" ∧ (parseMethodDescriptor yX8_contradicts.desc).map (fun d => d.parameters.length) = some 0 := hdX8_contradicts.2
theorem hdX8_filled : yX8_filled.cls = RX8 ∧ yX8_filled.cls ≠ "java/lang/invoke/MethodHandle" ∧ yX8_filled.cls ≠ "java/lang/invoke/VarHandle" ∧ (parseMethodDescriptor yX8_filled.desc).map (fun d => d.parameters.length) = some 2 := by decide +kernel
theorem hdX8_filledN : yX8_filled.cls ≠ "java/lang/invoke/MethodHandle" ∧ yX8_filled.cls ≠ "java/lang/invoke/VarHandle" ∧ (parseMethodDescriptor yX8_filled.desc).map (fun d => d.parameters.length) = some 2 := hdX8_filled.2
theorem hdX8_count : yX8_count.cls = RX8 ∧ yX8_count.cls ≠ "java/lang/invoke/MethodHandle" ∧ yX8_count.cls ≠ "java/lang/invoke/VarHandle" ∧ (parseMethodDescriptor yX8_count.desc).map (fun d => d.parameters.length) = some 1 := by decide +kernel
theorem hdX8_countN : yX8_count.cls ≠ "java/lang/invoke/MethodHandle" ∧ yX8_count.cls ≠ "java/lang/invoke/VarHandle" ∧ (parseMethodDescriptor yX8_count.desc).map (fun d => d.parameters.length) = some 1 := hdX8_count.2
theorem hdX8_trace : yX8_trace.cls = RX8 ∧ yX8_trace.cls ≠ "java/lang/invoke/MethodHandle" ∧ yX8_trace.cls ≠ "java/lang/invoke/VarHandle" ∧ (parseMethodDescriptor yX8_trace.desc).map (fun d => d.parameters.length) = some 0 := by decide +kernel
theorem hdX8_traceN : yX8_trace.cls ≠ "java/lang/invoke/MethodHandle" ∧ yX8_trace.cls ≠ "java/lang/invoke/VarHandle" ∧ (parseMethodDescriptor yX8_trace.desc).map (fun d => d.parameters.length) = some 0 := hdX8_trace.2
theorem zOKw0 : ∀ w ∈ [u_lay RX0 TX0 0, u_lay RX0 TX0 1, u_lay RX0 TX0 2, u_lay RX0 TX0 3, u_lay RX0 TX0 4, u_lay RX0 TX0 5], w ∈ zTab := List.forall_mem_cons.mpr ⟨z_in 310 (by decide +kernel) rfl, List.forall_mem_cons.mpr ⟨z_in 312 (by decide +kernel) rfl, List.forall_mem_cons.mpr ⟨z_in 314 (by decide +kernel) rfl, List.forall_mem_cons.mpr ⟨z_in 316 (by decide +kernel) rfl, List.forall_mem_cons.mpr ⟨z_in 318 (by decide +kernel) rfl, List.forall_mem_cons.mpr ⟨z_in 320 (by decide +kernel) rfl, fun _ h => absurd h List.not_mem_nil⟩⟩⟩⟩⟩⟩
theorem zOK0 : zOK 0 RX0 TX0 6 tyX0 := ⟨rfl, zOKw0, tyX0_ok, nmX0⟩
theorem zOKw1 : ∀ w ∈ [u_lay RX1 TX1 0, u_lay RX1 TX1 1, u_lay RX1 TX1 2, u_lay RX1 TX1 3], w ∈ zTab := List.forall_mem_cons.mpr ⟨z_in 192 (by decide +kernel) rfl, List.forall_mem_cons.mpr ⟨z_in 194 (by decide +kernel) rfl, List.forall_mem_cons.mpr ⟨z_in 196 (by decide +kernel) rfl, List.forall_mem_cons.mpr ⟨z_in 198 (by decide +kernel) rfl, fun _ h => absurd h List.not_mem_nil⟩⟩⟩⟩
theorem zOK1 : zOK 1 RX1 TX1 4 tyX1 := ⟨rfl, zOKw1, tyX1_ok, nmX1⟩
theorem zOKw2 : ∀ w ∈ [u_lay RX2 TX2 0, u_lay RX2 TX2 1, u_lay RX2 TX2 2, u_lay RX2 TX2 3], w ∈ zTab := List.forall_mem_cons.mpr ⟨z_in 117 (by decide +kernel) rfl, List.forall_mem_cons.mpr ⟨z_in 119 (by decide +kernel) rfl, List.forall_mem_cons.mpr ⟨z_in 121 (by decide +kernel) rfl, List.forall_mem_cons.mpr ⟨z_in 123 (by decide +kernel) rfl, fun _ h => absurd h List.not_mem_nil⟩⟩⟩⟩
theorem zOK2 : zOK 2 RX2 TX2 4 tyX2 := ⟨rfl, zOKw2, tyX2_ok, nmX2⟩
theorem zOKw3 : ∀ w ∈ [u_lay RX3 TX3 0, u_lay RX3 TX3 1, u_lay RX3 TX3 2, u_lay RX3 TX3 3, u_lay RX3 TX3 4, u_lay RX3 TX3 5], w ∈ zTab := List.forall_mem_cons.mpr ⟨z_in 166 (by decide +kernel) rfl, List.forall_mem_cons.mpr ⟨z_in 168 (by decide +kernel) rfl, List.forall_mem_cons.mpr ⟨z_in 170 (by decide +kernel) rfl, List.forall_mem_cons.mpr ⟨z_in 172 (by decide +kernel) rfl, List.forall_mem_cons.mpr ⟨z_in 174 (by decide +kernel) rfl, List.forall_mem_cons.mpr ⟨z_in 176 (by decide +kernel) rfl, fun _ h => absurd h List.not_mem_nil⟩⟩⟩⟩⟩⟩
theorem zOK3 : zOK 3 RX3 TX3 6 tyX3 := ⟨rfl, zOKw3, tyX3_ok, nmX3⟩
theorem zOKw4 : ∀ w ∈ [u_lay RX4 TX4 0, u_lay RX4 TX4 1, u_lay RX4 TX4 2, u_lay RX4 TX4 3], w ∈ zTab := List.forall_mem_cons.mpr ⟨z_in 142 (by decide +kernel) rfl, List.forall_mem_cons.mpr ⟨z_in 144 (by decide +kernel) rfl, List.forall_mem_cons.mpr ⟨z_in 146 (by decide +kernel) rfl, List.forall_mem_cons.mpr ⟨z_in 148 (by decide +kernel) rfl, fun _ h => absurd h List.not_mem_nil⟩⟩⟩⟩
theorem zOK4 : zOK 4 RX4 TX4 4 tyX4 := ⟨rfl, zOKw4, tyX4_ok, nmX4⟩
theorem zOKw5 : ∀ w ∈ [u_lay RX5 TX5 0, u_lay RX5 TX5 1, u_lay RX5 TX5 2, u_lay RX5 TX5 3], w ∈ zTab := List.forall_mem_cons.mpr ⟨z_in 216 (by decide +kernel) rfl, List.forall_mem_cons.mpr ⟨z_in 218 (by decide +kernel) rfl, List.forall_mem_cons.mpr ⟨z_in 220 (by decide +kernel) rfl, List.forall_mem_cons.mpr ⟨z_in 222 (by decide +kernel) rfl, fun _ h => absurd h List.not_mem_nil⟩⟩⟩⟩
theorem zOK5 : zOK 5 RX5 TX5 4 tyX5 := ⟨rfl, zOKw5, tyX5_ok, nmX5⟩
theorem zOKw6 : ∀ w ∈ [u_lay RX6 TX6 0, u_lay RX6 TX6 1, u_lay RX6 TX6 2, u_lay RX6 TX6 3, u_lay RX6 TX6 4, u_lay RX6 TX6 5, u_lay RX6 TX6 6, u_lay RX6 TX6 7, u_lay RX6 TX6 8, u_lay RX6 TX6 9, u_lay RX6 TX6 10, u_lay RX6 TX6 11, u_lay RX6 TX6 12, u_lay RX6 TX6 13, u_lay RX6 TX6 14, u_lay RX6 TX6 15, u_lay RX6 TX6 16, u_lay RX6 TX6 17], w ∈ zTab := List.forall_mem_cons.mpr ⟨z_in 256 (by decide +kernel) rfl, List.forall_mem_cons.mpr ⟨z_in 258 (by decide +kernel) rfl, List.forall_mem_cons.mpr ⟨z_in 260 (by decide +kernel) rfl, List.forall_mem_cons.mpr ⟨z_in 262 (by decide +kernel) rfl, List.forall_mem_cons.mpr ⟨z_in 264 (by decide +kernel) rfl, List.forall_mem_cons.mpr ⟨z_in 266 (by decide +kernel) rfl, List.forall_mem_cons.mpr ⟨z_in 268 (by decide +kernel) rfl, List.forall_mem_cons.mpr ⟨z_in 270 (by decide +kernel) rfl, List.forall_mem_cons.mpr ⟨z_in 272 (by decide +kernel) rfl, List.forall_mem_cons.mpr ⟨z_in 274 (by decide +kernel) rfl, List.forall_mem_cons.mpr ⟨z_in 276 (by decide +kernel) rfl, List.forall_mem_cons.mpr ⟨z_in 278 (by decide +kernel) rfl, List.forall_mem_cons.mpr ⟨z_in 280 (by decide +kernel) rfl, List.forall_mem_cons.mpr ⟨z_in 282 (by decide +kernel) rfl, List.forall_mem_cons.mpr ⟨z_in 284 (by decide +kernel) rfl, List.forall_mem_cons.mpr ⟨z_in 286 (by decide +kernel) rfl, List.forall_mem_cons.mpr ⟨z_in 288 (by decide +kernel) rfl, List.forall_mem_cons.mpr ⟨z_in 290 (by decide +kernel) rfl, fun _ h => absurd h List.not_mem_nil⟩⟩⟩⟩⟩⟩⟩⟩⟩⟩⟩⟩⟩⟩⟩⟩⟩⟩
theorem zOK6 : zOK 6 RX6 TX6 18 tyX6 := ⟨rfl, zOKw6, tyX6_ok, nmX6⟩
theorem zOKw7 : ∀ w ∈ [u_lay RX7 TX7 0, u_lay RX7 TX7 1, u_lay RX7 TX7 2, u_lay RX7 TX7 3, u_lay RX7 TX7 4, u_lay RX7 TX7 5, u_lay RX7 TX7 6, u_lay RX7 TX7 7], w ∈ zTab := List.forall_mem_cons.mpr ⟨z_in 331 (by decide +kernel) rfl, List.forall_mem_cons.mpr ⟨z_in 333 (by decide +kernel) rfl, List.forall_mem_cons.mpr ⟨z_in 335 (by decide +kernel) rfl, List.forall_mem_cons.mpr ⟨z_in 337 (by decide +kernel) rfl, List.forall_mem_cons.mpr ⟨z_in 339 (by decide +kernel) rfl, List.forall_mem_cons.mpr ⟨z_in 341 (by decide +kernel) rfl, List.forall_mem_cons.mpr ⟨z_in 343 (by decide +kernel) rfl, List.forall_mem_cons.mpr ⟨z_in 345 (by decide +kernel) rfl, fun _ h => absurd h List.not_mem_nil⟩⟩⟩⟩⟩⟩⟩⟩
theorem zOK7 : zOK 7 RX7 TX7 8 tyX7 := ⟨rfl, zOKw7, tyX7_ok, nmX7⟩
theorem zOKw8 : ∀ w ∈ [u_lay RX8 TX8 0, u_lay RX8 TX8 1, u_lay RX8 TX8 2, u_lay RX8 TX8 3, u_lay RX8 TX8 4, u_lay RX8 TX8 5, u_lay RX8 TX8 6, u_lay RX8 TX8 7, u_lay RX8 TX8 8, u_lay RX8 TX8 9, u_lay RX8 TX8 10, u_lay RX8 TX8 11, u_lay RX8 TX8 12, u_lay RX8 TX8 13, u_lay RX8 TX8 14, u_lay RX8 TX8 15, u_lay RX8 TX8 16, u_lay RX8 TX8 17, u_lay RX8 TX8 18, u_lay RX8 TX8 19, u_lay RX8 TX8 20, u_lay RX8 TX8 21, u_lay RX8 TX8 22, u_lay RX8 TX8 23, u_lay RX8 TX8 24, u_lay RX8 TX8 25, u_lay RX8 TX8 26, u_lay RX8 TX8 27, u_lay RX8 TX8 28, u_lay RX8 TX8 29, u_lay RX8 TX8 30, u_lay RX8 TX8 31, u_lay RX8 TX8 32, u_lay RX8 TX8 33], w ∈ zTab := List.forall_mem_cons.mpr ⟨z_in 822 (by decide +kernel) rfl, List.forall_mem_cons.mpr ⟨z_in 824 (by decide +kernel) rfl, List.forall_mem_cons.mpr ⟨z_in 826 (by decide +kernel) rfl, List.forall_mem_cons.mpr ⟨z_in 828 (by decide +kernel) rfl, List.forall_mem_cons.mpr ⟨z_in 830 (by decide +kernel) rfl, List.forall_mem_cons.mpr ⟨z_in 832 (by decide +kernel) rfl, List.forall_mem_cons.mpr ⟨z_in 834 (by decide +kernel) rfl, List.forall_mem_cons.mpr ⟨z_in 836 (by decide +kernel) rfl, List.forall_mem_cons.mpr ⟨z_in 838 (by decide +kernel) rfl, List.forall_mem_cons.mpr ⟨z_in 840 (by decide +kernel) rfl, List.forall_mem_cons.mpr ⟨z_in 842 (by decide +kernel) rfl, List.forall_mem_cons.mpr ⟨z_in 844 (by decide +kernel) rfl, List.forall_mem_cons.mpr ⟨z_in 846 (by decide +kernel) rfl, List.forall_mem_cons.mpr ⟨z_in 848 (by decide +kernel) rfl, List.forall_mem_cons.mpr ⟨z_in 850 (by decide +kernel) rfl, List.forall_mem_cons.mpr ⟨z_in 852 (by decide +kernel) rfl, List.forall_mem_cons.mpr ⟨z_in 854 (by decide +kernel) rfl, List.forall_mem_cons.mpr ⟨z_in 856 (by decide +kernel) rfl, List.forall_mem_cons.mpr ⟨z_in 858 (by decide +kernel) rfl, List.forall_mem_cons.mpr ⟨z_in 860 (by decide +kernel) rfl, List.forall_mem_cons.mpr ⟨z_in 862 (by decide +kernel) rfl, List.forall_mem_cons.mpr ⟨z_in 864 (by decide +kernel) rfl, List.forall_mem_cons.mpr ⟨z_in 866 (by decide +kernel) rfl, List.forall_mem_cons.mpr ⟨z_in 868 (by decide +kernel) rfl, List.forall_mem_cons.mpr ⟨z_in 870 (by decide +kernel) rfl, List.forall_mem_cons.mpr ⟨z_in 872 (by decide +kernel) rfl, List.forall_mem_cons.mpr ⟨z_in 874 (by decide +kernel) rfl, List.forall_mem_cons.mpr ⟨z_in 876 (by decide +kernel) rfl, List.forall_mem_cons.mpr ⟨z_in 878 (by decide +kernel) rfl, List.forall_mem_cons.mpr ⟨z_in 880 (by decide +kernel) rfl, List.forall_mem_cons.mpr ⟨z_in 882 (by decide +kernel) rfl, List.forall_mem_cons.mpr ⟨z_in 884 (by decide +kernel) rfl, List.forall_mem_cons.mpr ⟨z_in 886 (by decide +kernel) rfl, List.forall_mem_cons.mpr ⟨z_in 888 (by decide +kernel) rfl, fun _ h => absurd h List.not_mem_nil⟩⟩⟩⟩⟩⟩⟩⟩⟩⟩⟩⟩⟩⟩⟩⟩⟩⟩⟩⟩⟩⟩⟩⟩⟩⟩⟩⟩⟩⟩⟩⟩⟩⟩
theorem zOK8 : zOK 8 RX8 TX8 34 tyX8 := ⟨rfl, zOKw8, tyX8_ok, nmX8⟩
