/-! ===== written by wip/whole/gen.py: the classes' pools, methods and links ===== -/
def O_X0 : Own := (RX0, [(9, false, 0, 0), (15, false, 0, 1), (19, false, 0, 2), (29, false, 0, 3)], [], [])
theorem okO_X0 : okO O_X0 = true := by decide +kernel
def O_X1 : Own := (RX1, [(9, false, 1, 0), (15, false, 1, 1), (18, false, 1, 2), (21, false, 1, 3), (24, false, 1, 4), (27, false, 1, 9), (31, false, 1, 5), (34, false, 1, 6), (37, false, 1, 7), (40, false, 1, 8)], [(112, 1103515245)], [])
theorem okO_X1 : okO O_X1 = true := by decide +kernel
def O_X2 : Own := (RX2, [(9, false, 2, 0), (15, false, 2, 1), (19, false, 2, 3), (29, false, 2, 2), (77, true, 1, 5), (90, true, 1, 6), (93, true, 1, 7), (113, true, 1, 1)], [], [])
theorem okO_X2 : okO O_X2 = true := by decide +kernel
def O_X3 : Own := (RX3, [(10, false, 3, 0), (16, false, 3, 1), (19, false, 3, 2), (22, false, 3, 3), (28, false, 3, 4), (34, false, 3, 5), (39, false, 3, 6), (43, false, 3, 7), (85, true, 0, 0), (112, true, 0, 2), (144, true, 1, 7), (150, true, 1, 1), (153, true, 1, 2), (158, true, 2, 1), (169, true, 2, 2), (216, true, 1, 5), (242, true, 1, 6), (297, true, 1, 8), (300, true, 1, 9), (303, false, 3, 8)], [], [])
theorem okO_X3 : okO O_X3 = true := by decide +kernel
def O_X4 : Own := (RX4, [(7, false, 4, 0), (13, false, 4, 1), (16, false, 4, 2), (21, false, 4, 3), (24, false, 4, 4), (28, false, 4, 5), (31, false, 4, 6), (34, false, 4, 8), (37, false, 4, 10), (40, false, 4, 11), (43, false, 4, 12), (46, false, 4, 14), (49, false, 4, 15), (52, false, 4, 18), (56, false, 4, 26), (59, false, 4, 28), (62, false, 4, 29), (66, false, 4, 30), (69, false, 4, 9), (76, false, 4, 13), (123, false, 4, 16), (136, false, 4, 7), (139, false, 4, 21), (142, false, 4, 23), (145, false, 4, 24), (148, false, 4, 22), (157, false, 4, 25), (219, false, 4, 27), (225, false, 4, 20), (246, false, 4, 17), (328, false, 4, 19)], [(320, 1103515245)], [(79, 7), (81, 4), (83, 40), (100, 5), (117, 15), (126, 999), (128, 99), (134, 255), (241, 2), (306, 52), (331, 12), (333, 16)])
theorem okO_X4 : okO O_X4 = true := by decide +kernel
def O_L : Own := (RL, [], [], [(18, 4294967295)])
theorem okO_L : okO O_L = true := by decide +kernel
def O_J7 : Own := (RJ7, [], [], [])
theorem okO_J7 : okO O_J7 = true := by decide +kernel
def O_J9 : Own := (RJ9, [], [], [])
theorem okO_J9 : okO O_J9 = true := by decide +kernel
def O_J6 : Own := (RJ6, [], [(265, 1431655765), (266, 858993459), (267, 252645135)], [])
theorem okO_J6 : okO O_J6 = true := by decide +kernel
theorem cs_J6_bitCount_0f7a4 : CS yJ6_bitCount_0f7a4 cJ6_bitCount_0f7a4 1 (some .int) 1 := ⟨by decide +kernel, mI (t_3 111 rfl) rfl, mI (t_1 13 rfl) rfl, mI (t_3 112 rfl) rfl⟩
theorem cs_J7_fill_53178 : CS yJ7_fill_53178 cJ7_fill_53178 4 none 2 := ⟨by decide +kernel, mI (t_3 96 rfl) rfl, mI (t_1 6 rfl) rfl, mI (t_3 97 rfl) rfl⟩
theorem cs_J7_fill_d0a16 : CS yJ7_fill_d0a16 cJ7_fill_d0a16 5 none 2 := ⟨by decide +kernel, mI (t_1 162 rfl) rfl, mI (t_1 6 rfl) rfl, mI (t_1 163 rfl) rfl⟩
theorem cs_J9_abs_0f7a4 : CS yJ9_abs_0f7a4 cJ9_abs_0f7a4 1 (some .int) 1 := ⟨by decide +kernel, mI (t_3 121 rfl) rfl, mI (t_1 8 rfl) rfl, mI (t_3 122 rfl) rfl⟩
theorem cs_J9_max_7cf53 : CS yJ9_max_7cf53 cJ9_max_7cf53 2 (some .int) 2 := ⟨by decide +kernel, mI (t_2 34 rfl) rfl, mI (t_1 8 rfl) rfl, mI (t_2 35 rfl) rfl⟩
theorem cs_J9_min_7cf53 : CS yJ9_min_7cf53 cJ9_min_7cf53 2 (some .int) 2 := ⟨by decide +kernel, mI (t_2 23 rfl) rfl, mI (t_1 8 rfl) rfl, mI (t_2 24 rfl) rfl⟩
theorem cv_X0_content : CV yX0_content cX0_content 1 (some .int) 0 0 := ⟨rfl, by decide, by decide +kernel, mI (t_1 220 rfl) rfl, mI (s_1 (q := (yX0_content, 4)) 10 rfl) rfl, mI (t_1 4 rfl) rfl, mI (t_1 221 rfl) rfl⟩
theorem cv_X0_cut : CV yX0_cut cX0_cut 3 (some .long) 1 0 := ⟨rfl, by decide, by decide +kernel, mI (t_1 191 rfl) rfl, mI (s_1 (q := (yX0_cut, 4)) 7 rfl) rfl, mI (t_1 4 rfl) rfl, mI (t_1 192 rfl) rfl⟩
theorem cv_X0_elementAt : CV yX0_elementAt cX0_elementAt 2 (some .long) 1 0 := ⟨rfl, by decide, by decide +kernel, mI (t_1 212 rfl) rfl, mI (s_1 (q := (yX0_elementAt, 4)) 9 rfl) rfl, mI (t_1 4 rfl) rfl, mI (t_1 213 rfl) rfl⟩
theorem cv_X0_hasPart : CV yX0_hasPart cX0_hasPart 3 (some .boolean) 2 0 := ⟨rfl, by decide, by decide +kernel, mI (t_1 182 rfl) rfl, mI (s_1 (q := (yX0_hasPart, 4)) 5 rfl) rfl, mI (t_1 4 rfl) rfl, mI (t_1 183 rfl) rfl⟩
theorem cv_X0_holdLaw : CV yX0_holdLaw cX0_holdLaw 2 none 1 0 := ⟨rfl, by decide, by decide +kernel, mI (t_1 232 rfl) rfl, mI (s_1 (q := (yX0_holdLaw, 4)) 12 rfl) rfl, mI (t_1 4 rfl) rfl, mI (t_1 233 rfl) rfl⟩
theorem cv_X0_holdRow : CV yX0_holdRow cX0_holdRow 3 none 2 0 := ⟨rfl, by decide, by decide +kernel, mI (t_1 159 rfl) rfl, mI (s_1 (q := (yX0_holdRow, 4)) 1 rfl) rfl, mI (t_1 4 rfl) rfl, mI (t_1 160 rfl) rfl⟩
theorem cv_X0_holdsLaw : CV yX0_holdsLaw cX0_holdsLaw 1 (some .boolean) 0 0 := ⟨rfl, by decide, by decide +kernel, mI (t_1 174 rfl) rfl, mI (s_1 (q := (yX0_holdsLaw, 4)) 3 rfl) rfl, mI (t_1 4 rfl) rfl, mI (t_1 175 rfl) rfl⟩
theorem cv_X0_holdsRow : CV yX0_holdsRow cX0_holdsRow 1 (some .boolean) 0 0 := ⟨rfl, by decide, by decide +kernel, mI (t_1 178 rfl) rfl, mI (s_1 (q := (yX0_holdsRow, 4)) 4 rfl) rfl, mI (t_1 4 rfl) rfl, mI (t_1 179 rfl) rfl⟩
theorem ci_X0_init : CI yX0_init cX0_init 1 0 := ⟨rfl, by decide +kernel, mI (t_1 96 rfl) rfl, mI (t_1 4 rfl) rfl, mI (t_1 97 rfl) rfl⟩
theorem cv_X0_isOtherRowThan : CV yX0_isOtherRowThan cX0_isOtherRowThan 2 (some .boolean) 1 0 := ⟨rfl, by decide, by decide +kernel, mI (t_1 200 rfl) rfl, mI (s_1 (q := (yX0_isOtherRowThan, 4)) 8 rfl) rfl, mI (t_1 4 rfl) rfl, mI (t_1 201 rfl) rfl⟩
theorem cv_X0_put : CV yX0_put cX0_put 4 none 2 0 := ⟨rfl, by decide, by decide +kernel, mI (t_1 186 rfl) rfl, mI (s_1 (q := (yX0_put, 4)) 6 rfl) rfl, mI (t_1 4 rfl) rfl, mI (t_1 187 rfl) rfl⟩
theorem cv_X0_refusalOfRow : CV yX0_refusalOfRow cX0_refusalOfRow 1 (some .int) 0 0 := ⟨rfl, by decide, by decide +kernel, mI (t_1 170 rfl) rfl, mI (s_1 (q := (yX0_refusalOfRow, 4)) 2 rfl) rfl, mI (t_1 4 rfl) rfl, mI (t_1 171 rfl) rfl⟩
theorem cv_X1_add : CV yX1_add cX1_add 2 (some .int) 0 1 := ⟨rfl, by decide, by decide +kernel, mI (t_2 46 rfl) rfl, mI (s_2 (q := (yX1_add, 10)) 4 rfl) rfl, mI (t_1 2 rfl) rfl, mI (t_2 47 rfl) rfl⟩
theorem cv_X1_addLaw : CV yX1_addLaw cX1_addLaw 4 (some .int) 2 1 := ⟨rfl, by decide, by decide +kernel, mI (t_2 59 rfl) rfl, mI (s_2 (q := (yX1_addLaw, 10)) 6 rfl) rfl, mI (t_1 2 rfl) rfl, mI (t_2 60 rfl) rfl⟩
theorem cv_X1_allBits : CV yX1_allBits cX1_allBits 1 (some .int) 0 1 := ⟨rfl, by decide, by decide +kernel, mI (t_3 76 rfl) rfl, mI (s_4 (q := (yX1_allBits, 10)) 5 rfl) rfl, mI (t_1 2 rfl) rfl, mI (t_3 77 rfl) rfl⟩
theorem cv_X1_allCounts : CV yX1_allCounts cX1_allCounts 3 (some .int) 0 1 := ⟨rfl, by decide, by decide +kernel, mI (t_4 69 rfl) rfl, mI (s_5 (q := (yX1_allCounts, 10)) 2 rfl) rfl, mI (t_1 2 rfl) rfl, mI (t_4 70 rfl) rfl⟩
theorem cv_X1_amountOf : CV yX1_amountOf cX1_amountOf 2 (some .int) 1 1 := ⟨rfl, by decide, by decide +kernel, mI (t_2 11 rfl) rfl, mI (s_1 (q := (yX1_amountOf, 10)) 14 rfl) rfl, mI (t_1 2 rfl) rfl, mI (t_2 12 rfl) rfl⟩
theorem cv_X1_become : CV yX1_become cX1_become 2 none 1 1 := ⟨rfl, by decide, by decide +kernel, mI (t_2 89 rfl) rfl, mI (s_2 (q := (yX1_become, 10)) 8 rfl) rfl, mI (t_1 2 rfl) rfl, mI (t_2 90 rfl) rfl⟩
theorem cv_X1_countsApart : CV yX1_countsApart cX1_countsApart 4 (some .int) 0 1 := ⟨rfl, by decide, by decide +kernel, mI (t_3 151 rfl) rfl, mI (s_4 (q := (yX1_countsApart, 10)) 9 rfl) rfl, mI (t_1 2 rfl) rfl, mI (t_3 152 rfl) rfl⟩
theorem cv_X1_draw : CV yX1_draw cX1_draw 2 (some .int) 1 1 := ⟨rfl, by decide, by decide +kernel, mI (t_4 44 rfl) rfl, mI (s_5 (q := (yX1_draw, 10)) 1 rfl) rfl, mI (t_1 2 rfl) rfl, mI (t_4 45 rfl) rfl⟩
theorem cv_X1_fact : CV yX1_fact cX1_fact 3 (some .int) 2 1 := ⟨rfl, by decide, by decide +kernel, mI (t_3 15 rfl) rfl, mI (s_3 (q := (yX1_fact, 10)) 15 rfl) rfl, mI (t_1 2 rfl) rfl, mI (t_3 16 rfl) rfl⟩
theorem cv_X1_hasLaw : CV yX1_hasLaw cX1_hasLaw 2 (some .boolean) 1 1 := ⟨rfl, by decide, by decide +kernel, mI (t_1 228 rfl) rfl, mI (s_1 (q := (yX1_hasLaw, 10)) 11 rfl) rfl, mI (t_1 2 rfl) rfl, mI (t_1 229 rfl) rfl⟩
theorem cv_X1_hasPerson : CV yX1_hasPerson cX1_hasPerson 2 (some .boolean) 1 1 := ⟨rfl, by decide, by decide +kernel, mI (t_2 19 rfl) rfl, mI (s_2 (q := (yX1_hasPerson, 10)) 0 rfl) rfl, mI (t_1 2 rfl) rfl, mI (t_2 20 rfl) rfl⟩
theorem cv_X1_hasPlace : CV yX1_hasPlace cX1_hasPlace 2 (some .boolean) 1 1 := ⟨rfl, by decide, by decide +kernel, mI (t_2 223 rfl) rfl, mI (s_3 (q := (yX1_hasPlace, 10)) 9 rfl) rfl, mI (t_1 2 rfl) rfl, mI (t_2 224 rfl) rfl⟩
theorem cv_X1_hasRoom : CV yX1_hasRoom cX1_hasRoom 1 (some .boolean) 0 1 := ⟨rfl, by decide, by decide +kernel, mI (t_2 42 rfl) rfl, mI (s_2 (q := (yX1_hasRoom, 10)) 3 rfl) rfl, mI (t_1 2 rfl) rfl, mI (t_2 43 rfl) rfl⟩
theorem cv_X1_hasRoomForLaw : CV yX1_hasRoomForLaw cX1_hasRoomForLaw 1 (some .boolean) 0 1 := ⟨rfl, by decide, by decide +kernel, mI (t_2 55 rfl) rfl, mI (s_2 (q := (yX1_hasRoomForLaw, 10)) 5 rfl) rfl, mI (t_1 2 rfl) rfl, mI (t_2 56 rfl) rfl⟩
theorem ci_X1_init : CI yX1_init cX1_init 1 0 := ⟨rfl, by decide +kernel, mI (t_1 25 rfl) rfl, mI (t_1 2 rfl) rfl, mI (t_1 26 rfl) rfl⟩
theorem cv_X1_isEmpty : CV yX1_isEmpty cX1_isEmpty 1 (some .boolean) 0 1 := ⟨rfl, by decide, by decide +kernel, mI (t_2 200 rfl) rfl, mI (s_3 (q := (yX1_isEmpty, 10)) 4 rfl) rfl, mI (t_1 2 rfl) rfl, mI (t_2 201 rfl) rfl⟩
theorem cv_X1_isLawless : CV yX1_isLawless cX1_isLawless 1 (some .boolean) 0 1 := ⟨rfl, by decide, by decide +kernel, mI (t_2 204 rfl) rfl, mI (s_3 (q := (yX1_isLawless, 10)) 5 rfl) rfl, mI (t_1 2 rfl) rfl, mI (t_2 205 rfl) rfl⟩
theorem cv_X1_isStuck : CV yX1_isStuck cX1_isStuck 1 (some .boolean) 0 1 := ⟨rfl, by decide, by decide +kernel, mI (t_2 196 rfl) rfl, mI (s_3 (q := (yX1_isStuck, 10)) 3 rfl) rfl, mI (t_1 2 rfl) rfl, mI (t_2 197 rfl) rfl⟩
theorem cv_X1_kindOf : CV yX1_kindOf cX1_kindOf 2 (some .int) 1 1 := ⟨rfl, by decide, by decide +kernel, mI (t_2 3 rfl) rfl, mI (s_1 (q := (yX1_kindOf, 10)) 13 rfl) rfl, mI (t_1 2 rfl) rfl, mI (t_2 4 rfl) rfl⟩
theorem cv_X1_lastThen : CV yX1_lastThen cX1_lastThen 4 (some .int) 1 1 := ⟨rfl, by decide, by decide +kernel, mI (t_2 15 rfl) rfl, mI (s_1 (q := (yX1_lastThen, 10)) 15 rfl) rfl, mI (t_1 2 rfl) rfl, mI (t_2 16 rfl) rfl⟩
theorem cv_X1_letBefore : CV yX1_letBefore cX1_letBefore 3 (some .int) 1 1 := ⟨rfl, by decide, by decide +kernel, mI (t_2 219 rfl) rfl, mI (s_3 (q := (yX1_letBefore, 10)) 8 rfl) rfl, mI (t_1 2 rfl) rfl, mI (t_2 220 rfl) rfl⟩
theorem cv_X1_move : CV yX1_move cX1_move 4 none 2 1 := ⟨rfl, by decide, by decide +kernel, mI (t_2 236 rfl) rfl, mI (s_3 (q := (yX1_move, 10)) 12 rfl) rfl, mI (t_1 2 rfl) rfl, mI (t_2 237 rfl) rfl⟩
theorem cv_X1_placeOf : CV yX1_placeOf cX1_placeOf 3 (some .int) 1 1 := ⟨rfl, by decide, by decide +kernel, mI (t_3 0 rfl) rfl, mI (s_3 (q := (yX1_placeOf, 10)) 13 rfl) rfl, mI (t_1 2 rfl) rfl, mI (t_3 1 rfl) rfl⟩
theorem cv_X1_removeLast : CV yX1_removeLast cX1_removeLast 1 none 0 1 := ⟨rfl, by decide, by decide +kernel, mI (t_2 232 rfl) rfl, mI (s_3 (q := (yX1_removeLast, 10)) 11 rfl) rfl, mI (t_1 2 rfl) rfl, mI (t_2 233 rfl) rfl⟩
theorem cv_X1_standsLike : CV yX1_standsLike cX1_standsLike 3 (some .boolean) 1 1 := ⟨rfl, by decide, by decide +kernel, mI (t_3 60 rfl) rfl, mI (s_4 (q := (yX1_standsLike, 10)) 3 rfl) rfl, mI (t_1 2 rfl) rfl, mI (t_3 61 rfl) rfl⟩
theorem cv_X1_startAnew : CV yX1_startAnew cX1_startAnew 1 none 0 1 := ⟨rfl, by decide, by decide +kernel, mI (t_3 93 rfl) rfl, mI (s_4 (q := (yX1_startAnew, 10)) 7 rfl) rfl, mI (t_1 2 rfl) rfl, mI (t_3 94 rfl) rfl⟩
theorem cv_X1_stepsBack : CV yX1_stepsBack cX1_stepsBack 3 (some .int) 1 1 := ⟨rfl, by decide, by decide +kernel, mI (t_2 27 rfl) rfl, mI (s_2 (q := (yX1_stepsBack, 10)) 1 rfl) rfl, mI (t_1 2 rfl) rfl, mI (t_2 28 rfl) rfl⟩
theorem cv_X1_stepsWanted : CV yX1_stepsWanted cX1_stepsWanted 4 (some .int) 2 1 := ⟨rfl, by decide, by decide +kernel, mI (t_2 31 rfl) rfl, mI (s_2 (q := (yX1_stepsWanted, 10)) 2 rfl) rfl, mI (t_1 2 rfl) rfl, mI (t_2 32 rfl) rfl⟩
theorem cv_X1_turn : CV yX1_turn cX1_turn 3 (some .int) 0 1 := ⟨rfl, by decide, by decide +kernel, mI (t_2 208 rfl) rfl, mI (s_3 (q := (yX1_turn, 10)) 6 rfl) rfl, mI (t_1 2 rfl) rfl, mI (t_2 209 rfl) rfl⟩
theorem cv_X1_turnTimes : CV yX1_turnTimes cX1_turnTimes 3 none 1 1 := ⟨rfl, by decide, by decide +kernel, mI (t_3 41 rfl) rfl, mI (s_4 (q := (yX1_turnTimes, 10)) 2 rfl) rfl, mI (t_1 2 rfl) rfl, mI (t_3 42 rfl) rfl⟩
theorem cv_X1_who : CV yX1_who cX1_who 2 (some .int) 1 1 := ⟨rfl, by decide, by decide +kernel, mI (t_3 28 rfl) rfl, mI (s_4 (q := (yX1_who, 10)) 0 rfl) rfl, mI (t_1 2 rfl) rfl, mI (t_3 29 rfl) rfl⟩
theorem cv_X2_add : CV yX2_add cX2_add 2 (some .boolean) 1 2 := ⟨rfl, by decide, by decide +kernel, mI (t_2 77 rfl) rfl, mI (s_2 (q := (yX2_add, 4)) 7 rfl) rfl, mI (t_1 3 rfl) rfl, mI (t_2 78 rfl) rfl⟩
theorem cv_X2_goOn : CV yX2_goOn cX2_goOn 1 none 0 2 := ⟨rfl, by decide, by decide +kernel, mI (t_2 98 rfl) rfl, mI (s_2 (q := (yX2_goOn, 4)) 10 rfl) rfl, mI (t_1 3 rfl) rfl, mI (t_2 99 rfl) rfl⟩
theorem ci_X2_init : CI yX2_init cX2_init 1 0 := ⟨rfl, by decide +kernel, mI (t_1 74 rfl) rfl, mI (t_1 3 rfl) rfl, mI (t_1 75 rfl) rfl⟩
theorem cs_X2_isDigit : CS yX2_isDigit cX2_isDigit 1 (some .boolean) 1 := ⟨by decide +kernel, mI (t_2 105 rfl) rfl, mI (t_1 3 rfl) rfl, mI (t_2 106 rfl) rfl⟩
theorem cs_X2_isLetter : CS yX2_isLetter cX2_isLetter 1 (some .boolean) 1 := ⟨by decide +kernel, mI (t_2 102 rfl) rfl, mI (t_1 3 rfl) rfl, mI (t_2 103 rfl) rfl⟩
theorem cv_X2_isWord : CV yX2_isWord cX2_isWord 3 (some .boolean) 1 2 := ⟨rfl, by decide, by decide +kernel, mI (t_2 114 rfl) rfl, mI (s_2 (q := (yX2_isWord, 4)) 12 rfl) rfl, mI (t_1 3 rfl) rfl, mI (t_2 115 rfl) rfl⟩
theorem cv_X2_number : CV yX2_number cX2_number 4 (some .int) 2 2 := ⟨rfl, by decide, by decide +kernel, mI (t_2 170 rfl) rfl, mI (s_2 (q := (yX2_number, 4)) 14 rfl) rfl, mI (t_1 3 rfl) rfl, mI (t_2 171 rfl) rfl⟩
theorem cv_X2_numberInHand : CV yX2_numberInHand cX2_numberInHand 3 (some .int) 0 2 := ⟨rfl, by decide, by decide +kernel, mI (t_2 174 rfl) rfl, mI (s_2 (q := (yX2_numberInHand, 4)) 15 rfl) rfl, mI (t_1 3 rfl) rfl, mI (t_2 175 rfl) rfl⟩
theorem cv_X2_readCount : CV yX2_readCount cX2_readCount 4 (some .boolean) 1 2 := ⟨rfl, by decide, by decide +kernel, mI (t_3 5 rfl) rfl, mI (s_3 (q := (yX2_readCount, 4)) 14 rfl) rfl, mI (t_1 3 rfl) rfl, mI (t_3 6 rfl) rfl⟩
theorem cv_X2_readInto : CV yX2_readInto cX2_readInto 3 (some .int) 1 2 := ⟨rfl, by decide, by decide +kernel, mI (t_2 94 rfl) rfl, mI (s_2 (q := (yX2_readInto, 4)) 9 rfl) rfl, mI (t_1 3 rfl) rfl, mI (t_2 95 rfl) rfl⟩
theorem cv_X2_readLaw : CV yX2_readLaw cX2_readLaw 4 (some .boolean) 1 2 := ⟨rfl, by decide, by decide +kernel, mI (t_2 181 rfl) rfl, mI (s_3 (q := (yX2_readLaw, 4)) 0 rfl) rfl, mI (t_1 3 rfl) rfl, mI (t_2 182 rfl) rfl⟩
theorem cv_X2_readLeave : CV yX2_readLeave cX2_readLeave 3 (some .boolean) 1 2 := ⟨rfl, by decide, by decide +kernel, mI (t_2 228 rfl) rfl, mI (s_3 (q := (yX2_readLeave, 4)) 10 rfl) rfl, mI (t_1 3 rfl) rfl, mI (t_2 229 rfl) rfl⟩
theorem cv_X2_readLet : CV yX2_readLet cX2_readLet 3 (some .boolean) 1 2 := ⟨rfl, by decide, by decide +kernel, mI (t_2 215 rfl) rfl, mI (s_3 (q := (yX2_readLet, 4)) 7 rfl) rfl, mI (t_1 3 rfl) rfl, mI (t_2 216 rfl) rfl⟩
theorem cv_X2_readPeople : CV yX2_readPeople cX2_readPeople 4 (some .boolean) 1 2 := ⟨rfl, by decide, by decide +kernel, mI (t_2 166 rfl) rfl, mI (s_2 (q := (yX2_readPeople, 4)) 13 rfl) rfl, mI (t_1 3 rfl) rfl, mI (t_2 167 rfl) rfl⟩
theorem cv_X2_readServe : CV yX2_readServe cX2_readServe 4 (some .boolean) 1 2 := ⟨rfl, by decide, by decide +kernel, mI (t_2 192 rfl) rfl, mI (s_3 (q := (yX2_readServe, 4)) 2 rfl) rfl, mI (t_1 3 rfl) rfl, mI (t_2 193 rfl) rfl⟩
theorem cv_X2_readStatement : CV yX2_readStatement cX2_readStatement 2 (some .boolean) 1 2 := ⟨rfl, by decide, by decide +kernel, mI (t_2 109 rfl) rfl, mI (s_2 (q := (yX2_readStatement, 4)) 11 rfl) rfl, mI (t_1 3 rfl) rfl, mI (t_2 110 rfl) rfl⟩
theorem cv_X2_readUse : CV yX2_readUse cX2_readUse 3 (some .boolean) 1 2 := ⟨rfl, by decide, by decide +kernel, mI (t_2 187 rfl) rfl, mI (s_3 (q := (yX2_readUse, 4)) 1 rfl) rfl, mI (t_1 3 rfl) rfl, mI (t_2 188 rfl) rfl⟩
theorem cv_X3_after : CV yX3_after cX3_after 7 (some .int) 2 3 := ⟨rfl, by decide, by decide +kernel, mI (t_3 233 rfl) rfl, mI (t_3 234 rfl) rfl, mI (t_1 1 rfl) rfl, mI (t_3 235 rfl) rfl⟩
theorem cv_X3_again : CV yX3_again cX3_again 3 (some .int) 2 3 := ⟨rfl, by decide, by decide +kernel, mI (t_3 190 rfl) rfl, mI (t_3 191 rfl) rfl, mI (t_1 1 rfl) rfl, mI (t_3 192 rfl) rfl⟩
theorem cv_X3_anew : CV yX3_anew cX3_anew 2 (some .int) 0 3 := ⟨rfl, by decide, by decide +kernel, mI (t_4 48 rfl) rfl, mI (t_4 49 rfl) rfl, mI (t_1 1 rfl) rfl, mI (t_4 50 rfl) rfl⟩
theorem cv_X3_at : CV yX3_at cX3_at 2 (some .int) 1 3 := ⟨rfl, by decide, by decide +kernel, mI (t_3 22 rfl) rfl, mI (t_3 23 rfl) rfl, mI (t_1 1 rfl) rfl, mI (t_3 24 rfl) rfl⟩
theorem cv_X3_back : CV yX3_back cX3_back 2 (some .int) 0 3 := ⟨rfl, by decide, by decide +kernel, mI (t_4 60 rfl) rfl, mI (t_4 61 rfl) rfl, mI (t_1 1 rfl) rfl, mI (t_4 62 rfl) rfl⟩
theorem cv_X3_behind : CV yX3_behind cX3_behind 4 (some .int) 3 3 := ⟨rfl, by decide, by decide +kernel, mI (t_3 45 rfl) rfl, mI (t_3 46 rfl) rfl, mI (t_1 1 rfl) rfl, mI (t_3 47 rfl) rfl⟩
theorem cv_X3_beside : CV yX3_beside cX3_beside 4 (some .int) 2 3 := ⟨rfl, by decide, by decide +kernel, mI (t_3 117 rfl) rfl, mI (t_3 118 rfl) rfl, mI (t_1 1 rfl) rfl, mI (t_3 119 rfl) rfl⟩
theorem cv_X3_brings : CV yX3_brings cX3_brings 5 (some .int) 3 3 := ⟨rfl, by decide, by decide +kernel, mI (t_3 226 rfl) rfl, mI (t_3 227 rfl) rfl, mI (t_1 1 rfl) rfl, mI (t_3 228 rfl) rfl⟩
theorem cv_X3_comes : CV yX3_comes cX3_comes 1 (some .int) 0 3 := ⟨rfl, by decide, by decide +kernel, mI (t_2 37 rfl) rfl, mI (t_2 38 rfl) rfl, mI (t_1 1 rfl) rfl, mI (t_2 39 rfl) rfl⟩
theorem cv_X3_copy : CV yX3_copy cX3_copy 8 (some .int) 5 3 := ⟨rfl, by decide, by decide +kernel, mI (t_1 194 rfl) rfl, mI (t_1 195 rfl) rfl, mI (t_1 1 rfl) rfl, mI (t_1 196 rfl) rfl⟩
theorem cv_X3_day : CV yX3_day cX3_day 4 (some .int) 1 3 := ⟨rfl, by decide, by decide +kernel, mI (t_4 39 rfl) rfl, mI (t_4 40 rfl) rfl, mI (t_1 1 rfl) rfl, mI (t_4 41 rfl) rfl⟩
theorem cs_X3_digitsInTwos : CS yX3_digitsInTwos cX3_digitsInTwos 3 (some .int) 1 := ⟨by decide +kernel, mI (t_3 230 rfl) rfl, mI (t_1 1 rfl) rfl, mI (t_3 231 rfl) rfl⟩
theorem cv_X3_element : CV yX3_element cX3_element 3 (some .long) 2 3 := ⟨rfl, by decide, by decide +kernel, mI (t_1 207 rfl) rfl, mI (t_1 208 rfl) rfl, mI (t_1 1 rfl) rfl, mI (t_1 209 rfl) rfl⟩
theorem cv_X3_fairest : CV yX3_fairest cX3_fairest 6 (some .int) 1 3 := ⟨rfl, by decide, by decide +kernel, mI (t_3 162 rfl) rfl, mI (t_3 163 rfl) rfl, mI (t_1 1 rfl) rfl, mI (t_3 164 rfl) rfl⟩
theorem cv_X3_feed : CV yX3_feed cX3_feed 2 (some .int) 1 3 := ⟨rfl, by decide, by decide +kernel, mI (t_2 72 rfl) rfl, mI (t_2 73 rfl) rfl, mI (t_1 1 rfl) rfl, mI (t_2 74 rfl) rfl⟩
theorem cv_X3_fewest : CV yX3_fewest cX3_fewest 6 (some .int) 1 3 := ⟨rfl, by decide, by decide +kernel, mI (t_3 238 rfl) rfl, mI (t_3 239 rfl) rfl, mI (t_1 1 rfl) rfl, mI (t_4 0 rfl) rfl⟩
theorem cs_X3_firstGreatest : CS yX3_firstGreatest cX3_firstGreatest 4 (some .int) 2 := ⟨by decide +kernel, mI (t_3 99 rfl) rfl, mI (t_1 1 rfl) rfl, mI (t_3 100 rfl) rfl⟩
theorem cv_X3_firstPush : CV yX3_firstPush cX3_firstPush 6 (some .int) 2 3 := ⟨rfl, by decide, by decide +kernel, mI (t_3 187 rfl) rfl, mI (s_4 (q := (yX3_firstPush, 9)) 13 rfl) rfl, mI (t_1 1 rfl) rfl, mI (t_3 188 rfl) rfl⟩
theorem cv_X3_firstWrong : CV yX3_firstWrong cX3_firstWrong 4 (some .int) 2 3 := ⟨rfl, by decide, by decide +kernel, mI (t_3 175 rfl) rfl, mI (s_4 (q := (yX3_firstWrong, 9)) 12 rfl) rfl, mI (t_1 1 rfl) rfl, mI (t_3 176 rfl) rfl⟩
theorem cv_X3_fits : CV yX3_fits cX3_fits 6 (some .int) 2 3 := ⟨rfl, by decide, by decide +kernel, mI (t_3 178 rfl) rfl, mI (t_3 179 rfl) rfl, mI (t_1 1 rfl) rfl, mI (t_3 180 rfl) rfl⟩
theorem cv_X3_forward : CV yX3_forward cX3_forward 6 (some .int) 3 3 := ⟨rfl, by decide, by decide +kernel, mI (t_3 141 rfl) rfl, mI (t_3 142 rfl) rfl, mI (t_1 1 rfl) rfl, mI (t_3 143 rfl) rfl⟩
theorem cv_X3_hasAllPeople : CV yX3_hasAllPeople cX3_hasAllPeople 6 (some .boolean) 1 3 := ⟨rfl, by decide, by decide +kernel, mI (t_4 3 rfl) rfl, mI (s_4 (q := (yX3_hasAllPeople, 9)) 15 rfl) rfl, mI (t_1 1 rfl) rfl, mI (t_4 4 rfl) rfl⟩
theorem cv_X3_holds : CV yX3_holds cX3_holds 2 (some .int) 1 3 := ⟨rfl, by decide, by decide +kernel, mI (t_1 215 rfl) rfl, mI (t_1 216 rfl) rfl, mI (t_1 1 rfl) rfl, mI (t_1 217 rfl) rfl⟩
theorem cv_X3_image : CV yX3_image cX3_image 1 (some .int) 0 3 := ⟨rfl, by decide, by decide +kernel, mI (t_4 56 rfl) rfl, mI (t_4 57 rfl) rfl, mI (t_1 1 rfl) rfl, mI (t_4 58 rfl) rfl⟩
theorem ci_X3_init : CI yX3_init cX3_init 2 0 := ⟨rfl, by decide +kernel, mI (t_1 17 rfl) rfl, mI (t_1 1 rfl) rfl, mI (t_1 18 rfl) rfl⟩
theorem cs_X3_isBetween : CS yX3_isBetween cX3_isBetween 3 (some .boolean) 3 := ⟨by decide +kernel, mI (t_1 151 rfl) rfl, mI (t_1 1 rfl) rfl, mI (t_1 152 rfl) rfl⟩
theorem cs_X3_isKind : CS yX3_isKind cX3_isKind 1 (some .boolean) 1 := ⟨by decide +kernel, mI (t_1 239 rfl) rfl, mI (t_1 1 rfl) rfl, mI (t_2 0 rfl) rfl⟩
theorem cs_X3_isLeastOfItsRound : CS yX3_isLeastOfItsRound cX3_isLeastOfItsRound 5 (some .boolean) 3 := ⟨by decide +kernel, mI (t_3 219 rfl) rfl, mI (t_1 1 rfl) rfl, mI (t_3 220 rfl) rfl⟩
theorem cs_X3_isPack : CS yX3_isPack cX3_isPack 1 (some .boolean) 1 := ⟨by decide +kernel, mI (t_3 194 rfl) rfl, mI (t_1 1 rfl) rfl, mI (t_3 195 rfl) rfl⟩
theorem cs_X3_isShelf : CS yX3_isShelf cX3_isShelf 1 (some .boolean) 1 := ⟨by decide +kernel, mI (t_1 148 rfl) rfl, mI (t_1 1 rfl) rfl, mI (t_1 149 rfl) rfl⟩
theorem cs_X3_isUnder : CS yX3_isUnder cX3_isUnder 2 (some .boolean) 2 := ⟨by decide +kernel, mI (t_2 7 rfl) rfl, mI (t_1 1 rfl) rfl, mI (t_2 8 rfl) rfl⟩
theorem cv_X3_judge : CV yX3_judge cX3_judge 4 (some .int) 2 3 := ⟨rfl, by decide, by decide +kernel, mI (t_3 166 rfl) rfl, mI (t_3 167 rfl) rfl, mI (t_1 1 rfl) rfl, mI (t_3 168 rfl) rfl⟩
theorem cv_X3_law : CV yX3_law cX3_law 3 (some .int) 2 3 := ⟨rfl, by decide, by decide +kernel, mI (t_2 50 rfl) rfl, mI (t_2 51 rfl) rfl, mI (t_1 1 rfl) rfl, mI (t_2 52 rfl) rfl⟩
theorem cv_X3_lawFor : CV yX3_lawFor cX3_lawFor 6 (some .int) 2 3 := ⟨rfl, by decide, by decide +kernel, mI (t_3 133 rfl) rfl, mI (t_3 134 rfl) rfl, mI (t_1 1 rfl) rfl, mI (t_3 135 rfl) rfl⟩
theorem cv_X3_lawOf : CV yX3_lawOf cX3_lawOf 3 (some .int) 2 3 := ⟨rfl, by decide, by decide +kernel, mI (t_3 18 rfl) rfl, mI (t_3 19 rfl) rfl, mI (t_1 1 rfl) rfl, mI (t_3 20 rfl) rfl⟩
theorem cv_X3_leader : CV yX3_leader cX3_leader 2 (some .int) 1 3 := ⟨rfl, by decide, by decide +kernel, mI (t_3 88 rfl) rfl, mI (t_3 89 rfl) rfl, mI (t_1 1 rfl) rfl, mI (t_3 90 rfl) rfl⟩
theorem cv_X3_leaves : CV yX3_leaves cX3_leaves 1 (some .int) 0 3 := ⟨rfl, by decide, by decide +kernel, mI (t_4 34 rfl) rfl, mI (t_4 35 rfl) rfl, mI (t_1 1 rfl) rfl, mI (t_4 36 rfl) rfl⟩
theorem cv_X3_lets : CV yX3_lets cX3_lets 2 (some .int) 1 3 := ⟨rfl, by decide, by decide +kernel, mI (t_4 26 rfl) rfl, mI (t_4 27 rfl) rfl, mI (t_1 1 rfl) rfl, mI (t_4 28 rfl) rfl⟩
theorem cv_X3_level : CV yX3_level cX3_level 3 (some .int) 1 3 := ⟨rfl, by decide, by decide +kernel, mI (t_3 146 rfl) rfl, mI (t_3 147 rfl) rfl, mI (t_1 1 rfl) rfl, mI (t_3 148 rfl) rfl⟩
theorem cv_X3_lies : CV yX3_lies cX3_lies 5 (some .int) 4 3 := ⟨rfl, by decide, by decide +kernel, mI (t_3 204 rfl) rfl, mI (t_3 205 rfl) rfl, mI (t_1 1 rfl) rfl, mI (t_3 206 rfl) rfl⟩
theorem cv_X3_longest : CV yX3_longest cX3_longest 1 (some .int) 0 3 := ⟨rfl, by decide, by decide +kernel, mI (t_4 10 rfl) rfl, mI (t_4 11 rfl) rfl, mI (t_1 1 rfl) rfl, mI (t_4 12 rfl) rfl⟩
theorem cv_X3_moves : CV yX3_moves cX3_moves 4 (some .int) 2 3 := ⟨rfl, by decide, by decide +kernel, mI (t_4 30 rfl) rfl, mI (t_4 31 rfl) rfl, mI (t_1 1 rfl) rfl, mI (t_4 32 rfl) rfl⟩
theorem cv_X3_never : CV yX3_never cX3_never 1 (some .int) 0 3 := ⟨rfl, by decide, by decide +kernel, mI (t_3 71 rfl) rfl, mI (t_3 72 rfl) rfl, mI (t_1 1 rfl) rfl, mI (t_3 73 rfl) rfl⟩
theorem cv_X3_newcomer : CV yX3_newcomer cX3_newcomer 1 (some .int) 0 3 := ⟨rfl, by decide, by decide +kernel, mI (t_3 137 rfl) rfl, mI (t_3 138 rfl) rfl, mI (t_1 1 rfl) rfl, mI (t_3 139 rfl) rfl⟩
theorem cv_X3_personOf : CV yX3_personOf cX3_personOf 3 (some .int) 2 3 := ⟨rfl, by decide, by decide +kernel, mI (t_3 10 rfl) rfl, mI (t_3 11 rfl) rfl, mI (t_1 1 rfl) rfl, mI (t_3 12 rfl) rfl⟩
theorem cv_X3_pushed : CV yX3_pushed cX3_pushed 4 (some .int) 2 3 := ⟨rfl, by decide, by decide +kernel, mI (t_3 182 rfl) rfl, mI (t_3 183 rfl) rfl, mI (t_1 1 rfl) rfl, mI (t_3 184 rfl) rfl⟩
theorem cv_X3_rankOf : CV yX3_rankOf cX3_rankOf 5 (some .int) 1 3 := ⟨rfl, by decide, by decide +kernel, mI (t_4 19 rfl) rfl, mI (s_5 (q := (yX3_rankOf, 9)) 0 rfl) rfl, mI (t_1 1 rfl) rfl, mI (t_4 20 rfl) rfl⟩
theorem cv_X3_ranked : CV yX3_ranked cX3_ranked 3 (some .int) 1 3 := ⟨rfl, by decide, by decide +kernel, mI (t_4 14 rfl) rfl, mI (t_4 15 rfl) rfl, mI (t_1 1 rfl) rfl, mI (t_4 16 rfl) rfl⟩
theorem cv_X3_refusalOfSlate : CV yX3_refusalOfSlate cX3_refusalOfSlate 4 (some .int) 2 3 := ⟨rfl, by decide, by decide +kernel, mI (t_3 171 rfl) rfl, mI (s_4 (q := (yX3_refusalOfSlate, 9)) 11 rfl) rfl, mI (t_1 1 rfl) rfl, mI (t_3 172 rfl) rfl⟩
theorem cv_X3_refuse : CV yX3_refuse cX3_refuse 3 (some .int) 1 3 := ⟨rfl, by decide, by decide +kernel, mI (t_1 155 rfl) rfl, mI (s_1 (q := (yX3_refuse, 9)) 0 rfl) rfl, mI (t_1 1 rfl) rfl, mI (t_1 156 rfl) rfl⟩
theorem cv_X3_round : CV yX3_round cX3_round 2 (some .int) 0 3 := ⟨rfl, by decide, by decide +kernel, mI (t_3 54 rfl) rfl, mI (t_3 55 rfl) rfl, mI (t_1 1 rfl) rfl, mI (t_3 56 rfl) rfl⟩
theorem cv_X3_rounds : CV yX3_rounds cX3_rounds 5 (some .int) 2 3 := ⟨rfl, by decide, by decide +kernel, mI (t_3 215 rfl) rfl, mI (t_3 216 rfl) rfl, mI (t_1 1 rfl) rfl, mI (t_3 217 rfl) rfl⟩
theorem cv_X3_row : CV yX3_row cX3_row 4 (some .int) 3 3 := ⟨rfl, by decide, by decide +kernel, mI (t_1 144 rfl) rfl, mI (t_1 145 rfl) rfl, mI (t_1 1 rfl) rfl, mI (t_1 146 rfl) rfl⟩
theorem cv_X3_says : CV yX3_says cX3_says 4 (some .int) 2 3 := ⟨rfl, by decide, by decide +kernel, mI (t_1 235 rfl) rfl, mI (t_1 236 rfl) rfl, mI (t_1 1 rfl) rfl, mI (t_1 237 rfl) rfl⟩
theorem cv_X3_seed : CV yX3_seed cX3_seed 3 (some .int) 1 3 := ⟨rfl, by decide, by decide +kernel, mI (t_4 52 rfl) rfl, mI (t_4 53 rfl) rfl, mI (t_1 1 rfl) rfl, mI (t_4 54 rfl) rfl⟩
theorem cv_X3_serve : CV yX3_serve cX3_serve 2 (some .int) 1 3 := ⟨rfl, by decide, by decide +kernel, mI (t_4 22 rfl) rfl, mI (t_4 23 rfl) rfl, mI (t_1 1 rfl) rfl, mI (t_4 24 rfl) rfl⟩
theorem cv_X3_served : CV yX3_served cX3_served 2 (some .int) 1 3 := ⟨rfl, by decide, by decide +kernel, mI (t_3 49 rfl) rfl, mI (t_3 50 rfl) rfl, mI (t_1 1 rfl) rfl, mI (t_3 51 rfl) rfl⟩
theorem cv_X3_servedBits : CV yX3_servedBits cX3_servedBits 4 (some .int) 1 3 := ⟨rfl, by decide, by decide +kernel, mI (t_3 80 rfl) rfl, mI (s_4 (q := (yX3_servedBits, 9)) 6 rfl) rfl, mI (t_1 1 rfl) rfl, mI (t_3 81 rfl) rfl⟩
theorem cv_X3_set : CV yX3_set cX3_set 6 (some .int) 3 3 := ⟨rfl, by decide, by decide +kernel, mI (t_1 165 rfl) rfl, mI (t_1 166 rfl) rfl, mI (t_1 1 rfl) rfl, mI (t_1 167 rfl) rfl⟩
theorem cv_X3_several : CV yX3_several cX3_several 2 (some .int) 1 3 := ⟨rfl, by decide, by decide +kernel, mI (t_3 107 rfl) rfl, mI (t_3 108 rfl) rfl, mI (t_1 1 rfl) rfl, mI (t_3 109 rfl) rfl⟩
theorem cv_X3_shelvesInUse : CV yX3_shelvesInUse cX3_shelvesInUse 3 (some .int) 0 3 := ⟨rfl, by decide, by decide +kernel, mI (t_4 73 rfl) rfl, mI (s_5 (q := (yX3_shelvesInUse, 9)) 3 rfl) rfl, mI (t_1 1 rfl) rfl, mI (t_4 74 rfl) rfl⟩
theorem cv_X3_shop : CV yX3_shop cX3_shop 2 (some .int) 0 3 := ⟨rfl, by decide, by decide +kernel, mI (t_2 84 rfl) rfl, mI (t_2 85 rfl) rfl, mI (t_1 1 rfl) rfl, mI (t_2 86 rfl) rfl⟩
theorem cv_X3_show : CV yX3_show cX3_show 3 (some .int) 2 3 := ⟨rfl, by decide, by decide +kernel, mI (t_1 223 rfl) rfl, mI (t_1 224 rfl) rfl, mI (t_1 1 rfl) rfl, mI (t_1 225 rfl) rfl⟩
theorem cs_X3_shuffled : CS yX3_shuffled cX3_shuffled 5 (some .int) 3 := ⟨by decide +kernel, mI (t_3 201 rfl) rfl, mI (t_1 1 rfl) rfl, mI (t_3 202 rfl) rfl⟩
theorem cs_X3_shuffledTimes : CS yX3_shuffledTimes cX3_shuffledTimes 6 (some .int) 4 := ⟨by decide +kernel, mI (t_3 208 rfl) rfl, mI (t_1 1 rfl) rfl, mI (t_3 209 rfl) rfl⟩
theorem cv_X3_spread : CV yX3_spread cX3_spread 3 (some .int) 2 3 := ⟨rfl, by decide, by decide +kernel, mI (t_3 154 rfl) rfl, mI (t_3 155 rfl) rfl, mI (t_1 1 rfl) rfl, mI (t_3 156 rfl) rfl⟩
theorem cv_X3_spreadBy : CV yX3_spreadBy cX3_spreadBy 3 (some .int) 2 3 := ⟨rfl, by decide, by decide +kernel, mI (t_3 159 rfl) rfl, mI (s_4 (q := (yX3_spreadBy, 9)) 10 rfl) rfl, mI (t_1 1 rfl) rfl, mI (t_3 160 rfl) rfl⟩
theorem cv_X3_stand : CV yX3_stand cX3_stand 2 (some .int) 1 3 := ⟨rfl, by decide, by decide +kernel, mI (t_3 83 rfl) rfl, mI (t_3 84 rfl) rfl, mI (t_1 1 rfl) rfl, mI (t_3 85 rfl) rfl⟩
theorem cv_X3_stands : CV yX3_stands cX3_stands 3 (some .int) 2 3 := ⟨rfl, by decide, by decide +kernel, mI (t_3 31 rfl) rfl, mI (t_3 32 rfl) rfl, mI (t_1 1 rfl) rfl, mI (t_3 33 rfl) rfl⟩
theorem cv_X3_status : CV yX3_status cX3_status 2 (some .int) 1 3 := ⟨rfl, by decide, by decide +kernel, mI (t_4 64 rfl) rfl, mI (t_4 65 rfl) rfl, mI (t_1 1 rfl) rfl, mI (t_4 66 rfl) rfl⟩
theorem cv_X3_stay : CV yX3_stay cX3_stay 7 (some .int) 3 3 := ⟨rfl, by decide, by decide +kernel, mI (t_3 211 rfl) rfl, mI (t_3 212 rfl) rfl, mI (t_1 1 rfl) rfl, mI (t_3 213 rfl) rfl⟩
theorem cv_X3_tail : CV yX3_tail cX3_tail 2 (some .int) 1 3 := ⟨rfl, by decide, by decide +kernel, mI (t_3 222 rfl) rfl, mI (t_3 223 rfl) rfl, mI (t_1 1 rfl) rfl, mI (t_3 224 rfl) rfl⟩
theorem cv_X3_tell : CV yX3_tell cX3_tell 5 (some .int) 3 3 := ⟨rfl, by decide, by decide +kernel, mI (t_2 67 rfl) rfl, mI (t_2 68 rfl) rfl, mI (t_1 1 rfl) rfl, mI (t_2 69 rfl) rfl⟩
theorem cv_X3_think : CV yX3_think cX3_think 2 none 1 3 := ⟨rfl, by decide, by decide +kernel, mI (t_3 37 rfl) rfl, mI (s_4 (q := (yX3_think, 9)) 1 rfl) rfl, mI (t_1 1 rfl) rfl, mI (t_3 38 rfl) rfl⟩
theorem cv_X3_thinkBy : CV yX3_thinkBy cX3_thinkBy 2 none 1 3 := ⟨rfl, by decide, by decide +kernel, mI (t_3 130 rfl) rfl, mI (s_4 (q := (yX3_thinkBy, 9)) 8 rfl) rfl, mI (t_1 1 rfl) rfl, mI (t_3 131 rfl) rfl⟩
theorem cv_X3_timesAgain : CV yX3_timesAgain cX3_timesAgain 6 (some .int) 2 3 := ⟨rfl, by decide, by decide +kernel, mI (t_3 198 rfl) rfl, mI (s_4 (q := (yX3_timesAgain, 9)) 14 rfl) rfl, mI (t_1 1 rfl) rfl, mI (t_3 199 rfl) rfl⟩
theorem cv_X3_turnOfServing : CV yX3_turnOfServing cX3_turnOfServing 6 (some .int) 3 3 := ⟨rfl, by decide, by decide +kernel, mI (t_3 68 rfl) rfl, mI (s_4 (q := (yX3_turnOfServing, 9)) 4 rfl) rfl, mI (t_1 1 rfl) rfl, mI (t_3 69 rfl) rfl⟩
theorem cv_X3_unlike : CV yX3_unlike cX3_unlike 4 (some .int) 2 3 := ⟨rfl, by decide, by decide +kernel, mI (t_3 124 rfl) rfl, mI (t_3 125 rfl) rfl, mI (t_1 1 rfl) rfl, mI (t_3 126 rfl) rfl⟩
theorem cv_X3_unserved : CV yX3_unserved cX3_unserved 3 (some .int) 0 3 := ⟨rfl, by decide, by decide +kernel, mI (t_4 6 rfl) rfl, mI (t_4 7 rfl) rfl, mI (t_1 1 rfl) rfl, mI (t_4 8 rfl) rfl⟩
theorem cv_X3_use : CV yX3_use cX3_use 3 (some .int) 1 3 := ⟨rfl, by decide, by decide +kernel, mI (t_2 63 rfl) rfl, mI (t_2 64 rfl) rfl, mI (t_1 1 rfl) rfl, mI (t_2 65 rfl) rfl⟩
theorem cv_X3_waits : CV yX3_waits cX3_waits 5 (some .int) 1 3 := ⟨rfl, by decide, by decide +kernel, mI (t_3 102 rfl) rfl, mI (t_3 103 rfl) rfl, mI (t_1 1 rfl) rfl, mI (t_3 104 rfl) rfl⟩
theorem cv_X3_when : CV yX3_when cX3_when 3 (some .int) 2 3 := ⟨rfl, by decide, by decide +kernel, mI (t_3 63 rfl) rfl, mI (t_3 64 rfl) rfl, mI (t_1 1 rfl) rfl, mI (t_3 65 rfl) rfl⟩
theorem cv_X3_wipe : CV yX3_wipe cX3_wipe 2 (some .int) 0 3 := ⟨rfl, by decide, by decide +kernel, mI (t_2 80 rfl) rfl, mI (t_2 81 rfl) rfl, mI (t_1 1 rfl) rfl, mI (t_2 82 rfl) rfl⟩
theorem cv_X4_addLaw : CV yX4_addLaw cX4_addLaw 3 none 2 4 := ⟨rfl, by decide, by decide +kernel, mI (t_5 14 rfl) rfl, mI (s_5 (q := (yX4_addLaw, 31)) 10 rfl) rfl, mI (t_1 5 rfl) rfl, mI (t_5 15 rfl) rfl⟩
theorem cv_X4_addPerson : CV yX4_addPerson cX4_addPerson 1 none 0 4 := ⟨rfl, by decide, by decide +kernel, mI (t_5 5 rfl) rfl, mI (s_5 (q := (yX4_addPerson, 31)) 9 rfl) rfl, mI (t_1 5 rfl) rfl, mI (t_5 6 rfl) rfl⟩
theorem cv_X4_after : CV yX4_after cX4_after 6 (some .int) 2 4 := ⟨rfl, by decide, by decide +kernel, mI (t_6 79 rfl) rfl, mI (t_6 80 rfl) rfl, mI (t_1 5 rfl) rfl, mI (t_6 81 rfl) rfl⟩
theorem cv_X4_again : CV yX4_again cX4_again 4 (some .int) 2 4 := ⟨rfl, by decide, by decide +kernel, mI (t_6 41 rfl) rfl, mI (t_6 42 rfl) rfl, mI (t_1 5 rfl) rfl, mI (t_6 43 rfl) rfl⟩
theorem cv_X4_anew : CV yX4_anew cX4_anew 2 (some .int) 0 4 := ⟨rfl, by decide, by decide +kernel, mI (t_6 131 rfl) rfl, mI (t_6 132 rfl) rfl, mI (t_1 5 rfl) rfl, mI (t_6 133 rfl) rfl⟩
theorem cv_X4_anewBy : CV yX4_anewBy cX4_anewBy 3 (some (.object "BackByTwiceModel")) 1 4 := ⟨rfl, by decide, by decide +kernel, mI (t_6 2 rfl) rfl, mI (s_7 (q := (yX4_anewBy, 31)) 4 rfl) rfl, mI (t_1 5 rfl) rfl, mI (t_6 3 rfl) rfl⟩
theorem cv_X4_at : CV yX4_at cX4_at 2 (some .int) 1 4 := ⟨rfl, by decide, by decide +kernel, mI (t_5 145 rfl) rfl, mI (t_5 146 rfl) rfl, mI (t_1 5 rfl) rfl, mI (t_5 147 rfl) rfl⟩
theorem cv_X4_back : CV yX4_back cX4_back 2 (some .int) 0 4 := ⟨rfl, by decide, by decide +kernel, mI (t_6 143 rfl) rfl, mI (t_6 144 rfl) rfl, mI (t_1 5 rfl) rfl, mI (t_6 145 rfl) rfl⟩
theorem cv_X4_backBy : CV yX4_backBy cX4_backBy 6 (some .int) 3 4 := ⟨rfl, by decide, by decide +kernel, mI (t_4 237 rfl) rfl, mI (s_5 (q := (yX4_backBy, 31)) 8 rfl) rfl, mI (t_1 5 rfl) rfl, mI (t_4 238 rfl) rfl⟩
theorem cv_X4_beginsAnew : CV yX4_beginsAnew cX4_beginsAnew 2 none 0 4 := ⟨rfl, by decide, by decide +kernel, mI (t_5 206 rfl) rfl, mI (s_7 (q := (yX4_beginsAnew, 31)) 2 rfl) rfl, mI (t_1 5 rfl) rfl, mI (t_5 207 rfl) rfl⟩
theorem cv_X4_behind : CV yX4_behind cX4_behind 4 (some .int) 3 4 := ⟨rfl, by decide, by decide +kernel, mI (t_5 160 rfl) rfl, mI (t_5 161 rfl) rfl, mI (t_1 5 rfl) rfl, mI (t_5 162 rfl) rfl⟩
theorem cv_X4_behindOf : CV yX4_behindOf cX4_behindOf 3 (some (.object "BackByTwiceModel")) 1 4 := ⟨rfl, by decide, by decide +kernel, mI (t_5 157 rfl) rfl, mI (s_6 (q := (yX4_behindOf, 31)) 14 rfl) rfl, mI (t_1 5 rfl) rfl, mI (t_5 158 rfl) rfl⟩
theorem cv_X4_below : CV yX4_below cX4_below 2 (some .int) 1 4 := ⟨rfl, by decide, by decide +kernel, mI (t_6 127 rfl) rfl, mI (s_7 (q := (yX4_below, 31)) 11 rfl) rfl, mI (t_1 5 rfl) rfl, mI (t_6 128 rfl) rfl⟩
theorem cv_X4_beside : CV yX4_beside cX4_beside 6 (some .int) 2 4 := ⟨rfl, by decide, by decide +kernel, mI (t_5 217 rfl) rfl, mI (t_5 218 rfl) rfl, mI (t_1 5 rfl) rfl, mI (t_5 219 rfl) rfl⟩
theorem cv_X4_brings : CV yX4_brings cX4_brings 8 (some .int) 3 4 := ⟨rfl, by decide, by decide +kernel, mI (t_6 71 rfl) rfl, mI (t_6 72 rfl) rfl, mI (t_1 5 rfl) rfl, mI (t_6 73 rfl) rfl⟩
theorem cv_X4_comes : CV yX4_comes cX4_comes 1 (some .int) 0 4 := ⟨rfl, by decide, by decide +kernel, mI (t_5 0 rfl) rfl, mI (t_5 1 rfl) rfl, mI (t_1 5 rfl) rfl, mI (t_5 2 rfl) rfl⟩
theorem cs_X4_comesTo : CS yX4_comesTo cX4_comesTo 5 (some .int) 3 := ⟨by decide +kernel, mI (t_6 52 rfl) rfl, mI (t_1 5 rfl) rfl, mI (t_6 53 rfl) rfl⟩
theorem cs_X4_copied : CS yX4_copied cX4_copied 3 none 2 := ⟨by decide +kernel, mI (t_5 54 rfl) rfl, mI (t_1 5 rfl) rfl, mI (t_5 55 rfl) rfl⟩
theorem cv_X4_copy : CV yX4_copy cX4_copy 7 (some .int) 5 4 := ⟨rfl, by decide, by decide +kernel, mI (t_4 204 rfl) rfl, mI (t_4 205 rfl) rfl, mI (t_1 5 rfl) rfl, mI (t_4 206 rfl) rfl⟩
theorem cv_X4_day : CV yX4_day cX4_day 5 (some .int) 1 4 := ⟨rfl, by decide, by decide +kernel, mI (t_6 122 rfl) rfl, mI (t_6 123 rfl) rfl, mI (t_1 5 rfl) rfl, mI (t_6 124 rfl) rfl⟩
theorem cv_X4_element : CV yX4_element cX4_element 3 (some .long) 2 4 := ⟨rfl, by decide, by decide +kernel, mI (t_4 208 rfl) rfl, mI (t_4 209 rfl) rfl, mI (t_1 5 rfl) rfl, mI (t_4 210 rfl) rfl⟩
theorem cv_X4_fairest : CV yX4_fairest cX4_fairest 6 (some .int) 1 4 := ⟨rfl, by decide, by decide +kernel, mI (t_6 17 rfl) rfl, mI (t_6 18 rfl) rfl, mI (t_1 5 rfl) rfl, mI (t_6 19 rfl) rfl⟩
theorem cv_X4_feed : CV yX4_feed cX4_feed 2 (some .int) 1 4 := ⟨rfl, by decide, by decide +kernel, mI (t_5 31 rfl) rfl, mI (t_5 32 rfl) rfl, mI (t_1 5 rfl) rfl, mI (t_5 33 rfl) rfl⟩
theorem cv_X4_fewest : CV yX4_fewest cX4_fewest 7 (some .int) 1 4 := ⟨rfl, by decide, by decide +kernel, mI (t_6 83 rfl) rfl, mI (t_6 84 rfl) rfl, mI (t_1 5 rfl) rfl, mI (t_6 85 rfl) rfl⟩
theorem cv_X4_findAway : CV yX4_findAway cX4_findAway 8 none 2 4 := ⟨rfl, by decide, by decide +kernel, mI (t_6 76 rfl) rfl, mI (s_7 (q := (yX4_findAway, 31)) 9 rfl) rfl, mI (t_1 5 rfl) rfl, mI (t_6 77 rfl) rfl⟩
theorem cs_X4_fit : CS yX4_fit cX4_fit 3 (some .long) 2 := ⟨by decide +kernel, mI (t_4 201 rfl) rfl, mI (t_1 5 rfl) rfl, mI (t_4 202 rfl) rfl⟩
theorem cv_X4_fits : CV yX4_fits cX4_fits 7 (some .int) 2 4 := ⟨rfl, by decide, by decide +kernel, mI (t_6 33 rfl) rfl, mI (t_6 34 rfl) rfl, mI (t_1 5 rfl) rfl, mI (t_6 35 rfl) rfl⟩
theorem cv_X4_forward : CV yX4_forward cX4_forward 7 (some .int) 3 4 := ⟨rfl, by decide, by decide +kernel, mI (t_5 233 rfl) rfl, mI (t_5 234 rfl) rfl, mI (t_1 5 rfl) rfl, mI (t_5 235 rfl) rfl⟩
theorem cv_X4_fresh : CV yX4_fresh cX4_fresh 1 (some (.object "BackByTwiceModel")) 0 4 := ⟨rfl, by decide, by decide +kernel, mI (t_5 45 rfl) rfl, mI (s_5 (q := (yX4_fresh, 31)) 12 rfl) rfl, mI (t_1 5 rfl) rfl, mI (t_5 46 rfl) rfl⟩
theorem cv_X4_goes : CV yX4_goes cX4_goes 3 none 1 4 := ⟨rfl, by decide, by decide +kernel, mI (t_5 110 rfl) rfl, mI (s_6 (q := (yX4_goes, 31)) 8 rfl) rfl, mI (t_1 5 rfl) rfl, mI (t_5 111 rfl) rfl⟩
theorem cv_X4_goesOn : CV yX4_goesOn cX4_goesOn 1 (some .boolean) 0 4 := ⟨rfl, by decide, by decide +kernel, mI (t_5 106 rfl) rfl, mI (s_6 (q := (yX4_goesOn, 31)) 7 rfl) rfl, mI (t_1 5 rfl) rfl, mI (t_5 107 rfl) rfl⟩
theorem cs_X4_has : CS yX4_has cX4_has 2 (some .boolean) 2 := ⟨by decide +kernel, mI (t_6 103 rfl) rfl, mI (t_1 5 rfl) rfl, mI (t_6 104 rfl) rfl⟩
theorem cv_X4_holds : CV yX4_holds cX4_holds 2 (some .int) 1 4 := ⟨rfl, by decide, by decide +kernel, mI (t_4 212 rfl) rfl, mI (t_4 213 rfl) rfl, mI (t_1 5 rfl) rfl, mI (t_4 214 rfl) rfl⟩
theorem cv_X4_image : CV yX4_image cX4_image 1 (some .int) 0 4 := ⟨rfl, by decide, by decide +kernel, mI (t_6 139 rfl) rfl, mI (t_6 140 rfl) rfl, mI (t_1 5 rfl) rfl, mI (t_6 141 rfl) rfl⟩
theorem cs_X4_in : CS yX4_in cX4_in 6 (some .boolean) 3 := ⟨by decide +kernel, mI (t_4 184 rfl) rfl, mI (t_1 5 rfl) rfl, mI (t_4 185 rfl) rfl⟩
theorem ci_X4_init : CI yX4_init cX4_init 1 0 := ⟨rfl, by decide +kernel, mI (t_4 78 rfl) rfl, mI (t_1 5 rfl) rfl, mI (t_4 79 rfl) rfl⟩
theorem cs_X4_isDigit : CS yX4_isDigit cX4_isDigit 1 (some .boolean) 1 := ⟨by decide +kernel, mI (t_5 68 rfl) rfl, mI (t_1 5 rfl) rfl, mI (t_5 69 rfl) rfl⟩
theorem cv_X4_isLaw : CV yX4_isLaw cX4_isLaw 2 (some .boolean) 1 4 := ⟨rfl, by decide, by decide +kernel, mI (t_4 221 rfl) rfl, mI (s_5 (q := (yX4_isLaw, 31)) 6 rfl) rfl, mI (t_1 5 rfl) rfl, mI (t_4 222 rfl) rfl⟩
theorem cs_X4_isLetter : CS yX4_isLetter cX4_isLetter 1 (some .boolean) 1 := ⟨by decide +kernel, mI (t_5 65 rfl) rfl, mI (t_1 5 rfl) rfl, mI (t_5 66 rfl) rfl⟩
theorem cv_X4_isPerson : CV yX4_isPerson cX4_isPerson 3 (some .boolean) 1 4 := ⟨rfl, by decide, by decide +kernel, mI (t_5 28 rfl) rfl, mI (s_5 (q := (yX4_isPerson, 31)) 11 rfl) rfl, mI (t_1 5 rfl) rfl, mI (t_5 29 rfl) rfl⟩
theorem cs_X4_isUnder : CS yX4_isUnder cX4_isUnder 2 (some .boolean) 2 := ⟨by decide +kernel, mI (t_4 229 rfl) rfl, mI (t_1 5 rfl) rfl, mI (t_4 230 rfl) rfl⟩
theorem cv_X4_isWord : CV yX4_isWord cX4_isWord 3 (some .boolean) 1 4 := ⟨rfl, by decide, by decide +kernel, mI (t_5 77 rfl) rfl, mI (s_6 (q := (yX4_isWord, 31)) 1 rfl) rfl, mI (t_1 5 rfl) rfl, mI (t_5 78 rfl) rfl⟩
theorem cv_X4_judge : CV yX4_judge cX4_judge 4 (some .int) 2 4 := ⟨rfl, by decide, by decide +kernel, mI (t_6 21 rfl) rfl, mI (t_6 22 rfl) rfl, mI (t_1 5 rfl) rfl, mI (t_6 23 rfl) rfl⟩
theorem cv_X4_lastBy : CV yX4_lastBy cX4_lastBy 5 (some .int) 2 4 := ⟨rfl, by decide, by decide +kernel, mI (t_4 233 rfl) rfl, mI (s_5 (q := (yX4_lastBy, 31)) 7 rfl) rfl, mI (t_1 5 rfl) rfl, mI (t_4 234 rfl) rfl⟩
theorem cv_X4_lastLeaves : CV yX4_lastLeaves cX4_lastLeaves 1 none 0 4 := ⟨rfl, by decide, by decide +kernel, mI (t_5 124 rfl) rfl, mI (s_6 (q := (yX4_lastLeaves, 31)) 11 rfl) rfl, mI (t_1 5 rfl) rfl, mI (t_5 125 rfl) rfl⟩
theorem cv_X4_law : CV yX4_law cX4_law 3 (some .int) 2 4 := ⟨rfl, by decide, by decide +kernel, mI (t_5 8 rfl) rfl, mI (t_5 9 rfl) rfl, mI (t_1 5 rfl) rfl, mI (t_5 10 rfl) rfl⟩
theorem cv_X4_lawFor : CV yX4_lawFor cX4_lawFor 7 (some .int) 2 4 := ⟨rfl, by decide, by decide +kernel, mI (t_5 225 rfl) rfl, mI (t_5 226 rfl) rfl, mI (t_1 5 rfl) rfl, mI (t_5 227 rfl) rfl⟩
theorem cv_X4_lawOf : CV yX4_lawOf cX4_lawOf 3 (some .int) 2 4 := ⟨rfl, by decide, by decide +kernel, mI (t_5 141 rfl) rfl, mI (t_5 142 rfl) rfl, mI (t_1 5 rfl) rfl, mI (t_5 143 rfl) rfl⟩
theorem cv_X4_leader : CV yX4_leader cX4_leader 3 (some .int) 1 4 := ⟨rfl, by decide, by decide +kernel, mI (t_5 201 rfl) rfl, mI (t_5 202 rfl) rfl, mI (t_1 5 rfl) rfl, mI (t_5 203 rfl) rfl⟩
theorem cv_X4_leaves : CV yX4_leaves cX4_leaves 1 (some .int) 0 4 := ⟨rfl, by decide, by decide +kernel, mI (t_6 118 rfl) rfl, mI (t_6 119 rfl) rfl, mI (t_1 5 rfl) rfl, mI (t_6 120 rfl) rfl⟩
theorem cv_X4_lets : CV yX4_lets cX4_lets 2 (some .int) 1 4 := ⟨rfl, by decide, by decide +kernel, mI (t_6 110 rfl) rfl, mI (t_6 111 rfl) rfl, mI (t_1 5 rfl) rfl, mI (t_6 112 rfl) rfl⟩
theorem cv_X4_lettingAt : CV yX4_lettingAt cX4_lettingAt 3 none 1 4 := ⟨rfl, by decide, by decide +kernel, mI (t_5 119 rfl) rfl, mI (s_6 (q := (yX4_lettingAt, 31)) 10 rfl) rfl, mI (t_1 5 rfl) rfl, mI (t_5 120 rfl) rfl⟩
theorem cv_X4_level : CV yX4_level cX4_level 4 (some .int) 1 4 := ⟨rfl, by decide, by decide +kernel, mI (t_5 237 rfl) rfl, mI (t_5 238 rfl) rfl, mI (t_1 5 rfl) rfl, mI (t_5 239 rfl) rfl⟩
theorem cv_X4_lies : CV yX4_lies cX4_lies 5 (some .int) 4 4 := ⟨rfl, by decide, by decide +kernel, mI (t_6 55 rfl) rfl, mI (t_6 56 rfl) rfl, mI (t_1 5 rfl) rfl, mI (t_6 57 rfl) rfl⟩
theorem cs_X4_liesAt : CS yX4_liesAt cX4_liesAt 6 (some .int) 4 := ⟨by decide +kernel, mI (t_6 49 rfl) rfl, mI (t_1 5 rfl) rfl, mI (t_6 50 rfl) rfl⟩
theorem cv_X4_longest : CV yX4_longest cX4_longest 1 (some .int) 0 4 := ⟨rfl, by decide, by decide +kernel, mI (t_6 91 rfl) rfl, mI (t_6 92 rfl) rfl, mI (t_1 5 rfl) rfl, mI (t_6 93 rfl) rfl⟩
theorem cv_X4_longestOf : CV yX4_longestOf cX4_longestOf 3 (some .int) 0 4 := ⟨rfl, by decide, by decide +kernel, mI (t_6 96 rfl) rfl, mI (s_7 (q := (yX4_longestOf, 31)) 10 rfl) rfl, mI (t_1 5 rfl) rfl, mI (t_6 97 rfl) rfl⟩
theorem cv_X4_look : CV yX4_look cX4_look 1 none 0 4 := ⟨rfl, by decide, by decide +kernel, mI (t_5 62 rfl) rfl, mI (s_5 (q := (yX4_look, 31)) 15 rfl) rfl, mI (t_1 5 rfl) rfl, mI (t_5 63 rfl) rfl⟩
theorem cs_X4_mayTurns : CS yX4_mayTurns cX4_mayTurns 1 (some .boolean) 1 := ⟨by decide +kernel, mI (t_5 153 rfl) rfl, mI (t_1 5 rfl) rfl, mI (t_5 154 rfl) rfl⟩
theorem cv_X4_mostCounts : CV yX4_mostCounts cX4_mostCounts 3 (some .int) 0 4 := ⟨rfl, by decide, by decide +kernel, mI (t_5 210 rfl) rfl, mI (s_7 (q := (yX4_mostCounts, 31)) 3 rfl) rfl, mI (t_1 5 rfl) rfl, mI (t_5 211 rfl) rfl⟩
theorem cv_X4_moves : CV yX4_moves cX4_moves 4 (some .int) 2 4 := ⟨rfl, by decide, by decide +kernel, mI (t_6 114 rfl) rfl, mI (t_6 115 rfl) rfl, mI (t_1 5 rfl) rfl, mI (t_6 116 rfl) rfl⟩
theorem cv_X4_movesTo : CV yX4_movesTo cX4_movesTo 4 none 2 4 := ⟨rfl, by decide, by decide +kernel, mI (t_5 128 rfl) rfl, mI (s_6 (q := (yX4_movesTo, 31)) 12 rfl) rfl, mI (t_1 5 rfl) rfl, mI (t_5 129 rfl) rfl⟩
theorem cv_X4_never : CV yX4_never cX4_never 1 (some .int) 0 4 := ⟨rfl, by decide, by decide +kernel, mI (t_5 185 rfl) rfl, mI (t_5 186 rfl) rfl, mI (t_1 5 rfl) rfl, mI (t_5 187 rfl) rfl⟩
theorem cv_X4_newcomer : CV yX4_newcomer cX4_newcomer 2 (some .int) 0 4 := ⟨rfl, by decide, by decide +kernel, mI (t_5 229 rfl) rfl, mI (t_5 230 rfl) rfl, mI (t_1 5 rfl) rfl, mI (t_5 231 rfl) rfl⟩
theorem cv_X4_noRow : CV yX4_noRow cX4_noRow 2 (some .int) 1 4 := ⟨rfl, by decide, by decide +kernel, mI (t_4 198 rfl) rfl, mI (s_5 (q := (yX4_noRow, 31)) 5 rfl) rfl, mI (t_1 5 rfl) rfl, mI (t_4 199 rfl) rfl⟩
theorem cv_X4_noSlate : CV yX4_noSlate cX4_noSlate 4 (some .int) 2 4 := ⟨rfl, by decide, by decide +kernel, mI (t_6 26 rfl) rfl, mI (s_7 (q := (yX4_noSlate, 31)) 7 rfl) rfl, mI (t_1 5 rfl) rfl, mI (t_6 27 rfl) rfl⟩
theorem cv_X4_number : CV yX4_number cX4_number 4 (some .boolean) 3 4 := ⟨rfl, by decide, by decide +kernel, mI (t_5 91 rfl) rfl, mI (s_6 (q := (yX4_number, 31)) 4 rfl) rfl, mI (t_1 5 rfl) rfl, mI (t_5 92 rfl) rfl⟩
theorem cv_X4_peopleTold : CV yX4_peopleTold cX4_peopleTold 2 (some .boolean) 0 4 := ⟨rfl, by decide, by decide +kernel, mI (t_5 83 rfl) rfl, mI (s_6 (q := (yX4_peopleTold, 31)) 2 rfl) rfl, mI (t_1 5 rfl) rfl, mI (t_5 84 rfl) rfl⟩
theorem cv_X4_personOf : CV yX4_personOf cX4_personOf 3 (some .int) 2 4 := ⟨rfl, by decide, by decide +kernel, mI (t_5 136 rfl) rfl, mI (t_5 137 rfl) rfl, mI (t_1 5 rfl) rfl, mI (t_5 138 rfl) rfl⟩
theorem cv_X4_placeOf : CV yX4_placeOf cX4_placeOf 3 (some .int) 1 4 := ⟨rfl, by decide, by decide +kernel, mI (t_5 132 rfl) rfl, mI (s_6 (q := (yX4_placeOf, 31)) 13 rfl) rfl, mI (t_1 5 rfl) rfl, mI (t_5 133 rfl) rfl⟩
theorem cv_X4_pushed : CV yX4_pushed cX4_pushed 7 (some .int) 2 4 := ⟨rfl, by decide, by decide +kernel, mI (t_6 37 rfl) rfl, mI (t_6 38 rfl) rfl, mI (t_1 5 rfl) rfl, mI (t_6 39 rfl) rfl⟩
theorem cv_X4_ranked : CV yX4_ranked cX4_ranked 6 (some .int) 1 4 := ⟨rfl, by decide, by decide +kernel, mI (t_6 99 rfl) rfl, mI (t_6 100 rfl) rfl, mI (t_1 5 rfl) rfl, mI (t_6 101 rfl) rfl⟩
theorem cv_X4_readAll : CV yX4_readAll cX4_readAll 1 (some .boolean) 0 4 := ⟨rfl, by decide, by decide +kernel, mI (t_5 58 rfl) rfl, mI (s_5 (q := (yX4_readAll, 31)) 14 rfl) rfl, mI (t_1 5 rfl) rfl, mI (t_5 59 rfl) rfl⟩
theorem cv_X4_refuse : CV yX4_refuse cX4_refuse 2 (some .int) 1 4 := ⟨rfl, by decide, by decide +kernel, mI (t_4 190 rfl) rfl, mI (s_5 (q := (yX4_refuse, 31)) 4 rfl) rfl, mI (t_1 5 rfl) rfl, mI (t_4 191 rfl) rfl⟩
theorem cv_X4_round : CV yX4_round cX4_round 3 (some .int) 0 4 := ⟨rfl, by decide, by decide +kernel, mI (t_5 169 rfl) rfl, mI (t_5 170 rfl) rfl, mI (t_1 5 rfl) rfl, mI (t_5 171 rfl) rfl⟩
theorem cv_X4_rounds : CV yX4_rounds cX4_rounds 6 (some .int) 2 4 := ⟨rfl, by decide, by decide +kernel, mI (t_6 63 rfl) rfl, mI (t_6 64 rfl) rfl, mI (t_1 5 rfl) rfl, mI (t_6 65 rfl) rfl⟩
theorem cv_X4_row : CV yX4_row cX4_row 5 (some .int) 3 4 := ⟨rfl, by decide, by decide +kernel, mI (t_4 179 rfl) rfl, mI (t_4 180 rfl) rfl, mI (t_1 5 rfl) rfl, mI (t_4 181 rfl) rfl⟩
theorem cv_X4_says : CV yX4_says cX4_says 5 (some .int) 2 4 := ⟨rfl, by decide, by decide +kernel, mI (t_4 224 rfl) rfl, mI (t_4 225 rfl) rfl, mI (t_1 5 rfl) rfl, mI (t_4 226 rfl) rfl⟩
theorem cv_X4_seed : CV yX4_seed cX4_seed 3 (some .int) 1 4 := ⟨rfl, by decide, by decide +kernel, mI (t_6 135 rfl) rfl, mI (t_6 136 rfl) rfl, mI (t_1 5 rfl) rfl, mI (t_6 137 rfl) rfl⟩
theorem cv_X4_serve : CV yX4_serve cX4_serve 2 (some .int) 1 4 := ⟨rfl, by decide, by decide +kernel, mI (t_6 106 rfl) rfl, mI (t_6 107 rfl) rfl, mI (t_1 5 rfl) rfl, mI (t_6 108 rfl) rfl⟩
theorem cv_X4_serveTold : CV yX4_serveTold cX4_serveTold 1 (some .boolean) 0 4 := ⟨rfl, by decide, by decide +kernel, mI (t_5 102 rfl) rfl, mI (s_6 (q := (yX4_serveTold, 31)) 6 rfl) rfl, mI (t_1 5 rfl) rfl, mI (t_5 103 rfl) rfl⟩
theorem cv_X4_served : CV yX4_served cX4_served 2 (some .int) 1 4 := ⟨rfl, by decide, by decide +kernel, mI (t_5 165 rfl) rfl, mI (t_5 166 rfl) rfl, mI (t_1 5 rfl) rfl, mI (t_5 167 rfl) rfl⟩
theorem cv_X4_servedIn : CV yX4_servedIn cX4_servedIn 5 (some .int) 1 4 := ⟨rfl, by decide, by decide +kernel, mI (t_5 190 rfl) rfl, mI (s_7 (q := (yX4_servedIn, 31)) 1 rfl) rfl, mI (t_1 5 rfl) rfl, mI (t_5 191 rfl) rfl⟩
theorem cv_X4_set : CV yX4_set cX4_set 6 (some .int) 3 4 := ⟨rfl, by decide, by decide +kernel, mI (t_4 193 rfl) rfl, mI (t_4 194 rfl) rfl, mI (t_1 5 rfl) rfl, mI (t_4 195 rfl) rfl⟩
theorem cv_X4_several : CV yX4_several cX4_several 4 (some .int) 1 4 := ⟨rfl, by decide, by decide +kernel, mI (t_5 193 rfl) rfl, mI (t_5 194 rfl) rfl, mI (t_1 5 rfl) rfl, mI (t_5 195 rfl) rfl⟩
theorem cv_X4_shop : CV yX4_shop cX4_shop 3 (some .int) 0 4 := ⟨rfl, by decide, by decide +kernel, mI (t_5 40 rfl) rfl, mI (t_5 41 rfl) rfl, mI (t_1 5 rfl) rfl, mI (t_5 42 rfl) rfl⟩
theorem cv_X4_show : CV yX4_show cX4_show 3 (some .int) 2 4 := ⟨rfl, by decide, by decide +kernel, mI (t_4 216 rfl) rfl, mI (t_4 217 rfl) rfl, mI (t_1 5 rfl) rfl, mI (t_4 218 rfl) rfl⟩
theorem cv_X4_spread : CV yX4_spread cX4_spread 3 (some .int) 2 4 := ⟨rfl, by decide, by decide +kernel, mI (t_6 9 rfl) rfl, mI (t_6 10 rfl) rfl, mI (t_1 5 rfl) rfl, mI (t_6 11 rfl) rfl⟩
theorem cv_X4_spreadBy : CV yX4_spreadBy cX4_spreadBy 4 (some .int) 2 4 := ⟨rfl, by decide, by decide +kernel, mI (t_6 14 rfl) rfl, mI (s_7 (q := (yX4_spreadBy, 31)) 6 rfl) rfl, mI (t_1 5 rfl) rfl, mI (t_6 15 rfl) rfl⟩
theorem cv_X4_spreadNow : CV yX4_spreadNow cX4_spreadNow 4 (some .int) 0 4 := ⟨rfl, by decide, by decide +kernel, mI (t_6 6 rfl) rfl, mI (s_7 (q := (yX4_spreadNow, 31)) 5 rfl) rfl, mI (t_1 5 rfl) rfl, mI (t_6 7 rfl) rfl⟩
theorem cv_X4_stand : CV yX4_stand cX4_stand 2 (some .int) 1 4 := ⟨rfl, by decide, by decide +kernel, mI (t_5 197 rfl) rfl, mI (t_5 198 rfl) rfl, mI (t_1 5 rfl) rfl, mI (t_5 199 rfl) rfl⟩
theorem cv_X4_stands : CV yX4_stands cX4_stands 3 (some .int) 2 4 := ⟨rfl, by decide, by decide +kernel, mI (t_5 149 rfl) rfl, mI (t_5 150 rfl) rfl, mI (t_1 5 rfl) rfl, mI (t_5 151 rfl) rfl⟩
theorem cv_X4_standsAs : CV yX4_standsAs cX4_standsAs 3 (some .boolean) 1 4 := ⟨rfl, by decide, by decide +kernel, mI (t_5 174 rfl) rfl, mI (s_6 (q := (yX4_standsAs, 31)) 15 rfl) rfl, mI (t_1 5 rfl) rfl, mI (t_5 175 rfl) rfl⟩
theorem cv_X4_statement : CV yX4_statement cX4_statement 2 (some .boolean) 0 4 := ⟨rfl, by decide, by decide +kernel, mI (t_5 72 rfl) rfl, mI (s_6 (q := (yX4_statement, 31)) 0 rfl) rfl, mI (t_1 5 rfl) rfl, mI (t_5 73 rfl) rfl⟩
theorem cv_X4_status : CV yX4_status cX4_status 4 (some .int) 1 4 := ⟨rfl, by decide, by decide +kernel, mI (t_6 147 rfl) rfl, mI (t_6 148 rfl) rfl, mI (t_1 5 rfl) rfl, mI (t_6 149 rfl) rfl⟩
theorem cv_X4_stay : CV yX4_stay cX4_stay 4 (some .int) 3 4 := ⟨rfl, by decide, by decide +kernel, mI (t_6 59 rfl) rfl, mI (t_6 60 rfl) rfl, mI (t_1 5 rfl) rfl, mI (t_6 61 rfl) rfl⟩
theorem cs_X4_stayOf : CS yX4_stayOf cX4_stayOf 5 (some .int) 3 := ⟨by decide +kernel, mI (t_6 46 rfl) rfl, mI (t_1 5 rfl) rfl, mI (t_6 47 rfl) rfl⟩
theorem cv_X4_tail : CV yX4_tail cX4_tail 2 (some .int) 1 4 := ⟨rfl, by decide, by decide +kernel, mI (t_6 67 rfl) rfl, mI (t_6 68 rfl) rfl, mI (t_1 5 rfl) rfl, mI (t_6 69 rfl) rfl⟩
theorem cv_X4_takeFrom : CV yX4_takeFrom cX4_takeFrom 2 none 1 4 := ⟨rfl, by decide, by decide +kernel, mI (t_5 51 rfl) rfl, mI (s_5 (q := (yX4_takeFrom, 31)) 13 rfl) rfl, mI (t_1 5 rfl) rfl, mI (t_5 52 rfl) rfl⟩
theorem cv_X4_tell : CV yX4_tell cX4_tell 7 (some .int) 3 4 := ⟨rfl, by decide, by decide +kernel, mI (t_5 21 rfl) rfl, mI (t_5 22 rfl) rfl, mI (t_1 5 rfl) rfl, mI (t_5 23 rfl) rfl⟩
theorem cv_X4_tells : CV yX4_tells cX4_tells 3 (some .boolean) 2 4 := ⟨rfl, by decide, by decide +kernel, mI (t_5 87 rfl) rfl, mI (s_6 (q := (yX4_tells, 31)) 3 rfl) rfl, mI (t_1 5 rfl) rfl, mI (t_5 88 rfl) rfl⟩
theorem cv_X4_turn : CV yX4_turn cX4_turn 4 none 0 4 := ⟨rfl, by decide, by decide +kernel, mI (t_5 114 rfl) rfl, mI (s_6 (q := (yX4_turn, 31)) 9 rfl) rfl, mI (t_1 5 rfl) rfl, mI (t_5 115 rfl) rfl⟩
theorem cv_X4_unlike : CV yX4_unlike cX4_unlike 5 (some .int) 2 4 := ⟨rfl, by decide, by decide +kernel, mI (t_5 221 rfl) rfl, mI (t_5 222 rfl) rfl, mI (t_1 5 rfl) rfl, mI (t_5 223 rfl) rfl⟩
theorem cv_X4_unserved : CV yX4_unserved cX4_unserved 3 (some .int) 0 4 := ⟨rfl, by decide, by decide +kernel, mI (t_6 87 rfl) rfl, mI (t_6 88 rfl) rfl, mI (t_1 5 rfl) rfl, mI (t_6 89 rfl) rfl⟩
theorem cv_X4_use : CV yX4_use cX4_use 3 (some .int) 1 4 := ⟨rfl, by decide, by decide +kernel, mI (t_5 17 rfl) rfl, mI (t_5 18 rfl) rfl, mI (t_1 5 rfl) rfl, mI (t_5 19 rfl) rfl⟩
theorem cv_X4_waits : CV yX4_waits cX4_waits 6 (some .int) 1 4 := ⟨rfl, by decide, by decide +kernel, mI (t_5 213 rfl) rfl, mI (t_5 214 rfl) rfl, mI (t_1 5 rfl) rfl, mI (t_5 215 rfl) rfl⟩
theorem cv_X4_when : CV yX4_when cX4_when 3 (some .int) 2 4 := ⟨rfl, by decide, by decide +kernel, mI (t_5 177 rfl) rfl, mI (t_5 178 rfl) rfl, mI (t_1 5 rfl) rfl, mI (t_5 179 rfl) rfl⟩
theorem cv_X4_whenIn : CV yX4_whenIn cX4_whenIn 7 (some .int) 4 4 := ⟨rfl, by decide, by decide +kernel, mI (t_5 182 rfl) rfl, mI (s_7 (q := (yX4_whenIn, 31)) 0 rfl) rfl, mI (t_1 5 rfl) rfl, mI (t_5 183 rfl) rfl⟩
theorem cv_X4_wipe : CV yX4_wipe cX4_wipe 2 (some .int) 0 4 := ⟨rfl, by decide, by decide +kernel, mI (t_5 36 rfl) rfl, mI (t_5 37 rfl) rfl, mI (t_1 5 rfl) rfl, mI (t_5 38 rfl) rfl⟩
theorem cv_X4_wrong : CV yX4_wrong cX4_wrong 1 (some .boolean) 0 4 := ⟨rfl, by decide, by decide +kernel, mI (t_5 95 rfl) rfl, mI (s_6 (q := (yX4_wrong, 31)) 5 rfl) rfl, mI (t_1 5 rfl) rfl, mI (t_5 96 rfl) rfl⟩
theorem cv_X4_wrongIn : CV yX4_wrongIn cX4_wrongIn 4 (some .int) 2 4 := ⟨rfl, by decide, by decide +kernel, mI (t_6 30 rfl) rfl, mI (s_7 (q := (yX4_wrongIn, 31)) 8 rfl) rfl, mI (t_1 5 rfl) rfl, mI (t_6 31 rfl) rfl⟩
theorem lk_X3_9 : Cond.methodLink O_X3.1 9 yX1_init ∈ gw ∨ Cond.methodLinkNest O_X3.1 9 yX1_init "BackByTwice" ∈ nw := Or.inr (mN (t_1 24 rfl) rfl)
theorem lk_X3_27 : Cond.methodLink O_X3.1 27 yX2_init ∈ gw ∨ Cond.methodLinkNest O_X3.1 27 yX2_init "BackByTwice" ∈ nw := Or.inr (mN (t_1 73 rfl) rfl)
theorem lk_X3_38 : Cond.methodLink O_X3.1 38 yX0_init ∈ gw ∨ Cond.methodLinkNest O_X3.1 38 yX0_init "BackByTwice" ∈ nw := Or.inr (mN (t_1 95 rfl) rfl)
theorem lk_X3_46 : Cond.methodLink O_X3.1 46 yX3_isShelf ∈ gw ∨ Cond.methodLinkNest O_X3.1 46 yX3_isShelf "BackByTwice" ∈ nw := Or.inl (mI (t_1 147 rfl) rfl)
theorem lk_X3_50 : Cond.methodLink O_X3.1 50 yX3_isBetween ∈ gw ∨ Cond.methodLinkNest O_X3.1 50 yX3_isBetween "BackByTwice" ∈ nw := Or.inl (mI (t_1 150 rfl) rfl)
theorem lk_X3_54 : Cond.methodLink O_X3.1 54 yX3_refuse ∈ gw ∨ Cond.methodLinkNest O_X3.1 54 yX3_refuse "BackByTwice" ∈ nw := Or.inl (mI (t_1 153 rfl) rfl)
theorem lk_X3_58 : Cond.methodLink O_X3.1 58 yX0_holdRow ∈ gw ∨ Cond.methodLinkNest O_X3.1 58 yX0_holdRow "BackByTwice" ∈ nw := Or.inr (mN (t_1 157 rfl) rfl)
theorem lk_X3_62 : Cond.methodLink O_X3.1 62 yX0_refusalOfRow ∈ gw ∨ Cond.methodLinkNest O_X3.1 62 yX0_refusalOfRow "BackByTwice" ∈ nw := Or.inr (mN (t_1 168 rfl) rfl)
theorem lk_X3_66 : Cond.methodLink O_X3.1 66 yX0_hasPart ∈ gw ∨ Cond.methodLinkNest O_X3.1 66 yX0_hasPart "BackByTwice" ∈ nw := Or.inr (mN (t_1 180 rfl) rfl)
theorem lk_X3_70 : Cond.methodLink O_X3.1 70 yX0_put ∈ gw ∨ Cond.methodLinkNest O_X3.1 70 yX0_put "BackByTwice" ∈ nw := Or.inr (mN (t_1 184 rfl) rfl)
theorem lk_X3_74 : Cond.methodLink O_X3.1 74 yX0_holdsLaw ∈ gw ∨ Cond.methodLinkNest O_X3.1 74 yX0_holdsLaw "BackByTwice" ∈ nw := Or.inr (mN (t_1 197 rfl) rfl)
theorem lk_X3_78 : Cond.methodLink O_X3.1 78 yX0_isOtherRowThan ∈ gw ∨ Cond.methodLinkNest O_X3.1 78 yX0_isOtherRowThan "BackByTwice" ∈ nw := Or.inr (mN (t_1 198 rfl) rfl)
theorem lk_X3_82 : Cond.methodLink O_X3.1 82 yX0_holdsRow ∈ gw ∨ Cond.methodLinkNest O_X3.1 82 yX0_holdsRow "BackByTwice" ∈ nw := Or.inr (mN (t_1 202 rfl) rfl)
theorem lk_X3_95 : Cond.methodLink O_X3.1 95 yX0_elementAt ∈ gw ∨ Cond.methodLinkNest O_X3.1 95 yX0_elementAt "BackByTwice" ∈ nw := Or.inr (mN (t_1 210 rfl) rfl)
theorem lk_X3_99 : Cond.methodLink O_X3.1 99 yX0_content ∈ gw ∨ Cond.methodLinkNest O_X3.1 99 yX0_content "BackByTwice" ∈ nw := Or.inr (mN (t_1 218 rfl) rfl)
theorem lk_X3_102 : Cond.methodLink O_X3.1 102 yX1_hasLaw ∈ gw ∨ Cond.methodLinkNest O_X3.1 102 yX1_hasLaw "BackByTwice" ∈ nw := Or.inr (mN (t_1 226 rfl) rfl)
theorem lk_X3_105 : Cond.methodLink O_X3.1 105 yX0_holdLaw ∈ gw ∨ Cond.methodLinkNest O_X3.1 105 yX0_holdLaw "BackByTwice" ∈ nw := Or.inr (mN (t_1 230 rfl) rfl)
theorem lk_X3_109 : Cond.methodLink O_X3.1 109 yX3_isKind ∈ gw ∨ Cond.methodLinkNest O_X3.1 109 yX3_isKind "BackByTwice" ∈ nw := Or.inl (mI (t_1 238 rfl) rfl)
theorem lk_X3_116 : Cond.methodLink O_X3.1 116 yX1_kindOf ∈ gw ∨ Cond.methodLinkNest O_X3.1 116 yX1_kindOf "BackByTwice" ∈ nw := Or.inr (mN (t_2 1 rfl) rfl)
theorem lk_X3_119 : Cond.methodLink O_X3.1 119 yX3_isUnder ∈ gw ∨ Cond.methodLinkNest O_X3.1 119 yX3_isUnder "BackByTwice" ∈ nw := Or.inl (mI (t_2 6 rfl) rfl)
theorem lk_X3_122 : Cond.methodLink O_X3.1 122 yX1_amountOf ∈ gw ∨ Cond.methodLinkNest O_X3.1 122 yX1_amountOf "BackByTwice" ∈ nw := Or.inr (mN (t_2 9 rfl) rfl)
theorem lk_X3_125 : Cond.methodLink O_X3.1 125 yX1_lastThen ∈ gw ∨ Cond.methodLinkNest O_X3.1 125 yX1_lastThen "BackByTwice" ∈ nw := Or.inr (mN (t_2 13 rfl) rfl)
theorem lk_X3_128 : Cond.methodLink O_X3.1 128 yX1_stepsBack ∈ gw ∨ Cond.methodLinkNest O_X3.1 128 yX1_stepsBack "BackByTwice" ∈ nw := Or.inr (mN (t_2 25 rfl) rfl)
theorem lk_X3_131 : Cond.methodLink O_X3.1 131 yX1_hasRoom ∈ gw ∨ Cond.methodLinkNest O_X3.1 131 yX1_hasRoom "BackByTwice" ∈ nw := Or.inr (mN (t_2 40 rfl) rfl)
theorem lk_X3_134 : Cond.methodLink O_X3.1 134 yX1_add ∈ gw ∨ Cond.methodLinkNest O_X3.1 134 yX1_add "BackByTwice" ∈ nw := Or.inr (mN (t_2 44 rfl) rfl)
theorem lk_X3_137 : Cond.methodLink O_X3.1 137 yX1_hasRoomForLaw ∈ gw ∨ Cond.methodLinkNest O_X3.1 137 yX1_hasRoomForLaw "BackByTwice" ∈ nw := Or.inr (mN (t_2 53 rfl) rfl)
theorem lk_X3_140 : Cond.methodLink O_X3.1 140 yX1_addLaw ∈ gw ∨ Cond.methodLinkNest O_X3.1 140 yX1_addLaw "BackByTwice" ∈ nw := Or.inr (mN (t_2 57 rfl) rfl)
theorem lk_X3_147 : Cond.methodLink O_X3.1 147 yX1_hasPerson ∈ gw ∨ Cond.methodLinkNest O_X3.1 147 yX1_hasPerson "BackByTwice" ∈ nw := Or.inr (mN (t_2 70 rfl) rfl)
theorem lk_X3_156 : Cond.methodLink O_X3.1 156 yX2_add ∈ gw ∨ Cond.methodLinkNest O_X3.1 156 yX2_add "BackByTwice" ∈ nw := Or.inr (mN (t_2 75 rfl) rfl)
theorem lk_X3_161 : Cond.methodLink O_X3.1 161 yX1_become ∈ gw ∨ Cond.methodLinkNest O_X3.1 161 yX1_become "BackByTwice" ∈ nw := Or.inr (mN (t_2 87 rfl) rfl)
theorem lk_X3_165 : Cond.methodLink O_X3.1 165 yX2_readInto ∈ gw ∨ Cond.methodLinkNest O_X3.1 165 yX2_readInto "BackByTwice" ∈ nw := Or.inr (mN (t_2 92 rfl) rfl)
theorem lk_X3_172 : Cond.methodLink O_X3.1 172 yX1_fact ∈ gw ∨ Cond.methodLinkNest O_X3.1 172 yX1_fact "BackByTwice" ∈ nw := Or.inr (mN (t_3 13 rfl) rfl)
theorem lk_X3_175 : Cond.methodLink O_X3.1 175 yX1_hasPlace ∈ gw ∨ Cond.methodLinkNest O_X3.1 175 yX1_hasPlace "BackByTwice" ∈ nw := Or.inr (mN (t_3 25 rfl) rfl)
theorem lk_X3_178 : Cond.methodLink O_X3.1 178 yX1_who ∈ gw ∨ Cond.methodLinkNest O_X3.1 178 yX1_who "BackByTwice" ∈ nw := Or.inr (mN (t_3 26 rfl) rfl)
theorem lk_X3_181 : Cond.methodLink O_X3.1 181 yX1_isLawless ∈ gw ∨ Cond.methodLinkNest O_X3.1 181 yX1_isLawless "BackByTwice" ∈ nw := Or.inr (mN (t_3 34 rfl) rfl)
theorem lk_X3_184 : Cond.methodLink O_X3.1 184 yX3_think ∈ gw ∨ Cond.methodLinkNest O_X3.1 184 yX3_think "BackByTwice" ∈ nw := Or.inl (mI (t_3 35 rfl) rfl)
theorem lk_X3_187 : Cond.methodLink O_X3.1 187 yX1_isStuck ∈ gw ∨ Cond.methodLinkNest O_X3.1 187 yX1_isStuck "BackByTwice" ∈ nw := Or.inr (mN (t_3 52 rfl) rfl)
theorem lk_X3_190 : Cond.methodLink O_X3.1 190 yX1_turn ∈ gw ∨ Cond.methodLinkNest O_X3.1 190 yX1_turn "BackByTwice" ∈ nw := Or.inr (mN (t_3 57 rfl) rfl)
theorem lk_X3_193 : Cond.methodLink O_X3.1 193 yX1_standsLike ∈ gw ∨ Cond.methodLinkNest O_X3.1 193 yX1_standsLike "BackByTwice" ∈ nw := Or.inr (mN (t_3 58 rfl) rfl)
theorem lk_X3_197 : Cond.methodLink O_X3.1 197 yX3_turnOfServing ∈ gw ∨ Cond.methodLinkNest O_X3.1 197 yX3_turnOfServing "BackByTwice" ∈ nw := Or.inl (mI (t_3 66 rfl) rfl)
theorem lk_X3_201 : Cond.methodLink O_X3.1 201 yX1_allBits ∈ gw ∨ Cond.methodLinkNest O_X3.1 201 yX1_allBits "BackByTwice" ∈ nw := Or.inr (mN (t_3 74 rfl) rfl)
theorem lk_X3_204 : Cond.methodLink O_X3.1 204 yX3_servedBits ∈ gw ∨ Cond.methodLinkNest O_X3.1 204 yX3_servedBits "BackByTwice" ∈ nw := Or.inl (mI (t_3 78 rfl) rfl)
theorem lk_X3_207 : Cond.methodLink O_X3.1 207 yX1_placeOf ∈ gw ∨ Cond.methodLinkNest O_X3.1 207 yX1_placeOf "BackByTwice" ∈ nw := Or.inr (mN (t_3 86 rfl) rfl)
theorem lk_X3_210 : Cond.methodLink O_X3.1 210 yX1_startAnew ∈ gw ∨ Cond.methodLinkNest O_X3.1 210 yX1_startAnew "BackByTwice" ∈ nw := Or.inr (mN (t_3 91 rfl) rfl)
theorem lk_X3_213 : Cond.methodLink O_X3.1 213 yX1_turnTimes ∈ gw ∨ Cond.methodLinkNest O_X3.1 213 yX1_turnTimes "BackByTwice" ∈ nw := Or.inr (mN (t_3 39 rfl) rfl)
theorem lk_X3_219 : Cond.methodLink O_X3.1 219 yX3_firstGreatest ∈ gw ∨ Cond.methodLinkNest O_X3.1 219 yX3_firstGreatest "BackByTwice" ∈ nw := Or.inl (mI (t_3 98 rfl) rfl)
theorem lk_X3_223 : Cond.methodLink O_X3.1 223 yJ9_max_7cf53 ∈ gw ∨ Cond.methodLinkNest O_X3.1 223 yJ9_max_7cf53 "BackByTwice" ∈ nw := Or.inl (mI (t_3 105 rfl) rfl)
theorem lk_X3_228 : Cond.methodLink O_X3.1 228 yJ6_bitCount_0f7a4 ∈ gw ∨ Cond.methodLinkNest O_X3.1 228 yJ6_bitCount_0f7a4 "BackByTwice" ∈ nw := Or.inl (mI (t_3 110 rfl) rfl)
theorem lk_X3_233 : Cond.methodLink O_X3.1 233 yJ9_abs_0f7a4 ∈ gw ∨ Cond.methodLinkNest O_X3.1 233 yJ9_abs_0f7a4 "BackByTwice" ∈ nw := Or.inl (mI (t_3 120 rfl) rfl)
theorem lk_X3_236 : Cond.methodLink O_X3.1 236 yX1_isEmpty ∈ gw ∨ Cond.methodLinkNest O_X3.1 236 yX1_isEmpty "BackByTwice" ∈ nw := Or.inr (mN (t_3 127 rfl) rfl)
theorem lk_X3_239 : Cond.methodLink O_X3.1 239 yX3_thinkBy ∈ gw ∨ Cond.methodLinkNest O_X3.1 239 yX3_thinkBy "BackByTwice" ∈ nw := Or.inl (mI (t_3 128 rfl) rfl)
theorem lk_X3_245 : Cond.methodLink O_X3.1 245 yX1_move ∈ gw ∨ Cond.methodLinkNest O_X3.1 245 yX1_move "BackByTwice" ∈ nw := Or.inr (mN (t_3 144 rfl) rfl)
theorem lk_X3_248 : Cond.methodLink O_X3.1 248 yX1_countsApart ∈ gw ∨ Cond.methodLinkNest O_X3.1 248 yX1_countsApart "BackByTwice" ∈ nw := Or.inr (mN (t_3 149 rfl) rfl)
theorem lk_X3_251 : Cond.methodLink O_X3.1 251 yX3_spreadBy ∈ gw ∨ Cond.methodLinkNest O_X3.1 251 yX3_spreadBy "BackByTwice" ∈ nw := Or.inl (mI (t_3 157 rfl) rfl)
theorem lk_X3_254 : Cond.methodLink O_X3.1 254 yX3_refusalOfSlate ∈ gw ∨ Cond.methodLinkNest O_X3.1 254 yX3_refusalOfSlate "BackByTwice" ∈ nw := Or.inl (mI (t_3 169 rfl) rfl)
theorem lk_X3_257 : Cond.methodLink O_X3.1 257 yX3_firstWrong ∈ gw ∨ Cond.methodLinkNest O_X3.1 257 yX3_firstWrong "BackByTwice" ∈ nw := Or.inl (mI (t_3 173 rfl) rfl)
theorem lk_X3_261 : Cond.methodLink O_X3.1 261 yX3_firstPush ∈ gw ∨ Cond.methodLinkNest O_X3.1 261 yX3_firstPush "BackByTwice" ∈ nw := Or.inl (mI (t_3 185 rfl) rfl)
theorem lk_X3_264 : Cond.methodLink O_X3.1 264 yX3_isPack ∈ gw ∨ Cond.methodLinkNest O_X3.1 264 yX3_isPack "BackByTwice" ∈ nw := Or.inl (mI (t_3 193 rfl) rfl)
theorem lk_X3_267 : Cond.methodLink O_X3.1 267 yX3_timesAgain ∈ gw ∨ Cond.methodLinkNest O_X3.1 267 yX3_timesAgain "BackByTwice" ∈ nw := Or.inl (mI (t_3 196 rfl) rfl)
theorem lk_X3_271 : Cond.methodLink O_X3.1 271 yX3_shuffledTimes ∈ gw ∨ Cond.methodLinkNest O_X3.1 271 yX3_shuffledTimes "BackByTwice" ∈ nw := Or.inl (mI (t_3 207 rfl) rfl)
theorem lk_X3_275 : Cond.methodLink O_X3.1 275 yX3_isLeastOfItsRound ∈ gw ∨ Cond.methodLinkNest O_X3.1 275 yX3_isLeastOfItsRound "BackByTwice" ∈ nw := Or.inl (mI (t_3 218 rfl) rfl)
theorem lk_X3_279 : Cond.methodLink O_X3.1 279 yX3_digitsInTwos ∈ gw ∨ Cond.methodLinkNest O_X3.1 279 yX3_digitsInTwos "BackByTwice" ∈ nw := Or.inl (mI (t_3 229 rfl) rfl)
theorem lk_X3_282 : Cond.methodLink O_X3.1 282 yX1_letBefore ∈ gw ∨ Cond.methodLinkNest O_X3.1 282 yX1_letBefore "BackByTwice" ∈ nw := Or.inr (mN (t_3 236 rfl) rfl)
theorem lk_X3_285 : Cond.methodLink O_X3.1 285 yX3_hasAllPeople ∈ gw ∨ Cond.methodLinkNest O_X3.1 285 yX3_hasAllPeople "BackByTwice" ∈ nw := Or.inl (mI (t_4 1 rfl) rfl)
theorem lk_X3_288 : Cond.methodLink O_X3.1 288 yX3_rankOf ∈ gw ∨ Cond.methodLinkNest O_X3.1 288 yX3_rankOf "BackByTwice" ∈ nw := Or.inl (mI (t_4 17 rfl) rfl)
theorem lk_X3_291 : Cond.methodLink O_X3.1 291 yX1_removeLast ∈ gw ∨ Cond.methodLinkNest O_X3.1 291 yX1_removeLast "BackByTwice" ∈ nw := Or.inr (mN (t_4 37 rfl) rfl)
theorem lk_X3_294 : Cond.methodLink O_X3.1 294 yX1_draw ∈ gw ∨ Cond.methodLinkNest O_X3.1 294 yX1_draw "BackByTwice" ∈ nw := Or.inr (mN (t_4 42 rfl) rfl)
theorem lk_X3_307 : Cond.methodLink O_X3.1 307 yX1_allCounts ∈ gw ∨ Cond.methodLinkNest O_X3.1 307 yX1_allCounts "BackByTwice" ∈ nw := Or.inr (mN (t_4 67 rfl) rfl)
theorem lk_X3_310 : Cond.methodLink O_X3.1 310 yX3_shelvesInUse ∈ gw ∨ Cond.methodLinkNest O_X3.1 310 yX3_shelvesInUse "BackByTwice" ∈ nw := Or.inl (mI (t_4 71 rfl) rfl)
theorem lk_X3_313 : Cond.methodLink O_X3.1 313 yX3_shuffled ∈ gw ∨ Cond.methodLinkNest O_X3.1 313 yX3_shuffled "BackByTwice" ∈ nw := Or.inl (mI (t_3 200 rfl) rfl)
theorem lk_X0_22 : Cond.methodLink O_X0.1 22 yX0_holdsRow ∈ gw ∨ Cond.methodLinkNest O_X0.1 22 yX0_holdsRow "BackByTwice" ∈ nw := Or.inl (mI (t_1 176 rfl) rfl)
theorem lk_X0_26 : Cond.methodLink O_X0.1 26 yX0_holdsLaw ∈ gw ∨ Cond.methodLinkNest O_X0.1 26 yX0_holdsLaw "BackByTwice" ∈ nw := Or.inl (mI (t_1 172 rfl) rfl)
theorem lk_X0_32 : Cond.methodLink O_X0.1 32 yJ7_fill_d0a16 ∈ gw ∨ Cond.methodLinkNest O_X0.1 32 yJ7_fill_d0a16 "BackByTwice" ∈ nw := Or.inl (mI (t_1 161 rfl) rfl)
theorem lk_X0_38 : Cond.methodLink O_X0.1 38 yX0_hasPart ∈ gw ∨ Cond.methodLinkNest O_X0.1 38 yX0_hasPart "BackByTwice" ∈ nw := Or.inl (mI (t_1 188 rfl) rfl)
theorem lk_X0_42 : Cond.methodLink O_X0.1 42 yX0_cut ∈ gw ∨ Cond.methodLinkNest O_X0.1 42 yX0_cut "BackByTwice" ∈ nw := Or.inl (mI (t_1 189 rfl) rfl)
theorem lk_X1_49 : Cond.methodLink O_X1.1 49 yX1_isEmpty ∈ gw ∨ Cond.methodLinkNest O_X1.1 49 yX1_isEmpty "BackByTwice" ∈ nw := Or.inl (mI (t_2 198 rfl) rfl)
theorem lk_X1_53 : Cond.methodLink O_X1.1 53 yX1_isLawless ∈ gw ∨ Cond.methodLinkNest O_X1.1 53 yX1_isLawless "BackByTwice" ∈ nw := Or.inl (mI (t_2 202 rfl) rfl)
theorem lk_X1_56 : Cond.methodLink O_X1.1 56 yX1_hasPlace ∈ gw ∨ Cond.methodLinkNest O_X1.1 56 yX1_hasPlace "BackByTwice" ∈ nw := Or.inl (mI (t_2 221 rfl) rfl)
theorem lk_X1_60 : Cond.methodLink O_X1.1 60 yX1_hasPerson ∈ gw ∨ Cond.methodLinkNest O_X1.1 60 yX1_hasPerson "BackByTwice" ∈ nw := Or.inl (mI (t_2 17 rfl) rfl)
theorem lk_X1_63 : Cond.methodLink O_X1.1 63 yX1_placeOf ∈ gw ∨ Cond.methodLinkNest O_X1.1 63 yX1_placeOf "BackByTwice" ∈ nw := Or.inl (mI (t_2 238 rfl) rfl)
theorem lk_X1_67 : Cond.methodLink O_X1.1 67 yX1_hasLaw ∈ gw ∨ Cond.methodLinkNest O_X1.1 67 yX1_hasLaw "BackByTwice" ∈ nw := Or.inl (mI (t_2 5 rfl) rfl)
theorem lk_X1_70 : Cond.methodLink O_X1.1 70 yJ9_min_7cf53 ∈ gw ∨ Cond.methodLinkNest O_X1.1 70 yJ9_min_7cf53 "BackByTwice" ∈ nw := Or.inl (mI (t_2 22 rfl) rfl)
theorem lk_X1_76 : Cond.methodLink O_X1.1 76 yJ9_max_7cf53 ∈ gw ∨ Cond.methodLinkNest O_X1.1 76 yJ9_max_7cf53 "BackByTwice" ∈ nw := Or.inl (mI (t_2 33 rfl) rfl)
theorem lk_X1_79 : Cond.methodLink O_X1.1 79 yX1_hasRoom ∈ gw ∨ Cond.methodLinkNest O_X1.1 79 yX1_hasRoom "BackByTwice" ∈ nw := Or.inl (mI (t_2 48 rfl) rfl)
theorem lk_X1_82 : Cond.methodLink O_X1.1 82 yX1_move ∈ gw ∨ Cond.methodLinkNest O_X1.1 82 yX1_move "BackByTwice" ∈ nw := Or.inl (mI (t_2 234 rfl) rfl)
theorem lk_X1_86 : Cond.methodLink O_X1.1 86 yX1_hasRoomForLaw ∈ gw ∨ Cond.methodLinkNest O_X1.1 86 yX1_hasRoomForLaw "BackByTwice" ∈ nw := Or.inl (mI (t_2 61 rfl) rfl)
theorem lk_X1_89 : Cond.methodLink O_X1.1 89 yJ7_fill_53178 ∈ gw ∨ Cond.methodLinkNest O_X1.1 89 yJ7_fill_53178 "BackByTwice" ∈ nw := Or.inl (mI (t_3 95 rfl) rfl)
theorem lk_X1_95 : Cond.methodLink O_X1.1 95 yX1_stepsWanted ∈ gw ∨ Cond.methodLinkNest O_X1.1 95 yX1_stepsWanted "BackByTwice" ∈ nw := Or.inl (mI (t_2 29 rfl) rfl)
theorem lk_X1_98 : Cond.methodLink O_X1.1 98 yX3_isUnder ∈ gw ∨ Cond.methodLinkNest O_X1.1 98 yX3_isUnder "BackByTwice" ∈ nw := Or.inr (mN (t_2 21 rfl) rfl)
theorem lk_X1_102 : Cond.methodLink O_X1.1 102 yX1_stepsBack ∈ gw ∨ Cond.methodLinkNest O_X1.1 102 yX1_stepsBack "BackByTwice" ∈ nw := Or.inl (mI (t_2 210 rfl) rfl)
theorem lk_X1_105 : Cond.methodLink O_X1.1 105 yX1_lastThen ∈ gw ∨ Cond.methodLinkNest O_X1.1 105 yX1_lastThen "BackByTwice" ∈ nw := Or.inl (mI (t_2 211 rfl) rfl)
theorem lk_X1_108 : Cond.methodLink O_X1.1 108 yX1_turn ∈ gw ∨ Cond.methodLinkNest O_X1.1 108 yX1_turn "BackByTwice" ∈ nw := Or.inl (mI (t_3 43 rfl) rfl)
theorem lk_X2_22 : Cond.methodLink O_X2.1 22 yX2_goOn ∈ gw ∨ Cond.methodLinkNest O_X2.1 22 yX2_goOn "BackByTwice" ∈ nw := Or.inl (mI (t_2 96 rfl) rfl)
theorem lk_X2_25 : Cond.methodLink O_X2.1 25 yX2_readStatement ∈ gw ∨ Cond.methodLinkNest O_X2.1 25 yX2_readStatement "BackByTwice" ∈ nw := Or.inl (mI (t_2 107 rfl) rfl)
theorem lk_X2_34 : Cond.methodLink O_X2.1 34 yX2_isWord ∈ gw ∨ Cond.methodLinkNest O_X2.1 34 yX2_isWord "BackByTwice" ∈ nw := Or.inl (mI (t_2 112 rfl) rfl)
theorem lk_X2_38 : Cond.methodLink O_X2.1 38 yX2_readPeople ∈ gw ∨ Cond.methodLinkNest O_X2.1 38 yX2_readPeople "BackByTwice" ∈ nw := Or.inl (mI (t_2 164 rfl) rfl)
theorem lk_X2_43 : Cond.methodLink O_X2.1 43 yX1_hasRoomForLaw ∈ gw ∨ Cond.methodLinkNest O_X2.1 43 yX1_hasRoomForLaw "BackByTwice" ∈ nw := Or.inr (mN (t_2 178 rfl) rfl)
theorem lk_X2_49 : Cond.methodLink O_X2.1 49 yX2_readLaw ∈ gw ∨ Cond.methodLinkNest O_X2.1 49 yX2_readLaw "BackByTwice" ∈ nw := Or.inl (mI (t_2 179 rfl) rfl)
theorem lk_X2_54 : Cond.methodLink O_X2.1 54 yX2_readUse ∈ gw ∨ Cond.methodLinkNest O_X2.1 54 yX2_readUse "BackByTwice" ∈ nw := Or.inl (mI (t_2 185 rfl) rfl)
theorem lk_X2_59 : Cond.methodLink O_X2.1 59 yX2_readServe ∈ gw ∨ Cond.methodLinkNest O_X2.1 59 yX2_readServe "BackByTwice" ∈ nw := Or.inl (mI (t_2 190 rfl) rfl)
theorem lk_X2_64 : Cond.methodLink O_X2.1 64 yX2_readLet ∈ gw ∨ Cond.methodLinkNest O_X2.1 64 yX2_readLet "BackByTwice" ∈ nw := Or.inl (mI (t_2 213 rfl) rfl)
theorem lk_X2_69 : Cond.methodLink O_X2.1 69 yX2_readLeave ∈ gw ∨ Cond.methodLinkNest O_X2.1 69 yX2_readLeave "BackByTwice" ∈ nw := Or.inl (mI (t_2 226 rfl) rfl)
theorem lk_X2_74 : Cond.methodLink O_X2.1 74 yX2_readCount ∈ gw ∨ Cond.methodLinkNest O_X2.1 74 yX2_readCount "BackByTwice" ∈ nw := Or.inl (mI (t_3 3 rfl) rfl)
theorem lk_X2_79 : Cond.methodLink O_X2.1 79 yX2_number ∈ gw ∨ Cond.methodLinkNest O_X2.1 79 yX2_number "BackByTwice" ∈ nw := Or.inl (mI (t_2 168 rfl) rfl)
theorem lk_X2_83 : Cond.methodLink O_X2.1 83 yX1_add ∈ gw ∨ Cond.methodLinkNest O_X2.1 83 yX1_add "BackByTwice" ∈ nw := Or.inr (mN (t_2 176 rfl) rfl)
theorem lk_X2_87 : Cond.methodLink O_X2.1 87 yX1_addLaw ∈ gw ∨ Cond.methodLinkNest O_X2.1 87 yX1_addLaw "BackByTwice" ∈ nw := Or.inr (mN (t_2 183 rfl) rfl)
theorem lk_X2_96 : Cond.methodLink O_X2.1 96 yX1_isStuck ∈ gw ∨ Cond.methodLinkNest O_X2.1 96 yX1_isStuck "BackByTwice" ∈ nw := Or.inr (mN (t_2 194 rfl) rfl)
theorem lk_X2_99 : Cond.methodLink O_X2.1 99 yX1_turn ∈ gw ∨ Cond.methodLinkNest O_X2.1 99 yX1_turn "BackByTwice" ∈ nw := Or.inr (mN (t_2 206 rfl) rfl)
theorem lk_X2_102 : Cond.methodLink O_X2.1 102 yX1_letBefore ∈ gw ∨ Cond.methodLinkNest O_X2.1 102 yX1_letBefore "BackByTwice" ∈ nw := Or.inr (mN (t_2 217 rfl) rfl)
theorem lk_X2_106 : Cond.methodLink O_X2.1 106 yX1_removeLast ∈ gw ∨ Cond.methodLinkNest O_X2.1 106 yX1_removeLast "BackByTwice" ∈ nw := Or.inr (mN (t_2 230 rfl) rfl)
theorem lk_X2_109 : Cond.methodLink O_X2.1 109 yX1_hasPerson ∈ gw ∨ Cond.methodLinkNest O_X2.1 109 yX1_hasPerson "BackByTwice" ∈ nw := Or.inr (mN (t_3 7 rfl) rfl)
theorem lk_X2_116 : Cond.methodLink O_X2.1 116 yJ9_min_7cf53 ∈ gw ∨ Cond.methodLinkNest O_X2.1 116 yJ9_min_7cf53 "BackByTwice" ∈ nw := Or.inl (mI (t_2 100 rfl) rfl)
theorem lk_X2_121 : Cond.methodLink O_X2.1 121 yX2_isLetter ∈ gw ∨ Cond.methodLinkNest O_X2.1 121 yX2_isLetter "BackByTwice" ∈ nw := Or.inl (mI (t_2 101 rfl) rfl)
theorem lk_X2_124 : Cond.methodLink O_X2.1 124 yX2_isDigit ∈ gw ∨ Cond.methodLinkNest O_X2.1 124 yX2_isDigit "BackByTwice" ∈ nw := Or.inl (mI (t_2 104 rfl) rfl)
theorem lk_X2_127 : Cond.methodLink O_X2.1 127 yJ0_length_8abf5 ∈ gw ∨ Cond.methodLinkNest O_X2.1 127 yJ0_length_8abf5 "BackByTwice" ∈ nw := Or.inl (mI (t_2 116 rfl) rfl)
theorem lk_X2_132 : Cond.methodLink O_X2.1 132 yJ0_charAt_5068e ∈ gw ∨ Cond.methodLinkNest O_X2.1 132 yJ0_charAt_5068e "BackByTwice" ∈ nw := Or.inl (mI (t_2 126 rfl) rfl)
theorem lk_X2_136 : Cond.methodLink O_X2.1 136 yX2_numberInHand ∈ gw ∨ Cond.methodLinkNest O_X2.1 136 yX2_numberInHand "BackByTwice" ∈ nw := Or.inl (mI (t_2 172 rfl) rfl)
theorem lk_L_9 : Cond.methodLink O_L.1 9 yX3_init ∈ gw ∨ Cond.methodLinkNest O_L.1 9 yX3_init "BackByTwice" ∈ nw := Or.inl (mI (t_1 16 rfl) rfl)
theorem lk_L_12 : Cond.methodLink O_L.1 12 yX4_init ∈ gw ∨ Cond.methodLinkNest O_L.1 12 yX4_init "BackByTwice" ∈ nw := Or.inl (mI (t_4 77 rfl) rfl)
theorem lk_L_13 : Cond.methodLink O_L.1 13 yX3_row ∈ gw ∨ Cond.methodLinkNest O_L.1 13 yX3_row "BackByTwice" ∈ nw := Or.inl (mI (t_1 143 rfl) rfl)
theorem lk_L_17 : Cond.methodLink O_L.1 17 yX4_row ∈ gw ∨ Cond.methodLinkNest O_L.1 17 yX4_row "BackByTwice" ∈ nw := Or.inl (mI (t_4 178 rfl) rfl)
theorem lk_L_20 : Cond.methodLink O_L.1 20 yX3_set ∈ gw ∨ Cond.methodLinkNest O_L.1 20 yX3_set "BackByTwice" ∈ nw := Or.inl (mI (t_1 164 rfl) rfl)
theorem lk_L_24 : Cond.methodLink O_L.1 24 yX4_set ∈ gw ∨ Cond.methodLinkNest O_L.1 24 yX4_set "BackByTwice" ∈ nw := Or.inl (mI (t_4 192 rfl) rfl)
theorem lk_L_25 : Cond.methodLink O_L.1 25 yX3_copy ∈ gw ∨ Cond.methodLinkNest O_L.1 25 yX3_copy "BackByTwice" ∈ nw := Or.inl (mI (t_1 193 rfl) rfl)
theorem lk_L_29 : Cond.methodLink O_L.1 29 yX4_copy ∈ gw ∨ Cond.methodLinkNest O_L.1 29 yX4_copy "BackByTwice" ∈ nw := Or.inl (mI (t_4 203 rfl) rfl)
theorem lk_L_30 : Cond.methodLink O_L.1 30 yX3_element ∈ gw ∨ Cond.methodLinkNest O_L.1 30 yX3_element "BackByTwice" ∈ nw := Or.inl (mI (t_1 206 rfl) rfl)
theorem lk_L_34 : Cond.methodLink O_L.1 34 yX4_element ∈ gw ∨ Cond.methodLinkNest O_L.1 34 yX4_element "BackByTwice" ∈ nw := Or.inl (mI (t_4 207 rfl) rfl)
theorem lk_L_35 : Cond.methodLink O_L.1 35 yX3_holds ∈ gw ∨ Cond.methodLinkNest O_L.1 35 yX3_holds "BackByTwice" ∈ nw := Or.inl (mI (t_1 214 rfl) rfl)
theorem lk_L_39 : Cond.methodLink O_L.1 39 yX4_holds ∈ gw ∨ Cond.methodLinkNest O_L.1 39 yX4_holds "BackByTwice" ∈ nw := Or.inl (mI (t_4 211 rfl) rfl)
theorem lk_L_40 : Cond.methodLink O_L.1 40 yX3_show ∈ gw ∨ Cond.methodLinkNest O_L.1 40 yX3_show "BackByTwice" ∈ nw := Or.inl (mI (t_1 222 rfl) rfl)
theorem lk_L_44 : Cond.methodLink O_L.1 44 yX4_show ∈ gw ∨ Cond.methodLinkNest O_L.1 44 yX4_show "BackByTwice" ∈ nw := Or.inl (mI (t_4 215 rfl) rfl)
theorem lk_L_45 : Cond.methodLink O_L.1 45 yX3_says ∈ gw ∨ Cond.methodLinkNest O_L.1 45 yX3_says "BackByTwice" ∈ nw := Or.inl (mI (t_1 234 rfl) rfl)
theorem lk_L_48 : Cond.methodLink O_L.1 48 yX4_says ∈ gw ∨ Cond.methodLinkNest O_L.1 48 yX4_says "BackByTwice" ∈ nw := Or.inl (mI (t_4 223 rfl) rfl)
theorem lk_L_49 : Cond.methodLink O_L.1 49 yX3_comes ∈ gw ∨ Cond.methodLinkNest O_L.1 49 yX3_comes "BackByTwice" ∈ nw := Or.inl (mI (t_2 36 rfl) rfl)
theorem lk_L_53 : Cond.methodLink O_L.1 53 yX4_comes ∈ gw ∨ Cond.methodLinkNest O_L.1 53 yX4_comes "BackByTwice" ∈ nw := Or.inl (mI (t_4 239 rfl) rfl)
theorem lk_L_54 : Cond.methodLink O_L.1 54 yX3_law ∈ gw ∨ Cond.methodLinkNest O_L.1 54 yX3_law "BackByTwice" ∈ nw := Or.inl (mI (t_2 49 rfl) rfl)
theorem lk_L_57 : Cond.methodLink O_L.1 57 yX4_law ∈ gw ∨ Cond.methodLinkNest O_L.1 57 yX4_law "BackByTwice" ∈ nw := Or.inl (mI (t_5 7 rfl) rfl)
theorem lk_L_58 : Cond.methodLink O_L.1 58 yX3_use ∈ gw ∨ Cond.methodLinkNest O_L.1 58 yX3_use "BackByTwice" ∈ nw := Or.inl (mI (t_2 62 rfl) rfl)
theorem lk_L_61 : Cond.methodLink O_L.1 61 yX4_use ∈ gw ∨ Cond.methodLinkNest O_L.1 61 yX4_use "BackByTwice" ∈ nw := Or.inl (mI (t_5 16 rfl) rfl)
theorem lk_L_62 : Cond.methodLink O_L.1 62 yX3_tell ∈ gw ∨ Cond.methodLinkNest O_L.1 62 yX3_tell "BackByTwice" ∈ nw := Or.inl (mI (t_2 66 rfl) rfl)
theorem lk_L_65 : Cond.methodLink O_L.1 65 yX4_tell ∈ gw ∨ Cond.methodLinkNest O_L.1 65 yX4_tell "BackByTwice" ∈ nw := Or.inl (mI (t_5 20 rfl) rfl)
theorem lk_L_66 : Cond.methodLink O_L.1 66 yX3_feed ∈ gw ∨ Cond.methodLinkNest O_L.1 66 yX3_feed "BackByTwice" ∈ nw := Or.inl (mI (t_2 71 rfl) rfl)
theorem lk_L_69 : Cond.methodLink O_L.1 69 yX4_feed ∈ gw ∨ Cond.methodLinkNest O_L.1 69 yX4_feed "BackByTwice" ∈ nw := Or.inl (mI (t_5 30 rfl) rfl)
theorem lk_L_70 : Cond.methodLink O_L.1 70 yX3_wipe ∈ gw ∨ Cond.methodLinkNest O_L.1 70 yX3_wipe "BackByTwice" ∈ nw := Or.inl (mI (t_2 79 rfl) rfl)
theorem lk_L_73 : Cond.methodLink O_L.1 73 yX4_wipe ∈ gw ∨ Cond.methodLinkNest O_L.1 73 yX4_wipe "BackByTwice" ∈ nw := Or.inl (mI (t_5 35 rfl) rfl)
theorem lk_L_74 : Cond.methodLink O_L.1 74 yX3_shop ∈ gw ∨ Cond.methodLinkNest O_L.1 74 yX3_shop "BackByTwice" ∈ nw := Or.inl (mI (t_2 83 rfl) rfl)
theorem lk_L_77 : Cond.methodLink O_L.1 77 yX4_shop ∈ gw ∨ Cond.methodLinkNest O_L.1 77 yX4_shop "BackByTwice" ∈ nw := Or.inl (mI (t_5 39 rfl) rfl)
theorem lk_L_78 : Cond.methodLink O_L.1 78 yX3_personOf ∈ gw ∨ Cond.methodLinkNest O_L.1 78 yX3_personOf "BackByTwice" ∈ nw := Or.inl (mI (t_3 9 rfl) rfl)
theorem lk_L_81 : Cond.methodLink O_L.1 81 yX4_personOf ∈ gw ∨ Cond.methodLinkNest O_L.1 81 yX4_personOf "BackByTwice" ∈ nw := Or.inl (mI (t_5 135 rfl) rfl)
theorem lk_L_82 : Cond.methodLink O_L.1 82 yX3_lawOf ∈ gw ∨ Cond.methodLinkNest O_L.1 82 yX3_lawOf "BackByTwice" ∈ nw := Or.inl (mI (t_3 17 rfl) rfl)
theorem lk_L_85 : Cond.methodLink O_L.1 85 yX4_lawOf ∈ gw ∨ Cond.methodLinkNest O_L.1 85 yX4_lawOf "BackByTwice" ∈ nw := Or.inl (mI (t_5 140 rfl) rfl)
theorem lk_L_86 : Cond.methodLink O_L.1 86 yX3_at ∈ gw ∨ Cond.methodLinkNest O_L.1 86 yX3_at "BackByTwice" ∈ nw := Or.inl (mI (t_3 21 rfl) rfl)
theorem lk_L_89 : Cond.methodLink O_L.1 89 yX4_at ∈ gw ∨ Cond.methodLinkNest O_L.1 89 yX4_at "BackByTwice" ∈ nw := Or.inl (mI (t_5 144 rfl) rfl)
theorem lk_L_90 : Cond.methodLink O_L.1 90 yX3_stands ∈ gw ∨ Cond.methodLinkNest O_L.1 90 yX3_stands "BackByTwice" ∈ nw := Or.inl (mI (t_3 30 rfl) rfl)
theorem lk_L_93 : Cond.methodLink O_L.1 93 yX4_stands ∈ gw ∨ Cond.methodLinkNest O_L.1 93 yX4_stands "BackByTwice" ∈ nw := Or.inl (mI (t_5 148 rfl) rfl)
theorem lk_L_94 : Cond.methodLink O_L.1 94 yX3_behind ∈ gw ∨ Cond.methodLinkNest O_L.1 94 yX3_behind "BackByTwice" ∈ nw := Or.inl (mI (t_3 44 rfl) rfl)
theorem lk_L_97 : Cond.methodLink O_L.1 97 yX4_behind ∈ gw ∨ Cond.methodLinkNest O_L.1 97 yX4_behind "BackByTwice" ∈ nw := Or.inl (mI (t_5 159 rfl) rfl)
theorem lk_L_98 : Cond.methodLink O_L.1 98 yX3_served ∈ gw ∨ Cond.methodLinkNest O_L.1 98 yX3_served "BackByTwice" ∈ nw := Or.inl (mI (t_3 48 rfl) rfl)
theorem lk_L_101 : Cond.methodLink O_L.1 101 yX4_served ∈ gw ∨ Cond.methodLinkNest O_L.1 101 yX4_served "BackByTwice" ∈ nw := Or.inl (mI (t_5 164 rfl) rfl)
theorem lk_L_102 : Cond.methodLink O_L.1 102 yX3_round ∈ gw ∨ Cond.methodLinkNest O_L.1 102 yX3_round "BackByTwice" ∈ nw := Or.inl (mI (t_3 53 rfl) rfl)
theorem lk_L_105 : Cond.methodLink O_L.1 105 yX4_round ∈ gw ∨ Cond.methodLinkNest O_L.1 105 yX4_round "BackByTwice" ∈ nw := Or.inl (mI (t_5 168 rfl) rfl)
theorem lk_L_106 : Cond.methodLink O_L.1 106 yX3_when ∈ gw ∨ Cond.methodLinkNest O_L.1 106 yX3_when "BackByTwice" ∈ nw := Or.inl (mI (t_3 62 rfl) rfl)
theorem lk_L_109 : Cond.methodLink O_L.1 109 yX4_when ∈ gw ∨ Cond.methodLinkNest O_L.1 109 yX4_when "BackByTwice" ∈ nw := Or.inl (mI (t_5 176 rfl) rfl)
theorem lk_L_110 : Cond.methodLink O_L.1 110 yX3_never ∈ gw ∨ Cond.methodLinkNest O_L.1 110 yX3_never "BackByTwice" ∈ nw := Or.inl (mI (t_3 70 rfl) rfl)
theorem lk_L_113 : Cond.methodLink O_L.1 113 yX4_never ∈ gw ∨ Cond.methodLinkNest O_L.1 113 yX4_never "BackByTwice" ∈ nw := Or.inl (mI (t_5 184 rfl) rfl)
theorem lk_L_114 : Cond.methodLink O_L.1 114 yX3_stand ∈ gw ∨ Cond.methodLinkNest O_L.1 114 yX3_stand "BackByTwice" ∈ nw := Or.inl (mI (t_3 82 rfl) rfl)
theorem lk_L_117 : Cond.methodLink O_L.1 117 yX4_stand ∈ gw ∨ Cond.methodLinkNest O_L.1 117 yX4_stand "BackByTwice" ∈ nw := Or.inl (mI (t_5 196 rfl) rfl)
theorem lk_L_118 : Cond.methodLink O_L.1 118 yX3_leader ∈ gw ∨ Cond.methodLinkNest O_L.1 118 yX3_leader "BackByTwice" ∈ nw := Or.inl (mI (t_3 87 rfl) rfl)
theorem lk_L_121 : Cond.methodLink O_L.1 121 yX4_leader ∈ gw ∨ Cond.methodLinkNest O_L.1 121 yX4_leader "BackByTwice" ∈ nw := Or.inl (mI (t_5 200 rfl) rfl)
theorem lk_L_122 : Cond.methodLink O_L.1 122 yX3_waits ∈ gw ∨ Cond.methodLinkNest O_L.1 122 yX3_waits "BackByTwice" ∈ nw := Or.inl (mI (t_3 101 rfl) rfl)
theorem lk_L_125 : Cond.methodLink O_L.1 125 yX4_waits ∈ gw ∨ Cond.methodLinkNest O_L.1 125 yX4_waits "BackByTwice" ∈ nw := Or.inl (mI (t_5 212 rfl) rfl)
theorem lk_L_126 : Cond.methodLink O_L.1 126 yX3_several ∈ gw ∨ Cond.methodLinkNest O_L.1 126 yX3_several "BackByTwice" ∈ nw := Or.inl (mI (t_3 106 rfl) rfl)
theorem lk_L_129 : Cond.methodLink O_L.1 129 yX4_several ∈ gw ∨ Cond.methodLinkNest O_L.1 129 yX4_several "BackByTwice" ∈ nw := Or.inl (mI (t_5 192 rfl) rfl)
theorem lk_L_130 : Cond.methodLink O_L.1 130 yX3_beside ∈ gw ∨ Cond.methodLinkNest O_L.1 130 yX3_beside "BackByTwice" ∈ nw := Or.inl (mI (t_3 116 rfl) rfl)
theorem lk_L_133 : Cond.methodLink O_L.1 133 yX4_beside ∈ gw ∨ Cond.methodLinkNest O_L.1 133 yX4_beside "BackByTwice" ∈ nw := Or.inl (mI (t_5 216 rfl) rfl)
theorem lk_L_134 : Cond.methodLink O_L.1 134 yX3_unlike ∈ gw ∨ Cond.methodLinkNest O_L.1 134 yX3_unlike "BackByTwice" ∈ nw := Or.inl (mI (t_3 123 rfl) rfl)
theorem lk_L_137 : Cond.methodLink O_L.1 137 yX4_unlike ∈ gw ∨ Cond.methodLinkNest O_L.1 137 yX4_unlike "BackByTwice" ∈ nw := Or.inl (mI (t_5 220 rfl) rfl)
theorem lk_L_138 : Cond.methodLink O_L.1 138 yX3_lawFor ∈ gw ∨ Cond.methodLinkNest O_L.1 138 yX3_lawFor "BackByTwice" ∈ nw := Or.inl (mI (t_3 132 rfl) rfl)
theorem lk_L_141 : Cond.methodLink O_L.1 141 yX4_lawFor ∈ gw ∨ Cond.methodLinkNest O_L.1 141 yX4_lawFor "BackByTwice" ∈ nw := Or.inl (mI (t_5 224 rfl) rfl)
theorem lk_L_142 : Cond.methodLink O_L.1 142 yX3_newcomer ∈ gw ∨ Cond.methodLinkNest O_L.1 142 yX3_newcomer "BackByTwice" ∈ nw := Or.inl (mI (t_3 136 rfl) rfl)
theorem lk_L_145 : Cond.methodLink O_L.1 145 yX4_newcomer ∈ gw ∨ Cond.methodLinkNest O_L.1 145 yX4_newcomer "BackByTwice" ∈ nw := Or.inl (mI (t_5 228 rfl) rfl)
theorem lk_L_146 : Cond.methodLink O_L.1 146 yX3_forward ∈ gw ∨ Cond.methodLinkNest O_L.1 146 yX3_forward "BackByTwice" ∈ nw := Or.inl (mI (t_3 140 rfl) rfl)
theorem lk_L_149 : Cond.methodLink O_L.1 149 yX4_forward ∈ gw ∨ Cond.methodLinkNest O_L.1 149 yX4_forward "BackByTwice" ∈ nw := Or.inl (mI (t_5 232 rfl) rfl)
theorem lk_L_150 : Cond.methodLink O_L.1 150 yX3_level ∈ gw ∨ Cond.methodLinkNest O_L.1 150 yX3_level "BackByTwice" ∈ nw := Or.inl (mI (t_3 145 rfl) rfl)
theorem lk_L_153 : Cond.methodLink O_L.1 153 yX4_level ∈ gw ∨ Cond.methodLinkNest O_L.1 153 yX4_level "BackByTwice" ∈ nw := Or.inl (mI (t_5 236 rfl) rfl)
theorem lk_L_154 : Cond.methodLink O_L.1 154 yX3_spread ∈ gw ∨ Cond.methodLinkNest O_L.1 154 yX3_spread "BackByTwice" ∈ nw := Or.inl (mI (t_3 153 rfl) rfl)
theorem lk_L_157 : Cond.methodLink O_L.1 157 yX4_spread ∈ gw ∨ Cond.methodLinkNest O_L.1 157 yX4_spread "BackByTwice" ∈ nw := Or.inl (mI (t_6 8 rfl) rfl)
theorem lk_L_158 : Cond.methodLink O_L.1 158 yX3_fairest ∈ gw ∨ Cond.methodLinkNest O_L.1 158 yX3_fairest "BackByTwice" ∈ nw := Or.inl (mI (t_3 161 rfl) rfl)
theorem lk_L_161 : Cond.methodLink O_L.1 161 yX4_fairest ∈ gw ∨ Cond.methodLinkNest O_L.1 161 yX4_fairest "BackByTwice" ∈ nw := Or.inl (mI (t_6 16 rfl) rfl)
theorem lk_L_162 : Cond.methodLink O_L.1 162 yX3_judge ∈ gw ∨ Cond.methodLinkNest O_L.1 162 yX3_judge "BackByTwice" ∈ nw := Or.inl (mI (t_3 165 rfl) rfl)
theorem lk_L_165 : Cond.methodLink O_L.1 165 yX4_judge ∈ gw ∨ Cond.methodLinkNest O_L.1 165 yX4_judge "BackByTwice" ∈ nw := Or.inl (mI (t_6 20 rfl) rfl)
theorem lk_L_166 : Cond.methodLink O_L.1 166 yX3_fits ∈ gw ∨ Cond.methodLinkNest O_L.1 166 yX3_fits "BackByTwice" ∈ nw := Or.inl (mI (t_3 177 rfl) rfl)
theorem lk_L_169 : Cond.methodLink O_L.1 169 yX4_fits ∈ gw ∨ Cond.methodLinkNest O_L.1 169 yX4_fits "BackByTwice" ∈ nw := Or.inl (mI (t_6 32 rfl) rfl)
theorem lk_L_170 : Cond.methodLink O_L.1 170 yX3_pushed ∈ gw ∨ Cond.methodLinkNest O_L.1 170 yX3_pushed "BackByTwice" ∈ nw := Or.inl (mI (t_3 181 rfl) rfl)
theorem lk_L_173 : Cond.methodLink O_L.1 173 yX4_pushed ∈ gw ∨ Cond.methodLinkNest O_L.1 173 yX4_pushed "BackByTwice" ∈ nw := Or.inl (mI (t_6 36 rfl) rfl)
theorem lk_L_174 : Cond.methodLink O_L.1 174 yX3_again ∈ gw ∨ Cond.methodLinkNest O_L.1 174 yX3_again "BackByTwice" ∈ nw := Or.inl (mI (t_3 189 rfl) rfl)
theorem lk_L_178 : Cond.methodLink O_L.1 178 yX4_again ∈ gw ∨ Cond.methodLinkNest O_L.1 178 yX4_again "BackByTwice" ∈ nw := Or.inl (mI (t_6 40 rfl) rfl)
theorem lk_L_179 : Cond.methodLink O_L.1 179 yX3_lies ∈ gw ∨ Cond.methodLinkNest O_L.1 179 yX3_lies "BackByTwice" ∈ nw := Or.inl (mI (t_3 203 rfl) rfl)
theorem lk_L_183 : Cond.methodLink O_L.1 183 yX4_lies ∈ gw ∨ Cond.methodLinkNest O_L.1 183 yX4_lies "BackByTwice" ∈ nw := Or.inl (mI (t_6 54 rfl) rfl)
theorem lk_L_184 : Cond.methodLink O_L.1 184 yX3_stay ∈ gw ∨ Cond.methodLinkNest O_L.1 184 yX3_stay "BackByTwice" ∈ nw := Or.inl (mI (t_3 210 rfl) rfl)
theorem lk_L_188 : Cond.methodLink O_L.1 188 yX4_stay ∈ gw ∨ Cond.methodLinkNest O_L.1 188 yX4_stay "BackByTwice" ∈ nw := Or.inl (mI (t_6 58 rfl) rfl)
theorem lk_L_189 : Cond.methodLink O_L.1 189 yX3_rounds ∈ gw ∨ Cond.methodLinkNest O_L.1 189 yX3_rounds "BackByTwice" ∈ nw := Or.inl (mI (t_3 214 rfl) rfl)
theorem lk_L_192 : Cond.methodLink O_L.1 192 yX4_rounds ∈ gw ∨ Cond.methodLinkNest O_L.1 192 yX4_rounds "BackByTwice" ∈ nw := Or.inl (mI (t_6 62 rfl) rfl)
theorem lk_L_193 : Cond.methodLink O_L.1 193 yX3_tail ∈ gw ∨ Cond.methodLinkNest O_L.1 193 yX3_tail "BackByTwice" ∈ nw := Or.inl (mI (t_3 221 rfl) rfl)
theorem lk_L_196 : Cond.methodLink O_L.1 196 yX4_tail ∈ gw ∨ Cond.methodLinkNest O_L.1 196 yX4_tail "BackByTwice" ∈ nw := Or.inl (mI (t_6 66 rfl) rfl)
theorem lk_L_197 : Cond.methodLink O_L.1 197 yX3_brings ∈ gw ∨ Cond.methodLinkNest O_L.1 197 yX3_brings "BackByTwice" ∈ nw := Or.inl (mI (t_3 225 rfl) rfl)
theorem lk_L_200 : Cond.methodLink O_L.1 200 yX4_brings ∈ gw ∨ Cond.methodLinkNest O_L.1 200 yX4_brings "BackByTwice" ∈ nw := Or.inl (mI (t_6 70 rfl) rfl)
theorem lk_L_201 : Cond.methodLink O_L.1 201 yX3_after ∈ gw ∨ Cond.methodLinkNest O_L.1 201 yX3_after "BackByTwice" ∈ nw := Or.inl (mI (t_3 232 rfl) rfl)
theorem lk_L_204 : Cond.methodLink O_L.1 204 yX4_after ∈ gw ∨ Cond.methodLinkNest O_L.1 204 yX4_after "BackByTwice" ∈ nw := Or.inl (mI (t_6 78 rfl) rfl)
theorem lk_L_205 : Cond.methodLink O_L.1 205 yX3_fewest ∈ gw ∨ Cond.methodLinkNest O_L.1 205 yX3_fewest "BackByTwice" ∈ nw := Or.inl (mI (t_3 237 rfl) rfl)
theorem lk_L_208 : Cond.methodLink O_L.1 208 yX4_fewest ∈ gw ∨ Cond.methodLinkNest O_L.1 208 yX4_fewest "BackByTwice" ∈ nw := Or.inl (mI (t_6 82 rfl) rfl)
theorem lk_L_209 : Cond.methodLink O_L.1 209 yX3_unserved ∈ gw ∨ Cond.methodLinkNest O_L.1 209 yX3_unserved "BackByTwice" ∈ nw := Or.inl (mI (t_4 5 rfl) rfl)
theorem lk_L_212 : Cond.methodLink O_L.1 212 yX4_unserved ∈ gw ∨ Cond.methodLinkNest O_L.1 212 yX4_unserved "BackByTwice" ∈ nw := Or.inl (mI (t_6 86 rfl) rfl)
theorem lk_L_213 : Cond.methodLink O_L.1 213 yX3_longest ∈ gw ∨ Cond.methodLinkNest O_L.1 213 yX3_longest "BackByTwice" ∈ nw := Or.inl (mI (t_4 9 rfl) rfl)
theorem lk_L_216 : Cond.methodLink O_L.1 216 yX4_longest ∈ gw ∨ Cond.methodLinkNest O_L.1 216 yX4_longest "BackByTwice" ∈ nw := Or.inl (mI (t_6 90 rfl) rfl)
theorem lk_L_217 : Cond.methodLink O_L.1 217 yX3_ranked ∈ gw ∨ Cond.methodLinkNest O_L.1 217 yX3_ranked "BackByTwice" ∈ nw := Or.inl (mI (t_4 13 rfl) rfl)
theorem lk_L_220 : Cond.methodLink O_L.1 220 yX4_ranked ∈ gw ∨ Cond.methodLinkNest O_L.1 220 yX4_ranked "BackByTwice" ∈ nw := Or.inl (mI (t_6 98 rfl) rfl)
theorem lk_L_221 : Cond.methodLink O_L.1 221 yX3_serve ∈ gw ∨ Cond.methodLinkNest O_L.1 221 yX3_serve "BackByTwice" ∈ nw := Or.inl (mI (t_4 21 rfl) rfl)
theorem lk_L_224 : Cond.methodLink O_L.1 224 yX4_serve ∈ gw ∨ Cond.methodLinkNest O_L.1 224 yX4_serve "BackByTwice" ∈ nw := Or.inl (mI (t_6 105 rfl) rfl)
theorem lk_L_225 : Cond.methodLink O_L.1 225 yX3_lets ∈ gw ∨ Cond.methodLinkNest O_L.1 225 yX3_lets "BackByTwice" ∈ nw := Or.inl (mI (t_4 25 rfl) rfl)
theorem lk_L_228 : Cond.methodLink O_L.1 228 yX4_lets ∈ gw ∨ Cond.methodLinkNest O_L.1 228 yX4_lets "BackByTwice" ∈ nw := Or.inl (mI (t_6 109 rfl) rfl)
theorem lk_L_229 : Cond.methodLink O_L.1 229 yX3_moves ∈ gw ∨ Cond.methodLinkNest O_L.1 229 yX3_moves "BackByTwice" ∈ nw := Or.inl (mI (t_4 29 rfl) rfl)
theorem lk_L_232 : Cond.methodLink O_L.1 232 yX4_moves ∈ gw ∨ Cond.methodLinkNest O_L.1 232 yX4_moves "BackByTwice" ∈ nw := Or.inl (mI (t_6 113 rfl) rfl)
theorem lk_L_233 : Cond.methodLink O_L.1 233 yX3_leaves ∈ gw ∨ Cond.methodLinkNest O_L.1 233 yX3_leaves "BackByTwice" ∈ nw := Or.inl (mI (t_4 33 rfl) rfl)
theorem lk_L_236 : Cond.methodLink O_L.1 236 yX4_leaves ∈ gw ∨ Cond.methodLinkNest O_L.1 236 yX4_leaves "BackByTwice" ∈ nw := Or.inl (mI (t_6 117 rfl) rfl)
theorem lk_L_237 : Cond.methodLink O_L.1 237 yX3_day ∈ gw ∨ Cond.methodLinkNest O_L.1 237 yX3_day "BackByTwice" ∈ nw := Or.inl (mI (t_4 38 rfl) rfl)
theorem lk_L_240 : Cond.methodLink O_L.1 240 yX4_day ∈ gw ∨ Cond.methodLinkNest O_L.1 240 yX4_day "BackByTwice" ∈ nw := Or.inl (mI (t_6 121 rfl) rfl)
theorem lk_L_241 : Cond.methodLink O_L.1 241 yX3_anew ∈ gw ∨ Cond.methodLinkNest O_L.1 241 yX3_anew "BackByTwice" ∈ nw := Or.inl (mI (t_4 47 rfl) rfl)
theorem lk_L_244 : Cond.methodLink O_L.1 244 yX4_anew ∈ gw ∨ Cond.methodLinkNest O_L.1 244 yX4_anew "BackByTwice" ∈ nw := Or.inl (mI (t_6 130 rfl) rfl)
theorem lk_L_245 : Cond.methodLink O_L.1 245 yX3_seed ∈ gw ∨ Cond.methodLinkNest O_L.1 245 yX3_seed "BackByTwice" ∈ nw := Or.inl (mI (t_4 51 rfl) rfl)
theorem lk_L_248 : Cond.methodLink O_L.1 248 yX4_seed ∈ gw ∨ Cond.methodLinkNest O_L.1 248 yX4_seed "BackByTwice" ∈ nw := Or.inl (mI (t_6 134 rfl) rfl)
theorem lk_L_249 : Cond.methodLink O_L.1 249 yX3_image ∈ gw ∨ Cond.methodLinkNest O_L.1 249 yX3_image "BackByTwice" ∈ nw := Or.inl (mI (t_4 55 rfl) rfl)
theorem lk_L_252 : Cond.methodLink O_L.1 252 yX4_image ∈ gw ∨ Cond.methodLinkNest O_L.1 252 yX4_image "BackByTwice" ∈ nw := Or.inl (mI (t_6 138 rfl) rfl)
theorem lk_L_253 : Cond.methodLink O_L.1 253 yX3_back ∈ gw ∨ Cond.methodLinkNest O_L.1 253 yX3_back "BackByTwice" ∈ nw := Or.inl (mI (t_4 59 rfl) rfl)
theorem lk_L_256 : Cond.methodLink O_L.1 256 yX4_back ∈ gw ∨ Cond.methodLinkNest O_L.1 256 yX4_back "BackByTwice" ∈ nw := Or.inl (mI (t_6 142 rfl) rfl)
theorem lk_L_257 : Cond.methodLink O_L.1 257 yX3_status ∈ gw ∨ Cond.methodLinkNest O_L.1 257 yX3_status "BackByTwice" ∈ nw := Or.inl (mI (t_4 63 rfl) rfl)
theorem lk_L_260 : Cond.methodLink O_L.1 260 yX4_status ∈ gw ∨ Cond.methodLinkNest O_L.1 260 yX4_status "BackByTwice" ∈ nw := Or.inl (mI (t_6 146 rfl) rfl)
theorem lk_X4_72 : Cond.methodLink O_X4.1 72 yX4_in ∈ gw ∨ Cond.methodLinkNest O_X4.1 72 yX4_in "BackByTwice" ∈ nw := Or.inl (mI (t_4 183 rfl) rfl)
theorem lk_X4_85 : Cond.methodLink O_X4.1 85 yX4_refuse ∈ gw ∨ Cond.methodLinkNest O_X4.1 85 yX4_refuse "BackByTwice" ∈ nw := Or.inl (mI (t_4 188 rfl) rfl)
theorem lk_X4_89 : Cond.methodLink O_X4.1 89 yX4_noRow ∈ gw ∨ Cond.methodLinkNest O_X4.1 89 yX4_noRow "BackByTwice" ∈ nw := Or.inl (mI (t_4 196 rfl) rfl)
theorem lk_X4_92 : Cond.methodLink O_X4.1 92 yX4_fit ∈ gw ∨ Cond.methodLinkNest O_X4.1 92 yX4_fit "BackByTwice" ∈ nw := Or.inl (mI (t_4 200 rfl) rfl)
theorem lk_X4_96 : Cond.methodLink O_X4.1 96 yX4_isLaw ∈ gw ∨ Cond.methodLinkNest O_X4.1 96 yX4_isLaw "BackByTwice" ∈ nw := Or.inl (mI (t_4 219 rfl) rfl)
theorem lk_X4_102 : Cond.methodLink O_X4.1 102 yX4_isUnder ∈ gw ∨ Cond.methodLinkNest O_X4.1 102 yX4_isUnder "BackByTwice" ∈ nw := Or.inl (mI (t_4 228 rfl) rfl)
theorem lk_X4_106 : Cond.methodLink O_X4.1 106 yX4_lastBy ∈ gw ∨ Cond.methodLinkNest O_X4.1 106 yX4_lastBy "BackByTwice" ∈ nw := Or.inl (mI (t_4 231 rfl) rfl)
theorem lk_X4_110 : Cond.methodLink O_X4.1 110 yX4_backBy ∈ gw ∨ Cond.methodLinkNest O_X4.1 110 yX4_backBy "BackByTwice" ∈ nw := Or.inl (mI (t_4 235 rfl) rfl)
theorem lk_X4_114 : Cond.methodLink O_X4.1 114 yX4_addPerson ∈ gw ∨ Cond.methodLinkNest O_X4.1 114 yX4_addPerson "BackByTwice" ∈ nw := Or.inl (mI (t_5 3 rfl) rfl)
theorem lk_X4_119 : Cond.methodLink O_X4.1 119 yX4_addLaw ∈ gw ∨ Cond.methodLinkNest O_X4.1 119 yX4_addLaw "BackByTwice" ∈ nw := Or.inl (mI (t_5 12 rfl) rfl)
theorem lk_X4_130 : Cond.methodLink O_X4.1 130 yX4_isPerson ∈ gw ∨ Cond.methodLinkNest O_X4.1 130 yX4_isPerson "BackByTwice" ∈ nw := Or.inl (mI (t_5 26 rfl) rfl)
theorem lk_X4_151 : Cond.methodLink O_X4.1 151 yX4_isLetter ∈ gw ∨ Cond.methodLinkNest O_X4.1 151 yX4_isLetter "BackByTwice" ∈ nw := Or.inl (mI (t_5 64 rfl) rfl)
theorem lk_X4_154 : Cond.methodLink O_X4.1 154 yX4_isDigit ∈ gw ∨ Cond.methodLinkNest O_X4.1 154 yX4_isDigit "BackByTwice" ∈ nw := Or.inl (mI (t_5 67 rfl) rfl)
theorem lk_X4_160 : Cond.methodLink O_X4.1 160 yJ0_length_8abf5 ∈ gw ∨ Cond.methodLinkNest O_X4.1 160 yJ0_length_8abf5 "BackByTwice" ∈ nw := Or.inl (mI (t_5 79 rfl) rfl)
theorem lk_X4_166 : Cond.methodLink O_X4.1 166 yJ0_charAt_5068e ∈ gw ∨ Cond.methodLinkNest O_X4.1 166 yJ0_charAt_5068e "BackByTwice" ∈ nw := Or.inl (mI (t_5 80 rfl) rfl)
theorem lk_X4_170 : Cond.methodLink O_X4.1 170 yX4_wrong ∈ gw ∨ Cond.methodLinkNest O_X4.1 170 yX4_wrong "BackByTwice" ∈ nw := Or.inl (mI (t_5 93 rfl) rfl)
theorem lk_X4_174 : Cond.methodLink O_X4.1 174 yX4_look ∈ gw ∨ Cond.methodLinkNest O_X4.1 174 yX4_look "BackByTwice" ∈ nw := Or.inl (mI (t_5 60 rfl) rfl)
theorem lk_X4_177 : Cond.methodLink O_X4.1 177 yX4_number ∈ gw ∨ Cond.methodLinkNest O_X4.1 177 yX4_number "BackByTwice" ∈ nw := Or.inl (mI (t_5 89 rfl) rfl)
theorem lk_X4_181 : Cond.methodLink O_X4.1 181 yX4_tells ∈ gw ∨ Cond.methodLinkNest O_X4.1 181 yX4_tells "BackByTwice" ∈ nw := Or.inl (mI (t_5 85 rfl) rfl)
theorem lk_X4_184 : Cond.methodLink O_X4.1 184 yX4_goesOn ∈ gw ∨ Cond.methodLinkNest O_X4.1 184 yX4_goesOn "BackByTwice" ∈ nw := Or.inl (mI (t_5 104 rfl) rfl)
theorem lk_X4_187 : Cond.methodLink O_X4.1 187 yX4_goes ∈ gw ∨ Cond.methodLinkNest O_X4.1 187 yX4_goes "BackByTwice" ∈ nw := Or.inl (mI (t_5 108 rfl) rfl)
theorem lk_X4_192 : Cond.methodLink O_X4.1 192 yX4_isWord ∈ gw ∨ Cond.methodLinkNest O_X4.1 192 yX4_isWord "BackByTwice" ∈ nw := Or.inl (mI (t_5 75 rfl) rfl)
theorem lk_X4_196 : Cond.methodLink O_X4.1 196 yX4_peopleTold ∈ gw ∨ Cond.methodLinkNest O_X4.1 196 yX4_peopleTold "BackByTwice" ∈ nw := Or.inl (mI (t_5 81 rfl) rfl)
theorem lk_X4_205 : Cond.methodLink O_X4.1 205 yX4_serveTold ∈ gw ∨ Cond.methodLinkNest O_X4.1 205 yX4_serveTold "BackByTwice" ∈ nw := Or.inl (mI (t_5 100 rfl) rfl)
theorem lk_X4_210 : Cond.methodLink O_X4.1 210 yX4_lettingAt ∈ gw ∨ Cond.methodLinkNest O_X4.1 210 yX4_lettingAt "BackByTwice" ∈ nw := Or.inl (mI (t_5 117 rfl) rfl)
theorem lk_X4_215 : Cond.methodLink O_X4.1 215 yX4_lastLeaves ∈ gw ∨ Cond.methodLinkNest O_X4.1 215 yX4_lastLeaves "BackByTwice" ∈ nw := Or.inl (mI (t_5 122 rfl) rfl)
theorem lk_X4_222 : Cond.methodLink O_X4.1 222 yX4_statement ∈ gw ∨ Cond.methodLinkNest O_X4.1 222 yX4_statement "BackByTwice" ∈ nw := Or.inl (mI (t_5 70 rfl) rfl)
theorem lk_X4_229 : Cond.methodLink O_X4.1 229 yX4_init ∈ gw ∨ Cond.methodLinkNest O_X4.1 229 yX4_init "BackByTwice" ∈ nw := Or.inl (mI (t_5 48 rfl) rfl)
theorem lk_X4_230 : Cond.methodLink O_X4.1 230 yX4_takeFrom ∈ gw ∨ Cond.methodLinkNest O_X4.1 230 yX4_takeFrom "BackByTwice" ∈ nw := Or.inl (mI (t_5 49 rfl) rfl)
theorem lk_X4_234 : Cond.methodLink O_X4.1 234 yX4_fresh ∈ gw ∨ Cond.methodLinkNest O_X4.1 234 yX4_fresh "BackByTwice" ∈ nw := Or.inl (mI (t_5 43 rfl) rfl)
theorem lk_X4_238 : Cond.methodLink O_X4.1 238 yX4_readAll ∈ gw ∨ Cond.methodLinkNest O_X4.1 238 yX4_readAll "BackByTwice" ∈ nw := Or.inl (mI (t_5 56 rfl) rfl)
theorem lk_X4_243 : Cond.methodLink O_X4.1 243 yX4_placeOf ∈ gw ∨ Cond.methodLinkNest O_X4.1 243 yX4_placeOf "BackByTwice" ∈ nw := Or.inl (mI (t_5 130 rfl) rfl)
theorem lk_X4_249 : Cond.methodLink O_X4.1 249 yX4_turn ∈ gw ∨ Cond.methodLinkNest O_X4.1 249 yX4_turn "BackByTwice" ∈ nw := Or.inl (mI (t_5 112 rfl) rfl)
theorem lk_X4_252 : Cond.methodLink O_X4.1 252 yX4_movesTo ∈ gw ∨ Cond.methodLinkNest O_X4.1 252 yX4_movesTo "BackByTwice" ∈ nw := Or.inl (mI (t_5 126 rfl) rfl)
theorem lk_X4_255 : Cond.methodLink O_X4.1 255 yX4_mayTurns ∈ gw ∨ Cond.methodLinkNest O_X4.1 255 yX4_mayTurns "BackByTwice" ∈ nw := Or.inl (mI (t_5 152 rfl) rfl)
theorem lk_X4_258 : Cond.methodLink O_X4.1 258 yX4_behindOf ∈ gw ∨ Cond.methodLinkNest O_X4.1 258 yX4_behindOf "BackByTwice" ∈ nw := Or.inl (mI (t_5 155 rfl) rfl)
theorem lk_X4_262 : Cond.methodLink O_X4.1 262 yX4_personOf ∈ gw ∨ Cond.methodLinkNest O_X4.1 262 yX4_personOf "BackByTwice" ∈ nw := Or.inl (mI (t_5 163 rfl) rfl)
theorem lk_X4_265 : Cond.methodLink O_X4.1 265 yX4_standsAs ∈ gw ∨ Cond.methodLinkNest O_X4.1 265 yX4_standsAs "BackByTwice" ∈ nw := Or.inl (mI (t_5 172 rfl) rfl)
theorem lk_X4_269 : Cond.methodLink O_X4.1 269 yX4_whenIn ∈ gw ∨ Cond.methodLinkNest O_X4.1 269 yX4_whenIn "BackByTwice" ∈ nw := Or.inl (mI (t_5 180 rfl) rfl)
theorem lk_X4_273 : Cond.methodLink O_X4.1 273 yX4_servedIn ∈ gw ∨ Cond.methodLinkNest O_X4.1 273 yX4_servedIn "BackByTwice" ∈ nw := Or.inl (mI (t_5 188 rfl) rfl)
theorem lk_X4_276 : Cond.methodLink O_X4.1 276 yX4_beginsAnew ∈ gw ∨ Cond.methodLinkNest O_X4.1 276 yX4_beginsAnew "BackByTwice" ∈ nw := Or.inl (mI (t_5 204 rfl) rfl)
theorem lk_X4_279 : Cond.methodLink O_X4.1 279 yX4_mostCounts ∈ gw ∨ Cond.methodLinkNest O_X4.1 279 yX4_mostCounts "BackByTwice" ∈ nw := Or.inl (mI (t_5 208 rfl) rfl)
theorem lk_X4_282 : Cond.methodLink O_X4.1 282 yX4_anewBy ∈ gw ∨ Cond.methodLinkNest O_X4.1 282 yX4_anewBy "BackByTwice" ∈ nw := Or.inl (mI (t_6 0 rfl) rfl)
theorem lk_X4_285 : Cond.methodLink O_X4.1 285 yX4_spreadNow ∈ gw ∨ Cond.methodLinkNest O_X4.1 285 yX4_spreadNow "BackByTwice" ∈ nw := Or.inl (mI (t_6 4 rfl) rfl)
theorem lk_X4_288 : Cond.methodLink O_X4.1 288 yX4_spreadBy ∈ gw ∨ Cond.methodLinkNest O_X4.1 288 yX4_spreadBy "BackByTwice" ∈ nw := Or.inl (mI (t_6 12 rfl) rfl)
theorem lk_X4_291 : Cond.methodLink O_X4.1 291 yX4_noSlate ∈ gw ∨ Cond.methodLinkNest O_X4.1 291 yX4_noSlate "BackByTwice" ∈ nw := Or.inl (mI (t_6 24 rfl) rfl)
theorem lk_X4_294 : Cond.methodLink O_X4.1 294 yX4_wrongIn ∈ gw ∨ Cond.methodLinkNest O_X4.1 294 yX4_wrongIn "BackByTwice" ∈ nw := Or.inl (mI (t_6 28 rfl) rfl)
theorem lk_X4_298 : Cond.methodLink O_X4.1 298 yX4_comesTo ∈ gw ∨ Cond.methodLinkNest O_X4.1 298 yX4_comesTo "BackByTwice" ∈ nw := Or.inl (mI (t_6 51 rfl) rfl)
theorem lk_X4_302 : Cond.methodLink O_X4.1 302 yX4_liesAt ∈ gw ∨ Cond.methodLinkNest O_X4.1 302 yX4_liesAt "BackByTwice" ∈ nw := Or.inl (mI (t_6 48 rfl) rfl)
theorem lk_X4_308 : Cond.methodLink O_X4.1 308 yX4_stayOf ∈ gw ∨ Cond.methodLinkNest O_X4.1 308 yX4_stayOf "BackByTwice" ∈ nw := Or.inl (mI (t_6 45 rfl) rfl)
theorem lk_X4_311 : Cond.methodLink O_X4.1 311 yX4_findAway ∈ gw ∨ Cond.methodLinkNest O_X4.1 311 yX4_findAway "BackByTwice" ∈ nw := Or.inl (mI (t_6 74 rfl) rfl)
theorem lk_X4_314 : Cond.methodLink O_X4.1 314 yX4_longestOf ∈ gw ∨ Cond.methodLinkNest O_X4.1 314 yX4_longestOf "BackByTwice" ∈ nw := Or.inl (mI (t_6 94 rfl) rfl)
theorem lk_X4_317 : Cond.methodLink O_X4.1 317 yX4_has ∈ gw ∨ Cond.methodLinkNest O_X4.1 317 yX4_has "BackByTwice" ∈ nw := Or.inl (mI (t_6 102 rfl) rfl)
theorem lk_X4_321 : Cond.methodLink O_X4.1 321 yX4_below ∈ gw ∨ Cond.methodLinkNest O_X4.1 321 yX4_below "BackByTwice" ∈ nw := Or.inl (mI (t_6 125 rfl) rfl)
theorem lk_X4_324 : Cond.methodLink O_X4.1 324 yX4_copied ∈ gw ∨ Cond.methodLinkNest O_X4.1 324 yX4_copied "BackByTwice" ∈ nw := Or.inl (mI (t_5 53 rfl) rfl)
theorem cp_X3_89 : cpW O_X3.1 89 := ⟨mI (t_1 203 rfl) rfl, mI (t_1 205 rfl) rfl, mI (t_1 204 rfl) rfl, mI (t_1 7 rfl) rfl⟩
theorem cp_X1_43 : cpW O_X1.1 43 := ⟨mI (t_2 91 rfl) rfl, mI (t_1 205 rfl) rfl, mI (t_1 204 rfl) rfl, mI (t_1 7 rfl) rfl⟩
