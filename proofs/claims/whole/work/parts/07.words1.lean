set_option maxRecDepth 100000 in
theorem wl_t1 {w : Cond} (i : Nat) (h : tables_1_1[i]? = some w) (hg : goodWord w = true) : w ∈ WL := wl_in (List.mem_append_right _ (by have h9 := List.mem_of_getElem? h; exact List.mem_append_left _ h9)) hg
set_option maxRecDepth 100000 in
theorem wl_t2 {w : Cond} (i : Nat) (h : tables_1_2[i]? = some w) (hg : goodWord w = true) : w ∈ WL := wl_in (List.mem_append_right _ (by have h9 := List.mem_of_getElem? h; exact List.mem_append_right _ (List.mem_append_left _ h9))) hg
set_option maxRecDepth 100000 in
theorem wl_t3 {w : Cond} (i : Nat) (h : tables_1_3[i]? = some w) (hg : goodWord w = true) : w ∈ WL := wl_in (List.mem_append_right _ (by have h9 := List.mem_of_getElem? h; exact List.mem_append_right _ (List.mem_append_right _ (List.mem_append_left _ h9)))) hg
set_option maxRecDepth 100000 in
theorem wl_t4 {w : Cond} (i : Nat) (h : tables_1_4[i]? = some w) (hg : goodWord w = true) : w ∈ WL := wl_in (List.mem_append_right _ (by have h9 := List.mem_of_getElem? h; exact List.mem_append_right _ (List.mem_append_right _ (List.mem_append_right _ (List.mem_append_left _ h9))))) hg
set_option maxRecDepth 100000 in
theorem wl_t5 {w : Cond} (i : Nat) (h : tables_1_5[i]? = some w) (hg : goodWord w = true) : w ∈ WL := wl_in (List.mem_append_right _ (by have h9 := List.mem_of_getElem? h; exact List.mem_append_right _ (List.mem_append_right _ (List.mem_append_right _ (List.mem_append_right _ (List.mem_append_left _ h9)))))) hg
set_option maxRecDepth 100000 in
theorem wl_t6 {w : Cond} (i : Nat) (h : tables_1_6[i]? = some w) (hg : goodWord w = true) : w ∈ WL := wl_in (List.mem_append_right _ (by have h9 := List.mem_of_getElem? h; exact List.mem_append_right _ (List.mem_append_right _ (List.mem_append_right _ (List.mem_append_right _ (List.mem_append_right _ (List.mem_append_left _ h9))))))) hg
set_option maxRecDepth 100000 in
theorem wl_t7 {w : Cond} (i : Nat) (h : tables_1_7[i]? = some w) (hg : goodWord w = true) : w ∈ WL := wl_in (List.mem_append_right _ (by have h9 := List.mem_of_getElem? h; exact List.mem_append_right _ (List.mem_append_right _ (List.mem_append_right _ (List.mem_append_right _ (List.mem_append_right _ (List.mem_append_right _ (List.mem_append_left _ h9)))))))) hg
set_option maxRecDepth 100000 in
theorem wl_t8 {w : Cond} (i : Nat) (h : tables_1_8[i]? = some w) (hg : goodWord w = true) : w ∈ WL := wl_in (List.mem_append_right _ (by have h9 := List.mem_of_getElem? h; exact List.mem_append_right _ (List.mem_append_right _ (List.mem_append_right _ (List.mem_append_right _ (List.mem_append_right _ (List.mem_append_right _ (List.mem_append_right _ (h9))))))))) hg
set_option maxRecDepth 100000 in
theorem kc0 : ClsOK 0 := ⟨(RX0, TX0, 3), rfl, wl_all [253, 255, 257] (by decide +kernel) (by decide +kernel), fun k hk => tyX0_ok k hk, nmX0, wl_t2 4 rfl rfl, wl_t1 13 rfl rfl⟩
set_option maxRecDepth 100000 in
theorem kc1 : ClsOK 1 := ⟨(RX1, TX1, 2), rfl, wl_all [218, 220] (by decide +kernel) (by decide +kernel), fun k hk => tyX1_ok k hk, nmX1, wl_t1 211 rfl rfl, wl_t1 11 rfl rfl⟩
set_option maxRecDepth 100000 in
theorem kc2 : ClsOK 2 := ⟨(RX2, TX2, 4), rfl, wl_all [277, 279, 281, 283] (by decide +kernel) (by decide +kernel), fun k hk => tyX2_ok k hk, nmX2, wl_t2 28 rfl rfl, wl_t1 15 rfl rfl⟩
set_option maxRecDepth 100000 in
theorem kc3 : ClsOK 3 := ⟨(RX3, TX3, 3), rfl, wl_all [236, 238, 240] (by decide +kernel) (by decide +kernel), fun k hk => tyX3_ok k hk, nmX3, wl_t1 224 rfl rfl, wl_t1 12 rfl rfl⟩
set_option maxRecDepth 100000 in
theorem kc4 : ClsOK 4 := ⟨(RX4, TX4, 6), rfl, wl_all [136, 138, 140, 142, 144, 146] (by decide +kernel) (by decide +kernel), fun k hk => tyX4_ok k hk, nmX4, wl_t1 47 rfl rfl, wl_t1 3 rfl rfl⟩
set_option maxRecDepth 100000 in
theorem kc5 : ClsOK 5 := ⟨(RX5, TX5, 7), rfl, wl_all [175, 177, 179, 181, 183, 185, 187] (by decide +kernel) (by decide +kernel), fun k hk => tyX5_ok k hk, nmX5, wl_t1 150 rfl rfl, wl_t1 9 rfl rfl⟩
set_option maxRecDepth 100000 in
theorem kc6 : ClsOK 6 := ⟨(RX6, TX6, 2), rfl, wl_all [40, 42] (by decide +kernel) (by decide +kernel), fun k hk => tyX6_ok k hk, nmX6, wl_t1 30 rfl rfl, wl_t1 2 rfl rfl⟩
set_option maxRecDepth 100000 in
theorem kc7 : ClsOK 7 := ⟨(RX7, TX7, 17), rfl, wl_all [361, 363, 365, 367, 369, 371, 373, 375, 377, 379, 381, 383, 385, 387, 389, 391, 393] (by decide +kernel) (by decide +kernel), fun k hk => tyX7_ok k hk, nmX7, wl_t2 22 rfl rfl, wl_t1 14 rfl rfl⟩
set_option maxRecDepth 100000 in
theorem kc8 : ClsOK 8 := ⟨(RX8, TX8, 5), rfl, wl_all [115, 117, 119, 121, 123] (by decide +kernel) (by decide +kernel), fun k hk => tyX8_ok k hk, nmX8, wl_t1 53 rfl rfl, wl_t1 4 rfl rfl⟩
set_option maxRecDepth 100000 in
theorem kc9 : ClsOK 9 := ⟨(RX9, TX9, 3), rfl, wl_all [203, 205, 207] (by decide +kernel) (by decide +kernel), fun k hk => tyX9_ok k hk, nmX9, wl_t1 191 rfl rfl, wl_t1 10 rfl rfl⟩
set_option maxRecDepth 100000 in
theorem kc10 : ClsOK 10 := ⟨(RX10, TX10, 12), rfl, wl_all [408, 410, 412, 414, 416, 418, 420, 422, 424, 426, 428, 430] (by decide +kernel) (by decide +kernel), fun k hk => tyX10_ok k hk, nmX10, wl_t1 22 rfl rfl, wl_t1 1 rfl rfl⟩
set_option maxRecDepth 100000 in
theorem kc11 : ClsOK 11 := ⟨(RX11, TX11, 67), rfl, wl_all [1175, 1177, 1179, 1181, 1183, 1185, 1187, 1189, 1191, 1193, 1195, 1197, 1199, 1201, 1203, 1205, 1207, 1209, 1211, 1213, 1215, 1217, 1219, 1221, 1223, 1225, 1227, 1229, 1231, 1233, 1235, 1237, 1239, 1241, 1243, 1245, 1247, 1249, 1251, 1253, 1255, 1257, 1259, 1261, 1263, 1265, 1267, 1269, 1271, 1273, 1275, 1277, 1279, 1281, 1283, 1285, 1287, 1289, 1291, 1293, 1295, 1297, 1299, 1301, 1303, 1305, 1307] (by decide +kernel) (by decide +kernel), fun k hk => tyX11_ok k hk, nmX11, wl_t5 125 rfl rfl, wl_t1 16 rfl rfl⟩
abbrev mX0_init : MR := (yX0_init, cX0_init, 1, none)
abbrev mX0_add : MR := (yX0_add, cX0_add, 3, (some .int))
abbrev mX0_guestsLeft : MR := (yX0_guestsLeft, cX0_guestsLeft, 5, (some .int))
abbrev mX0_agrees : MR := (yX0_agrees, cX0_agrees, 5, (some .boolean))
abbrev mX0_hourToLook : MR := (yX0_hourToLook, cX0_hourToLook, 8, (some .int))
abbrev mX0_seenAt : MR := (yX0_seenAt, cX0_seenAt, 5, (some .int))
abbrev mX1_init : MR := (yX1_init, cX1_init, 1, none)
abbrev mX1_ofGuestNow : MR := (yX1_ofGuestNow, cX1_ofGuestNow, 6, (some .int))
abbrev mX1_ofGuest : MR := (yX1_ofGuest, cX1_ofGuest, 7, (some .int))
abbrev mX1_ofSunday : MR := (yX1_ofSunday, cX1_ofSunday, 5, (some .int))
abbrev mX1_setSunday : MR := (yX1_setSunday, cX1_setSunday, 4, none)
abbrev mX1_answerHeld : MR := (yX1_answerHeld, cX1_answerHeld, 3, (some .int))
abbrev mX1_passWeek : MR := (yX1_passWeek, cX1_passWeek, 3, none)
abbrev mX1_passDeadlyWeeks : MR := (yX1_passDeadlyWeeks, cX1_passDeadlyWeeks, 6, none)
abbrev mX1_payAndRest : MR := (yX1_payAndRest, cX1_payAndRest, 7, none)
abbrev mX1_wear : MR := (yX1_wear, cX1_wear, 4, none)
abbrev mX1_bury : MR := (yX1_bury, cX1_bury, 6, none)
abbrev mX1_lot : MR := (yX1_lot, cX1_lot, 2, (some .int))
abbrev mX1_stir : MR := (yX1_stir, cX1_stir, 3, (some .int))
abbrev mX2_init : MR := (yX2_init, cX2_init, 1, none)
abbrev mX2_begin : MR := (yX2_begin, cX2_begin, 1, none)
abbrev mX2_addShortLaw : MR := (yX2_addShortLaw, cX2_addShortLaw, 4, none)
abbrev mX2_startLaw : MR := (yX2_startLaw, cX2_startLaw, 2, none)
abbrev mX2_add : MR := (yX2_add, cX2_add, 3, (some .int))
abbrev mX2_aimBehind : MR := (yX2_aimBehind, cX2_aimBehind, 2, none)
abbrev mX2_answer : MR := (yX2_answer, cX2_answer, 9, (some .int))
abbrev mX2_reckon : MR := (yX2_reckon, cX2_reckon, 3, (some .int))
abbrev mX3_init : MR := (yX3_init, cX3_init, 1, none)
abbrev mX3_valueSets : MR := (yX3_valueSets, cX3_valueSets, 9, none)
abbrev mX3_livingFit : MR := (yX3_livingFit, cX3_livingFit, 5, (some .int))
abbrev mX3_bestSet : MR := (yX3_bestSet, cX3_bestSet, 6, (some .int))
abbrev mX3_letAll : MR := (yX3_letAll, cX3_letAll, 4, none)
abbrev mX3_mostWith : MR := (yX3_mostWith, cX3_mostWith, 6, (some .int))
abbrev mX3_setLetIn : MR := (yX3_setLetIn, cX3_setLetIn, 7, (some .int))
abbrev mX3_leastPart : MR := (yX3_leastPart, cX3_leastPart, 5, (some .int))
abbrev mX3_leastCost : MR := (yX3_leastCost, cX3_leastCost, 6, (some .int))
abbrev mX3_leastWith : MR := (yX3_leastWith, cX3_leastWith, 7, (some .int))
abbrev mX3_fewestColours : MR := (yX3_fewestColours, cX3_fewestColours, 6, (some .int))
abbrev mX3_largestTangle : MR := (yX3_largestTangle, cX3_largestTangle, 5, (some .int))
abbrev mX3_isTangle : MR := (yX3_isTangle, cX3_isTangle, 3, (some .boolean))
abbrev mX4_init : MR := (yX4_init, cX4_init, 1, none)
abbrev mX4_readTape : MR := (yX4_readTape, cX4_readTape, 5, none)
abbrev mX4_kind : MR := (yX4_kind, cX4_kind, 1, (some .int))
abbrev mX4_readTell : MR := (yX4_readTell, cX4_readTell, 4, (some .boolean))
abbrev mX4_readSunday : MR := (yX4_readSunday, cX4_readSunday, 2, (some .boolean))
abbrev mX4_readGuest : MR := (yX4_readGuest, cX4_readGuest, 2, (some .boolean))
abbrev mX4_readFoes : MR := (yX4_readFoes, cX4_readFoes, 4, (some .boolean))
abbrev mX4_readLaw : MR := (yX4_readLaw, cX4_readLaw, 5, (some .boolean))
abbrev mX4_readSum : MR := (yX4_readSum, cX4_readSum, 5, (some .boolean))
abbrev mX4_readProduct : MR := (yX4_readProduct, cX4_readProduct, 5, (some .boolean))
abbrev mX4_readUnit : MR := (yX4_readUnit, cX4_readUnit, 4, (some .boolean))
abbrev mX4_take : MR := (yX4_take, cX4_take, 3, (some .boolean))
abbrev mX4_takeInt : MR := (yX4_takeInt, cX4_takeInt, 4, (some .boolean))
abbrev mX4_takeNewName : MR := (yX4_takeNewName, cX4_takeNewName, 2, (some .boolean))
abbrev mX4_intBehind : MR := (yX4_intBehind, cX4_intBehind, 2, (some .int))
abbrev mX4_fail : MR := (yX4_fail, cX4_fail, 2, (some .boolean))
abbrev mX4_keepLate : MR := (yX4_keepLate, cX4_keepLate, 3, none)
abbrev mX5_init : MR := (yX5_init, cX5_init, 1, none)
abbrev mX5_begin : MR := (yX5_begin, cX5_begin, 2, none)
abbrev mX5_copyFrom : MR := (yX5_copyFrom, cX5_copyFrom, 3, none)
abbrev mX5_isDead : MR := (yX5_isDead, cX5_isDead, 2, (some .boolean))
abbrev mX5_isSold : MR := (yX5_isSold, cX5_isSold, 2, (some .boolean))
abbrev mX5_isIn : MR := (yX5_isIn, cX5_isIn, 3, (some .boolean))
abbrev mX5_whereIs : MR := (yX5_whereIs, cX5_whereIs, 3, (some .int))
abbrev mX5_takeOut : MR := (yX5_takeOut, cX5_takeOut, 3, none)
abbrev mX5_allIn : MR := (yX5_allIn, cX5_allIn, 3, (some .int))
abbrev mX5_alive : MR := (yX5_alive, cX5_alive, 2, (some .int))
abbrev mX6_init : MR := (yX6_init, cX6_init, 1, none)
abbrev mX6_hasRoomFor : MR := (yX6_hasRoomFor, cX6_hasRoomFor, 2, (some .boolean))
abbrev mX6_addFour : MR := (yX6_addFour, cX6_addFour, 3, none)
abbrev mX7_init : MR := (yX7_init, cX7_init, 1, none)
abbrev mX7_begin : MR := (yX7_begin, cX7_begin, 1, none)
abbrev mX7_addSunday : MR := (yX7_addSunday, cX7_addSunday, 5, none)
abbrev mX7_addGuest : MR := (yX7_addGuest, cX7_addGuest, 6, none)
abbrev mX7_addFoes : MR := (yX7_addFoes, cX7_addFoes, 3, none)
abbrev mX7_areFoes : MR := (yX7_areFoes, cX7_areFoes, 3, (some .boolean))
abbrev mX7_isNamed : MR := (yX7_isNamed, cX7_isNamed, 4, (some .boolean))
abbrev mX7_guestNamed : MR := (yX7_guestNamed, cX7_guestNamed, 4, (some .int))
abbrev mX7_findClashes : MR := (yX7_findClashes, cX7_findClashes, 3, none)
abbrev mX7_isPeaceful : MR := (yX7_isPeaceful, cX7_isPeaceful, 3, (some .boolean))
abbrev mX7_spanOf : MR := (yX7_spanOf, cX7_spanOf, 5, (some .long))
abbrev mX7_hoursOf : MR := (yX7_hoursOf, cX7_hoursOf, 2, (some .int))
abbrev mX7_isThere : MR := (yX7_isThere, cX7_isThere, 3, (some .boolean))
abbrev mX7_isLongEnough : MR := (yX7_isLongEnough, cX7_isLongEnough, 3, (some .boolean))
abbrev mX8_init : MR := (yX8_init, cX8_init, 4, none)
abbrev mX8_cut : MR := (yX8_cut, cX8_cut, 4, none)
abbrev mX8_behindBlanks : MR := (yX8_behindBlanks, cX8_behindBlanks, 4, (some .int))
abbrev mX8_cutOne : MR := (yX8_cutOne, cX8_cutOne, 5, (some .int))
abbrev mX8_cutLetters : MR := (yX8_cutLetters, cX8_cutLetters, 6, (some .int))
abbrev mX8_cutDigits : MR := (yX8_cutDigits, cX8_cutDigits, 5, (some .int))
abbrev mX8_kindOf : MR := (yX8_kindOf, cX8_kindOf, 4, (some .int))
abbrev mX8_add : MR := (yX8_add, cX8_add, 5, none)
abbrev mX8_isBlank : MR := (yX8_isBlank, cX8_isBlank, 1, (some .boolean))
abbrev mX8_isLetter : MR := (yX8_isLetter, cX8_isLetter, 1, (some .boolean))
abbrev mX8_isDigit : MR := (yX8_isDigit, cX8_isDigit, 1, (some .boolean))
abbrev mX9_init : MR := (yX9_init, cX9_init, 2, none)
abbrev mX9_keep : MR := (yX9_keep, cX9_keep, 2, none)
abbrev mX9_takeBack : MR := (yX9_takeBack, cX9_takeBack, 2, (some .boolean))
abbrev mX10_init : MR := (yX10_init, cX10_init, 2, none)
abbrev mX10_feed : MR := (yX10_feed, cX10_feed, 6, (some .int))
abbrev mX10_back : MR := (yX10_back, cX10_back, 2, (some .int))
abbrev mX10_read : MR := (yX10_read, cX10_read, 2, (some .int))
abbrev mX10_place : MR := (yX10_place, cX10_place, 1, (some .int))
abbrev mX10_sunday : MR := (yX10_sunday, cX10_sunday, 3, (some .int))
abbrev mX10_guest : MR := (yX10_guest, cX10_guest, 3, (some .int))
abbrev mX10_at : MR := (yX10_at, cX10_at, 4, (some .int))
abbrev mX10_letIn : MR := (yX10_letIn, cX10_letIn, 3, (some .boolean))
abbrev mX10_putOut : MR := (yX10_putOut, cX10_putOut, 2, (some .boolean))
abbrev mX10_sell : MR := (yX10_sell, cX10_sell, 3, (some .int))
abbrev mX10_air : MR := (yX10_air, cX10_air, 2, (some .boolean))
abbrev mX10_weeks : MR := (yX10_weeks, cX10_weeks, 2, (some .int))
abbrev mX10_undo : MR := (yX10_undo, cX10_undo, 1, (some .boolean))
abbrev mX10_alone : MR := (yX10_alone, cX10_alone, 4, (some .int))
abbrev mX10_letting : MR := (yX10_letting, cX10_letting, 3, (some .int))
abbrev mX10_fewest : MR := (yX10_fewest, cX10_fewest, 3, (some .int))
abbrev mX10_colours : MR := (yX10_colours, cX10_colours, 1, (some .int))
abbrev mX10_tangle : MR := (yX10_tangle, cX10_tangle, 3, (some .int))
abbrev mX10_fitting : MR := (yX10_fitting, cX10_fitting, 2, (some .int))
abbrev mX10_row : MR := (yX10_row, cX10_row, 4, (some .int))
abbrev mX10_change : MR := (yX10_change, cX10_change, 5, (some .int))
abbrev mX10_payer : MR := (yX10_payer, cX10_payer, 6, (some .int))
abbrev mX10_idle : MR := (yX10_idle, cX10_idle, 3, (some .int))
abbrev mX10_used : MR := (yX10_used, cX10_used, 4, (some .int))
abbrev mX10_first : MR := (yX10_first, cX10_first, 4, (some .int))
abbrev mX10_gap : MR := (yX10_gap, cX10_gap, 9, (some .int))
abbrev mX10_room : MR := (yX10_room, cX10_room, 4, (some .int))
abbrev mX10_price : MR := (yX10_price, cX10_price, 4, (some .int))
abbrev mX10_best : MR := (yX10_best, cX10_best, 8, (some .int))
abbrev mX10_weary : MR := (yX10_weary, cX10_weary, 3, (some .int))
abbrev mX10_earned : MR := (yX10_earned, cX10_earned, 3, (some .int))
abbrev mX10_rivals : MR := (yX10_rivals, cX10_rivals, 2, (some .int))
abbrev mX10_then : MR := (yX10_then, cX10_then, 4, (some .int))
abbrev mX10_wornIn : MR := (yX10_wornIn, cX10_wornIn, 3, (some .int))
abbrev mX10_year : MR := (yX10_year, cX10_year, 6, (some .int))
abbrev mX10_tell : MR := (yX10_tell, cX10_tell, 3, (some .int))
abbrev mX10_forget : MR := (yX10_forget, cX10_forget, 2, (some .int))
abbrev mX10_whose : MR := (yX10_whose, cX10_whose, 4, (some .int))
abbrev mX10_look : MR := (yX10_look, cX10_look, 3, (some .int))
abbrev mX10_hold : MR := (yX10_hold, cX10_hold, 2, (some .boolean))
abbrev mX10_restore : MR := (yX10_restore, cX10_restore, 2, (some .boolean))
abbrev mX10_count : MR := (yX10_count, cX10_count, 2, (some .int))
abbrev mX10_isSunday : MR := (yX10_isSunday, cX10_isSunday, 2, (some .boolean))
abbrev mX10_isGuest : MR := (yX10_isGuest, cX10_isGuest, 2, (some .boolean))
abbrev mX10_isWeeks : MR := (yX10_isWeeks, cX10_isWeeks, 2, (some .boolean))
abbrev mX10_isOneOfTwo : MR := (yX10_isOneOfTwo, cX10_isOneOfTwo, 2, (some .boolean))
abbrev mX10_couldGoIn : MR := (yX10_couldGoIn, cX10_couldGoIn, 4, (some .boolean))
abbrev mX10_sundaysFitting : MR := (yX10_sundaysFitting, cX10_sundaysFitting, 4, (some .int))
abbrev mX10_earlierOnes : MR := (yX10_earlierOnes, cX10_earlierOnes, 5, (some .int))
abbrev mX10_firstWeary : MR := (yX10_firstWeary, cX10_firstWeary, 2, (some .int))
abbrev mX10_moneyDue : MR := (yX10_moneyDue, cX10_moneyDue, 3, (some .int))
abbrev mX10_sumOf : MR := (yX10_sumOf, cX10_sumOf, 4, (some .int))
abbrev mX10_clashingPairs : MR := (yX10_clashingPairs, cX10_clashingPairs, 3, (some .int))
abbrev mX10_sundaysWithGuests : MR := (yX10_sundaysWithGuests, cX10_sundaysWithGuests, 3, (some .int))
abbrev mX10_guestsFittingAny : MR := (yX10_guestsFittingAny, cX10_guestsFittingAny, 3, (some .int))
abbrev mX10_hoursNotSold : MR := (yX10_hoursNotSold, cX10_hoursNotSold, 3, (some .int))
abbrev mX10_feesOfLiving : MR := (yX10_feesOfLiving, cX10_feesOfLiving, 3, (some .int))
abbrev mX11_init : MR := (yX11_init, cX11_init, 1, none)
abbrev mX11_feed : MR := (yX11_feed, cX11_feed, 6, (some .int))
abbrev mX11_put : MR := (yX11_put, cX11_put, 3, none)
abbrev mX11_back : MR := (yX11_back, cX11_back, 2, (some .int))
abbrev mX11_byteAt : MR := (yX11_byteAt, cX11_byteAt, 2, (some .int))
abbrev mX11_isDigit : MR := (yX11_isDigit, cX11_isDigit, 1, (some .boolean))
abbrev mX11_isLetter : MR := (yX11_isLetter, cX11_isLetter, 1, (some .boolean))
abbrev mX11_appends : MR := (yX11_appends, cX11_appends, 3, (some .long))
abbrev mX11_word : MR := (yX11_word, cX11_word, 7, (some .long))
abbrev mX11_token : MR := (yX11_token, cX11_token, 6, none)
abbrev mX11_cut : MR := (yX11_cut, cX11_cut, 8, none)
abbrev mX11_sign : MR := (yX11_sign, cX11_sign, 5, (some .int))
abbrev mX11_is : MR := (yX11_is, cX11_is, 2, (some .boolean))
abbrev mX11_fail : MR := (yX11_fail, cX11_fail, 2, none)
abbrev mX11_wrong : MR := (yX11_wrong, cX11_wrong, 4, none)
abbrev mX11_goesOn : MR := (yX11_goesOn, cX11_goesOn, 1, none)
abbrev mX11_must : MR := (yX11_must, cX11_must, 2, none)
abbrev mX11_plain : MR := (yX11_plain, cX11_plain, 3, none)
abbrev mX11_read : MR := (yX11_read, cX11_read, 2, (some .int))
abbrev mX11_place : MR := (yX11_place, cX11_place, 1, (some .int))
abbrev mX11_roomFor : MR := (yX11_roomFor, cX11_roomFor, 3, none)
abbrev mX11_toldInt : MR := (yX11_toldInt, cX11_toldInt, 4, (some .int))
abbrev mX11_tellOne : MR := (yX11_tellOne, cX11_tellOne, 3, none)
abbrev mX11_named : MR := (yX11_named, cX11_named, 3, (some .int))
abbrev mX11_endsName : MR := (yX11_endsName, cX11_endsName, 3, none)
abbrev mX11_known : MR := (yX11_known, cX11_known, 3, (some .int))
abbrev mX11_bounded : MR := (yX11_bounded, cX11_bounded, 4, (some .int))
abbrev mX11_tellFoes : MR := (yX11_tellFoes, cX11_tellFoes, 5, none)
abbrev mX11_tellLaw : MR := (yX11_tellLaw, cX11_tellLaw, 4, none)
abbrev mX11_term : MR := (yX11_term, cX11_term, 1, none)
abbrev mX11_emit : MR := (yX11_emit, cX11_emit, 3, none)
abbrev mX11_comesOut : MR := (yX11_comesOut, cX11_comesOut, 3, none)
abbrev mX11_expression : MR := (yX11_expression, cX11_expression, 3, none)
abbrev mX11_unit : MR := (yX11_unit, cX11_unit, 1, none)
abbrev mX11_termOf : MR := (yX11_termOf, cX11_termOf, 8, (some .int))
abbrev mX11_in : MR := (yX11_in, cX11_in, 3, (some .boolean))
abbrev mX11_within : MR := (yX11_within, cX11_within, 3, (some .int))
abbrev mX11_bits : MR := (yX11_bits, cX11_bits, 3, (some .int))
abbrev mX11_isSunday : MR := (yX11_isSunday, cX11_isSunday, 2, (some .boolean))
abbrev mX11_isGuest : MR := (yX11_isGuest, cX11_isGuest, 2, (some .boolean))
abbrev mX11_begins : MR := (yX11_begins, cX11_begins, 2, none)
abbrev mX11_keepsRow : MR := (yX11_keepsRow, cX11_keepsRow, 2, none)
abbrev mX11_copies : MR := (yX11_copies, cX11_copies, 2, none)
abbrev mX11_copiesStill : MR := (yX11_copiesStill, cX11_copiesStill, 1, none)
abbrev mX11_mixed : MR := (yX11_mixed, cX11_mixed, 3, (some .int))
abbrev mX11_lotOf : MR := (yX11_lotOf, cX11_lotOf, 2, (some .int))
abbrev mX11_fromAt : MR := (yX11_fromAt, cX11_fromAt, 2, (some .int))
abbrev mX11_tillAt : MR := (yX11_tillAt, cX11_tillAt, 2, (some .int))
abbrev mX11_doClash : MR := (yX11_doClash, cX11_doClash, 3, (some .boolean))
abbrev mX11_clashBits : MR := (yX11_clashBits, cX11_clashBits, 4, (some .int))
abbrev mX11_doesFit : MR := (yX11_doesFit, cX11_doesFit, 3, (some .boolean))
abbrev mX11_guestBits : MR := (yX11_guestBits, cX11_guestBits, 4, (some .int))
abbrev mX11_whoIsAt : MR := (yX11_whoIsAt, cX11_whoIsAt, 4, (some .int))
abbrev mX11_hoursTaken : MR := (yX11_hoursTaken, cX11_hoursTaken, 4, (some .int))
abbrev mX11_livingBits : MR := (yX11_livingBits, cX11_livingBits, 3, (some .int))
abbrev mX11_lawTells : MR := (yX11_lawTells, cX11_lawTells, 7, (some .int))
abbrev mX11_looksAt : MR := (yX11_looksAt, cX11_looksAt, 2, none)
abbrev mX11_looks : MR := (yX11_looks, cX11_looks, 4, none)
abbrev mX11_paysAt : MR := (yX11_paysAt, cX11_paysAt, 4, (some .int))
abbrev mX11_restsAt : MR := (yX11_restsAt, cX11_restsAt, 4, (some .int))
abbrev mX11_looksAll : MR := (yX11_looksAll, cX11_looksAll, 2, none)
abbrev mX11_wearsOf : MR := (yX11_wearsOf, cX11_wearsOf, 2, (some .int))
abbrev mX11_sellsOf : MR := (yX11_sellsOf, cX11_sellsOf, 2, (some .int))
abbrev mX11_othersOf : MR := (yX11_othersOf, cX11_othersOf, 2, (some .int))
abbrev mX11_paysOf : MR := (yX11_paysOf, cX11_paysOf, 2, (some .int))
abbrev mX11_restsOf : MR := (yX11_restsOf, cX11_restsOf, 2, (some .int))
abbrev mX11_dueAll : MR := (yX11_dueAll, cX11_dueAll, 3, (some .int))
abbrev mX11_restsIn : MR := (yX11_restsIn, cX11_restsIn, 2, none)
abbrev mX11_mayDie : MR := (yX11_mayDie, cX11_mayDie, 2, none)
abbrev mX11_weekGoes : MR := (yX11_weekGoes, cX11_weekGoes, 3, none)
abbrev mX11_goes : MR := (yX11_goes, cX11_goes, 3, none)
abbrev mX11_sunday : MR := (yX11_sunday, cX11_sunday, 3, (some .int))
abbrev mX11_guest : MR := (yX11_guest, cX11_guest, 3, (some .int))
abbrev mX11_at : MR := (yX11_at, cX11_at, 3, (some .int))
abbrev mX11_records : MR := (yX11_records, cX11_records, 2, none)
abbrev mX11_mayGoIn : MR := (yX11_mayGoIn, cX11_mayGoIn, 3, (some .boolean))
abbrev mX11_letIn : MR := (yX11_letIn, cX11_letIn, 3, (some .boolean))
abbrev mX11_putOut : MR := (yX11_putOut, cX11_putOut, 2, (some .boolean))
abbrev mX11_sell : MR := (yX11_sell, cX11_sell, 3, (some .int))
abbrev mX11_air : MR := (yX11_air, cX11_air, 2, (some .boolean))
abbrev mX11_isLong : MR := (yX11_isLong, cX11_isLong, 1, (some .boolean))
abbrev mX11_weeks : MR := (yX11_weeks, cX11_weeks, 2, (some .int))
abbrev mX11_undo : MR := (yX11_undo, cX11_undo, 2, (some .boolean))
abbrev mX11_lowestOf : MR := (yX11_lowestOf, cX11_lowestOf, 2, (some .int))
abbrev mX11_isPart : MR := (yX11_isPart, cX11_isPart, 2, (some .boolean))
abbrev mX11_valueAt : MR := (yX11_valueAt, cX11_valueAt, 5, (some .int))
abbrev mX11_fillsValues : MR := (yX11_fillsValues, cX11_fillsValues, 3, none)
abbrev mX11_alone : MR := (yX11_alone, cX11_alone, 5, (some .int))
abbrev mX11_bestWith : MR := (yX11_bestWith, cX11_bestWith, 4, (some .int))
abbrev mX11_canBe : MR := (yX11_canBe, cX11_canBe, 4, (some .boolean))
abbrev mX11_fillsBest : MR := (yX11_fillsBest, cX11_fillsBest, 5, none)
abbrev mX11_leastFor : MR := (yX11_leastFor, cX11_leastFor, 4, (some .int))
abbrev mX11_letting : MR := (yX11_letting, cX11_letting, 4, (some .int))
abbrev mX11_areAllIn : MR := (yX11_areAllIn, cX11_areAllIn, 5, (some .boolean))
abbrev mX11_fewest : MR := (yX11_fewest, cX11_fewest, 6, (some .int))
abbrev mX11_isCalm : MR := (yX11_isCalm, cX11_isCalm, 3, (some .boolean))
abbrev mX11_colours : MR := (yX11_colours, cX11_colours, 3, (some .int))
abbrev mX11_isTangle : MR := (yX11_isTangle, cX11_isTangle, 3, (some .boolean))
abbrev mX11_tangle : MR := (yX11_tangle, cX11_tangle, 5, (some .int))
abbrev mX11_rivals : MR := (yX11_rivals, cX11_rivals, 2, (some .int))
abbrev mX11_fitBits : MR := (yX11_fitBits, cX11_fitBits, 4, (some .int))
abbrev mX11_fitting : MR := (yX11_fitting, cX11_fitting, 2, (some .int))
abbrev mX11_row : MR := (yX11_row, cX11_row, 6, (some .int))
abbrev mX11_change : MR := (yX11_change, cX11_change, 3, (some .int))
abbrev mX11_room : MR := (yX11_room, cX11_room, 4, (some .int))
abbrev mX11_payer : MR := (yX11_payer, cX11_payer, 4, (some .int))
abbrev mX11_idle : MR := (yX11_idle, cX11_idle, 3, (some .int))
abbrev mX11_gap : MR := (yX11_gap, cX11_gap, 7, (some .int))
abbrev mX11_used : MR := (yX11_used, cX11_used, 4, (some .int))
abbrev mX11_isWeary : MR := (yX11_isWeary, cX11_isWeary, 2, (some .boolean))
abbrev mX11_first : MR := (yX11_first, cX11_first, 4, (some .int))
abbrev mX11_weary : MR := (yX11_weary, cX11_weary, 3, (some .int))
abbrev mX11_isForSale : MR := (yX11_isForSale, cX11_isForSale, 2, (some .boolean))
abbrev mX11_price : MR := (yX11_price, cX11_price, 3, (some .int))
abbrev mX11_best : MR := (yX11_best, cX11_best, 7, (some .int))
abbrev mX11_earned : MR := (yX11_earned, cX11_earned, 2, (some .int))
abbrev mX11_then : MR := (yX11_then, cX11_then, 4, (some .int))
abbrev mX11_wornIn : MR := (yX11_wornIn, cX11_wornIn, 3, (some .int))
abbrev mX11_year : MR := (yX11_year, cX11_year, 6, (some .int))
abbrev mX11_tell : MR := (yX11_tell, cX11_tell, 3, (some .int))
abbrev mX11_forget : MR := (yX11_forget, cX11_forget, 2, (some .int))
abbrev mX11_isThere : MR := (yX11_isThere, cX11_isThere, 3, (some .boolean))
abbrev mX11_whoseBits : MR := (yX11_whoseBits, cX11_whoseBits, 6, (some .int))
abbrev mX11_whose : MR := (yX11_whose, cX11_whose, 4, (some .int))
abbrev mX11_look : MR := (yX11_look, cX11_look, 8, (some .int))
abbrev mX11_hold : MR := (yX11_hold, cX11_hold, 3, (some .boolean))
abbrev mX11_restore : MR := (yX11_restore, cX11_restore, 3, (some .boolean))
abbrev mX11_sumNow : MR := (yX11_sumNow, cX11_sumNow, 5, (some .int))
abbrev mX11_count : MR := (yX11_count, cX11_count, 4, (some .int))
abbrev mJ11_isValidCodePoint_9a6ad : MR := (yJ11_isValidCodePoint_9a6ad, cJ11_isValidCodePoint_9a6ad, 2, (some .boolean))
abbrev mJ11_highSurrogate_5068e : MR := (yJ11_highSurrogate_5068e, cJ11_highSurrogate_5068e, 1, (some .char))
abbrev mJ11_lowSurrogate_5068e : MR := (yJ11_lowSurrogate_5068e, cJ11_lowSurrogate_5068e, 1, (some .char))
abbrev mJ6_numberOfTrailingZeros_0f7a4 : MR := (yJ6_numberOfTrailingZeros_0f7a4, cJ6_numberOfTrailingZeros_0f7a4, 2, (some .int))
abbrev mJ6_bitCount_0f7a4 : MR := (yJ6_bitCount_0f7a4, cJ6_bitCount_0f7a4, 1, (some .int))
abbrev mJ13_bitCount_95d88 : MR := (yJ13_bitCount_95d88, cJ13_bitCount_95d88, 2, (some .int))
abbrev mJ9_max_7cf53 : MR := (yJ9_max_7cf53, cJ9_max_7cf53, 2, (some .int))
abbrev mJ9_min_7cf53 : MR := (yJ9_min_7cf53, cJ9_min_7cf53, 2, (some .int))
abbrev mJ0_length_8abf5 : MR := (yJ0_length_8abf5, cJ0_length_8abf5, 1, (some .int))
abbrev mJ0_charAt_5068e : MR := (yJ0_charAt_5068e, cJ0_charAt_5068e, 2, (some .char))
abbrev mJ0_indexOf_0f7a4 : MR := (yJ0_indexOf_0f7a4, cJ0_indexOf_0f7a4, 2, (some .int))
abbrev mJ0_indexOf_7cf53 : MR := (yJ0_indexOf_7cf53, cJ0_indexOf_7cf53, 3, (some .int))
abbrev mJ0_coder_7d493 : MR := (yJ0_coder_7d493, cJ0_coder_7d493, 1, (some .byte))
abbrev mJ0_isLatin1_aae02 : MR := (yJ0_isLatin1_aae02, cJ0_isLatin1_aae02, 1, (some .boolean))
abbrev mJ0_checkIndex_df160 : MR := (yJ0_checkIndex_df160, cJ0_checkIndex_df160, 2, none)
abbrev mJ0_checkBoundsBeginEnd_23922 : MR := (yJ0_checkBoundsBeginEnd_23922, cJ0_checkBoundsBeginEnd_23922, 3, none)
abbrev mJ1_charAt_3b067 : MR := (yJ1_charAt_3b067, cJ1_charAt_3b067, 2, (some .char))
abbrev mJ1_canEncode_9a6ad : MR := (yJ1_canEncode_9a6ad, cJ1_canEncode_9a6ad, 1, (some .boolean))
abbrev mJ1_indexOf_4cfef : MR := (yJ1_indexOf_4cfef, cJ1_indexOf_4cfef, 4, (some .int))
abbrev mJ1_indexOfChar_4cfef : MR := (yJ1_indexOfChar_4cfef, cJ1_indexOfChar_4cfef, 6, (some .int))
abbrev mJ2_getChar_3b067 : MR := (yJ2_getChar_3b067, cJ2_getChar_3b067, 2, (some .char))
abbrev mJ2_length_9d52b : MR := (yJ2_length_9d52b, cJ2_length_9d52b, 1, (some .int))
abbrev mJ2_indexOf_4cfef : MR := (yJ2_indexOf_4cfef, cJ2_indexOf_4cfef, 4, (some .int))
abbrev mJ2_indexOfChar_4cfef : MR := (yJ2_indexOfChar_4cfef, cJ2_indexOfChar_4cfef, 4, (some .int))
abbrev mJ2_indexOfCharUnsafe_4cfef : MR := (yJ2_indexOfCharUnsafe_4cfef, cJ2_indexOfCharUnsafe_4cfef, 5, (some .int))
abbrev mJ2_indexOfSupplementary_4cfef : MR := (yJ2_indexOfSupplementary_4cfef, cJ2_indexOfSupplementary_4cfef, 7, (some .int))
abbrev mJ2_charAt_3b067 : MR := (yJ2_charAt_3b067, cJ2_charAt_3b067, 2, (some .char))
abbrev mJ2_checkIndex_2214a : MR := (yJ2_checkIndex_2214a, cJ2_checkIndex_2214a, 2, none)
abbrev mJ2_checkBoundsBeginEnd_d044e : MR := (yJ2_checkBoundsBeginEnd_d044e, cJ2_checkBoundsBeginEnd_d044e, 3, none)
abbrev mJ3_checkIndex_8e157 : MR := (yJ3_checkIndex_8e157, cJ3_checkIndex_8e157, 3, (some .int))
abbrev mJ3_checkFromToIndex_8c36e : MR := (yJ3_checkFromToIndex_8c36e, cJ3_checkFromToIndex_8c36e, 4, (some .int))
set_option maxRecDepth 100000 in
theorem caX0_init : CaOK mX0_init := ⟨wl_t2 7 rfl rfl, wl_t1 13 rfl rfl, by decide, ⟨by decide, by decide⟩, by decide⟩
set_option maxRecDepth 100000 in
theorem inX0_init : Cond.instanceMethod yX0_init ∈ WL := wl_t2 6 rfl rfl
set_option maxRecDepth 100000 in
theorem caX0_add : CaOK mX0_add := ⟨wl_t5 49 rfl rfl, wl_t1 13 rfl rfl, by decide, ⟨by decide, by decide⟩, by decide⟩
set_option maxRecDepth 100000 in
theorem inX0_add : Cond.instanceMethod yX0_add ∈ WL := wl_t5 47 rfl rfl
set_option maxRecDepth 100000 in
theorem slX0_add : Cond.selects yX0_add.cls yX0_add yX0_add ∈ WL := wl_t5 48 rfl rfl
set_option maxRecDepth 100000 in
theorem caX0_guestsLeft : CaOK mX0_guestsLeft := ⟨wl_t5 61 rfl rfl, wl_t1 13 rfl rfl, by decide, ⟨by decide, by decide⟩, by decide⟩
set_option maxRecDepth 100000 in
theorem inX0_guestsLeft : Cond.instanceMethod yX0_guestsLeft ∈ WL := wl_t5 59 rfl rfl
set_option maxRecDepth 100000 in
theorem slX0_guestsLeft : Cond.selects yX0_guestsLeft.cls yX0_guestsLeft yX0_guestsLeft ∈ WL := wl_t5 60 rfl rfl
set_option maxRecDepth 100000 in
theorem caX0_agrees : CaOK mX0_agrees := ⟨wl_t5 65 rfl rfl, wl_t1 13 rfl rfl, by decide, ⟨by decide, by decide⟩, by decide⟩
set_option maxRecDepth 100000 in
theorem inX0_agrees : Cond.instanceMethod yX0_agrees ∈ WL := wl_t5 64 rfl rfl
set_option maxRecDepth 100000 in
theorem slX0_agrees : Cond.selects yX0_agrees.cls yX0_agrees yX0_agrees ∈ WL := wl_s 39 (by decide +kernel) rfl
set_option maxRecDepth 100000 in
theorem caX0_hourToLook : CaOK mX0_hourToLook := ⟨wl_t5 74 rfl rfl, wl_t1 13 rfl rfl, by decide, ⟨by decide, by decide⟩, by decide⟩
set_option maxRecDepth 100000 in
theorem inX0_hourToLook : Cond.instanceMethod yX0_hourToLook ∈ WL := wl_t5 72 rfl rfl
set_option maxRecDepth 100000 in
theorem slX0_hourToLook : Cond.selects yX0_hourToLook.cls yX0_hourToLook yX0_hourToLook ∈ WL := wl_t5 73 rfl rfl
set_option maxRecDepth 100000 in
theorem caX0_seenAt : CaOK mX0_seenAt := ⟨wl_t5 77 rfl rfl, wl_t1 13 rfl rfl, by decide, ⟨by decide, by decide⟩, by decide⟩
set_option maxRecDepth 100000 in
theorem stX0_seenAt : Cond.static yX0_seenAt ∈ WL := wl_t5 76 rfl rfl
set_option maxRecDepth 100000 in
theorem caX1_init : CaOK mX1_init := ⟨wl_t1 214 rfl rfl, wl_t1 11 rfl rfl, by decide, ⟨by decide, by decide⟩, by decide⟩
set_option maxRecDepth 100000 in
theorem inX1_init : Cond.instanceMethod yX1_init ∈ WL := wl_t1 213 rfl rfl
set_option maxRecDepth 100000 in
theorem caX1_ofGuestNow : CaOK mX1_ofGuestNow := ⟨wl_t4 12 rfl rfl, wl_t1 11 rfl rfl, by decide, ⟨by decide, by decide⟩, by decide⟩
set_option maxRecDepth 100000 in
theorem inX1_ofGuestNow : Cond.instanceMethod yX1_ofGuestNow ∈ WL := wl_t4 10 rfl rfl
set_option maxRecDepth 100000 in
theorem slX1_ofGuestNow : Cond.selects yX1_ofGuestNow.cls yX1_ofGuestNow yX1_ofGuestNow ∈ WL := wl_t4 11 rfl rfl
set_option maxRecDepth 100000 in
theorem caX1_ofGuest : CaOK mX1_ofGuest := ⟨wl_t4 17 rfl rfl, wl_t1 11 rfl rfl, by decide, ⟨by decide, by decide⟩, by decide⟩
set_option maxRecDepth 100000 in
theorem inX1_ofGuest : Cond.instanceMethod yX1_ofGuest ∈ WL := wl_t4 15 rfl rfl
set_option maxRecDepth 100000 in
theorem slX1_ofGuest : Cond.selects yX1_ofGuest.cls yX1_ofGuest yX1_ofGuest ∈ WL := wl_t4 16 rfl rfl
set_option maxRecDepth 100000 in
theorem caX1_ofSunday : CaOK mX1_ofSunday := ⟨wl_t3 190 rfl rfl, wl_t1 11 rfl rfl, by decide, ⟨by decide, by decide⟩, by decide⟩
set_option maxRecDepth 100000 in
theorem inX1_ofSunday : Cond.instanceMethod yX1_ofSunday ∈ WL := wl_t3 188 rfl rfl
set_option maxRecDepth 100000 in
theorem slX1_ofSunday : Cond.selects yX1_ofSunday.cls yX1_ofSunday yX1_ofSunday ∈ WL := wl_t3 189 rfl rfl
set_option maxRecDepth 100000 in
theorem caX1_setSunday : CaOK mX1_setSunday := ⟨wl_t3 194 rfl rfl, wl_t1 11 rfl rfl, by decide, ⟨by decide, by decide⟩, by decide⟩
set_option maxRecDepth 100000 in
theorem inX1_setSunday : Cond.instanceMethod yX1_setSunday ∈ WL := wl_t3 193 rfl rfl
set_option maxRecDepth 100000 in
theorem slX1_setSunday : Cond.selects yX1_setSunday.cls yX1_setSunday yX1_setSunday ∈ WL := wl_s 24 (by decide +kernel) rfl
set_option maxRecDepth 100000 in
theorem caX1_answerHeld : CaOK mX1_answerHeld := ⟨wl_t3 218 rfl rfl, wl_t1 11 rfl rfl, by decide, ⟨by decide, by decide⟩, by decide⟩
set_option maxRecDepth 100000 in
theorem inX1_answerHeld : Cond.instanceMethod yX1_answerHeld ∈ WL := wl_t3 217 rfl rfl
set_option maxRecDepth 100000 in
theorem slX1_answerHeld : Cond.selects yX1_answerHeld.cls yX1_answerHeld yX1_answerHeld ∈ WL := wl_s 25 (by decide +kernel) rfl
set_option maxRecDepth 100000 in
theorem caX1_passWeek : CaOK mX1_passWeek := ⟨wl_t4 232 rfl rfl, wl_t1 11 rfl rfl, by decide, ⟨by decide, by decide⟩, by decide⟩
set_option maxRecDepth 100000 in
theorem inX1_passWeek : Cond.instanceMethod yX1_passWeek ∈ WL := wl_t4 230 rfl rfl
set_option maxRecDepth 100000 in
theorem slX1_passWeek : Cond.selects yX1_passWeek.cls yX1_passWeek yX1_passWeek ∈ WL := wl_t4 231 rfl rfl
set_option maxRecDepth 100000 in
theorem caX1_passDeadlyWeeks : CaOK mX1_passDeadlyWeeks := ⟨wl_t4 75 rfl rfl, wl_t1 11 rfl rfl, by decide, ⟨by decide, by decide⟩, by decide⟩
set_option maxRecDepth 100000 in
theorem inX1_passDeadlyWeeks : Cond.instanceMethod yX1_passDeadlyWeeks ∈ WL := wl_t4 73 rfl rfl
set_option maxRecDepth 100000 in
theorem slX1_passDeadlyWeeks : Cond.selects yX1_passDeadlyWeeks.cls yX1_passDeadlyWeeks yX1_passDeadlyWeeks ∈ WL := wl_t4 74 rfl rfl
set_option maxRecDepth 100000 in
theorem caX1_payAndRest : CaOK mX1_payAndRest := ⟨wl_t4 79 rfl rfl, wl_t1 11 rfl rfl, by decide, ⟨by decide, by decide⟩, by decide⟩
set_option maxRecDepth 100000 in
theorem inX1_payAndRest : Cond.instanceMethod yX1_payAndRest ∈ WL := wl_t4 78 rfl rfl
set_option maxRecDepth 100000 in
theorem slX1_payAndRest : Cond.selects yX1_payAndRest.cls yX1_payAndRest yX1_payAndRest ∈ WL := wl_s 29 (by decide +kernel) rfl
set_option maxRecDepth 100000 in
theorem caX1_wear : CaOK mX1_wear := ⟨wl_t4 84 rfl rfl, wl_t1 11 rfl rfl, by decide, ⟨by decide, by decide⟩, by decide⟩
set_option maxRecDepth 100000 in
theorem inX1_wear : Cond.instanceMethod yX1_wear ∈ WL := wl_t4 83 rfl rfl
set_option maxRecDepth 100000 in
theorem slX1_wear : Cond.selects yX1_wear.cls yX1_wear yX1_wear ∈ WL := wl_s 30 (by decide +kernel) rfl
set_option maxRecDepth 100000 in
theorem caX1_bury : CaOK mX1_bury := ⟨wl_t4 89 rfl rfl, wl_t1 11 rfl rfl, by decide, ⟨by decide, by decide⟩, by decide⟩
set_option maxRecDepth 100000 in
theorem inX1_bury : Cond.instanceMethod yX1_bury ∈ WL := wl_t4 88 rfl rfl
set_option maxRecDepth 100000 in
theorem slX1_bury : Cond.selects yX1_bury.cls yX1_bury yX1_bury ∈ WL := wl_s 31 (by decide +kernel) rfl
set_option maxRecDepth 100000 in
theorem caX1_lot : CaOK mX1_lot := ⟨wl_t4 92 rfl rfl, wl_t1 11 rfl rfl, by decide, ⟨by decide, by decide⟩, by decide⟩
set_option maxRecDepth 100000 in
theorem stX1_lot : Cond.static yX1_lot ∈ WL := wl_t4 91 rfl rfl
set_option maxRecDepth 100000 in
theorem caX1_stir : CaOK mX1_stir := ⟨wl_t4 95 rfl rfl, wl_t1 11 rfl rfl, by decide, ⟨by decide, by decide⟩, by decide⟩
set_option maxRecDepth 100000 in
theorem stX1_stir : Cond.static yX1_stir ∈ WL := wl_t4 94 rfl rfl
set_option maxRecDepth 100000 in
theorem caX2_init : CaOK mX2_init := ⟨wl_t2 31 rfl rfl, wl_t1 15 rfl rfl, by decide, ⟨by decide, by decide⟩, by decide⟩
set_option maxRecDepth 100000 in
theorem inX2_init : Cond.instanceMethod yX2_init ∈ WL := wl_t2 30 rfl rfl
set_option maxRecDepth 100000 in
theorem caX2_begin : CaOK mX2_begin := ⟨wl_t2 53 rfl rfl, wl_t1 15 rfl rfl, by decide, ⟨by decide, by decide⟩, by decide⟩
set_option maxRecDepth 100000 in
theorem inX2_begin : Cond.instanceMethod yX2_begin ∈ WL := wl_t2 51 rfl rfl
set_option maxRecDepth 100000 in
theorem slX2_begin : Cond.selects yX2_begin.cls yX2_begin yX2_begin ∈ WL := wl_t2 52 rfl rfl
set_option maxRecDepth 100000 in
theorem caX2_addShortLaw : CaOK mX2_addShortLaw := ⟨wl_t2 57 rfl rfl, wl_t1 15 rfl rfl, by decide, ⟨by decide, by decide⟩, by decide⟩
set_option maxRecDepth 100000 in
theorem inX2_addShortLaw : Cond.instanceMethod yX2_addShortLaw ∈ WL := wl_t2 56 rfl rfl
set_option maxRecDepth 100000 in
theorem slX2_addShortLaw : Cond.selects yX2_addShortLaw.cls yX2_addShortLaw yX2_addShortLaw ∈ WL := wl_s 0 (by decide +kernel) rfl
set_option maxRecDepth 100000 in
theorem caX2_startLaw : CaOK mX2_startLaw := ⟨wl_t2 61 rfl rfl, wl_t1 15 rfl rfl, by decide, ⟨by decide, by decide⟩, by decide⟩
set_option maxRecDepth 100000 in
theorem inX2_startLaw : Cond.instanceMethod yX2_startLaw ∈ WL := wl_t2 59 rfl rfl
set_option maxRecDepth 100000 in
theorem slX2_startLaw : Cond.selects yX2_startLaw.cls yX2_startLaw yX2_startLaw ∈ WL := wl_t2 60 rfl rfl
set_option maxRecDepth 100000 in
theorem caX2_add : CaOK mX2_add := ⟨wl_t2 65 rfl rfl, wl_t1 15 rfl rfl, by decide, ⟨by decide, by decide⟩, by decide⟩
set_option maxRecDepth 100000 in
theorem inX2_add : Cond.instanceMethod yX2_add ∈ WL := wl_t2 63 rfl rfl
set_option maxRecDepth 100000 in
theorem slX2_add : Cond.selects yX2_add.cls yX2_add yX2_add ∈ WL := wl_t2 64 rfl rfl
set_option maxRecDepth 100000 in
theorem caX2_aimBehind : CaOK mX2_aimBehind := ⟨wl_t3 165 rfl rfl, wl_t1 15 rfl rfl, by decide, ⟨by decide, by decide⟩, by decide⟩
set_option maxRecDepth 100000 in
theorem inX2_aimBehind : Cond.instanceMethod yX2_aimBehind ∈ WL := wl_t3 163 rfl rfl
set_option maxRecDepth 100000 in
theorem slX2_aimBehind : Cond.selects yX2_aimBehind.cls yX2_aimBehind yX2_aimBehind ∈ WL := wl_t3 164 rfl rfl
set_option maxRecDepth 100000 in
theorem caX2_answer : CaOK mX2_answer := ⟨wl_t3 222 rfl rfl, wl_t1 15 rfl rfl, by decide, ⟨by decide, by decide⟩, by decide⟩
set_option maxRecDepth 100000 in
theorem inX2_answer : Cond.instanceMethod yX2_answer ∈ WL := wl_t3 220 rfl rfl
set_option maxRecDepth 100000 in
theorem slX2_answer : Cond.selects yX2_answer.cls yX2_answer yX2_answer ∈ WL := wl_t3 221 rfl rfl
set_option maxRecDepth 100000 in
theorem caX2_reckon : CaOK mX2_reckon := ⟨wl_t3 226 rfl rfl, wl_t1 15 rfl rfl, by decide, ⟨by decide, by decide⟩, by decide⟩
set_option maxRecDepth 100000 in
theorem stX2_reckon : Cond.static yX2_reckon ∈ WL := wl_t3 225 rfl rfl
set_option maxRecDepth 100000 in
theorem caX3_init : CaOK mX3_init := ⟨wl_t1 227 rfl rfl, wl_t1 12 rfl rfl, by decide, ⟨by decide, by decide⟩, by decide⟩
set_option maxRecDepth 100000 in
theorem inX3_init : Cond.instanceMethod yX3_init ∈ WL := wl_t1 226 rfl rfl
set_option maxRecDepth 100000 in
theorem caX3_valueSets : CaOK mX3_valueSets := ⟨wl_t4 117 rfl rfl, wl_t1 12 rfl rfl, by decide, ⟨by decide, by decide⟩, by decide⟩
set_option maxRecDepth 100000 in
theorem inX3_valueSets : Cond.instanceMethod yX3_valueSets ∈ WL := wl_t4 115 rfl rfl
set_option maxRecDepth 100000 in
theorem slX3_valueSets : Cond.selects yX3_valueSets.cls yX3_valueSets yX3_valueSets ∈ WL := wl_t4 116 rfl rfl
set_option maxRecDepth 100000 in
theorem caX3_livingFit : CaOK mX3_livingFit := ⟨wl_t4 120 rfl rfl, wl_t1 12 rfl rfl, by decide, ⟨by decide, by decide⟩, by decide⟩
set_option maxRecDepth 100000 in
theorem stX3_livingFit : Cond.static yX3_livingFit ∈ WL := wl_t4 119 rfl rfl
set_option maxRecDepth 100000 in
theorem caX3_bestSet : CaOK mX3_bestSet := ⟨wl_t4 132 rfl rfl, wl_t1 12 rfl rfl, by decide, ⟨by decide, by decide⟩, by decide⟩
set_option maxRecDepth 100000 in
theorem inX3_bestSet : Cond.instanceMethod yX3_bestSet ∈ WL := wl_t4 130 rfl rfl
set_option maxRecDepth 100000 in
theorem slX3_bestSet : Cond.selects yX3_bestSet.cls yX3_bestSet yX3_bestSet ∈ WL := wl_t4 131 rfl rfl
set_option maxRecDepth 100000 in
theorem caX3_letAll : CaOK mX3_letAll := ⟨wl_t4 140 rfl rfl, wl_t1 12 rfl rfl, by decide, ⟨by decide, by decide⟩, by decide⟩
set_option maxRecDepth 100000 in
theorem inX3_letAll : Cond.instanceMethod yX3_letAll ∈ WL := wl_t4 138 rfl rfl
set_option maxRecDepth 100000 in
theorem slX3_letAll : Cond.selects yX3_letAll.cls yX3_letAll yX3_letAll ∈ WL := wl_t4 139 rfl rfl
set_option maxRecDepth 100000 in
theorem caX3_mostWith : CaOK mX3_mostWith := ⟨wl_t4 144 rfl rfl, wl_t1 12 rfl rfl, by decide, ⟨by decide, by decide⟩, by decide⟩
set_option maxRecDepth 100000 in
theorem inX3_mostWith : Cond.instanceMethod yX3_mostWith ∈ WL := wl_t4 143 rfl rfl
set_option maxRecDepth 100000 in
theorem slX3_mostWith : Cond.selects yX3_mostWith.cls yX3_mostWith yX3_mostWith ∈ WL := wl_s 33 (by decide +kernel) rfl
set_option maxRecDepth 100000 in
theorem caX3_setLetIn : CaOK mX3_setLetIn := ⟨wl_t4 153 rfl rfl, wl_t1 12 rfl rfl, by decide, ⟨by decide, by decide⟩, by decide⟩
set_option maxRecDepth 100000 in
theorem inX3_setLetIn : Cond.instanceMethod yX3_setLetIn ∈ WL := wl_t4 151 rfl rfl
set_option maxRecDepth 100000 in
theorem slX3_setLetIn : Cond.selects yX3_setLetIn.cls yX3_setLetIn yX3_setLetIn ∈ WL := wl_t4 152 rfl rfl
set_option maxRecDepth 100000 in
theorem caX3_leastPart : CaOK mX3_leastPart := ⟨wl_t4 157 rfl rfl, wl_t1 12 rfl rfl, by decide, ⟨by decide, by decide⟩, by decide⟩
set_option maxRecDepth 100000 in
theorem inX3_leastPart : Cond.instanceMethod yX3_leastPart ∈ WL := wl_t4 156 rfl rfl
set_option maxRecDepth 100000 in
theorem slX3_leastPart : Cond.selects yX3_leastPart.cls yX3_leastPart yX3_leastPart ∈ WL := wl_s 34 (by decide +kernel) rfl
set_option maxRecDepth 100000 in
theorem caX3_leastCost : CaOK mX3_leastCost := ⟨wl_t4 165 rfl rfl, wl_t1 12 rfl rfl, by decide, ⟨by decide, by decide⟩, by decide⟩
set_option maxRecDepth 100000 in
theorem inX3_leastCost : Cond.instanceMethod yX3_leastCost ∈ WL := wl_t4 163 rfl rfl
set_option maxRecDepth 100000 in
theorem slX3_leastCost : Cond.selects yX3_leastCost.cls yX3_leastCost yX3_leastCost ∈ WL := wl_t4 164 rfl rfl
set_option maxRecDepth 100000 in
theorem caX3_leastWith : CaOK mX3_leastWith := ⟨wl_t4 170 rfl rfl, wl_t1 12 rfl rfl, by decide, ⟨by decide, by decide⟩, by decide⟩
set_option maxRecDepth 100000 in
theorem inX3_leastWith : Cond.instanceMethod yX3_leastWith ∈ WL := wl_t4 169 rfl rfl
set_option maxRecDepth 100000 in
theorem slX3_leastWith : Cond.selects yX3_leastWith.cls yX3_leastWith yX3_leastWith ∈ WL := wl_s 35 (by decide +kernel) rfl
set_option maxRecDepth 100000 in
theorem caX3_fewestColours : CaOK mX3_fewestColours := ⟨wl_t4 181 rfl rfl, wl_t1 12 rfl rfl, by decide, ⟨by decide, by decide⟩, by decide⟩
set_option maxRecDepth 100000 in
theorem inX3_fewestColours : Cond.instanceMethod yX3_fewestColours ∈ WL := wl_t4 179 rfl rfl
set_option maxRecDepth 100000 in
theorem slX3_fewestColours : Cond.selects yX3_fewestColours.cls yX3_fewestColours yX3_fewestColours ∈ WL := wl_t4 180 rfl rfl
set_option maxRecDepth 100000 in
theorem caX3_largestTangle : CaOK mX3_largestTangle := ⟨wl_t4 189 rfl rfl, wl_t1 12 rfl rfl, by decide, ⟨by decide, by decide⟩, by decide⟩
set_option maxRecDepth 100000 in
theorem inX3_largestTangle : Cond.instanceMethod yX3_largestTangle ∈ WL := wl_t4 187 rfl rfl
set_option maxRecDepth 100000 in
theorem slX3_largestTangle : Cond.selects yX3_largestTangle.cls yX3_largestTangle yX3_largestTangle ∈ WL := wl_t4 188 rfl rfl
set_option maxRecDepth 100000 in
theorem caX3_isTangle : CaOK mX3_isTangle := ⟨wl_t4 193 rfl rfl, wl_t1 12 rfl rfl, by decide, ⟨by decide, by decide⟩, by decide⟩
set_option maxRecDepth 100000 in
theorem stX3_isTangle : Cond.static yX3_isTangle ∈ WL := wl_t4 192 rfl rfl
set_option maxRecDepth 100000 in
theorem caX4_init : CaOK mX4_init := ⟨wl_t1 50 rfl rfl, wl_t1 3 rfl rfl, by decide, ⟨by decide, by decide⟩, by decide⟩
set_option maxRecDepth 100000 in
theorem inX4_init : Cond.instanceMethod yX4_init ∈ WL := wl_t1 49 rfl rfl
set_option maxRecDepth 100000 in
theorem caX4_readTape : CaOK mX4_readTape := ⟨wl_t2 216 rfl rfl, wl_t1 3 rfl rfl, by decide, ⟨by decide, by decide⟩, by decide⟩
set_option maxRecDepth 100000 in
theorem inX4_readTape : Cond.instanceMethod yX4_readTape ∈ WL := wl_t2 214 rfl rfl
set_option maxRecDepth 100000 in
theorem slX4_readTape : Cond.selects yX4_readTape.cls yX4_readTape yX4_readTape ∈ WL := wl_t2 215 rfl rfl
set_option maxRecDepth 100000 in
theorem caX4_kind : CaOK mX4_kind := ⟨wl_t3 78 rfl rfl, wl_t1 3 rfl rfl, by decide, ⟨by decide, by decide⟩, by decide⟩
set_option maxRecDepth 100000 in
theorem inX4_kind : Cond.instanceMethod yX4_kind ∈ WL := wl_t3 77 rfl rfl
set_option maxRecDepth 100000 in
theorem slX4_kind : Cond.selects yX4_kind.cls yX4_kind yX4_kind ∈ WL := wl_s 8 (by decide +kernel) rfl
set_option maxRecDepth 100000 in
theorem caX4_readTell : CaOK mX4_readTell := ⟨wl_t3 82 rfl rfl, wl_t1 3 rfl rfl, by decide, ⟨by decide, by decide⟩, by decide⟩
set_option maxRecDepth 100000 in
theorem inX4_readTell : Cond.instanceMethod yX4_readTell ∈ WL := wl_t3 81 rfl rfl
set_option maxRecDepth 100000 in
theorem slX4_readTell : Cond.selects yX4_readTell.cls yX4_readTell yX4_readTell ∈ WL := wl_s 9 (by decide +kernel) rfl
set_option maxRecDepth 100000 in
theorem caX4_readSunday : CaOK mX4_readSunday := ⟨wl_t3 86 rfl rfl, wl_t1 3 rfl rfl, by decide, ⟨by decide, by decide⟩, by decide⟩
set_option maxRecDepth 100000 in
theorem inX4_readSunday : Cond.instanceMethod yX4_readSunday ∈ WL := wl_t3 85 rfl rfl
set_option maxRecDepth 100000 in
theorem slX4_readSunday : Cond.selects yX4_readSunday.cls yX4_readSunday yX4_readSunday ∈ WL := wl_s 10 (by decide +kernel) rfl
set_option maxRecDepth 100000 in
theorem caX4_readGuest : CaOK mX4_readGuest := ⟨wl_t3 126 rfl rfl, wl_t1 3 rfl rfl, by decide, ⟨by decide, by decide⟩, by decide⟩
set_option maxRecDepth 100000 in
theorem inX4_readGuest : Cond.instanceMethod yX4_readGuest ∈ WL := wl_t3 125 rfl rfl
set_option maxRecDepth 100000 in
theorem slX4_readGuest : Cond.selects yX4_readGuest.cls yX4_readGuest yX4_readGuest ∈ WL := wl_s 17 (by decide +kernel) rfl
set_option maxRecDepth 100000 in
theorem caX4_readFoes : CaOK mX4_readFoes := ⟨wl_t3 134 rfl rfl, wl_t1 3 rfl rfl, by decide, ⟨by decide, by decide⟩, by decide⟩
set_option maxRecDepth 100000 in
theorem inX4_readFoes : Cond.instanceMethod yX4_readFoes ∈ WL := wl_t3 133 rfl rfl
set_option maxRecDepth 100000 in
theorem slX4_readFoes : Cond.selects yX4_readFoes.cls yX4_readFoes yX4_readFoes ∈ WL := wl_s 18 (by decide +kernel) rfl
set_option maxRecDepth 100000 in
theorem caX4_readLaw : CaOK mX4_readLaw := ⟨wl_t3 147 rfl rfl, wl_t1 3 rfl rfl, by decide, ⟨by decide, by decide⟩, by decide⟩
set_option maxRecDepth 100000 in
theorem inX4_readLaw : Cond.instanceMethod yX4_readLaw ∈ WL := wl_t3 146 rfl rfl
set_option maxRecDepth 100000 in
theorem slX4_readLaw : Cond.selects yX4_readLaw.cls yX4_readLaw yX4_readLaw ∈ WL := wl_s 19 (by decide +kernel) rfl
set_option maxRecDepth 100000 in
theorem caX4_readSum : CaOK mX4_readSum := ⟨wl_t3 152 rfl rfl, wl_t1 3 rfl rfl, by decide, ⟨by decide, by decide⟩, by decide⟩
set_option maxRecDepth 100000 in
theorem inX4_readSum : Cond.instanceMethod yX4_readSum ∈ WL := wl_t3 151 rfl rfl
set_option maxRecDepth 100000 in
theorem slX4_readSum : Cond.selects yX4_readSum.cls yX4_readSum yX4_readSum ∈ WL := wl_s 20 (by decide +kernel) rfl
set_option maxRecDepth 100000 in
theorem caX4_readProduct : CaOK mX4_readProduct := ⟨wl_t3 156 rfl rfl, wl_t1 3 rfl rfl, by decide, ⟨by decide, by decide⟩, by decide⟩
set_option maxRecDepth 100000 in
theorem inX4_readProduct : Cond.instanceMethod yX4_readProduct ∈ WL := wl_t3 155 rfl rfl
set_option maxRecDepth 100000 in
theorem slX4_readProduct : Cond.selects yX4_readProduct.cls yX4_readProduct yX4_readProduct ∈ WL := wl_s 21 (by decide +kernel) rfl
set_option maxRecDepth 100000 in
theorem caX4_readUnit : CaOK mX4_readUnit := ⟨wl_t3 160 rfl rfl, wl_t1 3 rfl rfl, by decide, ⟨by decide, by decide⟩, by decide⟩
set_option maxRecDepth 100000 in
theorem inX4_readUnit : Cond.instanceMethod yX4_readUnit ∈ WL := wl_t3 159 rfl rfl
set_option maxRecDepth 100000 in
theorem slX4_readUnit : Cond.selects yX4_readUnit.cls yX4_readUnit yX4_readUnit ∈ WL := wl_s 22 (by decide +kernel) rfl
set_option maxRecDepth 100000 in
theorem caX4_take : CaOK mX4_take := ⟨wl_t3 94 rfl rfl, wl_t1 3 rfl rfl, by decide, ⟨by decide, by decide⟩, by decide⟩
set_option maxRecDepth 100000 in
theorem inX4_take : Cond.instanceMethod yX4_take ∈ WL := wl_t3 93 rfl rfl
set_option maxRecDepth 100000 in
theorem slX4_take : Cond.selects yX4_take.cls yX4_take yX4_take ∈ WL := wl_s 12 (by decide +kernel) rfl
set_option maxRecDepth 100000 in
theorem caX4_takeInt : CaOK mX4_takeInt := ⟨wl_t3 114 rfl rfl, wl_t1 3 rfl rfl, by decide, ⟨by decide, by decide⟩, by decide⟩
set_option maxRecDepth 100000 in
theorem inX4_takeInt : Cond.instanceMethod yX4_takeInt ∈ WL := wl_t3 113 rfl rfl
set_option maxRecDepth 100000 in
theorem slX4_takeInt : Cond.selects yX4_takeInt.cls yX4_takeInt yX4_takeInt ∈ WL := wl_s 15 (by decide +kernel) rfl
set_option maxRecDepth 100000 in
theorem caX4_takeNewName : CaOK mX4_takeNewName := ⟨wl_t3 98 rfl rfl, wl_t1 3 rfl rfl, by decide, ⟨by decide, by decide⟩, by decide⟩
set_option maxRecDepth 100000 in
theorem inX4_takeNewName : Cond.instanceMethod yX4_takeNewName ∈ WL := wl_t3 97 rfl rfl
set_option maxRecDepth 100000 in
theorem slX4_takeNewName : Cond.selects yX4_takeNewName.cls yX4_takeNewName yX4_takeNewName ∈ WL := wl_s 13 (by decide +kernel) rfl
set_option maxRecDepth 100000 in
theorem caX4_intBehind : CaOK mX4_intBehind := ⟨wl_t3 118 rfl rfl, wl_t1 3 rfl rfl, by decide, ⟨by decide, by decide⟩, by decide⟩
set_option maxRecDepth 100000 in
theorem inX4_intBehind : Cond.instanceMethod yX4_intBehind ∈ WL := wl_t3 117 rfl rfl
set_option maxRecDepth 100000 in
theorem slX4_intBehind : Cond.selects yX4_intBehind.cls yX4_intBehind yX4_intBehind ∈ WL := wl_s 16 (by decide +kernel) rfl
set_option maxRecDepth 100000 in
theorem caX4_fail : CaOK mX4_fail := ⟨wl_t3 90 rfl rfl, wl_t1 3 rfl rfl, by decide, ⟨by decide, by decide⟩, by decide⟩
set_option maxRecDepth 100000 in
theorem inX4_fail : Cond.instanceMethod yX4_fail ∈ WL := wl_t3 89 rfl rfl
set_option maxRecDepth 100000 in
theorem slX4_fail : Cond.selects yX4_fail.cls yX4_fail yX4_fail ∈ WL := wl_s 11 (by decide +kernel) rfl
set_option maxRecDepth 100000 in
theorem caX4_keepLate : CaOK mX4_keepLate := ⟨wl_t3 110 rfl rfl, wl_t1 3 rfl rfl, by decide, ⟨by decide, by decide⟩, by decide⟩
set_option maxRecDepth 100000 in
theorem inX4_keepLate : Cond.instanceMethod yX4_keepLate ∈ WL := wl_t3 109 rfl rfl
set_option maxRecDepth 100000 in
theorem slX4_keepLate : Cond.selects yX4_keepLate.cls yX4_keepLate yX4_keepLate ∈ WL := wl_s 14 (by decide +kernel) rfl
set_option maxRecDepth 100000 in
theorem caX5_init : CaOK mX5_init := ⟨wl_t1 153 rfl rfl, wl_t1 9 rfl rfl, by decide, ⟨by decide, by decide⟩, by decide⟩
set_option maxRecDepth 100000 in
theorem inX5_init : Cond.instanceMethod yX5_init ∈ WL := wl_t1 152 rfl rfl
set_option maxRecDepth 100000 in
theorem caX5_begin : CaOK mX5_begin := ⟨wl_t3 170 rfl rfl, wl_t1 9 rfl rfl, by decide, ⟨by decide, by decide⟩, by decide⟩
set_option maxRecDepth 100000 in
theorem inX5_begin : Cond.instanceMethod yX5_begin ∈ WL := wl_t3 168 rfl rfl
set_option maxRecDepth 100000 in
theorem slX5_begin : Cond.selects yX5_begin.cls yX5_begin yX5_begin ∈ WL := wl_t3 169 rfl rfl
set_option maxRecDepth 100000 in
theorem caX5_copyFrom : CaOK mX5_copyFrom := ⟨wl_t4 46 rfl rfl, wl_t1 9 rfl rfl, by decide, ⟨by decide, by decide⟩, by decide⟩
set_option maxRecDepth 100000 in
theorem inX5_copyFrom : Cond.instanceMethod yX5_copyFrom ∈ WL := wl_t4 44 rfl rfl
set_option maxRecDepth 100000 in
theorem slX5_copyFrom : Cond.selects yX5_copyFrom.cls yX5_copyFrom yX5_copyFrom ∈ WL := wl_t4 45 rfl rfl
set_option maxRecDepth 100000 in
theorem caX5_isDead : CaOK mX5_isDead := ⟨wl_t4 8 rfl rfl, wl_t1 9 rfl rfl, by decide, ⟨by decide, by decide⟩, by decide⟩
set_option maxRecDepth 100000 in
theorem inX5_isDead : Cond.instanceMethod yX5_isDead ∈ WL := wl_t4 6 rfl rfl
set_option maxRecDepth 100000 in
theorem slX5_isDead : Cond.selects yX5_isDead.cls yX5_isDead yX5_isDead ∈ WL := wl_t4 7 rfl rfl
set_option maxRecDepth 100000 in
theorem caX5_isSold : CaOK mX5_isSold := ⟨wl_t3 186 rfl rfl, wl_t1 9 rfl rfl, by decide, ⟨by decide, by decide⟩, by decide⟩
set_option maxRecDepth 100000 in
theorem inX5_isSold : Cond.instanceMethod yX5_isSold ∈ WL := wl_t3 184 rfl rfl
set_option maxRecDepth 100000 in
theorem slX5_isSold : Cond.selects yX5_isSold.cls yX5_isSold yX5_isSold ∈ WL := wl_t3 185 rfl rfl
set_option maxRecDepth 100000 in
theorem caX5_isIn : CaOK mX5_isIn := ⟨wl_t4 4 rfl rfl, wl_t1 9 rfl rfl, by decide, ⟨by decide, by decide⟩, by decide⟩
set_option maxRecDepth 100000 in
theorem inX5_isIn : Cond.instanceMethod yX5_isIn ∈ WL := wl_t4 2 rfl rfl
set_option maxRecDepth 100000 in
theorem slX5_isIn : Cond.selects yX5_isIn.cls yX5_isIn yX5_isIn ∈ WL := wl_t4 3 rfl rfl
set_option maxRecDepth 100000 in
theorem caX5_whereIs : CaOK mX5_whereIs := ⟨wl_t4 0 rfl rfl, wl_t1 9 rfl rfl, by decide, ⟨by decide, by decide⟩, by decide⟩
set_option maxRecDepth 100000 in
theorem inX5_whereIs : Cond.instanceMethod yX5_whereIs ∈ WL := wl_t3 238 rfl rfl
set_option maxRecDepth 100000 in
theorem slX5_whereIs : Cond.selects yX5_whereIs.cls yX5_whereIs yX5_whereIs ∈ WL := wl_t3 239 rfl rfl
set_option maxRecDepth 100000 in
theorem caX5_takeOut : CaOK mX5_takeOut := ⟨wl_t4 55 rfl rfl, wl_t1 9 rfl rfl, by decide, ⟨by decide, by decide⟩, by decide⟩
set_option maxRecDepth 100000 in
theorem inX5_takeOut : Cond.instanceMethod yX5_takeOut ∈ WL := wl_t4 53 rfl rfl
set_option maxRecDepth 100000 in
theorem slX5_takeOut : Cond.selects yX5_takeOut.cls yX5_takeOut yX5_takeOut ∈ WL := wl_t4 54 rfl rfl
set_option maxRecDepth 100000 in
theorem caX5_allIn : CaOK mX5_allIn := ⟨wl_t5 95 rfl rfl, wl_t1 9 rfl rfl, by decide, ⟨by decide, by decide⟩, by decide⟩
set_option maxRecDepth 100000 in
theorem inX5_allIn : Cond.instanceMethod yX5_allIn ∈ WL := wl_t5 93 rfl rfl
set_option maxRecDepth 100000 in
theorem slX5_allIn : Cond.selects yX5_allIn.cls yX5_allIn yX5_allIn ∈ WL := wl_t5 94 rfl rfl
set_option maxRecDepth 100000 in
theorem caX5_alive : CaOK mX5_alive := ⟨wl_t4 149 rfl rfl, wl_t1 9 rfl rfl, by decide, ⟨by decide, by decide⟩, by decide⟩
set_option maxRecDepth 100000 in
theorem inX5_alive : Cond.instanceMethod yX5_alive ∈ WL := wl_t4 147 rfl rfl
set_option maxRecDepth 100000 in
theorem slX5_alive : Cond.selects yX5_alive.cls yX5_alive yX5_alive ∈ WL := wl_t4 148 rfl rfl
set_option maxRecDepth 100000 in
theorem caX6_init : CaOK mX6_init := ⟨wl_t1 33 rfl rfl, wl_t1 2 rfl rfl, by decide, ⟨by decide, by decide⟩, by decide⟩
set_option maxRecDepth 100000 in
theorem inX6_init : Cond.instanceMethod yX6_init ∈ WL := wl_t1 32 rfl rfl
set_option maxRecDepth 100000 in
theorem caX6_hasRoomFor : CaOK mX6_hasRoomFor := ⟨wl_t2 200 rfl rfl, wl_t1 2 rfl rfl, by decide, ⟨by decide, by decide⟩, by decide⟩
set_option maxRecDepth 100000 in
theorem inX6_hasRoomFor : Cond.instanceMethod yX6_hasRoomFor ∈ WL := wl_t2 198 rfl rfl
set_option maxRecDepth 100000 in
theorem slX6_hasRoomFor : Cond.selects yX6_hasRoomFor.cls yX6_hasRoomFor yX6_hasRoomFor ∈ WL := wl_t2 199 rfl rfl
set_option maxRecDepth 100000 in
theorem caX6_addFour : CaOK mX6_addFour := ⟨wl_t2 204 rfl rfl, wl_t1 2 rfl rfl, by decide, ⟨by decide, by decide⟩, by decide⟩
set_option maxRecDepth 100000 in
theorem inX6_addFour : Cond.instanceMethod yX6_addFour ∈ WL := wl_t2 202 rfl rfl
set_option maxRecDepth 100000 in
theorem slX6_addFour : Cond.selects yX6_addFour.cls yX6_addFour yX6_addFour ∈ WL := wl_t2 203 rfl rfl
set_option maxRecDepth 100000 in
theorem caX7_init : CaOK mX7_init := ⟨wl_t2 25 rfl rfl, wl_t1 14 rfl rfl, by decide, ⟨by decide, by decide⟩, by decide⟩
set_option maxRecDepth 100000 in
theorem inX7_init : Cond.instanceMethod yX7_init ∈ WL := wl_t2 24 rfl rfl
set_option maxRecDepth 100000 in
theorem caX7_begin : CaOK mX7_begin := ⟨wl_t2 49 rfl rfl, wl_t1 14 rfl rfl, by decide, ⟨by decide, by decide⟩, by decide⟩
set_option maxRecDepth 100000 in
theorem inX7_begin : Cond.instanceMethod yX7_begin ∈ WL := wl_t2 47 rfl rfl
set_option maxRecDepth 100000 in
theorem slX7_begin : Cond.selects yX7_begin.cls yX7_begin yX7_begin ∈ WL := wl_t2 48 rfl rfl
set_option maxRecDepth 100000 in
theorem caX7_addSunday : CaOK mX7_addSunday := ⟨wl_t3 122 rfl rfl, wl_t1 14 rfl rfl, by decide, ⟨by decide, by decide⟩, by decide⟩
set_option maxRecDepth 100000 in
theorem inX7_addSunday : Cond.instanceMethod yX7_addSunday ∈ WL := wl_t3 120 rfl rfl
set_option maxRecDepth 100000 in
theorem slX7_addSunday : Cond.selects yX7_addSunday.cls yX7_addSunday yX7_addSunday ∈ WL := wl_t3 121 rfl rfl
set_option maxRecDepth 100000 in
theorem caX7_addGuest : CaOK mX7_addGuest := ⟨wl_t3 130 rfl rfl, wl_t1 14 rfl rfl, by decide, ⟨by decide, by decide⟩, by decide⟩
set_option maxRecDepth 100000 in
theorem inX7_addGuest : Cond.instanceMethod yX7_addGuest ∈ WL := wl_t3 128 rfl rfl
set_option maxRecDepth 100000 in
theorem slX7_addGuest : Cond.selects yX7_addGuest.cls yX7_addGuest yX7_addGuest ∈ WL := wl_t3 129 rfl rfl
set_option maxRecDepth 100000 in
theorem caX7_addFoes : CaOK mX7_addFoes := ⟨wl_t3 143 rfl rfl, wl_t1 14 rfl rfl, by decide, ⟨by decide, by decide⟩, by decide⟩
set_option maxRecDepth 100000 in
theorem inX7_addFoes : Cond.instanceMethod yX7_addFoes ∈ WL := wl_t3 141 rfl rfl
set_option maxRecDepth 100000 in
theorem slX7_addFoes : Cond.selects yX7_addFoes.cls yX7_addFoes yX7_addFoes ∈ WL := wl_t3 142 rfl rfl
set_option maxRecDepth 100000 in
theorem caX7_areFoes : CaOK mX7_areFoes := ⟨wl_t3 139 rfl rfl, wl_t1 14 rfl rfl, by decide, ⟨by decide, by decide⟩, by decide⟩
set_option maxRecDepth 100000 in
theorem inX7_areFoes : Cond.instanceMethod yX7_areFoes ∈ WL := wl_t3 137 rfl rfl
set_option maxRecDepth 100000 in
theorem slX7_areFoes : Cond.selects yX7_areFoes.cls yX7_areFoes yX7_areFoes ∈ WL := wl_t3 138 rfl rfl
set_option maxRecDepth 100000 in
theorem caX7_isNamed : CaOK mX7_isNamed := ⟨wl_t3 102 rfl rfl, wl_t1 14 rfl rfl, by decide, ⟨by decide, by decide⟩, by decide⟩
set_option maxRecDepth 100000 in
theorem inX7_isNamed : Cond.instanceMethod yX7_isNamed ∈ WL := wl_t3 100 rfl rfl
set_option maxRecDepth 100000 in
theorem slX7_isNamed : Cond.selects yX7_isNamed.cls yX7_isNamed yX7_isNamed ∈ WL := wl_t3 101 rfl rfl
set_option maxRecDepth 100000 in
theorem caX7_guestNamed : CaOK mX7_guestNamed := ⟨wl_t3 106 rfl rfl, wl_t1 14 rfl rfl, by decide, ⟨by decide, by decide⟩, by decide⟩
set_option maxRecDepth 100000 in
theorem inX7_guestNamed : Cond.instanceMethod yX7_guestNamed ∈ WL := wl_t3 104 rfl rfl
set_option maxRecDepth 100000 in
theorem slX7_guestNamed : Cond.selects yX7_guestNamed.cls yX7_guestNamed yX7_guestNamed ∈ WL := wl_t3 105 rfl rfl
set_option maxRecDepth 100000 in
theorem caX7_findClashes : CaOK mX7_findClashes := ⟨wl_t2 69 rfl rfl, wl_t1 14 rfl rfl, by decide, ⟨by decide, by decide⟩, by decide⟩
set_option maxRecDepth 100000 in
theorem inX7_findClashes : Cond.instanceMethod yX7_findClashes ∈ WL := wl_t2 67 rfl rfl
set_option maxRecDepth 100000 in
theorem slX7_findClashes : Cond.selects yX7_findClashes.cls yX7_findClashes yX7_findClashes ∈ WL := wl_t2 68 rfl rfl
set_option maxRecDepth 100000 in
theorem caX7_isPeaceful : CaOK mX7_isPeaceful := ⟨wl_t2 73 rfl rfl, wl_t1 14 rfl rfl, by decide, ⟨by decide, by decide⟩, by decide⟩
set_option maxRecDepth 100000 in
theorem inX7_isPeaceful : Cond.instanceMethod yX7_isPeaceful ∈ WL := wl_t2 72 rfl rfl
set_option maxRecDepth 100000 in
theorem slX7_isPeaceful : Cond.selects yX7_isPeaceful.cls yX7_isPeaceful yX7_isPeaceful ∈ WL := wl_s 1 (by decide +kernel) rfl
set_option maxRecDepth 100000 in
theorem caX7_spanOf : CaOK mX7_spanOf := ⟨wl_t3 202 rfl rfl, wl_t1 14 rfl rfl, by decide, ⟨by decide, by decide⟩, by decide⟩
set_option maxRecDepth 100000 in
theorem inX7_spanOf : Cond.instanceMethod yX7_spanOf ∈ WL := wl_t3 200 rfl rfl
set_option maxRecDepth 100000 in
theorem slX7_spanOf : Cond.selects yX7_spanOf.cls yX7_spanOf yX7_spanOf ∈ WL := wl_t3 201 rfl rfl
set_option maxRecDepth 100000 in
theorem caX7_hoursOf : CaOK mX7_hoursOf := ⟨wl_t3 198 rfl rfl, wl_t1 14 rfl rfl, by decide, ⟨by decide, by decide⟩, by decide⟩
set_option maxRecDepth 100000 in
theorem inX7_hoursOf : Cond.instanceMethod yX7_hoursOf ∈ WL := wl_t3 196 rfl rfl
set_option maxRecDepth 100000 in
theorem slX7_hoursOf : Cond.selects yX7_hoursOf.cls yX7_hoursOf yX7_hoursOf ∈ WL := wl_t3 197 rfl rfl
set_option maxRecDepth 100000 in
theorem caX7_isThere : CaOK mX7_isThere := ⟨wl_t4 26 rfl rfl, wl_t1 14 rfl rfl, by decide, ⟨by decide, by decide⟩, by decide⟩
set_option maxRecDepth 100000 in
theorem inX7_isThere : Cond.instanceMethod yX7_isThere ∈ WL := wl_t4 24 rfl rfl
set_option maxRecDepth 100000 in
theorem slX7_isThere : Cond.selects yX7_isThere.cls yX7_isThere yX7_isThere ∈ WL := wl_t4 25 rfl rfl
set_option maxRecDepth 100000 in
theorem caX7_isLongEnough : CaOK mX7_isLongEnough := ⟨wl_t4 38 rfl rfl, wl_t1 14 rfl rfl, by decide, ⟨by decide, by decide⟩, by decide⟩
set_option maxRecDepth 100000 in
theorem inX7_isLongEnough : Cond.instanceMethod yX7_isLongEnough ∈ WL := wl_t4 36 rfl rfl
set_option maxRecDepth 100000 in
theorem slX7_isLongEnough : Cond.selects yX7_isLongEnough.cls yX7_isLongEnough yX7_isLongEnough ∈ WL := wl_t4 37 rfl rfl
set_option maxRecDepth 100000 in
theorem caX8_init : CaOK mX8_init := ⟨wl_t1 56 rfl rfl, wl_t1 4 rfl rfl, by decide, ⟨by decide, by decide⟩, by decide⟩
set_option maxRecDepth 100000 in
theorem inX8_init : Cond.instanceMethod yX8_init ∈ WL := wl_t1 55 rfl rfl
set_option maxRecDepth 100000 in
theorem caX8_cut : CaOK mX8_cut := ⟨wl_t2 221 rfl rfl, wl_t1 4 rfl rfl, by decide, ⟨by decide, by decide⟩, by decide⟩
set_option maxRecDepth 100000 in
theorem inX8_cut : Cond.instanceMethod yX8_cut ∈ WL := wl_t2 219 rfl rfl
set_option maxRecDepth 100000 in
theorem slX8_cut : Cond.selects yX8_cut.cls yX8_cut yX8_cut ∈ WL := wl_t2 220 rfl rfl
set_option maxRecDepth 100000 in
theorem caX8_behindBlanks : CaOK mX8_behindBlanks := ⟨wl_t2 225 rfl rfl, wl_t1 4 rfl rfl, by decide, ⟨by decide, by decide⟩, by decide⟩
set_option maxRecDepth 100000 in
theorem inX8_behindBlanks : Cond.instanceMethod yX8_behindBlanks ∈ WL := wl_t2 224 rfl rfl
set_option maxRecDepth 100000 in
theorem slX8_behindBlanks : Cond.selects yX8_behindBlanks.cls yX8_behindBlanks yX8_behindBlanks ∈ WL := wl_s 2 (by decide +kernel) rfl
set_option maxRecDepth 100000 in
theorem caX8_cutOne : CaOK mX8_cutOne := ⟨wl_t2 232 rfl rfl, wl_t1 4 rfl rfl, by decide, ⟨by decide, by decide⟩, by decide⟩
set_option maxRecDepth 100000 in
theorem inX8_cutOne : Cond.instanceMethod yX8_cutOne ∈ WL := wl_t2 231 rfl rfl
set_option maxRecDepth 100000 in
theorem slX8_cutOne : Cond.selects yX8_cutOne.cls yX8_cutOne yX8_cutOne ∈ WL := wl_s 3 (by decide +kernel) rfl
set_option maxRecDepth 100000 in
theorem caX8_cutLetters : CaOK mX8_cutLetters := ⟨wl_t2 239 rfl rfl, wl_t1 4 rfl rfl, by decide, ⟨by decide, by decide⟩, by decide⟩
set_option maxRecDepth 100000 in
theorem inX8_cutLetters : Cond.instanceMethod yX8_cutLetters ∈ WL := wl_t2 238 rfl rfl
set_option maxRecDepth 100000 in
theorem slX8_cutLetters : Cond.selects yX8_cutLetters.cls yX8_cutLetters yX8_cutLetters ∈ WL := wl_s 4 (by decide +kernel) rfl
set_option maxRecDepth 100000 in
theorem caX8_cutDigits : CaOK mX8_cutDigits := ⟨wl_t3 14 rfl rfl, wl_t1 4 rfl rfl, by decide, ⟨by decide, by decide⟩, by decide⟩
set_option maxRecDepth 100000 in
theorem inX8_cutDigits : Cond.instanceMethod yX8_cutDigits ∈ WL := wl_t3 13 rfl rfl
set_option maxRecDepth 100000 in
theorem slX8_cutDigits : Cond.selects yX8_cutDigits.cls yX8_cutDigits yX8_cutDigits ∈ WL := wl_s 7 (by decide +kernel) rfl
set_option maxRecDepth 100000 in
theorem caX8_kindOf : CaOK mX8_kindOf := ⟨wl_t3 3 rfl rfl, wl_t1 4 rfl rfl, by decide, ⟨by decide, by decide⟩, by decide⟩
set_option maxRecDepth 100000 in
theorem inX8_kindOf : Cond.instanceMethod yX8_kindOf ∈ WL := wl_t3 2 rfl rfl
set_option maxRecDepth 100000 in
theorem slX8_kindOf : Cond.selects yX8_kindOf.cls yX8_kindOf yX8_kindOf ∈ WL := wl_s 5 (by decide +kernel) rfl
set_option maxRecDepth 100000 in
theorem caX8_add : CaOK mX8_add := ⟨wl_t3 7 rfl rfl, wl_t1 4 rfl rfl, by decide, ⟨by decide, by decide⟩, by decide⟩
set_option maxRecDepth 100000 in
theorem inX8_add : Cond.instanceMethod yX8_add ∈ WL := wl_t3 6 rfl rfl
set_option maxRecDepth 100000 in
theorem slX8_add : Cond.selects yX8_add.cls yX8_add yX8_add ∈ WL := wl_s 6 (by decide +kernel) rfl
set_option maxRecDepth 100000 in
theorem caX8_isBlank : CaOK mX8_isBlank := ⟨wl_t2 228 rfl rfl, wl_t1 4 rfl rfl, by decide, ⟨by decide, by decide⟩, by decide⟩
set_option maxRecDepth 100000 in
theorem stX8_isBlank : Cond.static yX8_isBlank ∈ WL := wl_t2 227 rfl rfl
set_option maxRecDepth 100000 in
theorem caX8_isLetter : CaOK mX8_isLetter := ⟨wl_t2 235 rfl rfl, wl_t1 4 rfl rfl, by decide, ⟨by decide, by decide⟩, by decide⟩
set_option maxRecDepth 100000 in
theorem stX8_isLetter : Cond.static yX8_isLetter ∈ WL := wl_t2 234 rfl rfl
set_option maxRecDepth 100000 in
theorem caX8_isDigit : CaOK mX8_isDigit := ⟨wl_t3 10 rfl rfl, wl_t1 4 rfl rfl, by decide, ⟨by decide, by decide⟩, by decide⟩
set_option maxRecDepth 100000 in
theorem stX8_isDigit : Cond.static yX8_isDigit ∈ WL := wl_t3 9 rfl rfl
set_option maxRecDepth 100000 in
theorem caX9_init : CaOK mX9_init := ⟨wl_t1 194 rfl rfl, wl_t1 10 rfl rfl, by decide, ⟨by decide, by decide⟩, by decide⟩
set_option maxRecDepth 100000 in
theorem inX9_init : Cond.instanceMethod yX9_init ∈ WL := wl_t1 193 rfl rfl
set_option maxRecDepth 100000 in
theorem caX9_keep : CaOK mX9_keep := ⟨wl_t4 42 rfl rfl, wl_t1 10 rfl rfl, by decide, ⟨by decide, by decide⟩, by decide⟩
set_option maxRecDepth 100000 in
theorem inX9_keep : Cond.instanceMethod yX9_keep ∈ WL := wl_t4 40 rfl rfl
set_option maxRecDepth 100000 in
theorem slX9_keep : Cond.selects yX9_keep.cls yX9_keep yX9_keep ∈ WL := wl_t4 41 rfl rfl
set_option maxRecDepth 100000 in
theorem caX9_takeBack : CaOK mX9_takeBack := ⟨wl_t4 105 rfl rfl, wl_t1 10 rfl rfl, by decide, ⟨by decide, by decide⟩, by decide⟩
set_option maxRecDepth 100000 in
theorem inX9_takeBack : Cond.instanceMethod yX9_takeBack ∈ WL := wl_t4 103 rfl rfl
set_option maxRecDepth 100000 in
theorem slX9_takeBack : Cond.selects yX9_takeBack.cls yX9_takeBack yX9_takeBack ∈ WL := wl_t4 104 rfl rfl
set_option maxRecDepth 100000 in
theorem caX10_init : CaOK mX10_init := ⟨wl_t1 25 rfl rfl, wl_t1 1 rfl rfl, by decide, ⟨by decide, by decide⟩, by decide⟩
set_option maxRecDepth 100000 in
theorem inX10_init : Cond.instanceMethod yX10_init ∈ WL := wl_t1 24 rfl rfl
set_option maxRecDepth 100000 in
theorem caX10_feed : CaOK mX10_feed := ⟨wl_t2 196 rfl rfl, wl_t1 1 rfl rfl, by decide, ⟨by decide, by decide⟩, by decide⟩
set_option maxRecDepth 100000 in
theorem inX10_feed : Cond.instanceMethod yX10_feed ∈ WL := wl_t2 194 rfl rfl
set_option maxRecDepth 100000 in
theorem slX10_feed : Cond.selects yX10_feed.cls yX10_feed yX10_feed ∈ WL := wl_t2 195 rfl rfl
set_option maxRecDepth 100000 in
theorem caX10_back : CaOK mX10_back := ⟨wl_t2 208 rfl rfl, wl_t1 1 rfl rfl, by decide, ⟨by decide, by decide⟩, by decide⟩
set_option maxRecDepth 100000 in
theorem inX10_back : Cond.instanceMethod yX10_back ∈ WL := wl_t2 206 rfl rfl
set_option maxRecDepth 100000 in
theorem slX10_back : Cond.selects yX10_back.cls yX10_back yX10_back ∈ WL := wl_t2 207 rfl rfl
set_option maxRecDepth 100000 in
theorem caX10_read : CaOK mX10_read := ⟨wl_t2 212 rfl rfl, wl_t1 1 rfl rfl, by decide, ⟨by decide, by decide⟩, by decide⟩
set_option maxRecDepth 100000 in
theorem inX10_read : Cond.instanceMethod yX10_read ∈ WL := wl_t2 210 rfl rfl
set_option maxRecDepth 100000 in
theorem slX10_read : Cond.selects yX10_read.cls yX10_read yX10_read ∈ WL := wl_t2 211 rfl rfl
set_option maxRecDepth 100000 in
theorem caX10_place : CaOK mX10_place := ⟨wl_t3 174 rfl rfl, wl_t1 1 rfl rfl, by decide, ⟨by decide, by decide⟩, by decide⟩
set_option maxRecDepth 100000 in
theorem inX10_place : Cond.instanceMethod yX10_place ∈ WL := wl_t3 172 rfl rfl
set_option maxRecDepth 100000 in
theorem slX10_place : Cond.selects yX10_place.cls yX10_place yX10_place ∈ WL := wl_t3 173 rfl rfl
set_option maxRecDepth 100000 in
theorem caX10_sunday : CaOK mX10_sunday := ⟨wl_t3 178 rfl rfl, wl_t1 1 rfl rfl, by decide, ⟨by decide, by decide⟩, by decide⟩
set_option maxRecDepth 100000 in
theorem inX10_sunday : Cond.instanceMethod yX10_sunday ∈ WL := wl_t3 176 rfl rfl
set_option maxRecDepth 100000 in
theorem slX10_sunday : Cond.selects yX10_sunday.cls yX10_sunday yX10_sunday ∈ WL := wl_t3 177 rfl rfl
set_option maxRecDepth 100000 in
theorem caX10_guest : CaOK mX10_guest := ⟨wl_t3 232 rfl rfl, wl_t1 1 rfl rfl, by decide, ⟨by decide, by decide⟩, by decide⟩
set_option maxRecDepth 100000 in
theorem inX10_guest : Cond.instanceMethod yX10_guest ∈ WL := wl_t3 230 rfl rfl
set_option maxRecDepth 100000 in
theorem slX10_guest : Cond.selects yX10_guest.cls yX10_guest yX10_guest ∈ WL := wl_t3 231 rfl rfl
set_option maxRecDepth 100000 in
theorem caX10_at : CaOK mX10_at := ⟨wl_t4 21 rfl rfl, wl_t1 1 rfl rfl, by decide, ⟨by decide, by decide⟩, by decide⟩
set_option maxRecDepth 100000 in
theorem inX10_at : Cond.instanceMethod yX10_at ∈ WL := wl_t4 19 rfl rfl
set_option maxRecDepth 100000 in
theorem slX10_at : Cond.selects yX10_at.cls yX10_at yX10_at ∈ WL := wl_t4 20 rfl rfl
set_option maxRecDepth 100000 in
theorem caX10_letIn : CaOK mX10_letIn := ⟨wl_t4 30 rfl rfl, wl_t1 1 rfl rfl, by decide, ⟨by decide, by decide⟩, by decide⟩
set_option maxRecDepth 100000 in
theorem inX10_letIn : Cond.instanceMethod yX10_letIn ∈ WL := wl_t4 28 rfl rfl
set_option maxRecDepth 100000 in
theorem slX10_letIn : Cond.selects yX10_letIn.cls yX10_letIn yX10_letIn ∈ WL := wl_t4 29 rfl rfl
set_option maxRecDepth 100000 in
theorem caX10_putOut : CaOK mX10_putOut := ⟨wl_t4 51 rfl rfl, wl_t1 1 rfl rfl, by decide, ⟨by decide, by decide⟩, by decide⟩
set_option maxRecDepth 100000 in
theorem inX10_putOut : Cond.instanceMethod yX10_putOut ∈ WL := wl_t4 49 rfl rfl
set_option maxRecDepth 100000 in
theorem slX10_putOut : Cond.selects yX10_putOut.cls yX10_putOut yX10_putOut ∈ WL := wl_t4 50 rfl rfl
set_option maxRecDepth 100000 in
theorem caX10_sell : CaOK mX10_sell := ⟨wl_t4 59 rfl rfl, wl_t1 1 rfl rfl, by decide, ⟨by decide, by decide⟩, by decide⟩
set_option maxRecDepth 100000 in
theorem inX10_sell : Cond.instanceMethod yX10_sell ∈ WL := wl_t4 57 rfl rfl
set_option maxRecDepth 100000 in
theorem slX10_sell : Cond.selects yX10_sell.cls yX10_sell yX10_sell ∈ WL := wl_t4 58 rfl rfl
set_option maxRecDepth 100000 in
theorem caX10_air : CaOK mX10_air := ⟨wl_t4 63 rfl rfl, wl_t1 1 rfl rfl, by decide, ⟨by decide, by decide⟩, by decide⟩
set_option maxRecDepth 100000 in
theorem inX10_air : Cond.instanceMethod yX10_air ∈ WL := wl_t4 61 rfl rfl
set_option maxRecDepth 100000 in
theorem slX10_air : Cond.selects yX10_air.cls yX10_air yX10_air ∈ WL := wl_t4 62 rfl rfl
set_option maxRecDepth 100000 in
theorem caX10_weeks : CaOK mX10_weeks := ⟨wl_t4 67 rfl rfl, wl_t1 1 rfl rfl, by decide, ⟨by decide, by decide⟩, by decide⟩
set_option maxRecDepth 100000 in
theorem inX10_weeks : Cond.instanceMethod yX10_weeks ∈ WL := wl_t4 65 rfl rfl
set_option maxRecDepth 100000 in
theorem slX10_weeks : Cond.selects yX10_weeks.cls yX10_weeks yX10_weeks ∈ WL := wl_t4 66 rfl rfl
set_option maxRecDepth 100000 in
theorem caX10_undo : CaOK mX10_undo := ⟨wl_t4 101 rfl rfl, wl_t1 1 rfl rfl, by decide, ⟨by decide, by decide⟩, by decide⟩
set_option maxRecDepth 100000 in
theorem inX10_undo : Cond.instanceMethod yX10_undo ∈ WL := wl_t4 99 rfl rfl
set_option maxRecDepth 100000 in
theorem slX10_undo : Cond.selects yX10_undo.cls yX10_undo yX10_undo ∈ WL := wl_t4 100 rfl rfl
set_option maxRecDepth 100000 in
theorem caX10_alone : CaOK mX10_alone := ⟨wl_t4 109 rfl rfl, wl_t1 1 rfl rfl, by decide, ⟨by decide, by decide⟩, by decide⟩
set_option maxRecDepth 100000 in
theorem inX10_alone : Cond.instanceMethod yX10_alone ∈ WL := wl_t4 107 rfl rfl
set_option maxRecDepth 100000 in
theorem slX10_alone : Cond.selects yX10_alone.cls yX10_alone yX10_alone ∈ WL := wl_t4 108 rfl rfl
set_option maxRecDepth 100000 in
theorem caX10_letting : CaOK mX10_letting := ⟨wl_t4 136 rfl rfl, wl_t1 1 rfl rfl, by decide, ⟨by decide, by decide⟩, by decide⟩
set_option maxRecDepth 100000 in
theorem inX10_letting : Cond.instanceMethod yX10_letting ∈ WL := wl_t4 134 rfl rfl
set_option maxRecDepth 100000 in
theorem slX10_letting : Cond.selects yX10_letting.cls yX10_letting yX10_letting ∈ WL := wl_t4 135 rfl rfl
set_option maxRecDepth 100000 in
theorem caX10_fewest : CaOK mX10_fewest := ⟨wl_t4 161 rfl rfl, wl_t1 1 rfl rfl, by decide, ⟨by decide, by decide⟩, by decide⟩
set_option maxRecDepth 100000 in
theorem inX10_fewest : Cond.instanceMethod yX10_fewest ∈ WL := wl_t4 159 rfl rfl
set_option maxRecDepth 100000 in
theorem slX10_fewest : Cond.selects yX10_fewest.cls yX10_fewest yX10_fewest ∈ WL := wl_t4 160 rfl rfl
set_option maxRecDepth 100000 in
theorem caX10_colours : CaOK mX10_colours := ⟨wl_t4 177 rfl rfl, wl_t1 1 rfl rfl, by decide, ⟨by decide, by decide⟩, by decide⟩
set_option maxRecDepth 100000 in
theorem inX10_colours : Cond.instanceMethod yX10_colours ∈ WL := wl_t4 175 rfl rfl
set_option maxRecDepth 100000 in
theorem slX10_colours : Cond.selects yX10_colours.cls yX10_colours yX10_colours ∈ WL := wl_t4 176 rfl rfl
set_option maxRecDepth 100000 in
theorem caX10_tangle : CaOK mX10_tangle := ⟨wl_t4 185 rfl rfl, wl_t1 1 rfl rfl, by decide, ⟨by decide, by decide⟩, by decide⟩
set_option maxRecDepth 100000 in
theorem inX10_tangle : Cond.instanceMethod yX10_tangle ∈ WL := wl_t4 183 rfl rfl
set_option maxRecDepth 100000 in
theorem slX10_tangle : Cond.selects yX10_tangle.cls yX10_tangle yX10_tangle ∈ WL := wl_t4 184 rfl rfl
set_option maxRecDepth 100000 in
theorem caX10_fitting : CaOK mX10_fitting := ⟨wl_t4 198 rfl rfl, wl_t1 1 rfl rfl, by decide, ⟨by decide, by decide⟩, by decide⟩
set_option maxRecDepth 100000 in
theorem inX10_fitting : Cond.instanceMethod yX10_fitting ∈ WL := wl_t4 196 rfl rfl
set_option maxRecDepth 100000 in
theorem slX10_fitting : Cond.selects yX10_fitting.cls yX10_fitting yX10_fitting ∈ WL := wl_t4 197 rfl rfl
set_option maxRecDepth 100000 in
theorem caX10_row : CaOK mX10_row := ⟨wl_t4 206 rfl rfl, wl_t1 1 rfl rfl, by decide, ⟨by decide, by decide⟩, by decide⟩
set_option maxRecDepth 100000 in
theorem inX10_row : Cond.instanceMethod yX10_row ∈ WL := wl_t4 204 rfl rfl
set_option maxRecDepth 100000 in
theorem slX10_row : Cond.selects yX10_row.cls yX10_row yX10_row ∈ WL := wl_t4 205 rfl rfl
set_option maxRecDepth 100000 in
theorem caX10_change : CaOK mX10_change := ⟨wl_t4 214 rfl rfl, wl_t1 1 rfl rfl, by decide, ⟨by decide, by decide⟩, by decide⟩
set_option maxRecDepth 100000 in
theorem inX10_change : Cond.instanceMethod yX10_change ∈ WL := wl_t4 212 rfl rfl
set_option maxRecDepth 100000 in
theorem slX10_change : Cond.selects yX10_change.cls yX10_change yX10_change ∈ WL := wl_t4 213 rfl rfl
set_option maxRecDepth 100000 in
theorem caX10_payer : CaOK mX10_payer := ⟨wl_t4 218 rfl rfl, wl_t1 1 rfl rfl, by decide, ⟨by decide, by decide⟩, by decide⟩
set_option maxRecDepth 100000 in
theorem inX10_payer : Cond.instanceMethod yX10_payer ∈ WL := wl_t4 216 rfl rfl
set_option maxRecDepth 100000 in
theorem slX10_payer : Cond.selects yX10_payer.cls yX10_payer yX10_payer ∈ WL := wl_t4 217 rfl rfl
set_option maxRecDepth 100000 in
theorem caX10_idle : CaOK mX10_idle := ⟨wl_t4 222 rfl rfl, wl_t1 1 rfl rfl, by decide, ⟨by decide, by decide⟩, by decide⟩
set_option maxRecDepth 100000 in
theorem inX10_idle : Cond.instanceMethod yX10_idle ∈ WL := wl_t4 220 rfl rfl
set_option maxRecDepth 100000 in
theorem slX10_idle : Cond.selects yX10_idle.cls yX10_idle yX10_idle ∈ WL := wl_t4 221 rfl rfl
set_option maxRecDepth 100000 in
theorem caX10_used : CaOK mX10_used := ⟨wl_t4 227 rfl rfl, wl_t1 1 rfl rfl, by decide, ⟨by decide, by decide⟩, by decide⟩
set_option maxRecDepth 100000 in
theorem inX10_used : Cond.instanceMethod yX10_used ∈ WL := wl_t4 225 rfl rfl
set_option maxRecDepth 100000 in
theorem slX10_used : Cond.selects yX10_used.cls yX10_used yX10_used ∈ WL := wl_t4 226 rfl rfl
set_option maxRecDepth 100000 in
theorem caX10_first : CaOK mX10_first := ⟨wl_t4 236 rfl rfl, wl_t1 1 rfl rfl, by decide, ⟨by decide, by decide⟩, by decide⟩
set_option maxRecDepth 100000 in
theorem inX10_first : Cond.instanceMethod yX10_first ∈ WL := wl_t4 234 rfl rfl
set_option maxRecDepth 100000 in
theorem slX10_first : Cond.selects yX10_first.cls yX10_first yX10_first ∈ WL := wl_t4 235 rfl rfl
set_option maxRecDepth 100000 in
theorem caX10_gap : CaOK mX10_gap := ⟨wl_t5 4 rfl rfl, wl_t1 1 rfl rfl, by decide, ⟨by decide, by decide⟩, by decide⟩
set_option maxRecDepth 100000 in
theorem inX10_gap : Cond.instanceMethod yX10_gap ∈ WL := wl_t5 2 rfl rfl
set_option maxRecDepth 100000 in
theorem slX10_gap : Cond.selects yX10_gap.cls yX10_gap yX10_gap ∈ WL := wl_t5 3 rfl rfl
set_option maxRecDepth 100000 in
theorem caX10_room : CaOK mX10_room := ⟨wl_t5 9 rfl rfl, wl_t1 1 rfl rfl, by decide, ⟨by decide, by decide⟩, by decide⟩
set_option maxRecDepth 100000 in
theorem inX10_room : Cond.instanceMethod yX10_room ∈ WL := wl_t5 7 rfl rfl
set_option maxRecDepth 100000 in
theorem slX10_room : Cond.selects yX10_room.cls yX10_room yX10_room ∈ WL := wl_t5 8 rfl rfl
set_option maxRecDepth 100000 in
theorem caX10_price : CaOK mX10_price := ⟨wl_t5 13 rfl rfl, wl_t1 1 rfl rfl, by decide, ⟨by decide, by decide⟩, by decide⟩
set_option maxRecDepth 100000 in
theorem inX10_price : Cond.instanceMethod yX10_price ∈ WL := wl_t5 11 rfl rfl
set_option maxRecDepth 100000 in
theorem slX10_price : Cond.selects yX10_price.cls yX10_price yX10_price ∈ WL := wl_t5 12 rfl rfl
set_option maxRecDepth 100000 in
theorem caX10_best : CaOK mX10_best := ⟨wl_t5 17 rfl rfl, wl_t1 1 rfl rfl, by decide, ⟨by decide, by decide⟩, by decide⟩
set_option maxRecDepth 100000 in
theorem inX10_best : Cond.instanceMethod yX10_best ∈ WL := wl_t5 15 rfl rfl
set_option maxRecDepth 100000 in
theorem slX10_best : Cond.selects yX10_best.cls yX10_best yX10_best ∈ WL := wl_t5 16 rfl rfl
set_option maxRecDepth 100000 in
theorem caX10_weary : CaOK mX10_weary := ⟨wl_t5 21 rfl rfl, wl_t1 1 rfl rfl, by decide, ⟨by decide, by decide⟩, by decide⟩
set_option maxRecDepth 100000 in
theorem inX10_weary : Cond.instanceMethod yX10_weary ∈ WL := wl_t5 19 rfl rfl
set_option maxRecDepth 100000 in
theorem slX10_weary : Cond.selects yX10_weary.cls yX10_weary yX10_weary ∈ WL := wl_t5 20 rfl rfl
set_option maxRecDepth 100000 in
theorem caX10_earned : CaOK mX10_earned := ⟨wl_t5 25 rfl rfl, wl_t1 1 rfl rfl, by decide, ⟨by decide, by decide⟩, by decide⟩
set_option maxRecDepth 100000 in
theorem inX10_earned : Cond.instanceMethod yX10_earned ∈ WL := wl_t5 23 rfl rfl
set_option maxRecDepth 100000 in
theorem slX10_earned : Cond.selects yX10_earned.cls yX10_earned yX10_earned ∈ WL := wl_t5 24 rfl rfl
set_option maxRecDepth 100000 in
theorem caX10_rivals : CaOK mX10_rivals := ⟨wl_t5 29 rfl rfl, wl_t1 1 rfl rfl, by decide, ⟨by decide, by decide⟩, by decide⟩
set_option maxRecDepth 100000 in
theorem inX10_rivals : Cond.instanceMethod yX10_rivals ∈ WL := wl_t5 27 rfl rfl
set_option maxRecDepth 100000 in
theorem slX10_rivals : Cond.selects yX10_rivals.cls yX10_rivals yX10_rivals ∈ WL := wl_t5 28 rfl rfl
set_option maxRecDepth 100000 in
theorem caX10_then : CaOK mX10_then := ⟨wl_t5 33 rfl rfl, wl_t1 1 rfl rfl, by decide, ⟨by decide, by decide⟩, by decide⟩
set_option maxRecDepth 100000 in
theorem inX10_then : Cond.instanceMethod yX10_then ∈ WL := wl_t5 31 rfl rfl
set_option maxRecDepth 100000 in
theorem slX10_then : Cond.selects yX10_then.cls yX10_then yX10_then ∈ WL := wl_t5 32 rfl rfl
set_option maxRecDepth 100000 in
theorem caX10_wornIn : CaOK mX10_wornIn := ⟨wl_t5 37 rfl rfl, wl_t1 1 rfl rfl, by decide, ⟨by decide, by decide⟩, by decide⟩
set_option maxRecDepth 100000 in
theorem inX10_wornIn : Cond.instanceMethod yX10_wornIn ∈ WL := wl_t5 35 rfl rfl
set_option maxRecDepth 100000 in
theorem slX10_wornIn : Cond.selects yX10_wornIn.cls yX10_wornIn yX10_wornIn ∈ WL := wl_t5 36 rfl rfl
set_option maxRecDepth 100000 in
theorem caX10_year : CaOK mX10_year := ⟨wl_t5 41 rfl rfl, wl_t1 1 rfl rfl, by decide, ⟨by decide, by decide⟩, by decide⟩
set_option maxRecDepth 100000 in
theorem inX10_year : Cond.instanceMethod yX10_year ∈ WL := wl_t5 39 rfl rfl
set_option maxRecDepth 100000 in
theorem slX10_year : Cond.selects yX10_year.cls yX10_year yX10_year ∈ WL := wl_t5 40 rfl rfl
set_option maxRecDepth 100000 in
theorem caX10_tell : CaOK mX10_tell := ⟨wl_t5 45 rfl rfl, wl_t1 1 rfl rfl, by decide, ⟨by decide, by decide⟩, by decide⟩
set_option maxRecDepth 100000 in
theorem inX10_tell : Cond.instanceMethod yX10_tell ∈ WL := wl_t5 43 rfl rfl
set_option maxRecDepth 100000 in
theorem slX10_tell : Cond.selects yX10_tell.cls yX10_tell yX10_tell ∈ WL := wl_t5 44 rfl rfl
set_option maxRecDepth 100000 in
theorem caX10_forget : CaOK mX10_forget := ⟨wl_t5 53 rfl rfl, wl_t1 1 rfl rfl, by decide, ⟨by decide, by decide⟩, by decide⟩
set_option maxRecDepth 100000 in
theorem inX10_forget : Cond.instanceMethod yX10_forget ∈ WL := wl_t5 51 rfl rfl
set_option maxRecDepth 100000 in
theorem slX10_forget : Cond.selects yX10_forget.cls yX10_forget yX10_forget ∈ WL := wl_t5 52 rfl rfl
set_option maxRecDepth 100000 in
theorem caX10_whose : CaOK mX10_whose := ⟨wl_t5 57 rfl rfl, wl_t1 1 rfl rfl, by decide, ⟨by decide, by decide⟩, by decide⟩
set_option maxRecDepth 100000 in
theorem inX10_whose : Cond.instanceMethod yX10_whose ∈ WL := wl_t5 55 rfl rfl
set_option maxRecDepth 100000 in
theorem slX10_whose : Cond.selects yX10_whose.cls yX10_whose yX10_whose ∈ WL := wl_t5 56 rfl rfl
set_option maxRecDepth 100000 in
theorem caX10_look : CaOK mX10_look := ⟨wl_t5 70 rfl rfl, wl_t1 1 rfl rfl, by decide, ⟨by decide, by decide⟩, by decide⟩
set_option maxRecDepth 100000 in
theorem inX10_look : Cond.instanceMethod yX10_look ∈ WL := wl_t5 68 rfl rfl
set_option maxRecDepth 100000 in
theorem slX10_look : Cond.selects yX10_look.cls yX10_look yX10_look ∈ WL := wl_t5 69 rfl rfl
set_option maxRecDepth 100000 in
theorem caX10_hold : CaOK mX10_hold := ⟨wl_t5 83 rfl rfl, wl_t1 1 rfl rfl, by decide, ⟨by decide, by decide⟩, by decide⟩
set_option maxRecDepth 100000 in
theorem inX10_hold : Cond.instanceMethod yX10_hold ∈ WL := wl_t5 81 rfl rfl
set_option maxRecDepth 100000 in
theorem slX10_hold : Cond.selects yX10_hold.cls yX10_hold yX10_hold ∈ WL := wl_t5 82 rfl rfl
set_option maxRecDepth 100000 in
theorem caX10_restore : CaOK mX10_restore := ⟨wl_t5 87 rfl rfl, wl_t1 1 rfl rfl, by decide, ⟨by decide, by decide⟩, by decide⟩
set_option maxRecDepth 100000 in
theorem inX10_restore : Cond.instanceMethod yX10_restore ∈ WL := wl_t5 85 rfl rfl
set_option maxRecDepth 100000 in
theorem slX10_restore : Cond.selects yX10_restore.cls yX10_restore yX10_restore ∈ WL := wl_t5 86 rfl rfl
set_option maxRecDepth 100000 in
theorem caX10_count : CaOK mX10_count := ⟨wl_t5 91 rfl rfl, wl_t1 1 rfl rfl, by decide, ⟨by decide, by decide⟩, by decide⟩
set_option maxRecDepth 100000 in
theorem inX10_count : Cond.instanceMethod yX10_count ∈ WL := wl_t5 89 rfl rfl
set_option maxRecDepth 100000 in
theorem slX10_count : Cond.selects yX10_count.cls yX10_count yX10_count ∈ WL := wl_t5 90 rfl rfl
set_option maxRecDepth 100000 in
theorem caX10_isSunday : CaOK mX10_isSunday := ⟨wl_t3 182 rfl rfl, wl_t1 1 rfl rfl, by decide, ⟨by decide, by decide⟩, by decide⟩
set_option maxRecDepth 100000 in
theorem inX10_isSunday : Cond.instanceMethod yX10_isSunday ∈ WL := wl_t3 181 rfl rfl
set_option maxRecDepth 100000 in
theorem slX10_isSunday : Cond.selects yX10_isSunday.cls yX10_isSunday yX10_isSunday ∈ WL := wl_s 23 (by decide +kernel) rfl
set_option maxRecDepth 100000 in
theorem caX10_isGuest : CaOK mX10_isGuest := ⟨wl_t3 236 rfl rfl, wl_t1 1 rfl rfl, by decide, ⟨by decide, by decide⟩, by decide⟩
set_option maxRecDepth 100000 in
theorem inX10_isGuest : Cond.instanceMethod yX10_isGuest ∈ WL := wl_t3 235 rfl rfl
set_option maxRecDepth 100000 in
theorem slX10_isGuest : Cond.selects yX10_isGuest.cls yX10_isGuest yX10_isGuest ∈ WL := wl_s 26 (by decide +kernel) rfl
set_option maxRecDepth 100000 in
theorem caX10_isWeeks : CaOK mX10_isWeeks := ⟨wl_t4 71 rfl rfl, wl_t1 1 rfl rfl, by decide, ⟨by decide, by decide⟩, by decide⟩
set_option maxRecDepth 100000 in
theorem inX10_isWeeks : Cond.instanceMethod yX10_isWeeks ∈ WL := wl_t4 70 rfl rfl
set_option maxRecDepth 100000 in
theorem slX10_isWeeks : Cond.selects yX10_isWeeks.cls yX10_isWeeks yX10_isWeeks ∈ WL := wl_s 28 (by decide +kernel) rfl
set_option maxRecDepth 100000 in
theorem caX10_isOneOfTwo : CaOK mX10_isOneOfTwo := ⟨wl_t4 113 rfl rfl, wl_t1 1 rfl rfl, by decide, ⟨by decide, by decide⟩, by decide⟩
set_option maxRecDepth 100000 in
theorem inX10_isOneOfTwo : Cond.instanceMethod yX10_isOneOfTwo ∈ WL := wl_t4 112 rfl rfl
set_option maxRecDepth 100000 in
theorem slX10_isOneOfTwo : Cond.selects yX10_isOneOfTwo.cls yX10_isOneOfTwo yX10_isOneOfTwo ∈ WL := wl_s 32 (by decide +kernel) rfl
set_option maxRecDepth 100000 in
theorem caX10_couldGoIn : CaOK mX10_couldGoIn := ⟨wl_t4 34 rfl rfl, wl_t1 1 rfl rfl, by decide, ⟨by decide, by decide⟩, by decide⟩
set_option maxRecDepth 100000 in
theorem inX10_couldGoIn : Cond.instanceMethod yX10_couldGoIn ∈ WL := wl_t4 33 rfl rfl
set_option maxRecDepth 100000 in
theorem slX10_couldGoIn : Cond.selects yX10_couldGoIn.cls yX10_couldGoIn yX10_couldGoIn ∈ WL := wl_s 27 (by decide +kernel) rfl
set_option maxRecDepth 100000 in
theorem caX10_sundaysFitting : CaOK mX10_sundaysFitting := ⟨wl_t4 202 rfl rfl, wl_t1 1 rfl rfl, by decide, ⟨by decide, by decide⟩, by decide⟩
set_option maxRecDepth 100000 in
theorem inX10_sundaysFitting : Cond.instanceMethod yX10_sundaysFitting ∈ WL := wl_t4 201 rfl rfl
set_option maxRecDepth 100000 in
theorem slX10_sundaysFitting : Cond.selects yX10_sundaysFitting.cls yX10_sundaysFitting yX10_sundaysFitting ∈ WL := wl_s 36 (by decide +kernel) rfl
set_option maxRecDepth 100000 in
theorem caX10_earlierOnes : CaOK mX10_earlierOnes := ⟨wl_t4 210 rfl rfl, wl_t1 1 rfl rfl, by decide, ⟨by decide, by decide⟩, by decide⟩
set_option maxRecDepth 100000 in
theorem inX10_earlierOnes : Cond.instanceMethod yX10_earlierOnes ∈ WL := wl_t4 209 rfl rfl
set_option maxRecDepth 100000 in
theorem slX10_earlierOnes : Cond.selects yX10_earlierOnes.cls yX10_earlierOnes yX10_earlierOnes ∈ WL := wl_s 37 (by decide +kernel) rfl
set_option maxRecDepth 100000 in
theorem caX10_firstWeary : CaOK mX10_firstWeary := ⟨wl_t5 0 rfl rfl, wl_t1 1 rfl rfl, by decide, ⟨by decide, by decide⟩, by decide⟩
set_option maxRecDepth 100000 in
theorem inX10_firstWeary : Cond.instanceMethod yX10_firstWeary ∈ WL := wl_t4 239 rfl rfl
set_option maxRecDepth 100000 in
theorem slX10_firstWeary : Cond.selects yX10_firstWeary.cls yX10_firstWeary yX10_firstWeary ∈ WL := wl_s 38 (by decide +kernel) rfl
set_option maxRecDepth 100000 in
theorem caX10_moneyDue : CaOK mX10_moneyDue := ⟨wl_t5 99 rfl rfl, wl_t1 1 rfl rfl, by decide, ⟨by decide, by decide⟩, by decide⟩
set_option maxRecDepth 100000 in
theorem inX10_moneyDue : Cond.instanceMethod yX10_moneyDue ∈ WL := wl_t5 98 rfl rfl
set_option maxRecDepth 100000 in
theorem slX10_moneyDue : Cond.selects yX10_moneyDue.cls yX10_moneyDue yX10_moneyDue ∈ WL := wl_s 40 (by decide +kernel) rfl
set_option maxRecDepth 100000 in
theorem caX10_sumOf : CaOK mX10_sumOf := ⟨wl_t5 103 rfl rfl, wl_t1 1 rfl rfl, by decide, ⟨by decide, by decide⟩, by decide⟩
set_option maxRecDepth 100000 in
theorem inX10_sumOf : Cond.instanceMethod yX10_sumOf ∈ WL := wl_t5 102 rfl rfl
set_option maxRecDepth 100000 in
theorem slX10_sumOf : Cond.selects yX10_sumOf.cls yX10_sumOf yX10_sumOf ∈ WL := wl_s 41 (by decide +kernel) rfl
set_option maxRecDepth 100000 in
theorem caX10_clashingPairs : CaOK mX10_clashingPairs := ⟨wl_t5 107 rfl rfl, wl_t1 1 rfl rfl, by decide, ⟨by decide, by decide⟩, by decide⟩
set_option maxRecDepth 100000 in
theorem inX10_clashingPairs : Cond.instanceMethod yX10_clashingPairs ∈ WL := wl_t5 106 rfl rfl
set_option maxRecDepth 100000 in
theorem slX10_clashingPairs : Cond.selects yX10_clashingPairs.cls yX10_clashingPairs yX10_clashingPairs ∈ WL := wl_s 42 (by decide +kernel) rfl
set_option maxRecDepth 100000 in
theorem caX10_sundaysWithGuests : CaOK mX10_sundaysWithGuests := ⟨wl_t5 111 rfl rfl, wl_t1 1 rfl rfl, by decide, ⟨by decide, by decide⟩, by decide⟩
set_option maxRecDepth 100000 in
theorem inX10_sundaysWithGuests : Cond.instanceMethod yX10_sundaysWithGuests ∈ WL := wl_t5 110 rfl rfl
set_option maxRecDepth 100000 in
theorem slX10_sundaysWithGuests : Cond.selects yX10_sundaysWithGuests.cls yX10_sundaysWithGuests yX10_sundaysWithGuests ∈ WL := wl_s 43 (by decide +kernel) rfl
set_option maxRecDepth 100000 in
theorem caX10_guestsFittingAny : CaOK mX10_guestsFittingAny := ⟨wl_t5 115 rfl rfl, wl_t1 1 rfl rfl, by decide, ⟨by decide, by decide⟩, by decide⟩
set_option maxRecDepth 100000 in
theorem inX10_guestsFittingAny : Cond.instanceMethod yX10_guestsFittingAny ∈ WL := wl_t5 114 rfl rfl
set_option maxRecDepth 100000 in
theorem slX10_guestsFittingAny : Cond.selects yX10_guestsFittingAny.cls yX10_guestsFittingAny yX10_guestsFittingAny ∈ WL := wl_s 44 (by decide +kernel) rfl
set_option maxRecDepth 100000 in
theorem caX10_hoursNotSold : CaOK mX10_hoursNotSold := ⟨wl_t5 119 rfl rfl, wl_t1 1 rfl rfl, by decide, ⟨by decide, by decide⟩, by decide⟩
set_option maxRecDepth 100000 in
theorem inX10_hoursNotSold : Cond.instanceMethod yX10_hoursNotSold ∈ WL := wl_t5 118 rfl rfl
set_option maxRecDepth 100000 in
theorem slX10_hoursNotSold : Cond.selects yX10_hoursNotSold.cls yX10_hoursNotSold yX10_hoursNotSold ∈ WL := wl_s 45 (by decide +kernel) rfl
set_option maxRecDepth 100000 in
theorem caX10_feesOfLiving : CaOK mX10_feesOfLiving := ⟨wl_t5 123 rfl rfl, wl_t1 1 rfl rfl, by decide, ⟨by decide, by decide⟩, by decide⟩
set_option maxRecDepth 100000 in
theorem inX10_feesOfLiving : Cond.instanceMethod yX10_feesOfLiving ∈ WL := wl_t5 122 rfl rfl
set_option maxRecDepth 100000 in
theorem slX10_feesOfLiving : Cond.selects yX10_feesOfLiving.cls yX10_feesOfLiving yX10_feesOfLiving ∈ WL := wl_s 46 (by decide +kernel) rfl
set_option maxRecDepth 100000 in
theorem caX11_init : CaOK mX11_init := ⟨wl_t5 128 rfl rfl, wl_t1 16 rfl rfl, by decide, ⟨by decide, by decide⟩, by decide⟩
set_option maxRecDepth 100000 in
theorem inX11_init : Cond.instanceMethod yX11_init ∈ WL := wl_t5 127 rfl rfl
set_option maxRecDepth 100000 in
theorem caX11_feed : CaOK mX11_feed := ⟨wl_t6 113 rfl rfl, wl_t1 16 rfl rfl, by decide, ⟨by decide, by decide⟩, by decide⟩
set_option maxRecDepth 100000 in
theorem inX11_feed : Cond.instanceMethod yX11_feed ∈ WL := wl_t6 111 rfl rfl
set_option maxRecDepth 100000 in
theorem slX11_feed : Cond.selects yX11_feed.cls yX11_feed yX11_feed ∈ WL := wl_t6 112 rfl rfl
set_option maxRecDepth 100000 in
theorem caX11_put : CaOK mX11_put := ⟨wl_t6 117 rfl rfl, wl_t1 16 rfl rfl, by decide, ⟨by decide, by decide⟩, by decide⟩
set_option maxRecDepth 100000 in
theorem inX11_put : Cond.instanceMethod yX11_put ∈ WL := wl_t6 116 rfl rfl
set_option maxRecDepth 100000 in
theorem slX11_put : Cond.selects yX11_put.cls yX11_put yX11_put ∈ WL := wl_s 50 (by decide +kernel) rfl
set_option maxRecDepth 100000 in
theorem caX11_back : CaOK mX11_back := ⟨wl_t6 121 rfl rfl, wl_t1 16 rfl rfl, by decide, ⟨by decide, by decide⟩, by decide⟩
set_option maxRecDepth 100000 in
theorem inX11_back : Cond.instanceMethod yX11_back ∈ WL := wl_t6 119 rfl rfl
set_option maxRecDepth 100000 in
theorem slX11_back : Cond.selects yX11_back.cls yX11_back yX11_back ∈ WL := wl_t6 120 rfl rfl
set_option maxRecDepth 100000 in
theorem caX11_byteAt : CaOK mX11_byteAt := ⟨wl_t6 133 rfl rfl, wl_t1 16 rfl rfl, by decide, ⟨by decide, by decide⟩, by decide⟩
set_option maxRecDepth 100000 in
theorem inX11_byteAt : Cond.instanceMethod yX11_byteAt ∈ WL := wl_t6 132 rfl rfl
set_option maxRecDepth 100000 in
theorem slX11_byteAt : Cond.selects yX11_byteAt.cls yX11_byteAt yX11_byteAt ∈ WL := wl_s 52 (by decide +kernel) rfl
set_option maxRecDepth 100000 in
theorem caX11_isDigit : CaOK mX11_isDigit := ⟨wl_t6 143 rfl rfl, wl_t1 16 rfl rfl, by decide, ⟨by decide, by decide⟩, by decide⟩
set_option maxRecDepth 100000 in
theorem stX11_isDigit : Cond.static yX11_isDigit ∈ WL := wl_t6 142 rfl rfl
set_option maxRecDepth 100000 in
theorem caX11_isLetter : CaOK mX11_isLetter := ⟨wl_t6 140 rfl rfl, wl_t1 16 rfl rfl, by decide, ⟨by decide, by decide⟩, by decide⟩
set_option maxRecDepth 100000 in
theorem stX11_isLetter : Cond.static yX11_isLetter ∈ WL := wl_t6 139 rfl rfl
set_option maxRecDepth 100000 in
theorem caX11_appends : CaOK mX11_appends := ⟨wl_t5 139 rfl rfl, wl_t1 16 rfl rfl, by decide, ⟨by decide, by decide⟩, by decide⟩
set_option maxRecDepth 100000 in
theorem stX11_appends : Cond.static yX11_appends ∈ WL := wl_t5 138 rfl rfl
set_option maxRecDepth 100000 in
theorem caX11_word : CaOK mX11_word := ⟨wl_t5 136 rfl rfl, wl_t1 16 rfl rfl, by decide, ⟨by decide, by decide⟩, by decide⟩
set_option maxRecDepth 100000 in
theorem stX11_word : Cond.static yX11_word ∈ WL := wl_t5 135 rfl rfl
set_option maxRecDepth 100000 in
theorem caX11_token : CaOK mX11_token := ⟨wl_t6 137 rfl rfl, wl_t1 16 rfl rfl, by decide, ⟨by decide, by decide⟩, by decide⟩
set_option maxRecDepth 100000 in
theorem inX11_token : Cond.instanceMethod yX11_token ∈ WL := wl_t6 136 rfl rfl
set_option maxRecDepth 100000 in
theorem slX11_token : Cond.selects yX11_token.cls yX11_token yX11_token ∈ WL := wl_s 53 (by decide +kernel) rfl
set_option maxRecDepth 100000 in
theorem caX11_cut : CaOK mX11_cut := ⟨wl_t6 129 rfl rfl, wl_t1 16 rfl rfl, by decide, ⟨by decide, by decide⟩, by decide⟩
set_option maxRecDepth 100000 in
theorem inX11_cut : Cond.instanceMethod yX11_cut ∈ WL := wl_t6 128 rfl rfl
set_option maxRecDepth 100000 in
theorem slX11_cut : Cond.selects yX11_cut.cls yX11_cut yX11_cut ∈ WL := wl_s 51 (by decide +kernel) rfl
set_option maxRecDepth 100000 in
theorem caX11_sign : CaOK mX11_sign := ⟨wl_t6 147 rfl rfl, wl_t1 16 rfl rfl, by decide, ⟨by decide, by decide⟩, by decide⟩
set_option maxRecDepth 100000 in
theorem inX11_sign : Cond.instanceMethod yX11_sign ∈ WL := wl_t6 146 rfl rfl
set_option maxRecDepth 100000 in
theorem slX11_sign : Cond.selects yX11_sign.cls yX11_sign yX11_sign ∈ WL := wl_s 54 (by decide +kernel) rfl
set_option maxRecDepth 100000 in
theorem caX11_is : CaOK mX11_is := ⟨wl_t6 151 rfl rfl, wl_t1 16 rfl rfl, by decide, ⟨by decide, by decide⟩, by decide⟩
set_option maxRecDepth 100000 in
theorem inX11_is : Cond.instanceMethod yX11_is ∈ WL := wl_t6 150 rfl rfl
set_option maxRecDepth 100000 in
theorem slX11_is : Cond.selects yX11_is.cls yX11_is yX11_is ∈ WL := wl_s 55 (by decide +kernel) rfl
set_option maxRecDepth 100000 in
theorem caX11_fail : CaOK mX11_fail := ⟨wl_t6 163 rfl rfl, wl_t1 16 rfl rfl, by decide, ⟨by decide, by decide⟩, by decide⟩
set_option maxRecDepth 100000 in
theorem inX11_fail : Cond.instanceMethod yX11_fail ∈ WL := wl_t6 162 rfl rfl
set_option maxRecDepth 100000 in
theorem slX11_fail : Cond.selects yX11_fail.cls yX11_fail yX11_fail ∈ WL := wl_s 58 (by decide +kernel) rfl
set_option maxRecDepth 100000 in
theorem caX11_wrong : CaOK mX11_wrong := ⟨wl_t6 179 rfl rfl, wl_t1 16 rfl rfl, by decide, ⟨by decide, by decide⟩, by decide⟩
set_option maxRecDepth 100000 in
theorem inX11_wrong : Cond.instanceMethod yX11_wrong ∈ WL := wl_t6 178 rfl rfl
set_option maxRecDepth 100000 in
theorem slX11_wrong : Cond.selects yX11_wrong.cls yX11_wrong yX11_wrong ∈ WL := wl_s 62 (by decide +kernel) rfl
set_option maxRecDepth 100000 in
theorem caX11_goesOn : CaOK mX11_goesOn := ⟨wl_t6 167 rfl rfl, wl_t1 16 rfl rfl, by decide, ⟨by decide, by decide⟩, by decide⟩
set_option maxRecDepth 100000 in
theorem inX11_goesOn : Cond.instanceMethod yX11_goesOn ∈ WL := wl_t6 166 rfl rfl
set_option maxRecDepth 100000 in
theorem slX11_goesOn : Cond.selects yX11_goesOn.cls yX11_goesOn yX11_goesOn ∈ WL := wl_s 59 (by decide +kernel) rfl
set_option maxRecDepth 100000 in
theorem caX11_must : CaOK mX11_must := ⟨wl_t6 175 rfl rfl, wl_t1 16 rfl rfl, by decide, ⟨by decide, by decide⟩, by decide⟩
set_option maxRecDepth 100000 in
theorem inX11_must : Cond.instanceMethod yX11_must ∈ WL := wl_t6 174 rfl rfl
set_option maxRecDepth 100000 in
theorem slX11_must : Cond.selects yX11_must.cls yX11_must yX11_must ∈ WL := wl_s 61 (by decide +kernel) rfl
set_option maxRecDepth 100000 in
theorem caX11_plain : CaOK mX11_plain := ⟨wl_t5 133 rfl rfl, wl_t1 16 rfl rfl, by decide, ⟨by decide, by decide⟩, by decide⟩
set_option maxRecDepth 100000 in
theorem inX11_plain : Cond.instanceMethod yX11_plain ∈ WL := wl_t5 132 rfl rfl
set_option maxRecDepth 100000 in
theorem slX11_plain : Cond.selects yX11_plain.cls yX11_plain yX11_plain ∈ WL := wl_s 47 (by decide +kernel) rfl
set_option maxRecDepth 100000 in
theorem caX11_read : CaOK mX11_read := ⟨wl_t6 125 rfl rfl, wl_t1 16 rfl rfl, by decide, ⟨by decide, by decide⟩, by decide⟩
set_option maxRecDepth 100000 in
theorem inX11_read : Cond.instanceMethod yX11_read ∈ WL := wl_t6 123 rfl rfl
set_option maxRecDepth 100000 in
theorem slX11_read : Cond.selects yX11_read.cls yX11_read yX11_read ∈ WL := wl_t6 124 rfl rfl
set_option maxRecDepth 100000 in
theorem caX11_place : CaOK mX11_place := ⟨wl_t6 227 rfl rfl, wl_t1 16 rfl rfl, by decide, ⟨by decide, by decide⟩, by decide⟩
set_option maxRecDepth 100000 in
theorem inX11_place : Cond.instanceMethod yX11_place ∈ WL := wl_t6 225 rfl rfl
set_option maxRecDepth 100000 in
theorem slX11_place : Cond.selects yX11_place.cls yX11_place yX11_place ∈ WL := wl_t6 226 rfl rfl
set_option maxRecDepth 100000 in
theorem caX11_roomFor : CaOK mX11_roomFor := ⟨wl_t6 159 rfl rfl, wl_t1 16 rfl rfl, by decide, ⟨by decide, by decide⟩, by decide⟩
set_option maxRecDepth 100000 in
theorem inX11_roomFor : Cond.instanceMethod yX11_roomFor ∈ WL := wl_t6 158 rfl rfl
set_option maxRecDepth 100000 in
theorem slX11_roomFor : Cond.selects yX11_roomFor.cls yX11_roomFor yX11_roomFor ∈ WL := wl_s 57 (by decide +kernel) rfl
set_option maxRecDepth 100000 in
theorem caX11_toldInt : CaOK mX11_toldInt := ⟨wl_t6 199 rfl rfl, wl_t1 16 rfl rfl, by decide, ⟨by decide, by decide⟩, by decide⟩
set_option maxRecDepth 100000 in
theorem inX11_toldInt : Cond.instanceMethod yX11_toldInt ∈ WL := wl_t6 198 rfl rfl
set_option maxRecDepth 100000 in
theorem slX11_toldInt : Cond.selects yX11_toldInt.cls yX11_toldInt yX11_toldInt ∈ WL := wl_s 67 (by decide +kernel) rfl
set_option maxRecDepth 100000 in
theorem caX11_tellOne : CaOK mX11_tellOne := ⟨wl_t6 155 rfl rfl, wl_t1 16 rfl rfl, by decide, ⟨by decide, by decide⟩, by decide⟩
set_option maxRecDepth 100000 in
theorem inX11_tellOne : Cond.instanceMethod yX11_tellOne ∈ WL := wl_t6 154 rfl rfl
set_option maxRecDepth 100000 in
theorem slX11_tellOne : Cond.selects yX11_tellOne.cls yX11_tellOne yX11_tellOne ∈ WL := wl_s 56 (by decide +kernel) rfl
set_option maxRecDepth 100000 in
theorem caX11_named : CaOK mX11_named := ⟨wl_t6 171 rfl rfl, wl_t1 16 rfl rfl, by decide, ⟨by decide, by decide⟩, by decide⟩
set_option maxRecDepth 100000 in
theorem inX11_named : Cond.instanceMethod yX11_named ∈ WL := wl_t6 170 rfl rfl
set_option maxRecDepth 100000 in
theorem slX11_named : Cond.selects yX11_named.cls yX11_named yX11_named ∈ WL := wl_s 60 (by decide +kernel) rfl
set_option maxRecDepth 100000 in
theorem caX11_endsName : CaOK mX11_endsName := ⟨wl_t6 187 rfl rfl, wl_t1 16 rfl rfl, by decide, ⟨by decide, by decide⟩, by decide⟩
set_option maxRecDepth 100000 in
theorem inX11_endsName : Cond.instanceMethod yX11_endsName ∈ WL := wl_t6 186 rfl rfl
set_option maxRecDepth 100000 in
theorem slX11_endsName : Cond.selects yX11_endsName.cls yX11_endsName yX11_endsName ∈ WL := wl_s 64 (by decide +kernel) rfl
set_option maxRecDepth 100000 in
theorem caX11_known : CaOK mX11_known := ⟨wl_t6 195 rfl rfl, wl_t1 16 rfl rfl, by decide, ⟨by decide, by decide⟩, by decide⟩
set_option maxRecDepth 100000 in
theorem inX11_known : Cond.instanceMethod yX11_known ∈ WL := wl_t6 194 rfl rfl
set_option maxRecDepth 100000 in
theorem slX11_known : Cond.selects yX11_known.cls yX11_known yX11_known ∈ WL := wl_s 66 (by decide +kernel) rfl
set_option maxRecDepth 100000 in
theorem caX11_bounded : CaOK mX11_bounded := ⟨wl_t6 183 rfl rfl, wl_t1 16 rfl rfl, by decide, ⟨by decide, by decide⟩, by decide⟩
set_option maxRecDepth 100000 in
theorem inX11_bounded : Cond.instanceMethod yX11_bounded ∈ WL := wl_t6 182 rfl rfl
set_option maxRecDepth 100000 in
theorem slX11_bounded : Cond.selects yX11_bounded.cls yX11_bounded yX11_bounded ∈ WL := wl_s 63 (by decide +kernel) rfl
set_option maxRecDepth 100000 in
theorem caX11_tellFoes : CaOK mX11_tellFoes := ⟨wl_t6 191 rfl rfl, wl_t1 16 rfl rfl, by decide, ⟨by decide, by decide⟩, by decide⟩
set_option maxRecDepth 100000 in
theorem inX11_tellFoes : Cond.instanceMethod yX11_tellFoes ∈ WL := wl_t6 190 rfl rfl
set_option maxRecDepth 100000 in
theorem slX11_tellFoes : Cond.selects yX11_tellFoes.cls yX11_tellFoes yX11_tellFoes ∈ WL := wl_s 65 (by decide +kernel) rfl
set_option maxRecDepth 100000 in
theorem caX11_tellLaw : CaOK mX11_tellLaw := ⟨wl_t6 203 rfl rfl, wl_t1 16 rfl rfl, by decide, ⟨by decide, by decide⟩, by decide⟩
set_option maxRecDepth 100000 in
theorem inX11_tellLaw : Cond.instanceMethod yX11_tellLaw ∈ WL := wl_t6 202 rfl rfl
set_option maxRecDepth 100000 in
theorem slX11_tellLaw : Cond.selects yX11_tellLaw.cls yX11_tellLaw yX11_tellLaw ∈ WL := wl_s 68 (by decide +kernel) rfl
set_option maxRecDepth 100000 in
theorem caX11_term : CaOK mX11_term := ⟨wl_t6 223 rfl rfl, wl_t1 16 rfl rfl, by decide, ⟨by decide, by decide⟩, by decide⟩
set_option maxRecDepth 100000 in
theorem inX11_term : Cond.instanceMethod yX11_term ∈ WL := wl_t6 222 rfl rfl
set_option maxRecDepth 100000 in
theorem slX11_term : Cond.selects yX11_term.cls yX11_term yX11_term ∈ WL := wl_s 73 (by decide +kernel) rfl
set_option maxRecDepth 100000 in
theorem caX11_emit : CaOK mX11_emit := ⟨wl_t6 215 rfl rfl, wl_t1 16 rfl rfl, by decide, ⟨by decide, by decide⟩, by decide⟩
set_option maxRecDepth 100000 in
theorem inX11_emit : Cond.instanceMethod yX11_emit ∈ WL := wl_t6 214 rfl rfl
set_option maxRecDepth 100000 in
theorem slX11_emit : Cond.selects yX11_emit.cls yX11_emit yX11_emit ∈ WL := wl_s 71 (by decide +kernel) rfl
set_option maxRecDepth 100000 in
theorem caX11_comesOut : CaOK mX11_comesOut := ⟨wl_t6 219 rfl rfl, wl_t1 16 rfl rfl, by decide, ⟨by decide, by decide⟩, by decide⟩
set_option maxRecDepth 100000 in
theorem inX11_comesOut : Cond.instanceMethod yX11_comesOut ∈ WL := wl_t6 218 rfl rfl
set_option maxRecDepth 100000 in
theorem slX11_comesOut : Cond.selects yX11_comesOut.cls yX11_comesOut yX11_comesOut ∈ WL := wl_s 72 (by decide +kernel) rfl
set_option maxRecDepth 100000 in
theorem caX11_expression : CaOK mX11_expression := ⟨wl_t6 207 rfl rfl, wl_t1 16 rfl rfl, by decide, ⟨by decide, by decide⟩, by decide⟩
set_option maxRecDepth 100000 in
theorem inX11_expression : Cond.instanceMethod yX11_expression ∈ WL := wl_t6 206 rfl rfl
set_option maxRecDepth 100000 in
theorem slX11_expression : Cond.selects yX11_expression.cls yX11_expression yX11_expression ∈ WL := wl_s 69 (by decide +kernel) rfl
set_option maxRecDepth 100000 in
theorem caX11_unit : CaOK mX11_unit := ⟨wl_t6 211 rfl rfl, wl_t1 16 rfl rfl, by decide, ⟨by decide, by decide⟩, by decide⟩
set_option maxRecDepth 100000 in
theorem inX11_unit : Cond.instanceMethod yX11_unit ∈ WL := wl_t6 210 rfl rfl
set_option maxRecDepth 100000 in
theorem slX11_unit : Cond.selects yX11_unit.cls yX11_unit yX11_unit ∈ WL := wl_s 70 (by decide +kernel) rfl
set_option maxRecDepth 100000 in
theorem caX11_termOf : CaOK mX11_termOf := ⟨wl_t7 36 rfl rfl, wl_t1 16 rfl rfl, by decide, ⟨by decide, by decide⟩, by decide⟩
set_option maxRecDepth 100000 in
theorem inX11_termOf : Cond.instanceMethod yX11_termOf ∈ WL := wl_t7 35 rfl rfl
set_option maxRecDepth 100000 in
theorem slX11_termOf : Cond.selects yX11_termOf.cls yX11_termOf yX11_termOf ∈ WL := wl_s 82 (by decide +kernel) rfl
set_option maxRecDepth 100000 in
theorem caX11_in : CaOK mX11_in := ⟨wl_t6 238 rfl rfl, wl_t1 16 rfl rfl, by decide, ⟨by decide, by decide⟩, by decide⟩
set_option maxRecDepth 100000 in
theorem stX11_in : Cond.static yX11_in ∈ WL := wl_t6 237 rfl rfl
set_option maxRecDepth 100000 in
theorem caX11_within : CaOK mX11_within := ⟨wl_t7 32 rfl rfl, wl_t1 16 rfl rfl, by decide, ⟨by decide, by decide⟩, by decide⟩
set_option maxRecDepth 100000 in
theorem stX11_within : Cond.static yX11_within ∈ WL := wl_t7 31 rfl rfl
set_option maxRecDepth 100000 in
theorem caX11_bits : CaOK mX11_bits := ⟨wl_t7 25 rfl rfl, wl_t1 16 rfl rfl, by decide, ⟨by decide, by decide⟩, by decide⟩
set_option maxRecDepth 100000 in
theorem stX11_bits : Cond.static yX11_bits ∈ WL := wl_t7 24 rfl rfl
set_option maxRecDepth 100000 in
theorem caX11_isSunday : CaOK mX11_isSunday := ⟨wl_t6 235 rfl rfl, wl_t1 16 rfl rfl, by decide, ⟨by decide, by decide⟩, by decide⟩
set_option maxRecDepth 100000 in
theorem inX11_isSunday : Cond.instanceMethod yX11_isSunday ∈ WL := wl_t6 234 rfl rfl
set_option maxRecDepth 100000 in
theorem slX11_isSunday : Cond.selects yX11_isSunday.cls yX11_isSunday yX11_isSunday ∈ WL := wl_s 74 (by decide +kernel) rfl
set_option maxRecDepth 100000 in
theorem caX11_isGuest : CaOK mX11_isGuest := ⟨wl_t7 48 rfl rfl, wl_t1 16 rfl rfl, by decide, ⟨by decide, by decide⟩, by decide⟩
set_option maxRecDepth 100000 in
theorem inX11_isGuest : Cond.instanceMethod yX11_isGuest ∈ WL := wl_t7 47 rfl rfl
set_option maxRecDepth 100000 in
theorem slX11_isGuest : Cond.selects yX11_isGuest.cls yX11_isGuest yX11_isGuest ∈ WL := wl_s 84 (by decide +kernel) rfl
set_option maxRecDepth 100000 in
theorem caX11_begins : CaOK mX11_begins := ⟨wl_t5 144 rfl rfl, wl_t1 16 rfl rfl, by decide, ⟨by decide, by decide⟩, by decide⟩
set_option maxRecDepth 100000 in
theorem inX11_begins : Cond.instanceMethod yX11_begins ∈ WL := wl_t5 143 rfl rfl
set_option maxRecDepth 100000 in
theorem slX11_begins : Cond.selects yX11_begins.cls yX11_begins yX11_begins ∈ WL := wl_s 48 (by decide +kernel) rfl
set_option maxRecDepth 100000 in
theorem caX11_keepsRow : CaOK mX11_keepsRow := ⟨wl_t5 148 rfl rfl, wl_t1 16 rfl rfl, by decide, ⟨by decide, by decide⟩, by decide⟩
set_option maxRecDepth 100000 in
theorem inX11_keepsRow : Cond.instanceMethod yX11_keepsRow ∈ WL := wl_t5 147 rfl rfl
set_option maxRecDepth 100000 in
theorem slX11_keepsRow : Cond.selects yX11_keepsRow.cls yX11_keepsRow yX11_keepsRow ∈ WL := wl_s 49 (by decide +kernel) rfl
set_option maxRecDepth 100000 in
theorem caX11_copies : CaOK mX11_copies := ⟨wl_t7 2 rfl rfl, wl_t1 16 rfl rfl, by decide, ⟨by decide, by decide⟩, by decide⟩
set_option maxRecDepth 100000 in
theorem inX11_copies : Cond.instanceMethod yX11_copies ∈ WL := wl_t7 1 rfl rfl
set_option maxRecDepth 100000 in
theorem slX11_copies : Cond.selects yX11_copies.cls yX11_copies yX11_copies ∈ WL := wl_s 75 (by decide +kernel) rfl
