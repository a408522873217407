/-! the table of methods: name, code, locals, answer, frames and locals of its room -/
abbrev MI : Type := MethodName × ByteArray × Nat × Option FieldType × Nat × Nat
abbrev mt_X0_init : MI := (yX0_init, cX0_init, 1, none, 1, 22)
abbrev mt_X0_find : MI := (yX0_find, cX0_find, 6, none, 2, 50)
abbrev mt_X0_countApart : MI := (yX0_countApart, cX0_countApart, 9, (some .int), 1, 22)
abbrev mt_X1_init : MI := (yX1_init, cX1_init, 1, none, 1, 22)
abbrev mt_X1_countPieces : MI := (yX1_countPieces, cX1_countPieces, 3, (some .int), 4, 94)
abbrev mt_X1_countCounters : MI := (yX1_countCounters, cX1_countCounters, 3, (some .int), 4, 94)
abbrev mt_X1_countLeft : MI := (yX1_countLeft, cX1_countLeft, 5, (some .int), 3, 70)
abbrev mt_X1_removePiece : MI := (yX1_removePiece, cX1_removePiece, 7, (some .boolean), 2, 44)
abbrev mt_X1_removePlace : MI := (yX1_removePlace, cX1_removePlace, 3, none, 1, 22)
abbrev mt_X2_init : MI := (yX2_init, cX2_init, 1, none, 1, 22)
abbrev mt_X2_open : MI := (yX2_open, cX2_open, 2, none, 1, 23)
abbrev mt_X2_close : MI := (yX2_close, cX2_close, 1, none, 0, 0)
abbrev mt_X2_faultAt : MI := (yX2_faultAt, cX2_faultAt, 2, (some .int), 1, 22)
abbrev mt_X3_init : MI := (yX3_init, cX3_init, 1, none, 1, 22)
abbrev mt_X3_lengthOf : MI := (yX3_lengthOf, cX3_lengthOf, 3, (some .int), 0, 0)
abbrev mt_X3_clear : MI := (yX3_clear, cX3_clear, 1, none, 0, 0)
abbrev mt_X3_addAll : MI := (yX3_addAll, cX3_addAll, 7, none, 3, 74)
abbrev mt_X3_add : MI := (yX3_add, cX3_add, 2, none, 1, 22)
abbrev mt_X3_has : MI := (yX3_has, cX3_has, 3, (some .boolean), 0, 0)
abbrev mt_X3_countAhead : MI := (yX3_countAhead, cX3_countAhead, 4, (some .int), 0, 0)
abbrev mt_X3_countNotIn : MI := (yX3_countNotIn, cX3_countNotIn, 4, (some .int), 1, 22)
abbrev mt_X4_init : MI := (yX4_init, cX4_init, 1, none, 2, 42)
abbrev mt_X4_nameAt : MI := (yX4_nameAt, cX4_nameAt, 8, (some .int), 5, 127)
abbrev mt_X4_nextName : MI := (yX4_nextName, cX4_nextName, 8, (some .int), 4, 100)
abbrev mt_X5_init : MI := (yX5_init, cX5_init, 1, none, 1, 22)
abbrev mt_X5_endsAt : MI := (yX5_endsAt, cX5_endsAt, 3, (some .boolean), 0, 0)
abbrev mt_X5_add : MI := (yX5_add, cX5_add, 3, (some .boolean), 0, 0)
abbrev mt_X5_clear : MI := (yX5_clear, cX5_clear, 1, none, 0, 0)
abbrev mt_X6_init : MI := (yX6_init, cX6_init, 1, none, 1, 22)
abbrev mt_X6_at : MI := (yX6_at, cX6_at, 2, (some (.object "NibLetters$Stroke")), 1, 22)
abbrev mt_X6_add : MI := (yX6_add, cX6_add, 2, none, 0, 0)
abbrev mt_X6_removeLast : MI := (yX6_removeLast, cX6_removeLast, 1, none, 0, 0)
abbrev mt_X6_clear : MI := (yX6_clear, cX6_clear, 2, none, 0, 0)
abbrev mt_X6_copyFrom : MI := (yX6_copyFrom, cX6_copyFrom, 3, none, 0, 0)
abbrev mt_X6_gatherInk : MI := (yX6_gatherInk, cX6_gatherInk, 6, none, 1, 23)
abbrev mt_X6_countSteps : MI := (yX6_countSteps, cX6_countSteps, 6, (some .int), 1, 20)
abbrev mt_X6_countWrong : MI := (yX6_countWrong, cX6_countWrong, 7, (some .int), 4, 99)
abbrev mt_X6_countWrongWithNib : MI := (yX6_countWrongWithNib, cX6_countWrongWithNib, 9, (some .int), 4, 99)
abbrev mt_X7_init : MI := (yX7_init, cX7_init, 1, none, 1, 22)
abbrev mt_X7_at : MI := (yX7_at, cX7_at, 2, (some (.object "NibLetters$Page")), 1, 22)
abbrev mt_X7_put : MI := (yX7_put, cX7_put, 3, (some .boolean), 2, 42)
abbrev mt_X7_remove : MI := (yX7_remove, cX7_remove, 2, none, 2, 43)
abbrev mt_X7_nameAt : MI := (yX7_nameAt, cX7_nameAt, 4, (some .int), 0, 0)
abbrev mt_X8_init : MI := (yX8_init, cX8_init, 5, none, 4, 104)
abbrev mt_X8_inkBetween : MI := (yX8_inkBetween, cX8_inkBetween, 13, none, 3, 72)
abbrev mt_X8_covers : MI := (yX8_covers, cX8_covers, 8, (some .boolean), 2, 45)
abbrev mt_X8_coversOnItsLine : MI := (yX8_coversOnItsLine, cX8_coversOnItsLine, 4, (some .boolean), 1, 22)
abbrev mt_X8_countSteps : MI := (yX8_countSteps, cX8_countSteps, 1, (some .int), 0, 0)
abbrev mt_X8_hasStep : MI := (yX8_hasStep, cX8_hasStep, 2, (some .boolean), 0, 0)
abbrev mt_X8_stepX : MI := (yX8_stepX, cX8_stepX, 2, (some .int), 1, 21)
abbrev mt_X8_stepY : MI := (yX8_stepY, cX8_stepY, 2, (some .int), 1, 21)
abbrev mt_X8_thickUpper : MI := (yX8_thickUpper, cX8_thickUpper, 5, (some .int), 0, 0)
abbrev mt_X8_thickLower : MI := (yX8_thickLower, cX8_thickLower, 2, (some .int), 0, 0)
abbrev mt_X8_sortOf : MI := (yX8_sortOf, cX8_sortOf, 6, (some .int), 1, 24)
abbrev mt_X8_isWrong : MI := (yX8_isWrong, cX8_isWrong, 6, (some .boolean), 2, 49)
abbrev mt_X8_countWrong : MI := (yX8_countWrong, cX8_countWrong, 6, (some .int), 3, 74)
abbrev mt_X8_kindCode : MI := (yX8_kindCode, cX8_kindCode, 6, (some .int), 2, 49)
abbrev mt_X8_hasEnd : MI := (yX8_hasEnd, cX8_hasEnd, 3, (some .boolean), 0, 0)
abbrev mt_X8_hasInk : MI := (yX8_hasInk, cX8_hasInk, 3, (some .boolean), 1, 22)
abbrev mt_X8_sharesEndWith : MI := (yX8_sharesEndWith, cX8_sharesEndWith, 2, (some .boolean), 1, 22)
abbrev mt_X8_hasEndInInkOf : MI := (yX8_hasEndInInkOf, cX8_hasEndInInkOf, 2, (some .boolean), 2, 44)
abbrev mt_X8_addInkTo : MI := (yX8_addInkTo, cX8_addInkTo, 3, none, 0, 0)
abbrev mt_X8_crossesInkOf : MI := (yX8_crossesInkOf, cX8_crossesInkOf, 3, (some .boolean), 0, 0)
abbrev mt_X9_init : MI := (yX9_init, cX9_init, 1, none, 3, 62)
abbrev mt_X9_nib : MI := (yX9_nib, cX9_nib, 3, (some .int), 1, 22)
abbrev mt_X9_ofNib : MI := (yX9_ofNib, cX9_ofNib, 2, (some .int), 0, 0)
abbrev mt_X9_point : MI := (yX9_point, cX9_point, 3, (some .int), 1, 22)
abbrev mt_X9_drop : MI := (yX9_drop, cX9_drop, 2, (some .int), 1, 20)
abbrev mt_X9_lift : MI := (yX9_lift, cX9_lift, 1, (some .int), 5, 128)
abbrev mt_X9_undo : MI := (yX9_undo, cX9_undo, 1, (some .int), 1, 20)
abbrev mt_X9_ofStroke : MI := (yX9_ofStroke, cX9_ofStroke, 4, (some .int), 4, 99)
abbrev mt_X9_place : MI := (yX9_place, cX9_place, 5, (some .int), 2, 43)
abbrev mt_X9_ink : MI := (yX9_ink, cX9_ink, 4, (some .long), 4, 90)
abbrev mt_X9_area : MI := (yX9_area, cX9_area, 3, (some .int), 4, 90)
abbrev mt_X9_limit : MI := (yX9_limit, cX9_limit, 3, (some .int), 1, 22)
abbrev mt_X9_thick : MI := (yX9_thick, cX9_thick, 8, (some .int), 2, 43)
abbrev mt_X9_sort : MI := (yX9_sort, cX9_sort, 4, (some .int), 2, 49)
abbrev mt_X9_wrong : MI := (yX9_wrong, cX9_wrong, 1, (some .int), 5, 125)
abbrev mt_X9_join : MI := (yX9_join, cX9_join, 5, (some .int), 3, 65)
abbrev mt_X9_pieces : MI := (yX9_pieces, cX9_pieces, 2, (some .int), 5, 116)
abbrev mt_X9_keep : MI := (yX9_keep, cX9_keep, 2, (some .int), 3, 64)
abbrev mt_X9_take : MI := (yX9_take, cX9_take, 3, (some .int), 2, 43)
abbrev mt_X9_forget : MI := (yX9_forget, cX9_forget, 2, (some .int), 3, 64)
abbrev mt_X9_name : MI := (yX9_name, cX9_name, 2, (some .int), 1, 23)
abbrev mt_X9_ofLetter : MI := (yX9_ofLetter, cX9_ofLetter, 4, (some .int), 5, 121)
abbrev mt_X9_kind : MI := (yX9_kind, cX9_kind, 3, (some .int), 5, 122)
abbrev mt_X9_apart : MI := (yX9_apart, cX9_apart, 5, (some .int), 3, 69)
abbrev mt_X9_fit : MI := (yX9_fit, cX9_fit, 4, (some .int), 3, 75)
abbrev mt_X9_likest : MI := (yX9_likest, cX9_likest, 7, (some .int), 3, 75)
abbrev mt_X9_lesson : MI := (yX9_lesson, cX9_lesson, 4, (some .int), 6, 154)
abbrev mt_X9_bestNib : MI := (yX9_bestNib, cX9_bestNib, 8, (some .int), 5, 127)
abbrev mt_X9_bestLimit : MI := (yX9_bestLimit, cX9_bestLimit, 6, (some .int), 5, 125)
abbrev mt_X9_frame : MI := (yX9_frame, cX9_frame, 2, (some .int), 2, 44)
abbrev mt_X9_shoot : MI := (yX9_shoot, cX9_shoot, 4, (some .int), 3, 68)
abbrev mt_X9_roll : MI := (yX9_roll, cX9_roll, 4, (some .int), 2, 43)
abbrev mt_X9_seen : MI := (yX9_seen, cX9_seen, 3, (some .long), 2, 43)
abbrev mt_X9_spoil : MI := (yX9_spoil, cX9_spoil, 2, (some .int), 1, 20)
abbrev mt_X9_many : MI := (yX9_many, cX9_many, 2, (some .int), 5, 122)
abbrev mt_X9_within : MI := (yX9_within, cX9_within, 3, (some .boolean), 0, 0)
abbrev mt_X9_withoutSign : MI := (yX9_withoutSign, cX9_withoutSign, 1, (some .long), 0, 0)
abbrev mt_X9_rowsOf : MI := (yX9_rowsOf, cX9_rowsOf, 3, (some (.array .int)), 3, 68)
abbrev mt_X9_gatherSheet : MI := (yX9_gatherSheet, cX9_gatherSheet, 1, (some (.array .int)), 2, 48)
abbrev mt_X9_gatherLetter : MI := (yX9_gatherLetter, cX9_gatherLetter, 2, (some (.array .int)), 2, 48)
abbrev mt_X9_countKindsOf : MI := (yX9_countKindsOf, cX9_countKindsOf, 2, (some .int), 4, 100)
abbrev mt_X9_gatherAllKinds : MI := (yX9_gatherAllKinds, cX9_gatherAllKinds, 3, none, 4, 100)
abbrev mt_X9_countBits : MI := (yX9_countBits, cX9_countBits, 6, (some .int), 1, 20)
abbrev mt_X9_columnsOf : MI := (yX9_columnsOf, cX9_columnsOf, 6, (some .int), 0, 0)
abbrev mt_X9_leastX : MI := (yX9_leastX, cX9_leastX, 3, (some .int), 1, 25)
abbrev mt_X9_greatestX : MI := (yX9_greatestX, cX9_greatestX, 3, (some .int), 1, 25)
abbrev mt_X9_greatestDivisor : MI := (yX9_greatestDivisor, cX9_greatestDivisor, 6, (some .int), 0, 0)
abbrev mt_X10_init : MI := (yX10_init, cX10_init, 1, none, 1, 22)
abbrev mt_X10_within : MI := (yX10_within, cX10_within, 3, (some .boolean), 0, 0)
abbrev mt_X10_nib : MI := (yX10_nib, cX10_nib, 3, (some .int), 1, 22)
abbrev mt_X10_ofNib : MI := (yX10_ofNib, cX10_ofNib, 2, (some .int), 0, 0)
abbrev mt_X10_point : MI := (yX10_point, cX10_point, 3, (some .int), 1, 22)
abbrev mt_X10_drop : MI := (yX10_drop, cX10_drop, 2, (some .int), 0, 0)
abbrev mt_X10_lift : MI := (yX10_lift, cX10_lift, 4, (some .int), 0, 0)
abbrev mt_X10_undo : MI := (yX10_undo, cX10_undo, 1, (some .int), 0, 0)
abbrev mt_X10_isStroke : MI := (yX10_isStroke, cX10_isStroke, 2, (some .boolean), 1, 22)
abbrev mt_X10_ofStroke : MI := (yX10_ofStroke, cX10_ofStroke, 4, (some .int), 3, 78)
abbrev mt_X10_place : MI := (yX10_place, cX10_place, 5, (some .int), 2, 43)
abbrev mt_X10_noInk : MI := (yX10_noInk, cX10_noInk, 2, none, 0, 0)
abbrev mt_X10_isUpTo : MI := (yX10_isUpTo, cX10_isUpTo, 2, (some .boolean), 0, 0)
abbrev mt_X10_size : MI := (yX10_size, cX10_size, 1, (some .int), 0, 0)
abbrev mt_X10_isCovered : MI := (yX10_isCovered, cX10_isCovered, 10, (some .boolean), 1, 21)
abbrev mt_X10_addStep : MI := (yX10_addStep, cX10_addStep, 7, none, 2, 50)
abbrev mt_X10_addStroke : MI := (yX10_addStroke, cX10_addStroke, 5, none, 3, 76)
abbrev mt_X10_findInk : MI := (yX10_findInk, cX10_findInk, 3, none, 4, 100)
abbrev mt_X10_findInkOf : MI := (yX10_findInkOf, cX10_findInkOf, 2, none, 5, 122)
abbrev mt_X10_bits : MI := (yX10_bits, cX10_bits, 3, (some .int), 0, 0)
abbrev mt_X10_inkSize : MI := (yX10_inkSize, cX10_inkSize, 3, (some .int), 1, 22)
abbrev mt_X10_ink : MI := (yX10_ink, cX10_ink, 3, (some .long), 6, 143)
abbrev mt_X10_area : MI := (yX10_area, cX10_area, 2, (some .int), 6, 143)
abbrev mt_X10_limit : MI := (yX10_limit, cX10_limit, 3, (some .int), 1, 22)
abbrev mt_X10_stepX : MI := (yX10_stepX, cX10_stepX, 3, (some .int), 0, 0)
abbrev mt_X10_stepY : MI := (yX10_stepY, cX10_stepY, 3, (some .int), 0, 0)
abbrev mt_X10_isStep : MI := (yX10_isStep, cX10_isStep, 3, (some .boolean), 2, 43)
abbrev mt_X10_common : MI := (yX10_common, cX10_common, 5, (some .int), 0, 0)
abbrev mt_X10_thick : MI := (yX10_thick, cX10_thick, 10, (some .int), 3, 65)
abbrev mt_X10_sortOf : MI := (yX10_sortOf, cX10_sortOf, 9, (some .int), 1, 22)
abbrev mt_X10_sort : MI := (yX10_sort, cX10_sort, 4, (some .int), 3, 65)
abbrev mt_X10_wrongOf : MI := (yX10_wrongOf, cX10_wrongOf, 9, (some .int), 2, 50)
abbrev mt_X10_allWrong : MI := (yX10_allWrong, cX10_allWrong, 5, (some .int), 3, 78)
abbrev mt_X10_wrong : MI := (yX10_wrong, cX10_wrong, 1, (some .int), 4, 102)
abbrev mt_X10_endOf : MI := (yX10_endOf, cX10_endOf, 4, (some .int), 0, 0)
abbrev mt_X10_areAlike : MI := (yX10_areAlike, cX10_areAlike, 3, (some .boolean), 0, 0)
abbrev mt_X10_isInked : MI := (yX10_isInked, cX10_isInked, 2, (some .boolean), 0, 0)
abbrev mt_X10_endsIn : MI := (yX10_endsIn, cX10_endsIn, 3, (some .boolean), 6, 143)
abbrev mt_X10_doMeet : MI := (yX10_doMeet, cX10_doMeet, 4, (some .boolean), 6, 143)
abbrev mt_X10_join : MI := (yX10_join, cX10_join, 4, (some .int), 7, 166)
abbrev mt_X10_isInk : MI := (yX10_isInk, cX10_isInk, 2, (some .boolean), 0, 0)
abbrev mt_X10_goesThrough : MI := (yX10_goesThrough, cX10_goesThrough, 12, (some .boolean), 1, 22)
abbrev mt_X10_piecesOf : MI := (yX10_piecesOf, cX10_piecesOf, 5, (some .int), 2, 53)
abbrev mt_X10_pieces : MI := (yX10_pieces, cX10_pieces, 2, (some .int), 5, 122)
abbrev mt_X10_isLetter : MI := (yX10_isLetter, cX10_isLetter, 2, (some .boolean), 1, 22)
abbrev mt_X10_letters : MI := (yX10_letters, cX10_letters, 3, (some .int), 2, 43)
abbrev mt_X10_copies : MI := (yX10_copies, cX10_copies, 4, none, 0, 0)
abbrev mt_X10_keep : MI := (yX10_keep, cX10_keep, 2, (some .int), 3, 65)
abbrev mt_X10_take : MI := (yX10_take, cX10_take, 2, (some .int), 2, 43)
abbrev mt_X10_forget : MI := (yX10_forget, cX10_forget, 2, (some .int), 3, 65)
abbrev mt_X10_name : MI := (yX10_name, cX10_name, 4, (some .int), 2, 43)
abbrev mt_X10_kindOf : MI := (yX10_kindOf, cX10_kindOf, 7, (some .int), 2, 50)
abbrev mt_X10_hasKind : MI := (yX10_hasKind, cX10_hasKind, 3, (some .boolean), 0, 0)
abbrev mt_X10_addKinds : MI := (yX10_addKinds, cX10_addKinds, 4, none, 3, 76)
abbrev mt_X10_findKinds : MI := (yX10_findKinds, cX10_findKinds, 2, none, 4, 99)
abbrev mt_X10_leastX : MI := (yX10_leastX, cX10_leastX, 3, (some .int), 0, 0)
abbrev mt_X10_greatestX : MI := (yX10_greatestX, cX10_greatestX, 3, (some .int), 0, 0)
abbrev mt_X10_ofLetter : MI := (yX10_ofLetter, cX10_ofLetter, 3, (some .int), 5, 122)
abbrev mt_X10_kind : MI := (yX10_kind, cX10_kind, 5, (some .int), 5, 120)
abbrev mt_X10_moved : MI := (yX10_moved, cX10_moved, 2, (some .int), 0, 0)
abbrev mt_X10_apartBy : MI := (yX10_apartBy, cX10_apartBy, 6, (some .int), 1, 22)
abbrev mt_X10_layBoth : MI := (yX10_layBoth, cX10_layBoth, 3, none, 5, 122)
abbrev mt_X10_apart : MI := (yX10_apart, cX10_apart, 4, (some .int), 6, 144)
abbrev mt_X10_findFit : MI := (yX10_findFit, cX10_findFit, 5, none, 6, 144)
abbrev mt_X10_fit : MI := (yX10_fit, cX10_fit, 3, (some .int), 7, 168)
abbrev mt_X10_likest : MI := (yX10_likest, cX10_likest, 5, (some .int), 7, 168)
abbrev mt_X10_newKinds : MI := (yX10_newKinds, cX10_newKinds, 4, (some .int), 4, 99)
abbrev mt_X10_nextTaught : MI := (yX10_nextTaught, cX10_nextTaught, 5, (some .int), 5, 122)
abbrev mt_X10_lesson : MI := (yX10_lesson, cX10_lesson, 6, (some .int), 6, 146)
abbrev mt_X10_wrongByNib : MI := (yX10_wrongByNib, cX10_wrongByNib, 5, (some .int), 3, 78)
abbrev mt_X10_bestNib : MI := (yX10_bestNib, cX10_bestNib, 8, (some .int), 4, 102)
abbrev mt_X10_bestLimit : MI := (yX10_bestLimit, cX10_bestLimit, 4, (some .int), 4, 102)
abbrev mt_X10_frame : MI := (yX10_frame, cX10_frame, 3, (some .int), 0, 0)
abbrev mt_X10_fault : MI := (yX10_fault, cX10_fault, 2, (some .int), 1, 22)
abbrev mt_X10_shoot : MI := (yX10_shoot, cX10_shoot, 3, (some .int), 5, 122)
abbrev mt_X10_roll : MI := (yX10_roll, cX10_roll, 3, (some .int), 2, 43)
abbrev mt_X10_seen : MI := (yX10_seen, cX10_seen, 2, (some .long), 2, 43)
abbrev mt_X10_spoil : MI := (yX10_spoil, cX10_spoil, 2, (some .int), 0, 0)
abbrev mt_X10_manySteps : MI := (yX10_manySteps, cX10_manySteps, 3, (some .int), 0, 0)
abbrev mt_X10_many : MI := (yX10_many, cX10_many, 2, (some .int), 5, 120)
abbrev mt_J6_bitCount_0f7a4 : MI := (yJ6_bitCount_0f7a4, cJ6_bitCount_0f7a4, 1, (some .int), 0, 0)
abbrev mt_J9_abs_0f7a4 : MI := (yJ9_abs_0f7a4, cJ9_abs_0f7a4, 1, (some .int), 0, 0)
abbrev mt_J9_max_7cf53 : MI := (yJ9_max_7cf53, cJ9_max_7cf53, 2, (some .int), 0, 0)
abbrev mt_J9_min_7cf53 : MI := (yJ9_min_7cf53, cJ9_min_7cf53, 2, (some .int), 0, 0)
abbrev mt_J7_fill_53178 : MI := (yJ7_fill_53178, cJ7_fill_53178, 4, none, 0, 0)
abbrev mt_J7_copyOf_59c91 : MI := (yJ7_copyOf_59c91, cJ7_copyOf_59c91, 3, (some (.array .int)), 1, 22)
abbrev mt_L_law : MI := (yL_law, cL_law, 4, (some .boolean), 8, 192)
def MT_0 : Nat → MI := fun k => match k with
  | 0 => mt_X0_init
  | 1 => mt_X0_find
  | 2 => mt_X0_countApart
  | 3 => mt_X1_init
  | 4 => mt_X1_countPieces
  | 5 => mt_X1_countCounters
  | 6 => mt_X1_countLeft
  | 7 => mt_X1_removePiece
  | 8 => mt_X1_removePlace
  | 9 => mt_X2_init
  | 10 => mt_X2_open
  | 11 => mt_X2_close
  | 12 => mt_X2_faultAt
  | 13 => mt_X3_init
  | 14 => mt_X3_lengthOf
  | _ => mt_X3_clear
def MT_1 : Nat → MI := fun k => match k with
  | 0 => mt_X3_addAll
  | 1 => mt_X3_add
  | 2 => mt_X3_has
  | 3 => mt_X3_countAhead
  | 4 => mt_X3_countNotIn
  | 5 => mt_X4_init
  | 6 => mt_X4_nameAt
  | 7 => mt_X4_nextName
  | 8 => mt_X5_init
  | 9 => mt_X5_endsAt
  | 10 => mt_X5_add
  | 11 => mt_X5_clear
  | 12 => mt_X6_init
  | 13 => mt_X6_at
  | 14 => mt_X6_add
  | _ => mt_X6_removeLast
def MT_2 : Nat → MI := fun k => match k with
  | 0 => mt_X6_clear
  | 1 => mt_X6_copyFrom
  | 2 => mt_X6_gatherInk
  | 3 => mt_X6_countSteps
  | 4 => mt_X6_countWrong
  | 5 => mt_X6_countWrongWithNib
  | 6 => mt_X7_init
  | 7 => mt_X7_at
  | 8 => mt_X7_put
  | 9 => mt_X7_remove
  | 10 => mt_X7_nameAt
  | 11 => mt_X8_init
  | 12 => mt_X8_inkBetween
  | 13 => mt_X8_covers
  | 14 => mt_X8_coversOnItsLine
  | _ => mt_X8_countSteps
def MT_3 : Nat → MI := fun k => match k with
  | 0 => mt_X8_hasStep
  | 1 => mt_X8_stepX
  | 2 => mt_X8_stepY
  | 3 => mt_X8_thickUpper
  | 4 => mt_X8_thickLower
  | 5 => mt_X8_sortOf
  | 6 => mt_X8_isWrong
  | 7 => mt_X8_countWrong
  | 8 => mt_X8_kindCode
  | 9 => mt_X8_hasEnd
  | 10 => mt_X8_hasInk
  | 11 => mt_X8_sharesEndWith
  | 12 => mt_X8_hasEndInInkOf
  | 13 => mt_X8_addInkTo
  | 14 => mt_X8_crossesInkOf
  | _ => mt_X9_init
def MT_4 : Nat → MI := fun k => match k with
  | 0 => mt_X9_nib
  | 1 => mt_X9_ofNib
  | 2 => mt_X9_point
  | 3 => mt_X9_drop
  | 4 => mt_X9_lift
  | 5 => mt_X9_undo
  | 6 => mt_X9_ofStroke
  | 7 => mt_X9_place
  | 8 => mt_X9_ink
  | 9 => mt_X9_area
  | 10 => mt_X9_limit
  | 11 => mt_X9_thick
  | 12 => mt_X9_sort
  | 13 => mt_X9_wrong
  | 14 => mt_X9_join
  | _ => mt_X9_pieces
def MT_5 : Nat → MI := fun k => match k with
  | 0 => mt_X9_keep
  | 1 => mt_X9_take
  | 2 => mt_X9_forget
  | 3 => mt_X9_name
  | 4 => mt_X9_ofLetter
  | 5 => mt_X9_kind
  | 6 => mt_X9_apart
  | 7 => mt_X9_fit
  | 8 => mt_X9_likest
  | 9 => mt_X9_lesson
  | 10 => mt_X9_bestNib
  | 11 => mt_X9_bestLimit
  | 12 => mt_X9_frame
  | 13 => mt_X9_shoot
  | 14 => mt_X9_roll
  | _ => mt_X9_seen
def MT_6 : Nat → MI := fun k => match k with
  | 0 => mt_X9_spoil
  | 1 => mt_X9_many
  | 2 => mt_X9_within
  | 3 => mt_X9_withoutSign
  | 4 => mt_X9_rowsOf
  | 5 => mt_X9_gatherSheet
  | 6 => mt_X9_gatherLetter
  | 7 => mt_X9_countKindsOf
  | 8 => mt_X9_gatherAllKinds
  | 9 => mt_X9_countBits
  | 10 => mt_X9_columnsOf
  | 11 => mt_X9_leastX
  | 12 => mt_X9_greatestX
  | 13 => mt_X9_greatestDivisor
  | 14 => mt_X10_init
  | _ => mt_X10_within
def MT_7 : Nat → MI := fun k => match k with
  | 0 => mt_X10_nib
  | 1 => mt_X10_ofNib
  | 2 => mt_X10_point
  | 3 => mt_X10_drop
  | 4 => mt_X10_lift
  | 5 => mt_X10_undo
  | 6 => mt_X10_isStroke
  | 7 => mt_X10_ofStroke
  | 8 => mt_X10_place
  | 9 => mt_X10_noInk
  | 10 => mt_X10_isUpTo
  | 11 => mt_X10_size
  | 12 => mt_X10_isCovered
  | 13 => mt_X10_addStep
  | 14 => mt_X10_addStroke
  | _ => mt_X10_findInk
def MT_8 : Nat → MI := fun k => match k with
  | 0 => mt_X10_findInkOf
  | 1 => mt_X10_bits
  | 2 => mt_X10_inkSize
  | 3 => mt_X10_ink
  | 4 => mt_X10_area
  | 5 => mt_X10_limit
  | 6 => mt_X10_stepX
  | 7 => mt_X10_stepY
  | 8 => mt_X10_isStep
  | 9 => mt_X10_common
  | 10 => mt_X10_thick
  | 11 => mt_X10_sortOf
  | 12 => mt_X10_sort
  | 13 => mt_X10_wrongOf
  | 14 => mt_X10_allWrong
  | _ => mt_X10_wrong
def MT_9 : Nat → MI := fun k => match k with
  | 0 => mt_X10_endOf
  | 1 => mt_X10_areAlike
  | 2 => mt_X10_isInked
  | 3 => mt_X10_endsIn
  | 4 => mt_X10_doMeet
  | 5 => mt_X10_join
  | 6 => mt_X10_isInk
  | 7 => mt_X10_goesThrough
  | 8 => mt_X10_piecesOf
  | 9 => mt_X10_pieces
  | 10 => mt_X10_isLetter
  | 11 => mt_X10_letters
  | 12 => mt_X10_copies
  | 13 => mt_X10_keep
  | 14 => mt_X10_take
  | _ => mt_X10_forget
def MT_10 : Nat → MI := fun k => match k with
  | 0 => mt_X10_name
  | 1 => mt_X10_kindOf
  | 2 => mt_X10_hasKind
  | 3 => mt_X10_addKinds
  | 4 => mt_X10_findKinds
  | 5 => mt_X10_leastX
  | 6 => mt_X10_greatestX
  | 7 => mt_X10_ofLetter
  | 8 => mt_X10_kind
  | 9 => mt_X10_moved
  | 10 => mt_X10_apartBy
  | 11 => mt_X10_layBoth
  | 12 => mt_X10_apart
  | 13 => mt_X10_findFit
  | 14 => mt_X10_fit
  | _ => mt_X10_likest
def MT_11 : Nat → MI := fun k => match k with
  | 0 => mt_X10_newKinds
  | 1 => mt_X10_nextTaught
  | 2 => mt_X10_lesson
  | 3 => mt_X10_wrongByNib
  | 4 => mt_X10_bestNib
  | 5 => mt_X10_bestLimit
  | 6 => mt_X10_frame
  | 7 => mt_X10_fault
  | 8 => mt_X10_shoot
  | 9 => mt_X10_roll
  | 10 => mt_X10_seen
  | 11 => mt_X10_spoil
  | 12 => mt_X10_manySteps
  | 13 => mt_X10_many
  | 14 => mt_J6_bitCount_0f7a4
  | _ => mt_J9_abs_0f7a4
def MT_12 : Nat → MI := fun k => match k with
  | 0 => mt_J9_max_7cf53
  | 1 => mt_J9_min_7cf53
  | 2 => mt_J7_fill_53178
  | 3 => mt_J7_copyOf_59c91
  | _ => mt_L_law
def MT (mi : Nat) : MI := match mi / 16 with
  | 0 => MT_0 (mi % 16)
  | 1 => MT_1 (mi % 16)
  | 2 => MT_2 (mi % 16)
  | 3 => MT_3 (mi % 16)
  | 4 => MT_4 (mi % 16)
  | 5 => MT_5 (mi % 16)
  | 6 => MT_6 (mi % 16)
  | 7 => MT_7 (mi % 16)
  | 8 => MT_8 (mi % 16)
  | 9 => MT_9 (mi % 16)
  | 10 => MT_10 (mi % 16)
  | 11 => MT_11 (mi % 16)
  | _ => MT_12 (mi % 16)
/-! the words: those that a contract carries, those of nest mates (carried beside) -/
def GT : List Cond := lw_tbl.filter goodWord
def xnest : Cond → Bool
  | .fieldLinkNest .. => true
  | .methodLinkNest .. => true
  | .castable .. => true
  | .arrayOver (.object _) => true
  | _ => false
def NT : List Cond := lw_tbl.filter xnest
theorem gt_mem {w : Cond} (i : Nat) (h : lw_tbl[i]? = some w) (hg : goodWord w = true) : w ∈ GT := List.mem_filter.mpr ⟨List.mem_of_getElem? h, hg⟩
theorem nt_mem {w : Cond} (i : Nat) (h : lw_tbl[i]? = some w) (hg : xnest w = true) : w ∈ NT := List.mem_filter.mpr ⟨List.mem_of_getElem? h, hg⟩

set_option maxRecDepth 20000 in
theorem inX0 : ∀ w ∈ u_ws RX0 TX0 3, w ∈ GT := by
  intro w hw
  obtain ⟨k, hk, rfl⟩ := List.mem_map.mp hw
  have hk : k < 3 := List.mem_range.mp hk
  rcases (show k = 0 ∨ k = 1 ∨ k = 2 by omega) with rfl | rfl | rfl
  · exact gt_mem 189 (by decide +kernel) (by decide +kernel)
  · exact gt_mem 191 (by decide +kernel) (by decide +kernel)
  · exact gt_mem 193 (by decide +kernel) (by decide +kernel)
set_option maxRecDepth 20000 in
theorem inX1 : ∀ w ∈ u_ws RX1 TX1 3, w ∈ GT := by
  intro w hw
  obtain ⟨k, hk, rfl⟩ := List.mem_map.mp hw
  have hk : k < 3 := List.mem_range.mp hk
  rcases (show k = 0 ∨ k = 1 ∨ k = 2 by omega) with rfl | rfl | rfl
  · exact gt_mem 156 (by decide +kernel) (by decide +kernel)
  · exact gt_mem 158 (by decide +kernel) (by decide +kernel)
  · exact gt_mem 160 (by decide +kernel) (by decide +kernel)
set_option maxRecDepth 20000 in
theorem inX2 : ∀ w ∈ u_ws RX2 TX2 2, w ∈ GT := by
  intro w hw
  obtain ⟨k, hk, rfl⟩ := List.mem_map.mp hw
  have hk : k < 2 := List.mem_range.mp hk
  rcases (show k = 0 ∨ k = 1 by omega) with rfl | rfl
  · exact gt_mem 142 (by decide +kernel) (by decide +kernel)
  · exact gt_mem 144 (by decide +kernel) (by decide +kernel)
set_option maxRecDepth 20000 in
theorem inX3 : ∀ w ∈ u_ws RX3 TX3 2, w ∈ GT := by
  intro w hw
  obtain ⟨k, hk, rfl⟩ := List.mem_map.mp hw
  have hk : k < 2 := List.mem_range.mp hk
  rcases (show k = 0 ∨ k = 1 by omega) with rfl | rfl
  · exact gt_mem 172 (by decide +kernel) (by decide +kernel)
  · exact gt_mem 174 (by decide +kernel) (by decide +kernel)
set_option maxRecDepth 20000 in
theorem inX4 : ∀ w ∈ u_ws RX4 TX4 3, w ∈ GT := by
  intro w hw
  obtain ⟨k, hk, rfl⟩ := List.mem_map.mp hw
  have hk : k < 3 := List.mem_range.mp hk
  rcases (show k = 0 ∨ k = 1 ∨ k = 2 by omega) with rfl | rfl | rfl
  · exact gt_mem 208 (by decide +kernel) (by decide +kernel)
  · exact gt_mem 210 (by decide +kernel) (by decide +kernel)
  · exact gt_mem 212 (by decide +kernel) (by decide +kernel)
set_option maxRecDepth 20000 in
theorem inX5 : ∀ w ∈ u_ws RX5 TX5 3, w ∈ GT := by
  intro w hw
  obtain ⟨k, hk, rfl⟩ := List.mem_map.mp hw
  have hk : k < 3 := List.mem_range.mp hk
  rcases (show k = 0 ∨ k = 1 ∨ k = 2 by omega) with rfl | rfl | rfl
  · exact gt_mem 91 (by decide +kernel) (by decide +kernel)
  · exact gt_mem 93 (by decide +kernel) (by decide +kernel)
  · exact gt_mem 95 (by decide +kernel) (by decide +kernel)
set_option maxRecDepth 20000 in
theorem inX6 : ∀ w ∈ u_ws RX6 TX6 2, w ∈ GT := by
  intro w hw
  obtain ⟨k, hk, rfl⟩ := List.mem_map.mp hw
  have hk : k < 2 := List.mem_range.mp hk
  rcases (show k = 0 ∨ k = 1 by omega) with rfl | rfl
  · exact gt_mem 111 (by decide +kernel) (by decide +kernel)
  · exact gt_mem 113 (by decide +kernel) (by decide +kernel)
set_option maxRecDepth 20000 in
theorem inX7 : ∀ w ∈ u_ws RX7 TX7 2, w ∈ GT := by
  intro w hw
  obtain ⟨k, hk, rfl⟩ := List.mem_map.mp hw
  have hk : k < 2 := List.mem_range.mp hk
  rcases (show k = 0 ∨ k = 1 by omega) with rfl | rfl
  · exact gt_mem 127 (by decide +kernel) (by decide +kernel)
  · exact gt_mem 129 (by decide +kernel) (by decide +kernel)
set_option maxRecDepth 20000 in
theorem inX8 : ∀ w ∈ u_ws RX8 TX8 6, w ∈ GT := by
  intro w hw
  obtain ⟨k, hk, rfl⟩ := List.mem_map.mp hw
  have hk : k < 6 := List.mem_range.mp hk
  rcases (show k = 0 ∨ k = 1 ∨ k = 2 ∨ k = 3 ∨ k = 4 ∨ k = 5 by omega) with rfl | rfl | rfl | rfl | rfl | rfl
  · exact gt_mem 346 (by decide +kernel) (by decide +kernel)
  · exact gt_mem 348 (by decide +kernel) (by decide +kernel)
  · exact gt_mem 350 (by decide +kernel) (by decide +kernel)
  · exact gt_mem 352 (by decide +kernel) (by decide +kernel)
  · exact gt_mem 354 (by decide +kernel) (by decide +kernel)
  · exact gt_mem 356 (by decide +kernel) (by decide +kernel)
set_option maxRecDepth 20000 in
theorem inX9 : ∀ w ∈ u_ws RX9 TX9 13, w ∈ GT := by
  intro w hw
  obtain ⟨k, hk, rfl⟩ := List.mem_map.mp hw
  have hk : k < 13 := List.mem_range.mp hk
  rcases (show k = 0 ∨ k = 1 ∨ k = 2 ∨ k = 3 ∨ k = 4 ∨ k = 5 ∨ k = 6 ∨ k = 7 ∨ k = 8 ∨ k = 9 ∨ k = 10 ∨ k = 11 ∨ k = 12 by omega) with rfl | rfl | rfl | rfl | rfl | rfl | rfl | rfl | rfl | rfl | rfl | rfl | rfl
  · exact gt_mem 228 (by decide +kernel) (by decide +kernel)
  · exact gt_mem 230 (by decide +kernel) (by decide +kernel)
  · exact gt_mem 232 (by decide +kernel) (by decide +kernel)
  · exact gt_mem 234 (by decide +kernel) (by decide +kernel)
  · exact gt_mem 236 (by decide +kernel) (by decide +kernel)
  · exact gt_mem 238 (by decide +kernel) (by decide +kernel)
  · exact gt_mem 240 (by decide +kernel) (by decide +kernel)
  · exact gt_mem 242 (by decide +kernel) (by decide +kernel)
  · exact gt_mem 244 (by decide +kernel) (by decide +kernel)
  · exact gt_mem 246 (by decide +kernel) (by decide +kernel)
  · exact gt_mem 248 (by decide +kernel) (by decide +kernel)
  · exact gt_mem 250 (by decide +kernel) (by decide +kernel)
  · exact gt_mem 252 (by decide +kernel) (by decide +kernel)
set_option maxRecDepth 20000 in
theorem inX10 : ∀ w ∈ u_ws RX10 TX10 24, w ∈ GT := by
  intro w hw
  obtain ⟨k, hk, rfl⟩ := List.mem_map.mp hw
  have hk : k < 24 := List.mem_range.mp hk
  rcases (show k = 0 ∨ k = 1 ∨ k = 2 ∨ k = 3 ∨ k = 4 ∨ k = 5 ∨ k = 6 ∨ k = 7 ∨ k = 8 ∨ k = 9 ∨ k = 10 ∨ k = 11 ∨ k = 12 ∨ k = 13 ∨ k = 14 ∨ k = 15 ∨ k = 16 ∨ k = 17 ∨ k = 18 ∨ k = 19 ∨ k = 20 ∨ k = 21 ∨ k = 22 ∨ k = 23 by omega) with rfl | rfl | rfl | rfl | rfl | rfl | rfl | rfl | rfl | rfl | rfl | rfl | rfl | rfl | rfl | rfl | rfl | rfl | rfl | rfl | rfl | rfl | rfl | rfl
  · exact gt_mem 763 (by decide +kernel) (by decide +kernel)
  · exact gt_mem 765 (by decide +kernel) (by decide +kernel)
  · exact gt_mem 767 (by decide +kernel) (by decide +kernel)
  · exact gt_mem 769 (by decide +kernel) (by decide +kernel)
  · exact gt_mem 771 (by decide +kernel) (by decide +kernel)
  · exact gt_mem 773 (by decide +kernel) (by decide +kernel)
  · exact gt_mem 775 (by decide +kernel) (by decide +kernel)
  · exact gt_mem 777 (by decide +kernel) (by decide +kernel)
  · exact gt_mem 779 (by decide +kernel) (by decide +kernel)
  · exact gt_mem 781 (by decide +kernel) (by decide +kernel)
  · exact gt_mem 783 (by decide +kernel) (by decide +kernel)
  · exact gt_mem 785 (by decide +kernel) (by decide +kernel)
  · exact gt_mem 787 (by decide +kernel) (by decide +kernel)
  · exact gt_mem 789 (by decide +kernel) (by decide +kernel)
  · exact gt_mem 791 (by decide +kernel) (by decide +kernel)
  · exact gt_mem 793 (by decide +kernel) (by decide +kernel)
  · exact gt_mem 795 (by decide +kernel) (by decide +kernel)
  · exact gt_mem 797 (by decide +kernel) (by decide +kernel)
  · exact gt_mem 799 (by decide +kernel) (by decide +kernel)
  · exact gt_mem 801 (by decide +kernel) (by decide +kernel)
  · exact gt_mem 803 (by decide +kernel) (by decide +kernel)
  · exact gt_mem 805 (by decide +kernel) (by decide +kernel)
  · exact gt_mem 807 (by decide +kernel) (by decide +kernel)
  · exact gt_mem 809 (by decide +kernel) (by decide +kernel)
