/-! FACTS: methods and links (by program) -/
abbrev M_X0_become : MD := (RX0, cX0_become, 2, (none : Option FieldType), 1, 26, false, fun _ _ _ => True)
abbrev M_X0_hasPaper : MD := (RX0, cX0_hasPaper, 3, (some FieldType.boolean), 0, 0, false, fun _ _ _ => True)
abbrev M_X0_hasCand : MD := (RX0, cX0_hasCand, 2, (some FieldType.boolean), 0, 0, false, fun _ _ _ => True)
abbrev M_X0_hasRoom : MD := (RX0, cX0_hasRoom, 2, (some FieldType.boolean), 0, 0, false, fun _ _ _ => True)
abbrev M_X0_addPaper : MD := (RX0, cX0_addPaper, 4, (some FieldType.int), 0, 0, false, fun _ _ _ => True)
abbrev M_X0_addCand : MD := (RX0, cX0_addCand, 3, (some FieldType.int), 0, 0, false, fun _ _ _ => True)
abbrev M_X0_addRoom : MD := (RX0, cX0_addRoom, 2, (some FieldType.int), 0, 0, false, fun _ _ _ => True)
abbrev M_X10_hasBit : MD := (RX10, cX10_hasBit, 2, (some FieldType.boolean), 0, 0, false, fun _ _ _ => True)
abbrev M_X0_doesTake : MD := (RX0, cX0_doesTake, 3, (some FieldType.boolean), 1, 21, false, fun _ _ _ => True)
abbrev M_X0_papersOf : MD := (RX0, cX0_papersOf, 4, (some FieldType.int), 0, 0, false, fun _ _ _ => True)
abbrev M_J6_bitCount_0f7a4 : MD := (RJ6, cJ6_bitCount_0f7a4, 1, (some FieldType.int), 0, 0, false, fun _ _ _ => True)
abbrev M_X0_mayFlip : MD := (RX0, cX0_mayFlip, 3, (some FieldType.boolean), 2, 43, false, fun _ _ _ => True)
abbrev M_X0_flip : MD := (RX0, cX0_flip, 3, (none : Option FieldType), 0, 0, false, fun _ _ _ => True)
abbrev M_X2_timeOf : MD := (RX2, cX2_timeOf, 4, (some FieldType.int), 0, 0, false, fun _ _ _ => True)
abbrev M_X0_timeFor : MD := (RX0, cX0_timeFor, 3, (some FieldType.int), 1, 23, false, fun _ _ _ => True)
abbrev M_X2_restOf : MD := (RX2, cX2_restOf, 3, (some FieldType.int), 0, 0, false, fun _ _ _ => True)
abbrev M_X0_restFor : MD := (RX0, cX0_restFor, 2, (some FieldType.int), 1, 22, false, fun _ _ _ => True)
abbrev M_X0_takenInAll : MD := (RX0, cX0_takenInAll, 3, (some FieldType.int), 1, 20, false, fun _ _ _ => True)
abbrev M_X1_count : MD := (RX1, cX1_count, 1, (some FieldType.int), 0, 0, false, fun _ _ _ => True)
abbrev M_X1_watchers : MD := (RX1, cX1_watchers, 1, (some FieldType.int), 0, 0, false, fun _ _ _ => True)
abbrev M_X1_atOnce : MD := (RX1, cX1_atOnce, 1, (some FieldType.int), 0, 0, false, fun _ _ _ => True)
abbrev M_X1_tell : MD := (RX1, cX1_tell, 3, (some FieldType.int), 0, 0, false, fun _ _ _ => True)
abbrev M_X9_edition : MD := (RX9, cX9_edition, 1, (some FieldType.int), 0, 0, false, fun _ _ _ => True)
abbrev M_X8_cameTo : MD := (RX8, cX8_cameTo, 2, (some FieldType.int), 0, 0, false, fun _ _ _ => True)
abbrev M_X8_open : MD := (RX8, cX8_open, 4, (none : Option FieldType), 0, 0, false, fun _ _ _ => True)
abbrev M_X10_span : MD := (RX10, cX10_span, 2, (some FieldType.long), 0, 0, false, fun _ _ _ => True)
abbrev M_X3_gather : MD := (RX3, cX3_gather, 7, (none : Option FieldType), 2, 45, false, fun _ _ _ => True)
abbrev M_X3_walk : MD := (RX3, cX3_walk, 13, (some FieldType.boolean), 1, 21, false, fun _ _ _ => True)
abbrev M_J13_bitCount_95d88 : MD := (RJ13, cJ13_bitCount_95d88, 2, (some FieldType.int), 0, 0, false, fun _ _ _ => True)
abbrev M_X3_join : MD := (RX3, cX3_join, 4, (some FieldType.int), 0, 0, false, fun _ _ _ => True)
abbrev M_X3_measured : MD := (RX3, cX3_measured, 5, (some FieldType.int), 1, 23, false, fun _ _ _ => True)
abbrev M_X3_swap : MD := (RX3, cX3_swap, 4, (none : Option FieldType), 0, 0, false, fun _ _ _ => True)
abbrev M_X3_nextRow : MD := (RX3, cX3_nextRow, 5, (some FieldType.boolean), 1, 23, false, fun _ _ _ => True)
abbrev M_X3_search : MD := (RX3, cX3_search, 7, (some FieldType.boolean), 2, 53, false, fun _ _ _ => True)
abbrev M_X3_count : MD := (RX3, cX3_count, 1, (some FieldType.int), 0, 0, false, fun _ _ _ => True)
abbrev M_X3_keptSlots : MD := (RX3, cX3_keptSlots, 1, (some FieldType.long), 0, 0, false, fun _ _ _ => True)
abbrev M_X3_paperAt : MD := (RX3, cX3_paperAt, 2, (some FieldType.int), 0, 0, false, fun _ _ _ => True)
abbrev M_X3_beginAt : MD := (RX3, cX3_beginAt, 2, (some FieldType.int), 0, 0, false, fun _ _ _ => True)
abbrev M_X3_endAt : MD := (RX3, cX3_endAt, 2, (some FieldType.int), 0, 0, false, fun _ _ _ => True)
abbrev M_X8_put : MD := (RX8, cX8_put, 6, (none : Option FieldType), 1, 21, false, fun _ _ _ => True)
abbrev M_X3_least : MD := (RX3, cX3_least, 1, (some FieldType.int), 0, 0, false, fun _ _ _ => True)
abbrev M_X4_planDay : MD := (RX4, cX4_planDay, 12, (none : Option FieldType), 3, 79, false, fun _ _ _ => True)
abbrev M_X9_of : MD := (RX9, cX9_of, 5, (some (FieldType.object "ClashDays$Week")), 4, 110, false, fun _ _ _ => True)
abbrev M_X10_hasSlot : MD := (RX10, cX10_hasSlot, 3, (some FieldType.boolean), 0, 0, false, fun _ _ _ => True)
abbrev M_X8_dutyFrom : MD := (RX8, cX8_dutyFrom, 5, (some FieldType.int), 1, 22, false, fun _ _ _ => True)
abbrev M_X1_add : MD := (RX1, cX1_add, 5, (none : Option FieldType), 0, 0, false, fun _ _ _ => True)
abbrev M_X1_beginOf : MD := (RX1, cX1_beginOf, 2, (some FieldType.int), 0, 0, false, fun _ _ _ => True)
abbrev M_X1_watcherAt : MD := (RX1, cX1_watcherAt, 4, (some FieldType.int), 0, 0, false, fun _ _ _ => True)
abbrev M_X1_giveOut : MD := (RX1, cX1_giveOut, 4, (none : Option FieldType), 1, 23, false, fun _ _ _ => True)
abbrev M_X1_countAtOnce : MD := (RX1, cX1_countAtOnce, 5, (none : Option FieldType), 1, 21, false, fun _ _ _ => True)
abbrev M_X1_gather : MD := (RX1, cX1_gather, 6, (none : Option FieldType), 5, 134, false, fun _ _ _ => True)
abbrev M_X2_isKind : MD := (RX2, cX2_isKind, 1, (some FieldType.boolean), 0, 0, false, fun _ _ _ => True)
abbrev M_X3_lawfulOnes : MD := (RX3, cX3_lawfulOnes, 1, (some FieldType.int), 0, 0, false, fun _ _ _ => True)
abbrev M_X4_planWeek : MD := (RX4, cX4_planWeek, 5, (none : Option FieldType), 4, 110, false, fun _ _ _ => True)
abbrev M_X4_replan : MD := (RX4, cX4_replan, 8, (none : Option FieldType), 4, 110, false, fun _ _ _ => True)
abbrev M_X4_ordersOf : MD := (RX4, cX4_ordersOf, 6, (some (FieldType.object "ClashDays$Orders")), 3, 71, false, fun _ _ _ => True)
abbrev M_X4_clash : MD := (RX4, cX4_clash, 9, (some FieldType.int), 3, 79, false, fun _ _ _ => True)
abbrev M_X5_piecesOf : MD := (RX5, cX5_piecesOf, 2, (some FieldType.int), 0, 0, false, fun _ _ _ => True)
abbrev M_X5_movesOf : MD := (RX5, cX5_movesOf, 2, (some FieldType.int), 0, 0, false, fun _ _ _ => True)
abbrev M_X5_roomAt : MD := (RX5, cX5_roomAt, 3, (some FieldType.int), 0, 0, false, fun _ _ _ => True)
abbrev M_X5_usedAt : MD := (RX5, cX5_usedAt, 3, (some FieldType.int), 0, 0, false, fun _ _ _ => True)
abbrev M_X8_pieceFrom : MD := (RX8, cX8_pieceFrom, 5, (some FieldType.long), 2, 46, false, fun _ _ _ => True)
abbrev M_X8_piecesOf : MD := (RX8, cX8_piecesOf, 7, (some FieldType.int), 3, 70, false, fun _ _ _ => True)
abbrev M_X5_costWith : MD := (RX5, cX5_costWith, 4, (some FieldType.int), 0, 0, false, fun _ _ _ => True)
abbrev M_X5_firstRoom : MD := (RX5, cX5_firstRoom, 7, (some FieldType.int), 1, 23, false, fun _ _ _ => True)
abbrev M_X5_costFrom : MD := (RX5, cX5_costFrom, 6, (some FieldType.int), 2, 49, false, fun _ _ _ => True)
abbrev M_X5_countMoves : MD := (RX5, cX5_countMoves, 5, (none : Option FieldType), 3, 74, false, fun _ _ _ => True)
abbrev M_X5_fill : MD := (RX5, cX5_fill, 7, (none : Option FieldType), 1, 22, false, fun _ _ _ => True)
abbrev M_X5_seat : MD := (RX5, cX5_seat, 6, (none : Option FieldType), 4, 98, false, fun _ _ _ => True)
abbrev M_X5_lay : MD := (RX5, cX5_lay, 5, (none : Option FieldType), 5, 134, false, fun _ _ _ => True)
abbrev M_X6_isShelf : MD := (RX6, cX6_isShelf, 1, (some FieldType.boolean), 0, 0, false, fun _ _ _ => True)
abbrev M_X6_holding : MD := (RX6, cX6_holding, 2, (some FieldType.int), 1, 20, false, fun _ _ _ => True)
abbrev M_X6_candOn : MD := (RX6, cX6_candOn, 3, (some FieldType.int), 2, 41, false, fun _ _ _ => True)
abbrev M_X6_dropCandsFrom : MD := (RX6, cX6_dropCandsFrom, 3, (none : Option FieldType), 3, 63, false, fun _ _ _ => True)
abbrev M_X6_filled : MD := (RX6, cX6_filled, 3, (some FieldType.int), 0, 0, false, fun _ _ _ => True)
abbrev M_X7_size : MD := (RX7, cX7_size, 1, (some FieldType.int), 0, 0, false, fun _ _ _ => True)
abbrev M_X8_become : MD := (RX8, cX8_become, 3, (none : Option FieldType), 1, 26, false, fun _ _ _ => True)
abbrev M_X8_cants : MD := (RX8, cX8_cants, 3, (some FieldType.int), 0, 0, false, fun _ _ _ => True)
abbrev M_X8_keptSlots : MD := (RX8, cX8_keptSlots, 3, (some FieldType.int), 1, 21, false, fun _ _ _ => True)
abbrev M_X8_deed : MD := (RX8, cX8_deed, 5, (some FieldType.int), 1, 22, false, fun _ _ _ => True)
abbrev M_X8_measured : MD := (RX8, cX8_measured, 7, (some FieldType.int), 1, 23, false, fun _ _ _ => True)
abbrev M_X8_beginsLate : MD := (RX8, cX8_beginsLate, 6, (some FieldType.boolean), 0, 0, false, fun _ _ _ => True)
abbrev M_X9_forgetOthers : MD := (RX9, cX9_forgetOthers, 1, (none : Option FieldType), 0, 0, false, fun _ _ _ => True)
abbrev M_X9_forget : MD := (RX9, cX9_forget, 2, (none : Option FieldType), 0, 0, false, fun _ _ _ => True)
abbrev M_X9_forgetAll : MD := (RX9, cX9_forgetAll, 2, (none : Option FieldType), 0, 0, false, fun _ _ _ => True)
abbrev M_X10_isDay : MD := (RX10, cX10_isDay, 1, (some FieldType.boolean), 0, 0, false, fun _ _ _ => True)
abbrev M_X10_isSlot : MD := (RX10, cX10_isSlot, 1, (some FieldType.boolean), 0, 0, false, fun _ _ _ => True)
abbrev M_X10_refuse : MD := (RX10, cX10_refuse, 3, (some FieldType.int), 0, 0, false, fun _ _ _ => True)
abbrev M_X10_paper : MD := (RX10, cX10_paper, 4, (some FieldType.int), 1, 23, false, fun _ _ _ => True)
abbrev M_X10_cand : MD := (RX10, cX10_cand, 4, (some FieldType.int), 1, 22, false, fun _ _ _ => True)
abbrev M_X10_isYesOrNo : MD := (RX10, cX10_isYesOrNo, 1, (some FieldType.boolean), 0, 0, false, fun _ _ _ => True)
abbrev M_X10_takes : MD := (RX10, cX10_takes, 5, (some FieldType.int), 3, 65, false, fun _ _ _ => True)
abbrev M_X10_night : MD := (RX10, cX10_night, 4, (some FieldType.int), 1, 22, false, fun _ _ _ => True)
abbrev M_X10_room : MD := (RX10, cX10_room, 2, (some FieldType.int), 1, 22, false, fun _ _ _ => True)
abbrev M_X10_hours : MD := (RX10, cX10_hours, 3, (some FieldType.int), 1, 22, false, fun _ _ _ => True)
abbrev M_X10_turn : MD := (RX10, cX10_turn, 3, (some FieldType.int), 1, 22, false, fun _ _ _ => True)
abbrev M_X10_candOf : MD := (RX10, cX10_candOf, 3, (some FieldType.int), 5, 134, false, fun _ _ _ => True)
abbrev M_X10_takersOf : MD := (RX10, cX10_takersOf, 4, (some FieldType.int), 2, 43, false, fun _ _ _ => True)
abbrev M_X10_lateOnesOf : MD := (RX10, cX10_lateOnesOf, 4, (some FieldType.int), 5, 134, false, fun _ _ _ => True)
abbrev M_X10_paperOf : MD := (RX10, cX10_paperOf, 3, (some FieldType.int), 6, 157, false, fun _ _ _ => True)
abbrev M_X10_time : MD := (RX10, cX10_time, 3, (some FieldType.int), 2, 45, false, fun _ _ _ => True)
abbrev M_X10_plan : MD := (RX10, cX10_plan, 5, (some FieldType.int), 5, 134, false, fun _ _ _ => True)
abbrev M_X10_sits : MD := (RX10, cX10_sits, 7, (some FieldType.int), 5, 134, false, fun _ _ _ => True)
abbrev M_X10_does : MD := (RX10, cX10_does, 4, (some FieldType.int), 5, 134, false, fun _ _ _ => True)
abbrev M_X10_isMeasure : MD := (RX10, cX10_isMeasure, 1, (some FieldType.boolean), 0, 0, false, fun _ _ _ => True)
abbrev M_X10_measure : MD := (RX10, cX10_measure, 5, (some FieldType.int), 5, 134, false, fun _ _ _ => True)
abbrev M_X10_best : MD := (RX10, cX10_best, 6, (some FieldType.int), 5, 134, false, fun _ _ _ => True)
abbrev M_X10_lawful : MD := (RX10, cX10_lawful, 4, (some FieldType.int), 5, 134, false, fun _ _ _ => True)
abbrev M_X10_watch : MD := (RX10, cX10_watch, 2, (some FieldType.int), 6, 159, false, fun _ _ _ => True)
abbrev M_X10_duty : MD := (RX10, cX10_duty, 3, (some FieldType.int), 6, 159, false, fun _ _ _ => True)
abbrev M_X10_pieces : MD := (RX10, cX10_pieces, 4, (some FieldType.int), 6, 158, false, fun _ _ _ => True)
abbrev M_X10_roomOf : MD := (RX10, cX10_roomOf, 4, (some FieldType.int), 6, 158, false, fun _ _ _ => True)
abbrev M_X10_left : MD := (RX10, cX10_left, 4, (some FieldType.int), 6, 158, false, fun _ _ _ => True)
abbrev M_X10_cantsFlipped : MD := (RX10, cX10_cantsFlipped, 3, (some FieldType.int), 5, 137, false, fun _ _ _ => True)
abbrev M_X10_whatIf : MD := (RX10, cX10_whatIf, 3, (some FieldType.int), 6, 159, false, fun _ _ _ => True)
abbrev M_X10_both : MD := (RX10, cX10_both, 4, (some FieldType.int), 5, 134, false, fun _ _ _ => True)
abbrev M_X10_relief : MD := (RX10, cX10_relief, 6, (some FieldType.int), 6, 159, false, fun _ _ _ => True)
abbrev M_X10_hoursFor : MD := (RX10, cX10_hoursFor, 3, (some FieldType.int), 5, 134, false, fun _ _ _ => True)
abbrev M_X10_image : MD := (RX10, cX10_image, 1, (some FieldType.int), 2, 47, false, fun _ _ _ => True)
abbrev M_X10_back : MD := (RX10, cX10_back, 1, (some FieldType.int), 4, 85, false, fun _ _ _ => True)
abbrev M_X10_daysSomebodyCant : MD := (RX10, cX10_daysSomebodyCant, 5, (some FieldType.int), 5, 134, false, fun _ _ _ => True)
abbrev M_X10_status : MD := (RX10, cX10_status, 2, (some FieldType.int), 6, 158, false, fun _ _ _ => True)
theorem wf_X0_9 : Cond.fieldLink RX0 9 (TX0 0).1 (TX0 0).2.1 (TX0 0).2.2.1 ∈ WS := inWS 51 (by decide +kernel) (by decide +kernel)
theorem wa_X0_46 : Cond.methodLink RX0 46 arraycopyName ∈ WS := inWS 752 (by decide +kernel) (by decide +kernel)
theorem wa_words : Cond.native arraycopyName ∈ WS ∧ Cond.static arraycopyName ∈ WS ∧ Cond.initialized "java/lang/System" ∈ WS := ⟨inWS 548 (by decide +kernel) (by decide +kernel), inWS 547 (by decide +kernel) (by decide +kernel), inWS 36 (by decide +kernel) (by decide +kernel)⟩
theorem wf_X0_15 : Cond.fieldLink RX0 15 (TX0 1).1 (TX0 1).2.1 (TX0 1).2.2.1 ∈ WS := inWS 54 (by decide +kernel) (by decide +kernel)
theorem wf_X0_18 : Cond.fieldLink RX0 18 (TX0 2).1 (TX0 2).2.1 (TX0 2).2.2.1 ∈ WS := inWS 59 (by decide +kernel) (by decide +kernel)
theorem wf_X0_21 : Cond.fieldLink RX0 21 (TX0 3).1 (TX0 3).2.1 (TX0 3).2.2.1 ∈ WS := inWS 61 (by decide +kernel) (by decide +kernel)
theorem wf_X0_24 : Cond.fieldLink RX0 24 (TX0 4).1 (TX0 4).2.1 (TX0 4).2.2.1 ∈ WS := inWS 63 (by decide +kernel) (by decide +kernel)
theorem wf_X0_27 : Cond.fieldLink RX0 27 (TX0 5).1 (TX0 5).2.1 (TX0 5).2.2.1 ∈ WS := inWS 65 (by decide +kernel) (by decide +kernel)
theorem wf_X0_30 : Cond.fieldLink RX0 30 (TX0 6).1 (TX0 6).2.1 (TX0 6).2.2.1 ∈ WS := inWS 68 (by decide +kernel) (by decide +kernel)
theorem wf_X0_33 : Cond.fieldLink RX0 33 (TX0 7).1 (TX0 7).2.1 (TX0 7).2.2.1 ∈ WS := inWS 71 (by decide +kernel) (by decide +kernel)
theorem wf_X0_52 : Cond.fieldLink RX0 52 (TX0 8).1 (TX0 8).2.1 (TX0 8).2.2.1 ∈ WS := inWS 74 (by decide +kernel) (by decide +kernel)
theorem wf_X0_55 : Cond.fieldLink RX0 55 (TX0 9).1 (TX0 9).2.1 (TX0 9).2.2.1 ∈ WS := inWS 78 (by decide +kernel) (by decide +kernel)
theorem wf_X0_58 : Cond.fieldLink RX0 58 (TX0 10).1 (TX0 10).2.1 (TX0 10).2.2.1 ∈ WS := inWS 82 (by decide +kernel) (by decide +kernel)
theorem wf_X0_36 : Cond.fieldLink RX0 36 (TX0 11).1 (TX0 11).2.1 (TX0 11).2.2.1 ∈ WS := inWS 85 (by decide +kernel) (by decide +kernel)
theorem wf_X0_40 : Cond.fieldLink RX0 40 (TX0 12).1 (TX0 12).2.1 (TX0 12).2.2.1 ∈ WS := inWS 89 (by decide +kernel) (by decide +kernel)
theorem wf_X0_43 : Cond.fieldLink RX0 43 (TX0 13).1 (TX0 13).2.1 (TX0 13).2.2.1 ∈ WS := inWS 92 (by decide +kernel) (by decide +kernel)
theorem ml_X0_61 : MLn RX0 61 yX10_hasBit M_X10_hasBit := ⟨⟨"ClashDays", List.mem_of_getElem? (i := 10) rfl⟩, inWS 22 (by decide +kernel) (by decide +kernel), inWS 430 (by decide +kernel) (by decide +kernel), by decide +kernel⟩
theorem mt_X10_hasBit : Cond.static yX10_hasBit ∈ WS := inWS 429 (by decide +kernel) (by decide +kernel)
theorem wc_J6_265 : Cond.constant "java/lang/Integer" 265 (1431655765 : Int32) ∈ WS := inWS 443 (by decide +kernel) (by decide +kernel)
theorem wc_J6_266 : Cond.constant "java/lang/Integer" 266 (858993459 : Int32) ∈ WS := inWS 444 (by decide +kernel) (by decide +kernel)
theorem wc_J6_267 : Cond.constant "java/lang/Integer" 267 (252645135 : Int32) ∈ WS := inWS 445 (by decide +kernel) (by decide +kernel)
theorem ml_X0_65 : ML RX0 65 yX0_doesTake M_X0_doesTake := ⟨inWS 435 (by decide +kernel) (by decide +kernel), inWS 23 (by decide +kernel) (by decide +kernel), inWS 427 (by decide +kernel) (by decide +kernel), by decide +kernel⟩
theorem mv_X0_doesTake : MLv yX0_doesTake := ⟨inWS 425 (by decide +kernel) (by decide +kernel), inWS 426 (by decide +kernel) (by decide +kernel)⟩
theorem ml_X0_68 : ML RX0 68 yX0_papersOf M_X0_papersOf := ⟨inWS 436 (by decide +kernel) (by decide +kernel), inWS 23 (by decide +kernel) (by decide +kernel), inWS 439 (by decide +kernel) (by decide +kernel), by decide +kernel⟩
theorem mv_X0_papersOf : MLv yX0_papersOf := ⟨inWS 437 (by decide +kernel) (by decide +kernel), inWS 438 (by decide +kernel) (by decide +kernel)⟩
theorem ml_X0_72 : ML RX0 72 yJ6_bitCount_0f7a4 M_J6_bitCount_0f7a4 := ⟨inWS 440 (by decide +kernel) (by decide +kernel), inWS 33 (by decide +kernel) (by decide +kernel), inWS 442 (by decide +kernel) (by decide +kernel), by decide +kernel⟩
theorem mt_J6_bitCount_0f7a4 : Cond.static yJ6_bitCount_0f7a4 ∈ WS := inWS 441 (by decide +kernel) (by decide +kernel)
theorem ml_X0_77 : ML RX0 77 yX2_timeOf M_X2_timeOf := ⟨inWS 501 (by decide +kernel) (by decide +kernel), inWS 32 (by decide +kernel) (by decide +kernel), inWS 503 (by decide +kernel) (by decide +kernel), by decide +kernel⟩
theorem mt_X2_timeOf : Cond.static yX2_timeOf ∈ WS := inWS 502 (by decide +kernel) (by decide +kernel)
theorem ml_X0_83 : ML RX0 83 yX2_restOf M_X2_restOf := ⟨inWS 482 (by decide +kernel) (by decide +kernel), inWS 32 (by decide +kernel) (by decide +kernel), inWS 484 (by decide +kernel) (by decide +kernel), by decide +kernel⟩
theorem mt_X2_restOf : Cond.static yX2_restOf ∈ WS := inWS 483 (by decide +kernel) (by decide +kernel)
theorem wf_X1_30 : Cond.fieldLink RX1 30 (TX1 6).1 (TX1 6).2.1 (TX1 6).2.2.1 ∈ WS := inWS 303 (by decide +kernel) (by decide +kernel)
theorem wf_X1_34 : Cond.fieldLink RX1 34 (TX1 7).1 (TX1 7).2.1 (TX1 7).2.2.1 ∈ WS := inWS 304 (by decide +kernel) (by decide +kernel)
theorem wf_X1_37 : Cond.fieldLink RX1 37 (TX1 8).1 (TX1 8).2.1 (TX1 8).2.2.1 ∈ WS := inWS 305 (by decide +kernel) (by decide +kernel)
theorem wf_X1_9 : Cond.fieldLink RX1 9 (TX1 0).1 (TX1 0).2.1 (TX1 0).2.2.1 ∈ WS := inWS 297 (by decide +kernel) (by decide +kernel)
theorem wf_X1_15 : Cond.fieldLink RX1 15 (TX1 1).1 (TX1 1).2.1 (TX1 1).2.2.1 ∈ WS := inWS 298 (by decide +kernel) (by decide +kernel)
theorem wf_X1_18 : Cond.fieldLink RX1 18 (TX1 2).1 (TX1 2).2.1 (TX1 2).2.2.1 ∈ WS := inWS 299 (by decide +kernel) (by decide +kernel)
theorem wf_X1_21 : Cond.fieldLink RX1 21 (TX1 3).1 (TX1 3).2.1 (TX1 3).2.2.1 ∈ WS := inWS 300 (by decide +kernel) (by decide +kernel)
theorem wf_X1_24 : Cond.fieldLink RX1 24 (TX1 4).1 (TX1 4).2.1 (TX1 4).2.2.1 ∈ WS := inWS 301 (by decide +kernel) (by decide +kernel)
theorem wf_X9_28 : Cond.fieldLink RX9 28 (TX9 3).1 (TX9 3).2.1 (TX9 3).2.2.1 ∈ WS := inWS 279 (by decide +kernel) (by decide +kernel)
theorem wf_X8_15 : Cond.fieldLink RX8 15 (TX8 1).1 (TX8 1).2.1 (TX8 1).2.2.1 ∈ WS := inWS 237 (by decide +kernel) (by decide +kernel)
theorem wf_X8_9 : Cond.fieldLink RX8 9 (TX8 0).1 (TX8 0).2.1 (TX8 0).2.2.1 ∈ WS := inWS 234 (by decide +kernel) (by decide +kernel)
theorem wf_X8_19 : Cond.fieldLink RX8 19 (TX8 2).1 (TX8 2).2.1 (TX8 2).2.2.1 ∈ WS := inWS 240 (by decide +kernel) (by decide +kernel)
theorem wf_X8_22 : Cond.fieldLink RX8 22 (TX8 3).1 (TX8 3).2.1 (TX8 3).2.2.1 ∈ WS := inWS 243 (by decide +kernel) (by decide +kernel)
theorem wf_X8_25 : Cond.fieldLink RX8 25 (TX8 4).1 (TX8 4).2.1 (TX8 4).2.2.1 ∈ WS := inWS 246 (by decide +kernel) (by decide +kernel)
theorem wf_X8_28 : Cond.fieldLink RX8 28 (TX8 5).1 (TX8 5).2.1 (TX8 5).2.2.1 ∈ WS := inWS 248 (by decide +kernel) (by decide +kernel)
theorem wc_X10_419 : Cond.constantLong "ClashDays" 419 (-1 : Int64) ∈ WS := inWS 518 (by decide +kernel) (by decide +kernel)
theorem wf_X3_30 : Cond.fieldLink RX3 30 (TX3 6).1 (TX3 6).2.1 (TX3 6).2.2.1 ∈ WS := inWS 178 (by decide +kernel) (by decide +kernel)
theorem ml_X3_44 : ML RX3 44 yX0_restFor M_X0_restFor := ⟨inWS 514 (by decide +kernel) (by decide +kernel), inWS 23 (by decide +kernel) (by decide +kernel), inWS 481 (by decide +kernel) (by decide +kernel), by decide +kernel⟩
theorem mv_X0_restFor : MLv yX0_restFor := ⟨inWS 479 (by decide +kernel) (by decide +kernel), inWS 480 (by decide +kernel) (by decide +kernel)⟩
theorem wf_X3_50 : Cond.fieldLink RX3 50 (TX3 7).1 (TX3 7).2.1 (TX3 7).2.2.1 ∈ WS := inWS 179 (by decide +kernel) (by decide +kernel)
theorem wf_X3_53 : Cond.fieldLink RX3 53 (TX3 8).1 (TX3 8).2.1 (TX3 8).2.2.1 ∈ WS := inWS 180 (by decide +kernel) (by decide +kernel)
theorem wf_X3_56 : Cond.fieldLink RX3 56 (TX0 11).1 (TX0 11).2.1 (TX0 11).2.2.1 ∈ WS := inWS 87 (by decide +kernel) (by decide +kernel)
theorem wf_X3_59 : Cond.fieldLink RX3 59 (TX3 9).1 (TX3 9).2.1 (TX3 9).2.2.1 ∈ WS := inWS 181 (by decide +kernel) (by decide +kernel)
theorem ml_X3_62 : MLn RX3 62 yX10_span M_X10_span := ⟨⟨"ClashDays", List.mem_of_getElem? (i := 11) rfl⟩, inWS 22 (by decide +kernel) (by decide +kernel), inWS 517 (by decide +kernel) (by decide +kernel), by decide +kernel⟩
theorem mt_X10_span : Cond.static yX10_span ∈ WS := inWS 516 (by decide +kernel) (by decide +kernel)
theorem wf_X3_66 : Cond.fieldLink RX3 66 (TX3 10).1 (TX3 10).2.1 (TX3 10).2.2.1 ∈ WS := inWS 182 (by decide +kernel) (by decide +kernel)
theorem wf_X3_69 : Cond.fieldLink RX3 69 (TX0 8).1 (TX0 8).2.1 (TX0 8).2.2.1 ∈ WS := inWS 77 (by decide +kernel) (by decide +kernel)
theorem ml_X3_72 : MLn RX3 72 yX10_hasBit M_X10_hasBit := ⟨⟨"ClashDays", List.mem_of_getElem? (i := 12) rfl⟩, inWS 22 (by decide +kernel) (by decide +kernel), inWS 430 (by decide +kernel) (by decide +kernel), by decide +kernel⟩
theorem wf_X3_9 : Cond.fieldLink RX3 9 (TX3 0).1 (TX3 0).2.1 (TX3 0).2.2.1 ∈ WS := inWS 172 (by decide +kernel) (by decide +kernel)
theorem wf_X3_15 : Cond.fieldLink RX3 15 (TX3 1).1 (TX3 1).2.1 (TX3 1).2.2.1 ∈ WS := inWS 173 (by decide +kernel) (by decide +kernel)
theorem wf_X3_76 : Cond.fieldLink RX3 76 (TX0 1).1 (TX0 1).2.1 (TX0 1).2.2.1 ∈ WS := inWS 57 (by decide +kernel) (by decide +kernel)
theorem wf_X3_18 : Cond.fieldLink RX3 18 (TX3 2).1 (TX3 2).2.1 (TX3 2).2.2.1 ∈ WS := inWS 174 (by decide +kernel) (by decide +kernel)
theorem ml_X3_79 : ML RX3 79 yX0_timeFor M_X0_timeFor := ⟨inWS 520 (by decide +kernel) (by decide +kernel), inWS 23 (by decide +kernel) (by decide +kernel), inWS 500 (by decide +kernel) (by decide +kernel), by decide +kernel⟩
theorem mv_X0_timeFor : MLv yX0_timeFor := ⟨inWS 498 (by decide +kernel) (by decide +kernel), inWS 499 (by decide +kernel) (by decide +kernel)⟩
theorem wa_X3_100 : Cond.methodLink RX3 100 Lib.Math.max.name ∈ WS := inWS 529 (by decide +kernel) (by decide +kernel)
theorem wm_max : Cond.static Lib.Math.max.name ∈ WS ∧ Cond.initialized "java/lang/Math" ∈ WS ∧ Cond.code Lib.Math.max.name Lib.Math.max.code 2 (some .int) ∈ WS := ⟨inWS 530 (by decide +kernel) (by decide +kernel), inWS 34 (by decide +kernel) (by decide +kernel), inWS 531 (by decide +kernel) (by decide +kernel)⟩
theorem wf_X3_27 : Cond.fieldLink RX3 27 (TX3 5).1 (TX3 5).2.1 (TX3 5).2.2.1 ∈ WS := inWS 177 (by decide +kernel) (by decide +kernel)
theorem wc_X3_105 : Cond.constantLong "ClashDays$Orders" 105 (-1 : Int64) ∈ WS := inWS 532 (by decide +kernel) (by decide +kernel)
theorem wf_X3_40 : Cond.fieldLink RX3 40 (TX3 11).1 (TX3 11).2.1 (TX3 11).2.2.1 ∈ WS := inWS 183 (by decide +kernel) (by decide +kernel)
theorem wc_J13_314 : Cond.constantLong "java/lang/Long" 314 (6148914691236517205 : Int64) ∈ WS := inWS 540 (by decide +kernel) (by decide +kernel)
theorem wc_J13_316 : Cond.constantLong "java/lang/Long" 316 (3689348814741910323 : Int64) ∈ WS := inWS 541 (by decide +kernel) (by decide +kernel)
theorem wc_J13_318 : Cond.constantLong "java/lang/Long" 318 (1085102592571150095 : Int64) ∈ WS := inWS 542 (by decide +kernel) (by decide +kernel)
theorem ml_X3_107 : ML RX3 107 yJ13_bitCount_95d88 M_J13_bitCount_95d88 := ⟨inWS 537 (by decide +kernel) (by decide +kernel), inWS 35 (by decide +kernel) (by decide +kernel), inWS 539 (by decide +kernel) (by decide +kernel), by decide +kernel⟩
theorem mt_J13_bitCount_95d88 : Cond.static yJ13_bitCount_95d88 ∈ WS := inWS 538 (by decide +kernel) (by decide +kernel)
theorem wf_X3_21 : Cond.fieldLink RX3 21 (TX3 3).1 (TX3 3).2.1 (TX3 3).2.2.1 ∈ WS := inWS 175 (by decide +kernel) (by decide +kernel)
theorem ml_X3_113 : ML RX3 113 yX3_join M_X3_join := ⟨inWS 543 (by decide +kernel) (by decide +kernel), inWS 27 (by decide +kernel) (by decide +kernel), inWS 545 (by decide +kernel) (by decide +kernel), by decide +kernel⟩
theorem mt_X3_join : Cond.static yX3_join ∈ WS := inWS 544 (by decide +kernel) (by decide +kernel)
theorem ml_X3_117 : ML RX3 117 yX3_swap M_X3_swap := ⟨inWS 553 (by decide +kernel) (by decide +kernel), inWS 27 (by decide +kernel) (by decide +kernel), inWS 556 (by decide +kernel) (by decide +kernel), by decide +kernel⟩
theorem mv_X3_swap : MLv yX3_swap := ⟨inWS 555 (by decide +kernel) (by decide +kernel), inWS 4 (by decide +kernel) (by decide +kernel)⟩
theorem wf_X3_34 : Cond.fieldLink RX3 34 (TX3 12).1 (TX3 12).2.1 (TX3 12).2.2.1 ∈ WS := inWS 184 (by decide +kernel) (by decide +kernel)
theorem wf_X3_37 : Cond.fieldLink RX3 37 (TX3 13).1 (TX3 13).2.1 (TX3 13).2.2.1 ∈ WS := inWS 185 (by decide +kernel) (by decide +kernel)
theorem ml_X3_83 : ML RX3 83 yX3_walk M_X3_walk := ⟨inWS 525 (by decide +kernel) (by decide +kernel), inWS 27 (by decide +kernel) (by decide +kernel), inWS 528 (by decide +kernel) (by decide +kernel), by decide +kernel⟩
theorem mv_X3_walk : MLv yX3_walk := ⟨inWS 527 (by decide +kernel) (by decide +kernel), inWS 1 (by decide +kernel) (by decide +kernel)⟩
theorem ml_X3_87 : ML RX3 87 yX3_measured M_X3_measured := ⟨inWS 533 (by decide +kernel) (by decide +kernel), inWS 27 (by decide +kernel) (by decide +kernel), inWS 536 (by decide +kernel) (by decide +kernel), by decide +kernel⟩
theorem mv_X3_measured : MLv yX3_measured := ⟨inWS 535 (by decide +kernel) (by decide +kernel), inWS 2 (by decide +kernel) (by decide +kernel)⟩
theorem ml_X3_96 : ML RX3 96 yX3_nextRow M_X3_nextRow := ⟨inWS 549 (by decide +kernel) (by decide +kernel), inWS 27 (by decide +kernel) (by decide +kernel), inWS 552 (by decide +kernel) (by decide +kernel), by decide +kernel⟩
theorem mv_X3_nextRow : MLv yX3_nextRow := ⟨inWS 551 (by decide +kernel) (by decide +kernel), inWS 3 (by decide +kernel) (by decide +kernel)⟩
theorem wf_X3_24 : Cond.fieldLink RX3 24 (TX3 4).1 (TX3 4).2.1 (TX3 4).2.2.1 ∈ WS := inWS 176 (by decide +kernel) (by decide +kernel)
theorem wa_X3_90 : Cond.methodLink RX3 90 arraycopyName ∈ WS := inWS 546 (by decide +kernel) (by decide +kernel)
theorem ml_X8_47 : ML RX8 47 yX3_count M_X3_count := ⟨inWS 561 (by decide +kernel) (by decide +kernel), inWS 27 (by decide +kernel) (by decide +kernel), inWS 564 (by decide +kernel) (by decide +kernel), by decide +kernel⟩
theorem mv_X3_count : MLv yX3_count := ⟨inWS 562 (by decide +kernel) (by decide +kernel), inWS 563 (by decide +kernel) (by decide +kernel)⟩
theorem ml_X8_52 : ML RX8 52 yX3_keptSlots M_X3_keptSlots := ⟨inWS 565 (by decide +kernel) (by decide +kernel), inWS 27 (by decide +kernel) (by decide +kernel), inWS 568 (by decide +kernel) (by decide +kernel), by decide +kernel⟩
theorem mv_X3_keptSlots : MLv yX3_keptSlots := ⟨inWS 566 (by decide +kernel) (by decide +kernel), inWS 567 (by decide +kernel) (by decide +kernel)⟩
theorem wf_X8_32 : Cond.fieldLink RX8 32 (TX8 6).1 (TX8 6).2.1 (TX8 6).2.2.1 ∈ WS := inWS 250 (by decide +kernel) (by decide +kernel)
theorem ml_X8_56 : ML RX8 56 yX3_paperAt M_X3_paperAt := ⟨inWS 569 (by decide +kernel) (by decide +kernel), inWS 27 (by decide +kernel) (by decide +kernel), inWS 572 (by decide +kernel) (by decide +kernel), by decide +kernel⟩
theorem mv_X3_paperAt : MLv yX3_paperAt := ⟨inWS 570 (by decide +kernel) (by decide +kernel), inWS 571 (by decide +kernel) (by decide +kernel)⟩
theorem wf_X8_35 : Cond.fieldLink RX8 35 (TX8 7).1 (TX8 7).2.1 (TX8 7).2.2.1 ∈ WS := inWS 252 (by decide +kernel) (by decide +kernel)
theorem ml_X8_60 : ML RX8 60 yX3_beginAt M_X3_beginAt := ⟨inWS 573 (by decide +kernel) (by decide +kernel), inWS 27 (by decide +kernel) (by decide +kernel), inWS 576 (by decide +kernel) (by decide +kernel), by decide +kernel⟩
theorem mv_X3_beginAt : MLv yX3_beginAt := ⟨inWS 574 (by decide +kernel) (by decide +kernel), inWS 575 (by decide +kernel) (by decide +kernel)⟩
theorem wf_X8_38 : Cond.fieldLink RX8 38 (TX8 8).1 (TX8 8).2.1 (TX8 8).2.2.1 ∈ WS := inWS 254 (by decide +kernel) (by decide +kernel)
theorem ml_X8_63 : ML RX8 63 yX3_endAt M_X3_endAt := ⟨inWS 577 (by decide +kernel) (by decide +kernel), inWS 27 (by decide +kernel) (by decide +kernel), inWS 580 (by decide +kernel) (by decide +kernel), by decide +kernel⟩
theorem mv_X3_endAt : MLv yX3_endAt := ⟨inWS 578 (by decide +kernel) (by decide +kernel), inWS 579 (by decide +kernel) (by decide +kernel)⟩
theorem ml_X4_28 : ML RX4 28 yX8_cameTo M_X8_cameTo := ⟨inWS 493 (by decide +kernel) (by decide +kernel), inWS 29 (by decide +kernel) (by decide +kernel), inWS 496 (by decide +kernel) (by decide +kernel), by decide +kernel⟩
theorem mv_X8_cameTo : MLv yX8_cameTo := ⟨inWS 494 (by decide +kernel) (by decide +kernel), inWS 495 (by decide +kernel) (by decide +kernel)⟩
theorem ml_X4_32 : ML RX4 32 yX0_timeFor M_X0_timeFor := ⟨inWS 497 (by decide +kernel) (by decide +kernel), inWS 23 (by decide +kernel) (by decide +kernel), inWS 500 (by decide +kernel) (by decide +kernel), by decide +kernel⟩
theorem ml_X4_38 : ML RX4 38 yX0_restFor M_X0_restFor := ⟨inWS 504 (by decide +kernel) (by decide +kernel), inWS 23 (by decide +kernel) (by decide +kernel), inWS 481 (by decide +kernel) (by decide +kernel), by decide +kernel⟩
theorem ml_X4_41 : ML RX4 41 yX8_open M_X8_open := ⟨inWS 505 (by decide +kernel) (by decide +kernel), inWS 29 (by decide +kernel) (by decide +kernel), inWS 508 (by decide +kernel) (by decide +kernel), by decide +kernel⟩
theorem mv_X8_open : MLv yX8_open := ⟨inWS 506 (by decide +kernel) (by decide +kernel), inWS 507 (by decide +kernel) (by decide +kernel)⟩
theorem wf_X4_45 : Cond.fieldLink RX4 45 (TX0 6).1 (TX0 6).2.1 (TX0 6).2.2.1 ∈ WS := inWS 69 (by decide +kernel) (by decide +kernel)
theorem ml_X4_48 : ML RX4 48 yX0_papersOf M_X0_papersOf := ⟨inWS 509 (by decide +kernel) (by decide +kernel), inWS 23 (by decide +kernel) (by decide +kernel), inWS 439 (by decide +kernel) (by decide +kernel), by decide +kernel⟩
theorem wf_X4_12 : Cond.fieldLink RX4 12 (TX4 0).1 (TX4 0).2.1 (TX4 0).2.2.1 ∈ WS := inWS 215 (by decide +kernel) (by decide +kernel)
theorem ml_X4_51 : ML RX4 51 yX3_gather M_X3_gather := ⟨inWS 510 (by decide +kernel) (by decide +kernel), inWS 27 (by decide +kernel) (by decide +kernel), inWS 513 (by decide +kernel) (by decide +kernel), by decide +kernel⟩
theorem mv_X3_gather : MLv yX3_gather := ⟨inWS 511 (by decide +kernel) (by decide +kernel), inWS 512 (by decide +kernel) (by decide +kernel)⟩
theorem ml_X4_55 : ML RX4 55 yX3_search M_X3_search := ⟨inWS 521 (by decide +kernel) (by decide +kernel), inWS 27 (by decide +kernel) (by decide +kernel), inWS 524 (by decide +kernel) (by decide +kernel), by decide +kernel⟩
theorem mv_X3_search : MLv yX3_search := ⟨inWS 522 (by decide +kernel) (by decide +kernel), inWS 523 (by decide +kernel) (by decide +kernel)⟩
theorem wf_X4_63 : Cond.fieldLink RX4 63 (TX0 5).1 (TX0 5).2.1 (TX0 5).2.2.1 ∈ WS := inWS 66 (by decide +kernel) (by decide +kernel)
theorem ml_X4_59 : ML RX4 59 yX8_put M_X8_put := ⟨inWS 557 (by decide +kernel) (by decide +kernel), inWS 29 (by decide +kernel) (by decide +kernel), inWS 560 (by decide +kernel) (by decide +kernel), by decide +kernel⟩
theorem mv_X8_put : MLv yX8_put := ⟨inWS 558 (by decide +kernel) (by decide +kernel), inWS 559 (by decide +kernel) (by decide +kernel)⟩
theorem wf_X4_66 : Cond.fieldLink RX4 66 (TX0 8).1 (TX0 8).2.1 (TX0 8).2.2.1 ∈ WS := inWS 75 (by decide +kernel) (by decide +kernel)
theorem ml_X4_70 : MLn RX4 70 yX10_hasBit M_X10_hasBit := ⟨⟨"ClashDays", List.mem_of_getElem? (i := 13) rfl⟩, inWS 22 (by decide +kernel) (by decide +kernel), inWS 430 (by decide +kernel) (by decide +kernel), by decide +kernel⟩
theorem wf_X4_74 : Cond.fieldLink RX4 74 (TX0 11).1 (TX0 11).2.1 (TX0 11).2.2.1 ∈ WS := inWS 86 (by decide +kernel) (by decide +kernel)
theorem wa_X4_77 : Cond.methodLink RX4 77 Lib.Math.min.name ∈ WS := inWS 582 (by decide +kernel) (by decide +kernel)
theorem wm_min : Cond.static Lib.Math.min.name ∈ WS ∧ Cond.initialized "java/lang/Math" ∈ WS ∧ Cond.code Lib.Math.min.name Lib.Math.min.code 2 (some .int) ∈ WS := ⟨inWS 583 (by decide +kernel) (by decide +kernel), inWS 34 (by decide +kernel) (by decide +kernel), inWS 584 (by decide +kernel) (by decide +kernel)⟩
theorem wf_X4_82 : Cond.fieldLink RX4 82 (TX0 1).1 (TX0 1).2.1 (TX0 1).2.2.1 ∈ WS := inWS 55 (by decide +kernel) (by decide +kernel)
theorem ml_X4_85 : MLn RX4 85 yX10_span M_X10_span := ⟨⟨"ClashDays", List.mem_of_getElem? (i := 14) rfl⟩, inWS 22 (by decide +kernel) (by decide +kernel), inWS 517 (by decide +kernel) (by decide +kernel), by decide +kernel⟩
theorem wf_X4_89 : Cond.fieldLink RX4 89 (TX8 0).1 (TX8 0).2.1 (TX8 0).2.2.1 ∈ WS := inWS 235 (by decide +kernel) (by decide +kernel)
theorem ml_X4_93 : ML RX4 93 yX3_least M_X3_least := ⟨inWS 586 (by decide +kernel) (by decide +kernel), inWS 27 (by decide +kernel) (by decide +kernel), inWS 589 (by decide +kernel) (by decide +kernel), by decide +kernel⟩
theorem mv_X3_least : MLv yX3_least := ⟨inWS 587 (by decide +kernel) (by decide +kernel), inWS 588 (by decide +kernel) (by decide +kernel)⟩
theorem wf_X9_20 : Cond.fieldLink RX9 20 (TX9 1).1 (TX9 1).2.1 (TX9 1).2.2.1 ∈ WS := inWS 277 (by decide +kernel) (by decide +kernel)
theorem wf_X9_24 : Cond.fieldLink RX9 24 (TX9 2).1 (TX9 2).2.1 (TX9 2).2.2.1 ∈ WS := inWS 278 (by decide +kernel) (by decide +kernel)
theorem wf_X9_12 : Cond.fieldLink RX9 12 (TX9 0).1 (TX9 0).2.1 (TX9 0).2.2.1 ∈ WS := inWS 276 (by decide +kernel) (by decide +kernel)
theorem ml_X9_33 : ML RX9 33 yX4_planDay M_X4_planDay := ⟨inWS 489 (by decide +kernel) (by decide +kernel), inWS 26 (by decide +kernel) (by decide +kernel), inWS 492 (by decide +kernel) (by decide +kernel), by decide +kernel⟩
theorem mv_X4_planDay : MLv yX4_planDay := ⟨inWS 490 (by decide +kernel) (by decide +kernel), inWS 491 (by decide +kernel) (by decide +kernel)⟩
theorem ml_X8_75 : MLn RX8 75 yX10_hasSlot M_X10_hasSlot := ⟨⟨"ClashDays", List.mem_of_getElem? (i := 15) rfl⟩, inWS 22 (by decide +kernel) (by decide +kernel), inWS 626 (by decide +kernel) (by decide +kernel), by decide +kernel⟩
theorem mt_X10_hasSlot : Cond.static yX10_hasSlot ∈ WS := inWS 625 (by decide +kernel) (by decide +kernel)
theorem wf_X1_27 : Cond.fieldLink RX1 27 (TX1 5).1 (TX1 5).2.1 (TX1 5).2.2.1 ∈ WS := inWS 302 (by decide +kernel) (by decide +kernel)
theorem ml_X1_77 : ML RX1 77 yX1_beginOf M_X1_beginOf := ⟨inWS 635 (by decide +kernel) (by decide +kernel), inWS 30 (by decide +kernel) (by decide +kernel), inWS 638 (by decide +kernel) (by decide +kernel), by decide +kernel⟩
theorem mv_X1_beginOf : MLv yX1_beginOf := ⟨inWS 637 (by decide +kernel) (by decide +kernel), inWS 7 (by decide +kernel) (by decide +kernel)⟩
theorem ml_X1_81 : ML RX1 81 yX1_watcherAt M_X1_watcherAt := ⟨inWS 639 (by decide +kernel) (by decide +kernel), inWS 30 (by decide +kernel) (by decide +kernel), inWS 642 (by decide +kernel) (by decide +kernel), by decide +kernel⟩
theorem mv_X1_watcherAt : MLv yX1_watcherAt := ⟨inWS 641 (by decide +kernel) (by decide +kernel), inWS 8 (by decide +kernel) (by decide +kernel)⟩
theorem wa_X1_84 : Cond.methodLink RX1 84 Lib.Math.max.name ∈ WS := inWS 647 (by decide +kernel) (by decide +kernel)
theorem wf_X1_40 : Cond.fieldLink RX1 40 (TX1 9).1 (TX1 9).2.1 (TX1 9).2.2.1 ∈ WS := inWS 306 (by decide +kernel) (by decide +kernel)
theorem ml_X1_43 : ML RX1 43 yX9_edition M_X9_edition := ⟨inWS 615 (by decide +kernel) (by decide +kernel), inWS 28 (by decide +kernel) (by decide +kernel), inWS 618 (by decide +kernel) (by decide +kernel), by decide +kernel⟩
theorem mv_X9_edition : MLv yX9_edition := ⟨inWS 616 (by decide +kernel) (by decide +kernel), inWS 617 (by decide +kernel) (by decide +kernel)⟩
theorem wf_X1_67 : Cond.fieldLink RX1 67 (TX0 12).1 (TX0 12).2.1 (TX0 12).2.2.1 ∈ WS := inWS 90 (by decide +kernel) (by decide +kernel)
theorem ml_X1_70 : ML RX1 70 yX1_giveOut M_X1_giveOut := ⟨inWS 631 (by decide +kernel) (by decide +kernel), inWS 30 (by decide +kernel) (by decide +kernel), inWS 634 (by decide +kernel) (by decide +kernel), by decide +kernel⟩
theorem mv_X1_giveOut : MLv yX1_giveOut := ⟨inWS 633 (by decide +kernel) (by decide +kernel), inWS 6 (by decide +kernel) (by decide +kernel)⟩
theorem ml_X1_74 : ML RX1 74 yX1_countAtOnce M_X1_countAtOnce := ⟨inWS 643 (by decide +kernel) (by decide +kernel), inWS 30 (by decide +kernel) (by decide +kernel), inWS 646 (by decide +kernel) (by decide +kernel), by decide +kernel⟩
theorem mv_X1_countAtOnce : MLv yX1_countAtOnce := ⟨inWS 645 (by decide +kernel) (by decide +kernel), inWS 9 (by decide +kernel) (by decide +kernel)⟩
theorem wf_X1_48 : Cond.fieldLink RX1 48 (TX0 9).1 (TX0 9).2.1 (TX0 9).2.2.1 ∈ WS := inWS 79 (by decide +kernel) (by decide +kernel)
theorem ml_X1_53 : ML RX1 53 yX9_of M_X9_of := ⟨inWS 619 (by decide +kernel) (by decide +kernel), inWS 28 (by decide +kernel) (by decide +kernel), inWS 488 (by decide +kernel) (by decide +kernel), by decide +kernel⟩
theorem mv_X9_of : MLv yX9_of := ⟨inWS 486 (by decide +kernel) (by decide +kernel), inWS 487 (by decide +kernel) (by decide +kernel)⟩
theorem ml_X1_57 : ML RX1 57 yX8_dutyFrom M_X8_dutyFrom := ⟨inWS 620 (by decide +kernel) (by decide +kernel), inWS 29 (by decide +kernel) (by decide +kernel), inWS 623 (by decide +kernel) (by decide +kernel), by decide +kernel⟩
theorem mv_X8_dutyFrom : MLv yX8_dutyFrom := ⟨inWS 621 (by decide +kernel) (by decide +kernel), inWS 622 (by decide +kernel) (by decide +kernel)⟩
theorem ml_X1_63 : ML RX1 63 yX1_add M_X1_add := ⟨inWS 627 (by decide +kernel) (by decide +kernel), inWS 30 (by decide +kernel) (by decide +kernel), inWS 630 (by decide +kernel) (by decide +kernel), by decide +kernel⟩
theorem mv_X1_add : MLv yX1_add := ⟨inWS 629 (by decide +kernel) (by decide +kernel), inWS 5 (by decide +kernel) (by decide +kernel)⟩
theorem ml_X4_18 : ML RX4 18 yX4_planDay M_X4_planDay := ⟨inWS 766 (by decide +kernel) (by decide +kernel), inWS 26 (by decide +kernel) (by decide +kernel), inWS 492 (by decide +kernel) (by decide +kernel), by decide +kernel⟩
theorem wf_X4_22 : Cond.fieldLink RX4 22 (TX8 1).1 (TX8 1).2.1 (TX8 1).2.2.1 ∈ WS := inWS 238 (by decide +kernel) (by decide +kernel)
theorem wf_X4_97 : Cond.fieldLink RX4 97 (TX8 2).1 (TX8 2).2.1 (TX8 2).2.2.1 ∈ WS := inWS 241 (by decide +kernel) (by decide +kernel)
theorem wf_X4_100 : Cond.fieldLink RX4 100 (TX8 3).1 (TX8 3).2.1 (TX8 3).2.2.1 ∈ WS := inWS 244 (by decide +kernel) (by decide +kernel)
theorem ml_X4_103 : ML RX4 103 yJ6_bitCount_0f7a4 M_J6_bitCount_0f7a4 := ⟨inWS 606 (by decide +kernel) (by decide +kernel), inWS 33 (by decide +kernel) (by decide +kernel), inWS 442 (by decide +kernel) (by decide +kernel), by decide +kernel⟩
theorem wf_X5_22 : Cond.fieldLink RX5 22 (TX5 3).1 (TX5 3).2.1 (TX5 3).2.2.1 ∈ WS := inWS 337 (by decide +kernel) (by decide +kernel)
theorem wf_X5_25 : Cond.fieldLink RX5 25 (TX5 4).1 (TX5 4).2.1 (TX5 4).2.2.1 ∈ WS := inWS 338 (by decide +kernel) (by decide +kernel)
theorem wf_X5_28 : Cond.fieldLink RX5 28 (TX5 5).1 (TX5 5).2.1 (TX5 5).2.2.1 ∈ WS := inWS 339 (by decide +kernel) (by decide +kernel)
theorem wf_X5_9 : Cond.fieldLink RX5 9 (TX5 0).1 (TX5 0).2.1 (TX5 0).2.2.1 ∈ WS := inWS 334 (by decide +kernel) (by decide +kernel)
theorem ml_X8_95 : MLn RX8 95 yX10_span M_X10_span := ⟨⟨"ClashDays", List.mem_of_getElem? (i := 16) rfl⟩, inWS 22 (by decide +kernel) (by decide +kernel), inWS 517 (by decide +kernel) (by decide +kernel), by decide +kernel⟩
theorem ml_X8_98 : ML RX8 98 yX8_dutyFrom M_X8_dutyFrom := ⟨inWS 687 (by decide +kernel) (by decide +kernel), inWS 29 (by decide +kernel) (by decide +kernel), inWS 623 (by decide +kernel) (by decide +kernel), by decide +kernel⟩
theorem ml_X8_91 : ML RX8 91 yX8_pieceFrom M_X8_pieceFrom := ⟨inWS 682 (by decide +kernel) (by decide +kernel), inWS 29 (by decide +kernel) (by decide +kernel), inWS 685 (by decide +kernel) (by decide +kernel), by decide +kernel⟩
theorem mv_X8_pieceFrom : MLv yX8_pieceFrom := ⟨inWS 684 (by decide +kernel) (by decide +kernel), inWS 10 (by decide +kernel) (by decide +kernel)⟩
theorem wf_X5_31 : Cond.fieldLink RX5 31 (TX5 6).1 (TX5 6).2.1 (TX5 6).2.2.1 ∈ WS := inWS 340 (by decide +kernel) (by decide +kernel)
theorem ml_X5_84 : ML RX5 84 yX5_costWith M_X5_costWith := ⟨inWS 704 (by decide +kernel) (by decide +kernel), inWS 31 (by decide +kernel) (by decide +kernel), inWS 707 (by decide +kernel) (by decide +kernel), by decide +kernel⟩
theorem mv_X5_costWith : MLv yX5_costWith := ⟨inWS 706 (by decide +kernel) (by decide +kernel), inWS 15 (by decide +kernel) (by decide +kernel)⟩
theorem wf_X5_15 : Cond.fieldLink RX5 15 (TX5 1).1 (TX5 1).2.1 (TX5 1).2.2.1 ∈ WS := inWS 335 (by decide +kernel) (by decide +kernel)
theorem wf_X5_19 : Cond.fieldLink RX5 19 (TX5 2).1 (TX5 2).2.1 (TX5 2).2.2.1 ∈ WS := inWS 336 (by decide +kernel) (by decide +kernel)
theorem ml_X5_72 : ML RX5 72 yX5_firstRoom M_X5_firstRoom := ⟨inWS 700 (by decide +kernel) (by decide +kernel), inWS 31 (by decide +kernel) (by decide +kernel), inWS 703 (by decide +kernel) (by decide +kernel), by decide +kernel⟩
theorem mv_X5_firstRoom : MLv yX5_firstRoom := ⟨inWS 702 (by decide +kernel) (by decide +kernel), inWS 14 (by decide +kernel) (by decide +kernel)⟩
theorem ml_X5_80 : ML RX5 80 yX5_costFrom M_X5_costFrom := ⟨inWS 696 (by decide +kernel) (by decide +kernel), inWS 31 (by decide +kernel) (by decide +kernel), inWS 699 (by decide +kernel) (by decide +kernel), by decide +kernel⟩
theorem mv_X5_costFrom : MLv yX5_costFrom := ⟨inWS 698 (by decide +kernel) (by decide +kernel), inWS 13 (by decide +kernel) (by decide +kernel)⟩
theorem ml_X5_87 : MLn RX5 87 yX10_hasSlot M_X10_hasSlot := ⟨⟨"ClashDays", List.mem_of_getElem? (i := 17) rfl⟩, inWS 22 (by decide +kernel) (by decide +kernel), inWS 626 (by decide +kernel) (by decide +kernel), by decide +kernel⟩
theorem wf_X5_91 : Cond.fieldLink RX5 91 (TX0 7).1 (TX0 7).2.1 (TX0 7).2.2.1 ∈ WS := inWS 72 (by decide +kernel) (by decide +kernel)
theorem wf_X5_65 : Cond.fieldLink RX5 65 (TX0 10).1 (TX0 10).2.1 (TX0 10).2.2.1 ∈ WS := inWS 83 (by decide +kernel) (by decide +kernel)
theorem ml_X5_68 : ML RX5 68 yX5_countMoves M_X5_countMoves := ⟨inWS 692 (by decide +kernel) (by decide +kernel), inWS 31 (by decide +kernel) (by decide +kernel), inWS 695 (by decide +kernel) (by decide +kernel), by decide +kernel⟩
theorem mv_X5_countMoves : MLv yX5_countMoves := ⟨inWS 694 (by decide +kernel) (by decide +kernel), inWS 12 (by decide +kernel) (by decide +kernel)⟩
theorem ml_X5_76 : ML RX5 76 yX5_fill M_X5_fill := ⟨inWS 708 (by decide +kernel) (by decide +kernel), inWS 31 (by decide +kernel) (by decide +kernel), inWS 711 (by decide +kernel) (by decide +kernel), by decide +kernel⟩
theorem mv_X5_fill : MLv yX5_fill := ⟨inWS 710 (by decide +kernel) (by decide +kernel), inWS 16 (by decide +kernel) (by decide +kernel)⟩
theorem wf_X5_34 : Cond.fieldLink RX5 34 (TX5 8).1 (TX5 8).2.1 (TX5 8).2.2.1 ∈ WS := inWS 342 (by decide +kernel) (by decide +kernel)
theorem ml_X5_38 : ML RX5 38 yX9_edition M_X9_edition := ⟨inWS 676 (by decide +kernel) (by decide +kernel), inWS 28 (by decide +kernel) (by decide +kernel), inWS 618 (by decide +kernel) (by decide +kernel), by decide +kernel⟩
theorem wf_X5_43 : Cond.fieldLink RX5 43 (TX5 7).1 (TX5 7).2.1 (TX5 7).2.2.1 ∈ WS := inWS 341 (by decide +kernel) (by decide +kernel)
theorem wf_X5_46 : Cond.fieldLink RX5 46 (TX0 9).1 (TX0 9).2.1 (TX0 9).2.2.1 ∈ WS := inWS 80 (by decide +kernel) (by decide +kernel)
theorem ml_X5_51 : ML RX5 51 yX9_of M_X9_of := ⟨inWS 677 (by decide +kernel) (by decide +kernel), inWS 28 (by decide +kernel) (by decide +kernel), inWS 488 (by decide +kernel) (by decide +kernel), by decide +kernel⟩
theorem ml_X5_55 : ML RX5 55 yX8_piecesOf M_X8_piecesOf := ⟨inWS 678 (by decide +kernel) (by decide +kernel), inWS 29 (by decide +kernel) (by decide +kernel), inWS 681 (by decide +kernel) (by decide +kernel), by decide +kernel⟩
theorem mv_X8_piecesOf : MLv yX8_piecesOf := ⟨inWS 679 (by decide +kernel) (by decide +kernel), inWS 680 (by decide +kernel) (by decide +kernel)⟩
theorem ml_X5_61 : ML RX5 61 yX5_seat M_X5_seat := ⟨inWS 688 (by decide +kernel) (by decide +kernel), inWS 31 (by decide +kernel) (by decide +kernel), inWS 691 (by decide +kernel) (by decide +kernel), by decide +kernel⟩
theorem mv_X5_seat : MLv yX5_seat := ⟨inWS 690 (by decide +kernel) (by decide +kernel), inWS 11 (by decide +kernel) (by decide +kernel)⟩
theorem ml_X6_22 : ML RX6 22 yX6_isShelf M_X6_isShelf := ⟨inWS 808 (by decide +kernel) (by decide +kernel), inWS 25 (by decide +kernel) (by decide +kernel), inWS 810 (by decide +kernel) (by decide +kernel), by decide +kernel⟩
theorem mt_X6_isShelf : Cond.static yX6_isShelf ∈ WS := inWS 809 (by decide +kernel) (by decide +kernel)
theorem wf_X6_9 : Cond.fieldLink RX6 9 (TX6 0).1 (TX6 0).2.1 (TX6 0).2.2.1 ∈ WS := inWS 149 (by decide +kernel) (by decide +kernel)
theorem ml_X6_26 : ML RX6 26 yX6_holding M_X6_holding := ⟨inWS 804 (by decide +kernel) (by decide +kernel), inWS 25 (by decide +kernel) (by decide +kernel), inWS 807 (by decide +kernel) (by decide +kernel), by decide +kernel⟩
theorem mv_X6_holding : MLv yX6_holding := ⟨inWS 805 (by decide +kernel) (by decide +kernel), inWS 806 (by decide +kernel) (by decide +kernel)⟩
theorem ml_X6_44 : ML RX6 44 yX6_candOn M_X6_candOn := ⟨inWS 800 (by decide +kernel) (by decide +kernel), inWS 25 (by decide +kernel) (by decide +kernel), inWS 803 (by decide +kernel) (by decide +kernel), by decide +kernel⟩
theorem mv_X6_candOn : MLv yX6_candOn := ⟨inWS 801 (by decide +kernel) (by decide +kernel), inWS 802 (by decide +kernel) (by decide +kernel)⟩
theorem wf_X7_15 : Cond.fieldLink RX7 15 (TX7 1).1 (TX7 1).2.1 (TX7 1).2.2.1 ∈ WS := inWS 131 (by decide +kernel) (by decide +kernel)
theorem wa_X8_41 : Cond.methodLink RX8 41 arraycopyName ∈ WS := inWS 761 (by decide +kernel) (by decide +kernel)
theorem ml_X8_66 : ML RX8 66 yJ13_bitCount_95d88 M_J13_bitCount_95d88 := ⟨inWS 779 (by decide +kernel) (by decide +kernel), inWS 35 (by decide +kernel) (by decide +kernel), inWS 539 (by decide +kernel) (by decide +kernel), by decide +kernel⟩
theorem ml_X8_72 : ML RX8 72 yX8_cameTo M_X8_cameTo := ⟨inWS 921 (by decide +kernel) (by decide +kernel), inWS 29 (by decide +kernel) (by decide +kernel), inWS 496 (by decide +kernel) (by decide +kernel), by decide +kernel⟩
theorem wf_X8_79 : Cond.fieldLink RX8 79 (TX0 1).1 (TX0 1).2.1 (TX0 1).2.2.1 ∈ WS := inWS 56 (by decide +kernel) (by decide +kernel)
theorem ml_X8_84 : ML RX8 84 yX3_join M_X3_join := ⟨inWS 946 (by decide +kernel) (by decide +kernel), inWS 27 (by decide +kernel) (by decide +kernel), inWS 545 (by decide +kernel) (by decide +kernel), by decide +kernel⟩
theorem wf_X8_88 : Cond.fieldLink RX8 88 (TX0 0).1 (TX0 0).2.1 (TX0 0).2.2.1 ∈ WS := inWS 52 (by decide +kernel) (by decide +kernel)
theorem wf_X10_36 : Cond.fieldLink RX10 36 (TX10 6).1 (TX10 6).2.1 (TX10 6).2.2.1 ∈ WS := inWS 368 (by decide +kernel) (by decide +kernel)
theorem ml_X10_150 : ML RX10 150 yX10_isDay M_X10_isDay := ⟨inWS 598 (by decide +kernel) (by decide +kernel), inWS 22 (by decide +kernel) (by decide +kernel), inWS 600 (by decide +kernel) (by decide +kernel), by decide +kernel⟩
theorem mt_X10_isDay : Cond.static yX10_isDay ∈ WS := inWS 599 (by decide +kernel) (by decide +kernel)
theorem ml_X10_153 : ML RX10 153 yX10_isSlot M_X10_isSlot := ⟨inWS 737 (by decide +kernel) (by decide +kernel), inWS 22 (by decide +kernel) (by decide +kernel), inWS 739 (by decide +kernel) (by decide +kernel), by decide +kernel⟩
theorem mt_X10_isSlot : Cond.static yX10_isSlot ∈ WS := inWS 738 (by decide +kernel) (by decide +kernel)
theorem wf_X10_12 : Cond.fieldLink RX10 12 (TX10 0).1 (TX10 0).2.1 (TX10 0).2.2.1 ∈ WS := inWS 362 (by decide +kernel) (by decide +kernel)
theorem wf_X10_156 : Cond.fieldLink RX10 156 (TX0 8).1 (TX0 8).2.1 (TX0 8).2.2.1 ∈ WS := inWS 76 (by decide +kernel) (by decide +kernel)
theorem ml_X10_160 : ML RX10 160 yX0_addPaper M_X0_addPaper := ⟨inWS 838 (by decide +kernel) (by decide +kernel), inWS 23 (by decide +kernel) (by decide +kernel), inWS 841 (by decide +kernel) (by decide +kernel), by decide +kernel⟩
theorem mv_X0_addPaper : MLv yX0_addPaper := ⟨inWS 839 (by decide +kernel) (by decide +kernel), inWS 840 (by decide +kernel) (by decide +kernel)⟩
theorem ml_X10_88 : ML RX10 88 yX10_refuse M_X10_refuse := ⟨inWS 420 (by decide +kernel) (by decide +kernel), inWS 22 (by decide +kernel) (by decide +kernel), inWS 423 (by decide +kernel) (by decide +kernel), by decide +kernel⟩
theorem mv_X10_refuse : MLv yX10_refuse := ⟨inWS 422 (by decide +kernel) (by decide +kernel), inWS 0 (by decide +kernel) (by decide +kernel)⟩
theorem ml_X10_129 : ML RX10 129 yX2_isKind M_X2_isKind := ⟨inWS 846 (by decide +kernel) (by decide +kernel), inWS 32 (by decide +kernel) (by decide +kernel), inWS 848 (by decide +kernel) (by decide +kernel), by decide +kernel⟩
theorem mt_X2_isKind : Cond.static yX2_isKind ∈ WS := inWS 847 (by decide +kernel) (by decide +kernel)
theorem wf_X10_174 : Cond.fieldLink RX10 174 (TX0 9).1 (TX0 9).2.1 (TX0 9).2.2.1 ∈ WS := inWS 81 (by decide +kernel) (by decide +kernel)
theorem ml_X10_177 : ML RX10 177 yX0_addCand M_X0_addCand := ⟨inWS 849 (by decide +kernel) (by decide +kernel), inWS 23 (by decide +kernel) (by decide +kernel), inWS 852 (by decide +kernel) (by decide +kernel), by decide +kernel⟩
theorem mv_X0_addCand : MLv yX0_addCand := ⟨inWS 850 (by decide +kernel) (by decide +kernel), inWS 851 (by decide +kernel) (by decide +kernel)⟩
theorem wf_X10_50 : Cond.fieldLink RX10 50 (TX10 8).1 (TX10 8).2.1 (TX10 8).2.2.1 ∈ WS := inWS 370 (by decide +kernel) (by decide +kernel)
theorem ml_X10_181 : ML RX10 181 yX9_forget M_X9_forget := ⟨inWS 450 (by decide +kernel) (by decide +kernel), inWS 28 (by decide +kernel) (by decide +kernel), inWS 453 (by decide +kernel) (by decide +kernel), by decide +kernel⟩
theorem mv_X9_forget : MLv yX9_forget := ⟨inWS 451 (by decide +kernel) (by decide +kernel), inWS 452 (by decide +kernel) (by decide +kernel)⟩
theorem ml_X10_122 : ML RX10 122 yX0_hasCand M_X0_hasCand := ⟨inWS 409 (by decide +kernel) (by decide +kernel), inWS 23 (by decide +kernel) (by decide +kernel), inWS 412 (by decide +kernel) (by decide +kernel), by decide +kernel⟩
theorem mv_X0_hasCand : MLv yX0_hasCand := ⟨inWS 410 (by decide +kernel) (by decide +kernel), inWS 411 (by decide +kernel) (by decide +kernel)⟩
theorem ml_X10_164 : ML RX10 164 yX0_hasPaper M_X0_hasPaper := ⟨inWS 413 (by decide +kernel) (by decide +kernel), inWS 23 (by decide +kernel) (by decide +kernel), inWS 416 (by decide +kernel) (by decide +kernel), by decide +kernel⟩
theorem mv_X0_hasPaper : MLv yX0_hasPaper := ⟨inWS 414 (by decide +kernel) (by decide +kernel), inWS 415 (by decide +kernel) (by decide +kernel)⟩
theorem ml_X10_185 : ML RX10 185 yX10_isYesOrNo M_X10_isYesOrNo := ⟨inWS 417 (by decide +kernel) (by decide +kernel), inWS 22 (by decide +kernel) (by decide +kernel), inWS 419 (by decide +kernel) (by decide +kernel), by decide +kernel⟩
theorem mt_X10_isYesOrNo : Cond.static yX10_isYesOrNo ∈ WS := inWS 418 (by decide +kernel) (by decide +kernel)
theorem ml_X10_188 : ML RX10 188 yX0_doesTake M_X0_doesTake := ⟨inWS 424 (by decide +kernel) (by decide +kernel), inWS 23 (by decide +kernel) (by decide +kernel), inWS 427 (by decide +kernel) (by decide +kernel), by decide +kernel⟩
theorem ml_X10_191 : ML RX10 191 yX0_mayFlip M_X0_mayFlip := ⟨inWS 431 (by decide +kernel) (by decide +kernel), inWS 23 (by decide +kernel) (by decide +kernel), inWS 434 (by decide +kernel) (by decide +kernel), by decide +kernel⟩
theorem mv_X0_mayFlip : MLv yX0_mayFlip := ⟨inWS 432 (by decide +kernel) (by decide +kernel), inWS 433 (by decide +kernel) (by decide +kernel)⟩
theorem ml_X10_194 : ML RX10 194 yX0_flip M_X0_flip := ⟨inWS 446 (by decide +kernel) (by decide +kernel), inWS 23 (by decide +kernel) (by decide +kernel), inWS 449 (by decide +kernel) (by decide +kernel), by decide +kernel⟩
theorem mv_X0_flip : MLv yX0_flip := ⟨inWS 447 (by decide +kernel) (by decide +kernel), inWS 448 (by decide +kernel) (by decide +kernel)⟩
theorem wf_X10_197 : Cond.fieldLink RX10 197 (TX0 5).1 (TX0 5).2.1 (TX0 5).2.2.1 ∈ WS := inWS 67 (by decide +kernel) (by decide +kernel)
theorem wf_X10_200 : Cond.fieldLink RX10 200 (TX0 10).1 (TX0 10).2.1 (TX0 10).2.2.1 ∈ WS := inWS 84 (by decide +kernel) (by decide +kernel)
theorem ml_X10_203 : ML RX10 203 yX9_forgetOthers M_X9_forgetOthers := ⟨inWS 458 (by decide +kernel) (by decide +kernel), inWS 28 (by decide +kernel) (by decide +kernel), inWS 461 (by decide +kernel) (by decide +kernel), by decide +kernel⟩
theorem mv_X9_forgetOthers : MLv yX9_forgetOthers := ⟨inWS 459 (by decide +kernel) (by decide +kernel), inWS 460 (by decide +kernel) (by decide +kernel)⟩
theorem ml_X10_206 : ML RX10 206 yX0_addRoom M_X0_addRoom := ⟨inWS 462 (by decide +kernel) (by decide +kernel), inWS 23 (by decide +kernel) (by decide +kernel), inWS 465 (by decide +kernel) (by decide +kernel), by decide +kernel⟩
theorem mv_X0_addRoom : MLv yX0_addRoom := ⟨inWS 463 (by decide +kernel) (by decide +kernel), inWS 464 (by decide +kernel) (by decide +kernel)⟩
theorem wf_X10_209 : Cond.fieldLink RX10 209 (TX0 11).1 (TX0 11).2.1 (TX0 11).2.2.1 ∈ WS := inWS 88 (by decide +kernel) (by decide +kernel)
theorem ml_X10_171 : ML RX10 171 yX9_forgetAll M_X9_forgetAll := ⟨inWS 470 (by decide +kernel) (by decide +kernel), inWS 28 (by decide +kernel) (by decide +kernel), inWS 473 (by decide +kernel) (by decide +kernel), by decide +kernel⟩
theorem mv_X9_forgetAll : MLv yX9_forgetAll := ⟨inWS 471 (by decide +kernel) (by decide +kernel), inWS 472 (by decide +kernel) (by decide +kernel)⟩
theorem wf_X10_212 : Cond.fieldLink RX10 212 (TX0 12).1 (TX0 12).2.1 (TX0 12).2.2.1 ∈ WS := inWS 91 (by decide +kernel) (by decide +kernel)
theorem wf_X10_137 : Cond.fieldLink RX10 137 (TX0 3).1 (TX0 3).2.1 (TX0 3).2.2.1 ∈ WS := inWS 62 (by decide +kernel) (by decide +kernel)
theorem wf_X10_143 : Cond.fieldLink RX10 143 (TX0 4).1 (TX0 4).2.1 (TX0 4).2.2.1 ∈ WS := inWS 64 (by decide +kernel) (by decide +kernel)
theorem wf_X10_237 : Cond.fieldLink RX10 237 (TX0 6).1 (TX0 6).2.1 (TX0 6).2.2.1 ∈ WS := inWS 70 (by decide +kernel) (by decide +kernel)
theorem ml_X10_240 : ML RX10 240 yX0_restFor M_X0_restFor := ⟨inWS 478 (by decide +kernel) (by decide +kernel), inWS 23 (by decide +kernel) (by decide +kernel), inWS 481 (by decide +kernel) (by decide +kernel), by decide +kernel⟩
theorem ml_X10_243 : ML RX10 243 yX9_of M_X9_of := ⟨inWS 485 (by decide +kernel) (by decide +kernel), inWS 28 (by decide +kernel) (by decide +kernel), inWS 488 (by decide +kernel) (by decide +kernel), by decide +kernel⟩
theorem ml_X10_247 : ML RX10 247 yX8_cants M_X8_cants := ⟨inWS 590 (by decide +kernel) (by decide +kernel), inWS 29 (by decide +kernel) (by decide +kernel), inWS 593 (by decide +kernel) (by decide +kernel), by decide +kernel⟩
theorem mv_X8_cants : MLv yX8_cants := ⟨inWS 591 (by decide +kernel) (by decide +kernel), inWS 592 (by decide +kernel) (by decide +kernel)⟩
theorem ml_X10_421 : ML RX10 421 yX8_beginsLate M_X8_beginsLate := ⟨inWS 897 (by decide +kernel) (by decide +kernel), inWS 29 (by decide +kernel) (by decide +kernel), inWS 900 (by decide +kernel) (by decide +kernel), by decide +kernel⟩
theorem mv_X8_beginsLate : MLv yX8_beginsLate := ⟨inWS 898 (by decide +kernel) (by decide +kernel), inWS 899 (by decide +kernel) (by decide +kernel)⟩
theorem wf_X10_250 : Cond.fieldLink RX10 250 (TX0 0).1 (TX0 0).2.1 (TX0 0).2.2.1 ∈ WS := inWS 53 (by decide +kernel) (by decide +kernel)
theorem wf_X10_168 : Cond.fieldLink RX10 168 (TX0 1).1 (TX0 1).2.1 (TX0 1).2.2.1 ∈ WS := inWS 58 (by decide +kernel) (by decide +kernel)
theorem wf_X10_253 : Cond.fieldLink RX10 253 (TX0 2).1 (TX0 2).2.1 (TX0 2).2.2.1 ∈ WS := inWS 60 (by decide +kernel) (by decide +kernel)
theorem ml_X10_256 : ML RX10 256 yX10_takersOf M_X10_takersOf := ⟨inWS 889 (by decide +kernel) (by decide +kernel), inWS 22 (by decide +kernel) (by decide +kernel), inWS 892 (by decide +kernel) (by decide +kernel), by decide +kernel⟩
theorem mv_X10_takersOf : MLv yX10_takersOf := ⟨inWS 891 (by decide +kernel) (by decide +kernel), inWS 19 (by decide +kernel) (by decide +kernel)⟩
theorem ml_X10_259 : ML RX10 259 yX10_lateOnesOf M_X10_lateOnesOf := ⟨inWS 893 (by decide +kernel) (by decide +kernel), inWS 22 (by decide +kernel) (by decide +kernel), inWS 896 (by decide +kernel) (by decide +kernel), by decide +kernel⟩
theorem mv_X10_lateOnesOf : MLv yX10_lateOnesOf := ⟨inWS 895 (by decide +kernel) (by decide +kernel), inWS 20 (by decide +kernel) (by decide +kernel)⟩
theorem ml_X10_262 : ML RX10 262 yX0_timeFor M_X0_timeFor := ⟨inWS 908 (by decide +kernel) (by decide +kernel), inWS 23 (by decide +kernel) (by decide +kernel), inWS 500 (by decide +kernel) (by decide +kernel), by decide +kernel⟩
theorem wf_X10_265 : Cond.fieldLink RX10 265 (TX8 0).1 (TX8 0).2.1 (TX8 0).2.2.1 ∈ WS := inWS 236 (by decide +kernel) (by decide +kernel)
theorem wf_X10_269 : Cond.fieldLink RX10 269 (TX8 5).1 (TX8 5).2.1 (TX8 5).2.2.1 ∈ WS := inWS 249 (by decide +kernel) (by decide +kernel)
theorem ml_X10_273 : ML RX10 273 yJ13_bitCount_95d88 M_J13_bitCount_95d88 := ⟨inWS 601 (by decide +kernel) (by decide +kernel), inWS 35 (by decide +kernel) (by decide +kernel), inWS 539 (by decide +kernel) (by decide +kernel), by decide +kernel⟩
theorem wf_X10_279 : Cond.fieldLink RX10 279 (TX8 1).1 (TX8 1).2.1 (TX8 1).2.2.1 ∈ WS := inWS 239 (by decide +kernel) (by decide +kernel)
theorem wf_X10_282 : Cond.fieldLink RX10 282 (TX8 2).1 (TX8 2).2.1 (TX8 2).2.2.1 ∈ WS := inWS 242 (by decide +kernel) (by decide +kernel)
theorem wf_X10_285 : Cond.fieldLink RX10 285 (TX8 3).1 (TX8 3).2.1 (TX8 3).2.2.1 ∈ WS := inWS 245 (by decide +kernel) (by decide +kernel)
theorem wf_X10_288 : Cond.fieldLink RX10 288 (TX8 4).1 (TX8 4).2.1 (TX8 4).2.2.1 ∈ WS := inWS 247 (by decide +kernel) (by decide +kernel)
theorem wf_X10_43 : Cond.fieldLink RX10 43 (TX10 7).1 (TX10 7).2.1 (TX10 7).2.2.1 ∈ WS := inWS 369 (by decide +kernel) (by decide +kernel)
theorem ml_X10_291 : ML RX10 291 yX4_clash M_X4_clash := ⟨inWS 602 (by decide +kernel) (by decide +kernel), inWS 26 (by decide +kernel) (by decide +kernel), inWS 605 (by decide +kernel) (by decide +kernel), by decide +kernel⟩
theorem mv_X4_clash : MLv yX4_clash := ⟨inWS 603 (by decide +kernel) (by decide +kernel), inWS 604 (by decide +kernel) (by decide +kernel)⟩
theorem wf_X10_295 : Cond.fieldLink RX10 295 (TX8 6).1 (TX8 6).2.1 (TX8 6).2.2.1 ∈ WS := inWS 251 (by decide +kernel) (by decide +kernel)
theorem wf_X10_298 : Cond.fieldLink RX10 298 (TX8 7).1 (TX8 7).2.1 (TX8 7).2.2.1 ∈ WS := inWS 253 (by decide +kernel) (by decide +kernel)
theorem wf_X10_301 : Cond.fieldLink RX10 301 (TX8 8).1 (TX8 8).2.1 (TX8 8).2.2.1 ∈ WS := inWS 255 (by decide +kernel) (by decide +kernel)
theorem ml_X10_304 : ML RX10 304 yX8_deed M_X8_deed := ⟨inWS 917 (by decide +kernel) (by decide +kernel), inWS 29 (by decide +kernel) (by decide +kernel), inWS 920 (by decide +kernel) (by decide +kernel), by decide +kernel⟩
theorem mv_X8_deed : MLv yX8_deed := ⟨inWS 918 (by decide +kernel) (by decide +kernel), inWS 919 (by decide +kernel) (by decide +kernel)⟩
theorem ml_X10_307 : ML RX10 307 yX10_isMeasure M_X10_isMeasure := ⟨inWS 939 (by decide +kernel) (by decide +kernel), inWS 22 (by decide +kernel) (by decide +kernel), inWS 941 (by decide +kernel) (by decide +kernel), by decide +kernel⟩
theorem mt_X10_isMeasure : Cond.static yX10_isMeasure ∈ WS := inWS 940 (by decide +kernel) (by decide +kernel)
theorem ml_X10_310 : ML RX10 310 yX8_measured M_X8_measured := ⟨inWS 942 (by decide +kernel) (by decide +kernel), inWS 29 (by decide +kernel) (by decide +kernel), inWS 945 (by decide +kernel) (by decide +kernel), by decide +kernel⟩
theorem mv_X8_measured : MLv yX8_measured := ⟨inWS 943 (by decide +kernel) (by decide +kernel), inWS 944 (by decide +kernel) (by decide +kernel)⟩
theorem ml_X10_314 : ML RX10 314 yX4_ordersOf M_X4_ordersOf := ⟨inWS 926 (by decide +kernel) (by decide +kernel), inWS 26 (by decide +kernel) (by decide +kernel), inWS 929 (by decide +kernel) (by decide +kernel), by decide +kernel⟩
theorem mv_X4_ordersOf : MLv yX4_ordersOf := ⟨inWS 927 (by decide +kernel) (by decide +kernel), inWS 928 (by decide +kernel) (by decide +kernel)⟩
theorem ml_X10_318 : ML RX10 318 yX3_count M_X3_count := ⟨inWS 951 (by decide +kernel) (by decide +kernel), inWS 27 (by decide +kernel) (by decide +kernel), inWS 564 (by decide +kernel) (by decide +kernel), by decide +kernel⟩
theorem ml_X10_322 : ML RX10 322 yX3_search M_X3_search := ⟨inWS 930 (by decide +kernel) (by decide +kernel), inWS 27 (by decide +kernel) (by decide +kernel), inWS 524 (by decide +kernel) (by decide +kernel), by decide +kernel⟩
theorem ml_X10_329 : ML RX10 329 yX3_paperAt M_X3_paperAt := ⟨inWS 953 (by decide +kernel) (by decide +kernel), inWS 27 (by decide +kernel) (by decide +kernel), inWS 572 (by decide +kernel) (by decide +kernel), by decide +kernel⟩
theorem ml_X10_326 : ML RX10 326 yX3_least M_X3_least := ⟨inWS 952 (by decide +kernel) (by decide +kernel), inWS 27 (by decide +kernel) (by decide +kernel), inWS 589 (by decide +kernel) (by decide +kernel), by decide +kernel⟩
theorem ml_X10_332 : ML RX10 332 yX3_lawfulOnes M_X3_lawfulOnes := ⟨inWS 931 (by decide +kernel) (by decide +kernel), inWS 27 (by decide +kernel) (by decide +kernel), inWS 934 (by decide +kernel) (by decide +kernel), by decide +kernel⟩
theorem mv_X3_lawfulOnes : MLv yX3_lawfulOnes := ⟨inWS 932 (by decide +kernel) (by decide +kernel), inWS 933 (by decide +kernel) (by decide +kernel)⟩
theorem wf_X10_64 : Cond.fieldLink RX10 64 (TX10 10).1 (TX10 10).2.1 (TX10 10).2.2.1 ∈ WS := inWS 372 (by decide +kernel) (by decide +kernel)
theorem ml_X10_335 : ML RX10 335 yX1_gather M_X1_gather := ⟨inWS 611 (by decide +kernel) (by decide +kernel), inWS 30 (by decide +kernel) (by decide +kernel), inWS 614 (by decide +kernel) (by decide +kernel), by decide +kernel⟩
theorem mv_X1_gather : MLv yX1_gather := ⟨inWS 612 (by decide +kernel) (by decide +kernel), inWS 613 (by decide +kernel) (by decide +kernel)⟩
theorem ml_X10_339 : ML RX10 339 yX1_count M_X1_count := ⟨inWS 648 (by decide +kernel) (by decide +kernel), inWS 30 (by decide +kernel) (by decide +kernel), inWS 651 (by decide +kernel) (by decide +kernel), by decide +kernel⟩
theorem mv_X1_count : MLv yX1_count := ⟨inWS 649 (by decide +kernel) (by decide +kernel), inWS 650 (by decide +kernel) (by decide +kernel)⟩
theorem ml_X10_340 : ML RX10 340 yX1_watchers M_X1_watchers := ⟨inWS 652 (by decide +kernel) (by decide +kernel), inWS 30 (by decide +kernel) (by decide +kernel), inWS 655 (by decide +kernel) (by decide +kernel), by decide +kernel⟩
theorem mv_X1_watchers : MLv yX1_watchers := ⟨inWS 653 (by decide +kernel) (by decide +kernel), inWS 654 (by decide +kernel) (by decide +kernel)⟩
theorem ml_X10_343 : ML RX10 343 yX1_atOnce M_X1_atOnce := ⟨inWS 656 (by decide +kernel) (by decide +kernel), inWS 30 (by decide +kernel) (by decide +kernel), inWS 659 (by decide +kernel) (by decide +kernel), by decide +kernel⟩
theorem mv_X1_atOnce : MLv yX1_atOnce := ⟨inWS 657 (by decide +kernel) (by decide +kernel), inWS 658 (by decide +kernel) (by decide +kernel)⟩
theorem ml_X10_346 : ML RX10 346 yX1_tell M_X1_tell := ⟨inWS 664 (by decide +kernel) (by decide +kernel), inWS 30 (by decide +kernel) (by decide +kernel), inWS 667 (by decide +kernel) (by decide +kernel), by decide +kernel⟩
theorem mv_X1_tell : MLv yX1_tell := ⟨inWS 665 (by decide +kernel) (by decide +kernel), inWS 666 (by decide +kernel) (by decide +kernel)⟩
theorem wf_X10_71 : Cond.fieldLink RX10 71 (TX10 11).1 (TX10 11).2.1 (TX10 11).2.2.1 ∈ WS := inWS 373 (by decide +kernel) (by decide +kernel)
theorem ml_X10_349 : ML RX10 349 yX5_lay M_X5_lay := ⟨inWS 672 (by decide +kernel) (by decide +kernel), inWS 31 (by decide +kernel) (by decide +kernel), inWS 675 (by decide +kernel) (by decide +kernel), by decide +kernel⟩
theorem mv_X5_lay : MLv yX5_lay := ⟨inWS 673 (by decide +kernel) (by decide +kernel), inWS 674 (by decide +kernel) (by decide +kernel)⟩
theorem ml_X10_356 : ML RX10 356 yX5_movesOf M_X5_movesOf := ⟨inWS 717 (by decide +kernel) (by decide +kernel), inWS 31 (by decide +kernel) (by decide +kernel), inWS 720 (by decide +kernel) (by decide +kernel), by decide +kernel⟩
theorem mv_X5_movesOf : MLv yX5_movesOf := ⟨inWS 718 (by decide +kernel) (by decide +kernel), inWS 719 (by decide +kernel) (by decide +kernel)⟩
theorem ml_X10_353 : ML RX10 353 yX5_piecesOf M_X5_piecesOf := ⟨inWS 713 (by decide +kernel) (by decide +kernel), inWS 31 (by decide +kernel) (by decide +kernel), inWS 716 (by decide +kernel) (by decide +kernel), by decide +kernel⟩
theorem mv_X5_piecesOf : MLv yX5_piecesOf := ⟨inWS 714 (by decide +kernel) (by decide +kernel), inWS 715 (by decide +kernel) (by decide +kernel)⟩
theorem ml_X10_359 : ML RX10 359 yX5_roomAt M_X5_roomAt := ⟨inWS 725 (by decide +kernel) (by decide +kernel), inWS 31 (by decide +kernel) (by decide +kernel), inWS 728 (by decide +kernel) (by decide +kernel), by decide +kernel⟩
theorem mv_X5_roomAt : MLv yX5_roomAt := ⟨inWS 726 (by decide +kernel) (by decide +kernel), inWS 727 (by decide +kernel) (by decide +kernel)⟩
theorem ml_X10_362 : ML RX10 362 yX0_hasRoom M_X0_hasRoom := ⟨inWS 733 (by decide +kernel) (by decide +kernel), inWS 23 (by decide +kernel) (by decide +kernel), inWS 736 (by decide +kernel) (by decide +kernel), by decide +kernel⟩
theorem mv_X0_hasRoom : MLv yX0_hasRoom := ⟨inWS 734 (by decide +kernel) (by decide +kernel), inWS 735 (by decide +kernel) (by decide +kernel)⟩
theorem wf_X10_365 : Cond.fieldLink RX10 365 (TX0 7).1 (TX0 7).2.1 (TX0 7).2.2.1 ∈ WS := inWS 73 (by decide +kernel) (by decide +kernel)
theorem ml_X10_368 : ML RX10 368 yX5_usedAt M_X5_usedAt := ⟨inWS 740 (by decide +kernel) (by decide +kernel), inWS 31 (by decide +kernel) (by decide +kernel), inWS 743 (by decide +kernel) (by decide +kernel), by decide +kernel⟩
theorem mv_X5_usedAt : MLv yX5_usedAt := ⟨inWS 741 (by decide +kernel) (by decide +kernel), inWS 742 (by decide +kernel) (by decide +kernel)⟩
theorem wf_X10_16 : Cond.fieldLink RX10 16 (TX10 1).1 (TX10 1).2.1 (TX10 1).2.2.1 ∈ WS := inWS 363 (by decide +kernel) (by decide +kernel)
theorem wf_X10_57 : Cond.fieldLink RX10 57 (TX10 9).1 (TX10 9).2.1 (TX10 9).2.2.1 ∈ WS := inWS 371 (by decide +kernel) (by decide +kernel)
theorem ml_X10_425 : ML RX10 425 yX8_become M_X8_become := ⟨inWS 757 (by decide +kernel) (by decide +kernel), inWS 29 (by decide +kernel) (by decide +kernel), inWS 760 (by decide +kernel) (by decide +kernel), by decide +kernel⟩
theorem mv_X8_become : MLv yX8_become := ⟨inWS 758 (by decide +kernel) (by decide +kernel), inWS 759 (by decide +kernel) (by decide +kernel)⟩
theorem ml_X10_428 : ML RX10 428 yX4_replan M_X4_replan := ⟨inWS 762 (by decide +kernel) (by decide +kernel), inWS 26 (by decide +kernel) (by decide +kernel), inWS 765 (by decide +kernel) (by decide +kernel), by decide +kernel⟩
theorem mv_X4_replan : MLv yX4_replan := ⟨inWS 763 (by decide +kernel) (by decide +kernel), inWS 764 (by decide +kernel) (by decide +kernel)⟩
theorem ml_X10_226 : ML RX10 226 yX0_become M_X0_become := ⟨inWS 748 (by decide +kernel) (by decide +kernel), inWS 23 (by decide +kernel) (by decide +kernel), inWS 751 (by decide +kernel) (by decide +kernel), by decide +kernel⟩
theorem mv_X0_become : MLv yX0_become := ⟨inWS 749 (by decide +kernel) (by decide +kernel), inWS 750 (by decide +kernel) (by decide +kernel)⟩
theorem ml_X10_371 : ML RX10 371 yX10_cantsFlipped M_X10_cantsFlipped := ⟨inWS 753 (by decide +kernel) (by decide +kernel), inWS 22 (by decide +kernel) (by decide +kernel), inWS 756 (by decide +kernel) (by decide +kernel), by decide +kernel⟩
theorem mv_X10_cantsFlipped : MLv yX10_cantsFlipped := ⟨inWS 755 (by decide +kernel) (by decide +kernel), inWS 17 (by decide +kernel) (by decide +kernel)⟩
theorem ml_X10_374 : ML RX10 374 yX4_planWeek M_X4_planWeek := ⟨inWS 771 (by decide +kernel) (by decide +kernel), inWS 26 (by decide +kernel) (by decide +kernel), inWS 774 (by decide +kernel) (by decide +kernel), by decide +kernel⟩
theorem mv_X4_planWeek : MLv yX4_planWeek := ⟨inWS 772 (by decide +kernel) (by decide +kernel), inWS 773 (by decide +kernel) (by decide +kernel)⟩
theorem ml_X10_378 : ML RX10 378 yX8_keptSlots M_X8_keptSlots := ⟨inWS 775 (by decide +kernel) (by decide +kernel), inWS 29 (by decide +kernel) (by decide +kernel), inWS 778 (by decide +kernel) (by decide +kernel), by decide +kernel⟩
theorem mv_X8_keptSlots : MLv yX8_keptSlots := ⟨inWS 776 (by decide +kernel) (by decide +kernel), inWS 777 (by decide +kernel) (by decide +kernel)⟩
theorem wf_X10_19 : Cond.fieldLink RX10 19 (TX10 2).1 (TX10 2).2.1 (TX10 2).2.2.1 ∈ WS := inWS 364 (by decide +kernel) (by decide +kernel)
theorem wf_X10_400 : Cond.fieldLink RX10 400 (TX10 3).1 (TX10 3).2.1 (TX10 3).2.2.1 ∈ WS := inWS 365 (by decide +kernel) (by decide +kernel)
theorem wf_X10_32 : Cond.fieldLink RX10 32 (TX10 5).1 (TX10 5).2.1 (TX10 5).2.2.1 ∈ WS := inWS 367 (by decide +kernel) (by decide +kernel)
theorem ml_X10_404 : ML RX10 404 yX6_dropCandsFrom M_X6_dropCandsFrom := ⟨inWS 796 (by decide +kernel) (by decide +kernel), inWS 25 (by decide +kernel) (by decide +kernel), inWS 799 (by decide +kernel) (by decide +kernel), by decide +kernel⟩
theorem mv_X6_dropCandsFrom : MLv yX6_dropCandsFrom := ⟨inWS 797 (by decide +kernel) (by decide +kernel), inWS 798 (by decide +kernel) (by decide +kernel)⟩
theorem ml_X10_407 : ML RX10 407 yX0_takenInAll M_X0_takenInAll := ⟨inWS 868 (by decide +kernel) (by decide +kernel), inWS 23 (by decide +kernel) (by decide +kernel), inWS 871 (by decide +kernel) (by decide +kernel), by decide +kernel⟩
theorem mv_X0_takenInAll : MLv yX0_takenInAll := ⟨inWS 869 (by decide +kernel) (by decide +kernel), inWS 870 (by decide +kernel) (by decide +kernel)⟩
theorem ml_X10_410 : ML RX10 410 yX10_daysSomebodyCant M_X10_daysSomebodyCant := ⟨inWS 872 (by decide +kernel) (by decide +kernel), inWS 22 (by decide +kernel) (by decide +kernel), inWS 875 (by decide +kernel) (by decide +kernel), by decide +kernel⟩
theorem mv_X10_daysSomebodyCant : MLv yX10_daysSomebodyCant := ⟨inWS 874 (by decide +kernel) (by decide +kernel), inWS 18 (by decide +kernel) (by decide +kernel)⟩
theorem wf_X10_25 : Cond.fieldLink RX10 25 (TX10 4).1 (TX10 4).2.1 (TX10 4).2.2.1 ∈ WS := inWS 366 (by decide +kernel) (by decide +kernel)
theorem ml_X10_413 : ML RX10 413 yX7_size M_X7_size := ⟨inWS 876 (by decide +kernel) (by decide +kernel), inWS 24 (by decide +kernel) (by decide +kernel), inWS 879 (by decide +kernel) (by decide +kernel), by decide +kernel⟩
theorem mv_X7_size : MLv yX7_size := ⟨inWS 877 (by decide +kernel) (by decide +kernel), inWS 878 (by decide +kernel) (by decide +kernel)⟩
theorem wf_X10_397 : Cond.fieldLink RX10 397 (TX0 13).1 (TX0 13).2.1 (TX0 13).2.2.1 ∈ WS := inWS 93 (by decide +kernel) (by decide +kernel)
theorem ml_X10_416 : ML RX10 416 yX6_filled M_X6_filled := ⟨inWS 880 (by decide +kernel) (by decide +kernel), inWS 25 (by decide +kernel) (by decide +kernel), inWS 883 (by decide +kernel) (by decide +kernel), by decide +kernel⟩
theorem mv_X6_filled : MLv yX6_filled := ⟨inWS 881 (by decide +kernel) (by decide +kernel), inWS 882 (by decide +kernel) (by decide +kernel)⟩
