/-! FACTS: methods and links (by program) -/
abbrev M_X0_become : MD := (RX0, cX0_become, 2, (none : Option FieldType), 1, 26, false, fun _ _ _ => True)
abbrev M_X0_hasPaper : MD := (RX0, cX0_hasPaper, 3, (some FieldType.boolean), 0, 0, false, fun _ _ _ => True)
abbrev M_X0_hasCand : MD := (RX0, cX0_hasCand, 2, (some FieldType.boolean), 0, 0, false, fun _ _ _ => True)
abbrev M_X0_hasRoom : MD := (RX0, cX0_hasRoom, 2, (some FieldType.boolean), 0, 0, false, fun _ _ _ => True)
abbrev M_X0_addPaper : MD := (RX0, cX0_addPaper, 4, (some FieldType.int), 0, 0, false, fun _ _ _ => True)
abbrev M_X0_addCand : MD := (RX0, cX0_addCand, 3, (some FieldType.int), 0, 0, false, fun _ _ _ => True)
abbrev M_X0_addRoom : MD := (RX0, cX0_addRoom, 2, (some FieldType.int), 0, 0, false, fun _ _ _ => True)
abbrev M_X10_hasBit : MD := (RX10, cX10_hasBit, 2, (some FieldType.boolean), 0, 0, false, fun _ _ _ => True)
abbrev M_X0_doesTake : MD := (RX0, cX0_doesTake, 3, (some FieldType.boolean), 1, 21, false, fun _ _ _ => True)
abbrev M_X0_papersOf : MD := (RX0, cX0_papersOf, 4, (some FieldType.int), 0, 0, false, fun _ _ _ => True)
abbrev M_J6_bitCount_0f7a4 : MD := (RJ6, cJ6_bitCount_0f7a4, 1, (some FieldType.int), 0, 0, false, fun _ _ _ => True)
abbrev M_X0_mayFlip : MD := (RX0, cX0_mayFlip, 3, (some FieldType.boolean), 2, 43, false, fun _ _ _ => True)
abbrev M_X0_flip : MD := (RX0, cX0_flip, 3, (none : Option FieldType), 0, 0, false, fun _ _ _ => True)
abbrev M_X2_timeOf : MD := (RX2, cX2_timeOf, 4, (some FieldType.int), 0, 0, false, fun _ _ _ => True)
abbrev M_X0_timeFor : MD := (RX0, cX0_timeFor, 3, (some FieldType.int), 1, 23, false, fun _ _ _ => True)
abbrev M_X2_restOf : MD := (RX2, cX2_restOf, 3, (some FieldType.int), 0, 0, false, fun _ _ _ => True)
abbrev M_X0_restFor : MD := (RX0, cX0_restFor, 2, (some FieldType.int), 1, 22, false, fun _ _ _ => True)
abbrev M_X0_takenInAll : MD := (RX0, cX0_takenInAll, 3, (some FieldType.int), 1, 20, false, fun _ _ _ => True)
abbrev M_X0_draw : MD := (RX0, cX0_draw, 2, (some FieldType.int), 0, 0, false, fun _ _ _ => True)
abbrev M_X1_count : MD := (RX1, cX1_count, 1, (some FieldType.int), 0, 0, false, fun _ _ _ => True)
abbrev M_X1_watchers : MD := (RX1, cX1_watchers, 1, (some FieldType.int), 0, 0, false, fun _ _ _ => True)
abbrev M_X1_atOnce : MD := (RX1, cX1_atOnce, 1, (some FieldType.int), 0, 0, false, fun _ _ _ => True)
abbrev M_X1_tell : MD := (RX1, cX1_tell, 3, (some FieldType.int), 0, 0, false, fun _ _ _ => True)
abbrev M_X9_edition : MD := (RX9, cX9_edition, 1, (some FieldType.int), 0, 0, false, fun _ _ _ => True)
abbrev M_X8_cameTo : MD := (RX8, cX8_cameTo, 2, (some FieldType.int), 0, 0, false, fun _ _ _ => True)
abbrev M_X8_open : MD := (RX8, cX8_open, 4, (none : Option FieldType), 0, 0, false, fun _ _ _ => True)
abbrev M_X10_span : MD := (RX10, cX10_span, 2, (some FieldType.long), 0, 0, false, fun _ _ _ => True)
abbrev M_X3_gather : MD := (RX3, cX3_gather, 7, (none : Option FieldType), 2, 45, false, fun _ _ _ => True)
abbrev M_X3_walk : MD := (RX3, cX3_walk, 13, (some FieldType.boolean), 1, 21, false, fun _ _ _ => True)
abbrev M_J13_bitCount_95d88 : MD := (RJ13, cJ13_bitCount_95d88, 2, (some FieldType.int), 0, 0, false, fun _ _ _ => True)
abbrev M_X3_join : MD := (RX3, cX3_join, 4, (some FieldType.int), 0, 0, false, fun _ _ _ => True)
abbrev M_X3_measured : MD := (RX3, cX3_measured, 5, (some FieldType.int), 1, 23, false, fun _ _ _ => True)
abbrev M_X3_swap : MD := (RX3, cX3_swap, 4, (none : Option FieldType), 0, 0, false, fun _ _ _ => True)
abbrev M_X3_nextRow : MD := (RX3, cX3_nextRow, 5, (some FieldType.boolean), 1, 23, false, fun _ _ _ => True)
abbrev M_X3_search : MD := (RX3, cX3_search, 7, (some FieldType.boolean), 2, 53, false, fun _ _ _ => True)
abbrev M_X3_count : MD := (RX3, cX3_count, 1, (some FieldType.int), 0, 0, false, fun _ _ _ => True)
abbrev M_X3_keptSlots : MD := (RX3, cX3_keptSlots, 1, (some FieldType.long), 0, 0, false, fun _ _ _ => True)
abbrev M_X3_paperAt : MD := (RX3, cX3_paperAt, 2, (some FieldType.int), 0, 0, false, fun _ _ _ => True)
abbrev M_X3_beginAt : MD := (RX3, cX3_beginAt, 2, (some FieldType.int), 0, 0, false, fun _ _ _ => True)
abbrev M_X3_endAt : MD := (RX3, cX3_endAt, 2, (some FieldType.int), 0, 0, false, fun _ _ _ => True)
abbrev M_X8_put : MD := (RX8, cX8_put, 6, (none : Option FieldType), 1, 21, false, fun _ _ _ => True)
abbrev M_X3_least : MD := (RX3, cX3_least, 1, (some FieldType.int), 0, 0, false, fun _ _ _ => True)
abbrev M_X4_planDay : MD := (RX4, cX4_planDay, 12, (none : Option FieldType), 3, 79, false, fun _ _ _ => True)
abbrev M_X9_of : MD := (RX9, cX9_of, 5, (some (FieldType.object "ClashDays$Week")), 4, 110, false, fun _ _ _ => True)
abbrev M_X10_hasSlot : MD := (RX10, cX10_hasSlot, 3, (some FieldType.boolean), 0, 0, false, fun _ _ _ => True)
abbrev M_X8_dutyFrom : MD := (RX8, cX8_dutyFrom, 5, (some FieldType.int), 1, 22, false, fun _ _ _ => True)
abbrev M_X1_add : MD := (RX1, cX1_add, 5, (none : Option FieldType), 0, 0, false, fun _ _ _ => True)
abbrev M_X1_beginOf : MD := (RX1, cX1_beginOf, 2, (some FieldType.int), 0, 0, false, fun _ _ _ => True)
abbrev M_X1_watcherAt : MD := (RX1, cX1_watcherAt, 4, (some FieldType.int), 0, 0, false, fun _ _ _ => True)
abbrev M_X1_giveOut : MD := (RX1, cX1_giveOut, 4, (none : Option FieldType), 1, 23, false, fun _ _ _ => True)
abbrev M_X1_countAtOnce : MD := (RX1, cX1_countAtOnce, 5, (none : Option FieldType), 1, 21, false, fun _ _ _ => True)
abbrev M_X1_gather : MD := (RX1, cX1_gather, 6, (none : Option FieldType), 5, 134, false, fun _ _ _ => True)
abbrev M_X2_isKind : MD := (RX2, cX2_isKind, 1, (some FieldType.boolean), 0, 0, false, fun _ _ _ => True)
abbrev M_X2_above : MD := (RX2, cX2_above, 1, (some FieldType.int), 0, 0, false, fun _ _ _ => True)
abbrev M_X2_isUnder : MD := (RX2, cX2_isUnder, 4, (some FieldType.boolean), 1, 20, false, fun _ _ _ => True)
abbrev M_X2_word : MD := (RX2, cX2_word, 4, (some FieldType.int), 1, 23, false, fun _ _ _ => True)
abbrev M_X3_lawfulOnes : MD := (RX3, cX3_lawfulOnes, 1, (some FieldType.int), 0, 0, false, fun _ _ _ => True)
abbrev M_X4_planWeek : MD := (RX4, cX4_planWeek, 5, (none : Option FieldType), 4, 110, false, fun _ _ _ => True)
abbrev M_X4_replan : MD := (RX4, cX4_replan, 8, (none : Option FieldType), 4, 110, false, fun _ _ _ => True)
abbrev M_X4_ordersOf : MD := (RX4, cX4_ordersOf, 6, (some (FieldType.object "ClashDays$Orders")), 3, 71, false, fun _ _ _ => True)
abbrev M_X4_clash : MD := (RX4, cX4_clash, 9, (some FieldType.int), 3, 79, false, fun _ _ _ => True)
abbrev M_X5_piecesOf : MD := (RX5, cX5_piecesOf, 2, (some FieldType.int), 0, 0, false, fun _ _ _ => True)
abbrev M_X5_movesOf : MD := (RX5, cX5_movesOf, 2, (some FieldType.int), 0, 0, false, fun _ _ _ => True)
abbrev M_X5_roomAt : MD := (RX5, cX5_roomAt, 3, (some FieldType.int), 0, 0, false, fun _ _ _ => True)
abbrev M_X5_usedAt : MD := (RX5, cX5_usedAt, 3, (some FieldType.int), 0, 0, false, fun _ _ _ => True)
abbrev M_X8_pieceFrom : MD := (RX8, cX8_pieceFrom, 5, (some FieldType.long), 2, 46, false, fun _ _ _ => True)
abbrev M_X8_piecesOf : MD := (RX8, cX8_piecesOf, 7, (some FieldType.int), 3, 70, false, fun _ _ _ => True)
abbrev M_X5_costWith : MD := (RX5, cX5_costWith, 4, (some FieldType.int), 0, 0, false, fun _ _ _ => True)
abbrev M_X5_firstRoom : MD := (RX5, cX5_firstRoom, 7, (some FieldType.int), 1, 23, false, fun _ _ _ => True)
abbrev M_X5_costFrom : MD := (RX5, cX5_costFrom, 6, (some FieldType.int), 2, 49, false, fun _ _ _ => True)
abbrev M_X5_countMoves : MD := (RX5, cX5_countMoves, 5, (none : Option FieldType), 3, 74, false, fun _ _ _ => True)
abbrev M_X5_fill : MD := (RX5, cX5_fill, 7, (none : Option FieldType), 1, 22, false, fun _ _ _ => True)
abbrev M_X5_seat : MD := (RX5, cX5_seat, 6, (none : Option FieldType), 4, 98, false, fun _ _ _ => True)
abbrev M_X5_lay : MD := (RX5, cX5_lay, 5, (none : Option FieldType), 5, 134, false, fun _ _ _ => True)
abbrev M_X6_isShelf : MD := (RX6, cX6_isShelf, 1, (some FieldType.boolean), 0, 0, false, fun _ _ _ => True)
abbrev M_X6_isSort : MD := (RX6, cX6_isSort, 1, (some FieldType.boolean), 0, 0, false, fun _ _ _ => True)
abbrev M_X6_holding : MD := (RX6, cX6_holding, 2, (some FieldType.int), 1, 20, false, fun _ _ _ => True)
abbrev M_X6_rowTrouble : MD := (RX6, cX6_rowTrouble, 3, (some FieldType.int), 2, 41, false, fun _ _ _ => True)
abbrev M_X6_candOn : MD := (RX6, cX6_candOn, 3, (some FieldType.int), 2, 41, false, fun _ _ _ => True)
abbrev M_X6_putRow : MD := (RX6, cX6_putRow, 5, (none : Option FieldType), 0, 0, false, fun _ _ _ => True)
abbrev M_X6_putCand : MD := (RX6, cX6_putCand, 3, (none : Option FieldType), 0, 0, false, fun _ _ _ => True)
abbrev M_X6_hasElement : MD := (RX6, cX6_hasElement, 3, (some FieldType.boolean), 1, 20, false, fun _ _ _ => True)
abbrev M_X6_hasElements : MD := (RX6, cX6_hasElements, 4, (some FieldType.boolean), 1, 20, false, fun _ _ _ => True)
abbrev M_X6_elementAt : MD := (RX6, cX6_elementAt, 3, (some FieldType.long), 2, 42, false, fun _ _ _ => True)
abbrev M_X6_lowest : MD := (RX6, cX6_lowest, 3, (some FieldType.long), 0, 0, false, fun _ _ _ => True)
abbrev M_X6_putElement : MD := (RX6, cX6_putElement, 5, (none : Option FieldType), 2, 42, false, fun _ _ _ => True)
abbrev M_X6_carry : MD := (RX6, cX6_carry, 6, (none : Option FieldType), 1, 26, false, fun _ _ _ => True)
abbrev M_X6_dropCandsFrom : MD := (RX6, cX6_dropCandsFrom, 3, (none : Option FieldType), 3, 63, false, fun _ _ _ => True)
abbrev M_X6_filled : MD := (RX6, cX6_filled, 3, (some FieldType.int), 0, 0, false, fun _ _ _ => True)
abbrev M_X7_isFull : MD := (RX7, cX7_isFull, 1, (some FieldType.boolean), 0, 0, false, fun _ _ _ => True)
abbrev M_X7_size : MD := (RX7, cX7_size, 1, (some FieldType.int), 0, 0, false, fun _ _ _ => True)
abbrev M_X7_fault : MD := (RX7, cX7_fault, 1, (some FieldType.int), 0, 0, false, fun _ _ _ => True)
abbrev M_X7_append : MD := (RX7, cX7_append, 2, (some FieldType.int), 0, 0, false, fun _ _ _ => True)
abbrev M_X7_clear : MD := (RX7, cX7_clear, 2, (some FieldType.int), 0, 0, false, fun _ _ _ => True)
abbrev M_X7_byteAt : MD := (RX7, cX7_byteAt, 2, (some FieldType.int), 0, 0, false, fun _ _ _ => True)
abbrev M_X7_skipBlanks : MD := (RX7, cX7_skipBlanks, 2, (none : Option FieldType), 1, 21, false, fun _ _ _ => True)
abbrev M_X7_isLetter : MD := (RX7, cX7_isLetter, 1, (some FieldType.boolean), 0, 0, false, fun _ _ _ => True)
abbrev M_J0_coder_7d493 : MD := (RJ0, cJ0_coder_7d493, 1, (some FieldType.byte), 0, 0, false, fun _ _ _ => True)
abbrev M_J0_length_8abf5 : MD := (RJ0, cJ0_length_8abf5, 1, (some FieldType.int), 1, 20, false, fun _ _ _ => True)
abbrev M_J0_isLatin1_aae02 : MD := (RJ0, cJ0_isLatin1_aae02, 1, (some FieldType.boolean), 0, 0, false, fun _ _ _ => True)
abbrev M_J3_checkIndex_8e157 : MD := (RJ3, cJ3_checkIndex_8e157, 3, (some FieldType.int), 0, 0, false, fun _ _ _ => True)
abbrev M_J0_checkIndex_df160 : MD := (RJ0, cJ0_checkIndex_df160, 2, (none : Option FieldType), 1, 22, false, fun _ _ _ => True)
abbrev M_J1_charAt_3b067 : MD := (RJ1, cJ1_charAt_3b067, 2, (some FieldType.char), 2, 43, false, fun _ _ _ => True)
abbrev M_J0_charAt_5068e : MD := (RJ0, cJ0_charAt_5068e, 2, (some FieldType.char), 3, 64, false, fun _ _ _ => True)
abbrev M_X7_isWord : MD := (RX7, cX7_isWord, 3, (some FieldType.boolean), 4, 85, false, fun _ _ _ => True)
abbrev M_X7_faultHere : MD := (RX7, cX7_faultHere, 1, (some FieldType.boolean), 0, 0, false, fun _ _ _ => True)
abbrev M_X7_isDigit : MD := (RX7, cX7_isDigit, 1, (some FieldType.boolean), 0, 0, false, fun _ _ _ => True)
abbrev M_X7_number : MD := (RX7, cX7_number, 6, (some FieldType.int), 2, 42, false, fun _ _ _ => True)
abbrev M_X7_readPaper : MD := (RX7, cX7_readPaper, 5, (some FieldType.boolean), 3, 67, false, fun _ _ _ => True)
abbrev M_X7_readCand : MD := (RX7, cX7_readCand, 4, (some FieldType.boolean), 3, 67, false, fun _ _ _ => True)
abbrev M_X7_readTakes : MD := (RX7, cX7_readTakes, 4, (some FieldType.boolean), 3, 67, false, fun _ _ _ => True)
abbrev M_X7_readDrops : MD := (RX7, cX7_readDrops, 4, (some FieldType.boolean), 3, 67, false, fun _ _ _ => True)
abbrev M_X7_readNight : MD := (RX7, cX7_readNight, 3, (some FieldType.boolean), 3, 67, false, fun _ _ _ => True)
abbrev M_X7_readRoom : MD := (RX7, cX7_readRoom, 3, (some FieldType.boolean), 3, 67, false, fun _ _ _ => True)
abbrev M_X7_readHours : MD := (RX7, cX7_readHours, 3, (some FieldType.boolean), 3, 67, false, fun _ _ _ => True)
abbrev M_X7_readTurn : MD := (RX7, cX7_readTurn, 3, (some FieldType.boolean), 3, 67, false, fun _ _ _ => True)
abbrev M_X7_statement : MD := (RX7, cX7_statement, 3, (some FieldType.boolean), 5, 107, false, fun _ _ _ => True)
abbrev M_X7_readInto : MD := (RX7, cX7_readInto, 4, (some FieldType.int), 6, 129, false, fun _ _ _ => True)
abbrev M_X8_become : MD := (RX8, cX8_become, 3, (none : Option FieldType), 1, 26, false, fun _ _ _ => True)
abbrev M_X8_cants : MD := (RX8, cX8_cants, 3, (some FieldType.int), 0, 0, false, fun _ _ _ => True)
abbrev M_X8_keptSlots : MD := (RX8, cX8_keptSlots, 3, (some FieldType.int), 1, 21, false, fun _ _ _ => True)
abbrev M_X8_deed : MD := (RX8, cX8_deed, 5, (some FieldType.int), 1, 22, false, fun _ _ _ => True)
abbrev M_X8_measured : MD := (RX8, cX8_measured, 7, (some FieldType.int), 1, 23, false, fun _ _ _ => True)
abbrev M_X8_beginsLate : MD := (RX8, cX8_beginsLate, 6, (some FieldType.boolean), 0, 0, false, fun _ _ _ => True)
abbrev M_X9_forgetOthers : MD := (RX9, cX9_forgetOthers, 1, (none : Option FieldType), 0, 0, false, fun _ _ _ => True)
abbrev M_X9_forget : MD := (RX9, cX9_forget, 2, (none : Option FieldType), 0, 0, false, fun _ _ _ => True)
abbrev M_X9_forgetAll : MD := (RX9, cX9_forgetAll, 2, (none : Option FieldType), 0, 0, false, fun _ _ _ => True)
abbrev M_X10_refuse : MD := (RX10, cX10_refuse, 3, (some FieldType.int), 0, 0, false, fun _ _ _ => True)
abbrev M_X10_row : MD := (RX10, cX10_row, 4, (some FieldType.int), 1, 24, false, fun _ _ _ => True)
abbrev M_X10_set : MD := (RX10, cX10_set, 6, (some FieldType.int), 3, 66, false, fun _ _ _ => True)
abbrev M_X10_copy : MD := (RX10, cX10_copy, 8, (some FieldType.int), 3, 63, false, fun _ _ _ => True)
abbrev M_X10_element : MD := (RX10, cX10_element, 3, (some FieldType.long), 3, 64, false, fun _ _ _ => True)
abbrev M_X10_holds : MD := (RX10, cX10_holds, 2, (some FieldType.int), 2, 41, false, fun _ _ _ => True)
abbrev M_X10_show : MD := (RX10, cX10_show, 3, (some FieldType.int), 1, 22, false, fun _ _ _ => True)
abbrev M_X10_says : MD := (RX10, cX10_says, 5, (some FieldType.int), 3, 63, false, fun _ _ _ => True)
abbrev M_X10_isDay : MD := (RX10, cX10_isDay, 1, (some FieldType.boolean), 0, 0, false, fun _ _ _ => True)
abbrev M_X10_isSlot : MD := (RX10, cX10_isSlot, 1, (some FieldType.boolean), 0, 0, false, fun _ _ _ => True)
abbrev M_X10_paper : MD := (RX10, cX10_paper, 4, (some FieldType.int), 1, 23, false, fun _ _ _ => True)
abbrev M_X10_starts : MD := (RX10, cX10_starts, 4, (some FieldType.int), 1, 22, false, fun _ _ _ => True)
abbrev M_X10_cand : MD := (RX10, cX10_cand, 4, (some FieldType.int), 1, 22, false, fun _ _ _ => True)
abbrev M_X10_isYesOrNo : MD := (RX10, cX10_isYesOrNo, 1, (some FieldType.boolean), 0, 0, false, fun _ _ _ => True)
abbrev M_X10_takes : MD := (RX10, cX10_takes, 5, (some FieldType.int), 3, 65, false, fun _ _ _ => True)
abbrev M_X10_night : MD := (RX10, cX10_night, 4, (some FieldType.int), 1, 22, false, fun _ _ _ => True)
abbrev M_X10_room : MD := (RX10, cX10_room, 2, (some FieldType.int), 1, 22, false, fun _ _ _ => True)
abbrev M_X10_hours : MD := (RX10, cX10_hours, 3, (some FieldType.int), 1, 22, false, fun _ _ _ => True)
abbrev M_X10_turn : MD := (RX10, cX10_turn, 3, (some FieldType.int), 1, 22, false, fun _ _ _ => True)
abbrev M_X10_feed : MD := (RX10, cX10_feed, 2, (some FieldType.int), 1, 22, false, fun _ _ _ => True)
abbrev M_X10_wipe : MD := (RX10, cX10_wipe, 1, (some FieldType.int), 1, 21, false, fun _ _ _ => True)
abbrev M_X10_book : MD := (RX10, cX10_book, 2, (some FieldType.int), 7, 152, false, fun _ _ _ => True)
abbrev M_X10_candOf : MD := (RX10, cX10_candOf, 3, (some FieldType.int), 5, 134, false, fun _ _ _ => True)
abbrev M_X10_takersOf : MD := (RX10, cX10_takersOf, 4, (some FieldType.int), 2, 43, false, fun _ _ _ => True)
abbrev M_X10_lateOnesOf : MD := (RX10, cX10_lateOnesOf, 4, (some FieldType.int), 5, 134, false, fun _ _ _ => True)
abbrev M_X10_paperOf : MD := (RX10, cX10_paperOf, 3, (some FieldType.int), 6, 157, false, fun _ _ _ => True)
abbrev M_X10_time : MD := (RX10, cX10_time, 3, (some FieldType.int), 2, 45, false, fun _ _ _ => True)
abbrev M_X10_plan : MD := (RX10, cX10_plan, 5, (some FieldType.int), 5, 134, false, fun _ _ _ => True)
abbrev M_X10_sits : MD := (RX10, cX10_sits, 7, (some FieldType.int), 5, 134, false, fun _ _ _ => True)
abbrev M_X10_does : MD := (RX10, cX10_does, 4, (some FieldType.int), 5, 134, false, fun _ _ _ => True)
abbrev M_X10_isMeasure : MD := (RX10, cX10_isMeasure, 1, (some FieldType.boolean), 0, 0, false, fun _ _ _ => True)
abbrev M_X10_measure : MD := (RX10, cX10_measure, 5, (some FieldType.int), 5, 134, false, fun _ _ _ => True)
abbrev M_X10_best : MD := (RX10, cX10_best, 6, (some FieldType.int), 5, 134, false, fun _ _ _ => True)
abbrev M_X10_lawful : MD := (RX10, cX10_lawful, 4, (some FieldType.int), 5, 134, false, fun _ _ _ => True)
abbrev M_X10_watch : MD := (RX10, cX10_watch, 2, (some FieldType.int), 6, 159, false, fun _ _ _ => True)
abbrev M_X10_duty : MD := (RX10, cX10_duty, 3, (some FieldType.int), 6, 159, false, fun _ _ _ => True)
abbrev M_X10_pieces : MD := (RX10, cX10_pieces, 4, (some FieldType.int), 6, 158, false, fun _ _ _ => True)
abbrev M_X10_roomOf : MD := (RX10, cX10_roomOf, 4, (some FieldType.int), 6, 158, false, fun _ _ _ => True)
abbrev M_X10_left : MD := (RX10, cX10_left, 4, (some FieldType.int), 6, 158, false, fun _ _ _ => True)
abbrev M_X10_cantsFlipped : MD := (RX10, cX10_cantsFlipped, 3, (some FieldType.int), 5, 137, false, fun _ _ _ => True)
abbrev M_X10_whatIf : MD := (RX10, cX10_whatIf, 3, (some FieldType.int), 6, 159, false, fun _ _ _ => True)
abbrev M_X10_both : MD := (RX10, cX10_both, 4, (some FieldType.int), 5, 134, false, fun _ _ _ => True)
abbrev M_X10_relief : MD := (RX10, cX10_relief, 6, (some FieldType.int), 6, 159, false, fun _ _ _ => True)
abbrev M_X10_tryStarts : MD := (RX10, cX10_tryStarts, 4, (none : Option FieldType), 5, 137, false, fun _ _ _ => True)
abbrev M_X10_retime : MD := (RX10, cX10_retime, 6, (some FieldType.int), 6, 160, false, fun _ _ _ => True)
abbrev M_X10_hoursFor : MD := (RX10, cX10_hoursFor, 3, (some FieldType.int), 5, 134, false, fun _ _ _ => True)
abbrev M_X10_isTold : MD := (RX10, cX10_isTold, 1, (some FieldType.boolean), 0, 0, false, fun _ _ _ => True)
abbrev M_X10_hasToldTimes : MD := (RX10, cX10_hasToldTimes, 9, (some FieldType.boolean), 3, 64, false, fun _ _ _ => True)
abbrev M_X10_kinds : MD := (RX10, cX10_kinds, 7, (some FieldType.int), 4, 92, false, fun _ _ _ => True)
abbrev M_X10_firstWrong : MD := (RX10, cX10_firstWrong, 15, (some FieldType.int), 5, 134, false, fun _ _ _ => True)
abbrev M_X10_judge : MD := (RX10, cX10_judge, 6, (some FieldType.int), 6, 168, false, fun _ _ _ => True)
abbrev M_X10_together : MD := (RX10, cX10_together, 6, (some FieldType.int), 5, 134, false, fun _ _ _ => True)
abbrev M_X10_changes : MD := (RX10, cX10_changes, 6, (some FieldType.int), 3, 65, false, fun _ _ _ => True)
abbrev M_X10_seed : MD := (RX10, cX10_seed, 3, (some FieldType.int), 0, 0, false, fun _ _ _ => True)
abbrev M_X10_image : MD := (RX10, cX10_image, 1, (some FieldType.int), 2, 47, false, fun _ _ _ => True)
abbrev M_X10_back : MD := (RX10, cX10_back, 1, (some FieldType.int), 4, 85, false, fun _ _ _ => True)
abbrev M_X10_daysSomebodyCant : MD := (RX10, cX10_daysSomebodyCant, 5, (some FieldType.int), 5, 134, false, fun _ _ _ => True)
abbrev M_X10_status : MD := (RX10, cX10_status, 2, (some FieldType.int), 6, 158, false, fun _ _ _ => True)
abbrev M_X11_isIn : MD := (RX11, cX11_isIn, 6, (some FieldType.boolean), 0, 0, false, fun _ _ _ => True)
abbrev M_X11_no : MD := (RX11, cX11_no, 2, (some FieldType.int), 0, 0, false, fun _ _ _ => True)
abbrev M_X11_isPaper : MD := (RX11, cX11_isPaper, 2, (some FieldType.boolean), 1, 25, false, fun _ _ _ => True)
abbrev M_X11_isCand : MD := (RX11, cX11_isCand, 2, (some FieldType.boolean), 1, 25, false, fun _ _ _ => True)
abbrev M_X11_isDay : MD := (RX11, cX11_isDay, 1, (some FieldType.boolean), 1, 25, false, fun _ _ _ => True)
abbrev M_X11_isSlot : MD := (RX11, cX11_isSlot, 1, (some FieldType.boolean), 1, 25, false, fun _ _ _ => True)
abbrev M_X11_day : MD := (RX11, cX11_day, 2, (some FieldType.int), 0, 0, false, fun _ _ _ => True)
abbrev M_X11_start : MD := (RX11, cX11_start, 2, (some FieldType.int), 0, 0, false, fun _ _ _ => True)
abbrev M_X11_length : MD := (RX11, cX11_length, 2, (some FieldType.int), 0, 0, false, fun _ _ _ => True)
abbrev M_X11_who : MD := (RX11, cX11_who, 3, (some FieldType.int), 0, 0, false, fun _ _ _ => True)
abbrev M_X11_has : MD := (RX11, cX11_has, 3, (some FieldType.boolean), 1, 22, false, fun _ _ _ => True)
abbrev M_X11_many : MD := (RX11, cX11_many, 3, (some FieldType.int), 0, 0, false, fun _ _ _ => True)
abbrev M_X11_timeOf : MD := (RX11, cX11_timeOf, 4, (some FieldType.int), 0, 0, false, fun _ _ _ => True)
abbrev M_X11_restOf : MD := (RX11, cX11_restOf, 3, (some FieldType.int), 0, 0, false, fun _ _ _ => True)
abbrev M_X11_timed : MD := (RX11, cX11_timed, 3, (some FieldType.int), 1, 23, false, fun _ _ _ => True)
abbrev M_X11_rest : MD := (RX11, cX11_rest, 2, (some FieldType.int), 1, 22, false, fun _ _ _ => True)
abbrev M_X11_isShelf : MD := (RX11, cX11_isShelf, 1, (some FieldType.boolean), 1, 25, false, fun _ _ _ => True)
abbrev M_X11_isRow : MD := (RX11, cX11_isRow, 2, (some FieldType.boolean), 0, 0, false, fun _ _ _ => True)
abbrev M_X11_row : MD := (RX11, cX11_row, 5, (some FieldType.int), 2, 45, false, fun _ _ _ => True)
abbrev M_X11_set : MD := (RX11, cX11_set, 6, (some FieldType.int), 2, 45, false, fun _ _ _ => True)
abbrev M_X11_copy : MD := (RX11, cX11_copy, 7, (some FieldType.int), 2, 45, false, fun _ _ _ => True)
abbrev M_X11_element : MD := (RX11, cX11_element, 3, (some FieldType.long), 2, 45, false, fun _ _ _ => True)
abbrev M_X11_holds : MD := (RX11, cX11_holds, 2, (some FieldType.int), 2, 45, false, fun _ _ _ => True)
abbrev M_X11_show : MD := (RX11, cX11_show, 3, (some FieldType.int), 2, 46, false, fun _ _ _ => True)
abbrev M_X11_isUnder : MD := (RX11, cX11_isUnder, 2, (some FieldType.boolean), 0, 0, false, fun _ _ _ => True)
abbrev M_X11_says : MD := (RX11, cX11_says, 7, (some FieldType.int), 2, 45, false, fun _ _ _ => True)
abbrev M_X11_paper : MD := (RX11, cX11_paper, 5, (some FieldType.int), 2, 45, false, fun _ _ _ => True)
abbrev M_X11_becomes : MD := (RX11, cX11_becomes, 4, (some FieldType.int), 0, 0, false, fun _ _ _ => True)
abbrev M_X11_starts : MD := (RX11, cX11_starts, 3, (some FieldType.int), 2, 46, false, fun _ _ _ => True)
abbrev M_X11_cand : MD := (RX11, cX11_cand, 4, (some FieldType.int), 1, 25, false, fun _ _ _ => True)
abbrev M_X11_ofDay : MD := (RX11, cX11_ofDay, 5, (some FieldType.int), 2, 44, false, fun _ _ _ => True)
abbrev M_X11_isFifth : MD := (RX11, cX11_isFifth, 3, (some FieldType.boolean), 3, 68, false, fun _ _ _ => True)
abbrev M_X11_toggles : MD := (RX11, cX11_toggles, 3, (none : Option FieldType), 0, 0, false, fun _ _ _ => True)
abbrev M_X11_takes : MD := (RX11, cX11_takes, 5, (some FieldType.int), 4, 90, false, fun _ _ _ => True)
abbrev M_X11_night : MD := (RX11, cX11_night, 3, (some FieldType.int), 2, 46, false, fun _ _ _ => True)
abbrev M_X11_room : MD := (RX11, cX11_room, 2, (some FieldType.int), 1, 25, false, fun _ _ _ => True)
abbrev M_X11_hours : MD := (RX11, cX11_hours, 2, (some FieldType.int), 1, 25, false, fun _ _ _ => True)
abbrev M_X11_turn : MD := (RX11, cX11_turn, 2, (some FieldType.int), 1, 25, false, fun _ _ _ => True)
abbrev M_X11_feed : MD := (RX11, cX11_feed, 2, (some FieldType.int), 1, 25, false, fun _ _ _ => True)
abbrev M_X11_wipe : MD := (RX11, cX11_wipe, 2, (some FieldType.int), 0, 0, false, fun _ _ _ => True)
abbrev M_X11_isLetter : MD := (RX11, cX11_isLetter, 2, (some FieldType.boolean), 0, 0, false, fun _ _ _ => True)
abbrev M_X11_isFigure : MD := (RX11, cX11_isFigure, 2, (some FieldType.boolean), 0, 0, false, fun _ _ _ => True)
abbrev M_X11_blanks : MD := (RX11, cX11_blanks, 1, (none : Option FieldType), 0, 0, false, fun _ _ _ => True)
abbrev M_X11_wrong : MD := (RX11, cX11_wrong, 1, (none : Option FieldType), 0, 0, false, fun _ _ _ => True)
abbrev M_X11_word : MD := (RX11, cX11_word, 7, (some FieldType.int), 1, 21, false, fun _ _ _ => True)
abbrev M_X11_number : MD := (RX11, cX11_number, 5, (none : Option FieldType), 1, 25, false, fun _ _ _ => True)
abbrev M_X11_statement : MD := (RX11, cX11_statement, 5, (none : Option FieldType), 4, 90, false, fun _ _ _ => True)
abbrev M_X11_move : MD := (RX11, cX11_move, 3, (none : Option FieldType), 0, 0, false, fun _ _ _ => True)
abbrev M_X11_book : MD := (RX11, cX11_book, 3, (some FieldType.int), 5, 114, false, fun _ _ _ => True)
abbrev M_X11_rows : MD := (RX11, cX11_rows, 4, (some FieldType.int), 0, 0, false, fun _ _ _ => True)
abbrev M_X11_next : MD := (RX11, cX11_next, 7, (some FieldType.boolean), 0, 0, false, fun _ _ _ => True)
abbrev M_X11_isLaid : MD := (RX11, cX11_isLaid, 9, (some FieldType.boolean), 2, 45, false, fun _ _ _ => True)
abbrev M_X11_isSitting : MD := (RX11, cX11_isSitting, 5, (some FieldType.boolean), 0, 0, false, fun _ _ _ => True)
abbrev M_X11_isWaiting : MD := (RX11, cX11_isWaiting, 6, (some FieldType.boolean), 1, 21, false, fun _ _ _ => True)
abbrev M_X11_keeps : MD := (RX11, cX11_keeps, 6, (some FieldType.int), 2, 46, false, fun _ _ _ => True)
abbrev M_X11_tries : MD := (RX11, cX11_tries, 9, (none : Option FieldType), 3, 73, false, fun _ _ _ => True)
abbrev M_X11_plans : MD := (RX11, cX11_plans, 6, (none : Option FieldType), 4, 101, false, fun _ _ _ => True)
abbrev M_X11_cants : MD := (RX11, cX11_cants, 4, (some FieldType.int), 5, 126, false, fun _ _ _ => True)
abbrev M_X11_keptInAll : MD := (RX11, cX11_keptInAll, 4, (some FieldType.int), 5, 126, false, fun _ _ _ => True)
abbrev M_X11_isLawful : MD := (RX11, cX11_isLawful, 6, (some FieldType.boolean), 3, 73, false, fun _ _ _ => True)
abbrev M_X11_clash : MD := (RX11, cX11_clash, 6, (some FieldType.int), 4, 98, false, fun _ _ _ => True)
abbrev M_X11_doing : MD := (RX11, cX11_doing, 9, (some FieldType.int), 2, 45, false, fun _ _ _ => True)
abbrev M_X11_candOf : MD := (RX11, cX11_candOf, 3, (some FieldType.int), 6, 149, false, fun _ _ _ => True)
abbrev M_X11_elsewhere : MD := (RX11, cX11_elsewhere, 6, (some FieldType.int), 5, 126, false, fun _ _ _ => True)
abbrev M_X11_paperOf : MD := (RX11, cX11_paperOf, 5, (some FieldType.int), 6, 151, false, fun _ _ _ => True)
abbrev M_X11_time : MD := (RX11, cX11_time, 3, (some FieldType.int), 2, 46, false, fun _ _ _ => True)
abbrev M_X11_plan : MD := (RX11, cX11_plan, 4, (some FieldType.int), 5, 126, false, fun _ _ _ => True)
abbrev M_X11_sits : MD := (RX11, cX11_sits, 7, (some FieldType.int), 5, 126, false, fun _ _ _ => True)
abbrev M_X11_does : MD := (RX11, cX11_does, 4, (some FieldType.int), 5, 126, false, fun _ _ _ => True)
abbrev M_X11_measured : MD := (RX11, cX11_measured, 9, (some FieldType.int), 3, 71, false, fun _ _ _ => True)
abbrev M_X11_measure : MD := (RX11, cX11_measure, 6, (some FieldType.int), 5, 126, false, fun _ _ _ => True)
abbrev M_X11_best : MD := (RX11, cX11_best, 10, (some FieldType.int), 5, 126, false, fun _ _ _ => True)
abbrev M_X11_lawful : MD := (RX11, cX11_lawful, 6, (some FieldType.int), 5, 126, false, fun _ _ _ => True)
abbrev M_X11_all : MD := (RX11, cX11_all, 3, (none : Option FieldType), 5, 126, false, fun _ _ _ => True)
abbrev M_X11_what : MD := (RX11, cX11_what, 4, (some FieldType.int), 0, 0, false, fun _ _ _ => True)
abbrev M_X11_watcher : MD := (RX11, cX11_watcher, 4, (some FieldType.int), 0, 0, false, fun _ _ _ => True)
abbrev M_X11_duties : MD := (RX11, cX11_duties, 6, (none : Option FieldType), 6, 148, false, fun _ _ _ => True)
abbrev M_X11_begin : MD := (RX11, cX11_begin, 2, (some FieldType.int), 0, 0, false, fun _ _ _ => True)
abbrev M_X11_atOnce : MD := (RX11, cX11_atOnce, 5, (some FieldType.int), 1, 21, false, fun _ _ _ => True)
abbrev M_X11_watch : MD := (RX11, cX11_watch, 2, (some FieldType.int), 7, 173, false, fun _ _ _ => True)
abbrev M_X11_duty : MD := (RX11, cX11_duty, 3, (some FieldType.int), 7, 173, false, fun _ _ _ => True)
abbrev M_X11_piecesOf : MD := (RX11, cX11_piecesOf, 6, (none : Option FieldType), 1, 23, false, fun _ _ _ => True)
abbrev M_X11_isSeat : MD := (RX11, cX11_isSeat, 5, (some FieldType.boolean), 0, 0, false, fun _ _ _ => True)
abbrev M_X11_isRoomed : MD := (RX11, cX11_isRoomed, 7, (some FieldType.boolean), 1, 24, false, fun _ _ _ => True)
abbrev M_X11_roomed : MD := (RX11, cX11_roomed, 8, (none : Option FieldType), 1, 21, false, fun _ _ _ => True)
abbrev M_X11_seats : MD := (RX11, cX11_seats, 4, (none : Option FieldType), 6, 148, false, fun _ _ _ => True)
abbrev M_X11_pieces : MD := (RX11, cX11_pieces, 4, (some FieldType.int), 7, 171, false, fun _ _ _ => True)
abbrev M_X11_roomOf : MD := (RX11, cX11_roomOf, 4, (some FieldType.int), 7, 171, false, fun _ _ _ => True)
abbrev M_X11_left : MD := (RX11, cX11_left, 4, (some FieldType.int), 7, 171, false, fun _ _ _ => True)
abbrev M_X11_whatIf : MD := (RX11, cX11_whatIf, 4, (some FieldType.int), 6, 149, false, fun _ _ _ => True)
abbrev M_X11_both : MD := (RX11, cX11_both, 5, (some FieldType.int), 6, 149, false, fun _ _ _ => True)
abbrev M_X11_relief : MD := (RX11, cX11_relief, 6, (some FieldType.int), 6, 149, false, fun _ _ _ => True)
abbrev M_X11_retime : MD := (RX11, cX11_retime, 8, (some FieldType.int), 6, 149, false, fun _ _ _ => True)
abbrev M_X11_hoursFor : MD := (RX11, cX11_hoursFor, 5, (some FieldType.int), 6, 149, false, fun _ _ _ => True)
abbrev M_X11_wrongShelf : MD := (RX11, cX11_wrongShelf, 3, (some FieldType.int), 0, 0, false, fun _ _ _ => True)
abbrev M_X11_kinds : MD := (RX11, cX11_kinds, 12, (some FieldType.int), 2, 46, false, fun _ _ _ => True)
abbrev M_X11_judge : MD := (RX11, cX11_judge, 13, (some FieldType.int), 5, 126, false, fun _ _ _ => True)
abbrev M_X11_together : MD := (RX11, cX11_together, 6, (some FieldType.int), 5, 126, false, fun _ _ _ => True)
abbrev M_X11_draw : MD := (RX11, cX11_draw, 2, (some FieldType.int), 0, 0, false, fun _ _ _ => True)
abbrev M_X11_changes : MD := (RX11, cX11_changes, 6, (some FieldType.int), 4, 90, false, fun _ _ _ => True)
abbrev M_X11_seed : MD := (RX11, cX11_seed, 2, (some FieldType.int), 1, 23, false, fun _ _ _ => True)
abbrev M_X11_image : MD := (RX11, cX11_image, 1, (some FieldType.int), 1, 22, false, fun _ _ _ => True)
abbrev M_X11_back : MD := (RX11, cX11_back, 2, (some FieldType.int), 1, 22, false, fun _ _ _ => True)
abbrev M_X11_taken : MD := (RX11, cX11_taken, 3, (some FieldType.int), 1, 22, false, fun _ _ _ => True)
abbrev M_X11_badDays : MD := (RX11, cX11_badDays, 4, (some FieldType.int), 5, 126, false, fun _ _ _ => True)
abbrev M_X11_status : MD := (RX11, cX11_status, 4, (some FieldType.int), 6, 149, false, fun _ _ _ => True)
theorem wf_X0_9 : Cond.fieldLink RX0 9 (TX0 0).1 (TX0 0).2.1 (TX0 0).2.2.1 ∈ WS := inWS 125 (by decide +kernel) (by decide +kernel)
theorem wa_X0_46 : Cond.methodLink RX0 46 arraycopyName ∈ WS := inWS 720 (by decide +kernel) (by decide +kernel)
theorem wa_words : Cond.native arraycopyName ∈ WS ∧ Cond.static arraycopyName ∈ WS ∧ Cond.initialized "java/lang/System" ∈ WS := ⟨inWS 546 (by decide +kernel) (by decide +kernel), inWS 545 (by decide +kernel) (by decide +kernel), inWS 102 (by decide +kernel) (by decide +kernel)⟩
theorem wf_X0_15 : Cond.fieldLink RX0 15 (TX0 1).1 (TX0 1).2.1 (TX0 1).2.2.1 ∈ WS := inWS 128 (by decide +kernel) (by decide +kernel)
theorem wf_X0_18 : Cond.fieldLink RX0 18 (TX0 2).1 (TX0 2).2.1 (TX0 2).2.2.1 ∈ WS := inWS 133 (by decide +kernel) (by decide +kernel)
theorem wf_X0_21 : Cond.fieldLink RX0 21 (TX0 3).1 (TX0 3).2.1 (TX0 3).2.2.1 ∈ WS := inWS 135 (by decide +kernel) (by decide +kernel)
theorem wf_X0_24 : Cond.fieldLink RX0 24 (TX0 4).1 (TX0 4).2.1 (TX0 4).2.2.1 ∈ WS := inWS 137 (by decide +kernel) (by decide +kernel)
theorem wf_X0_27 : Cond.fieldLink RX0 27 (TX0 5).1 (TX0 5).2.1 (TX0 5).2.2.1 ∈ WS := inWS 139 (by decide +kernel) (by decide +kernel)
theorem wf_X0_30 : Cond.fieldLink RX0 30 (TX0 6).1 (TX0 6).2.1 (TX0 6).2.2.1 ∈ WS := inWS 143 (by decide +kernel) (by decide +kernel)
theorem wf_X0_33 : Cond.fieldLink RX0 33 (TX0 7).1 (TX0 7).2.1 (TX0 7).2.2.1 ∈ WS := inWS 146 (by decide +kernel) (by decide +kernel)
theorem wf_X0_52 : Cond.fieldLink RX0 52 (TX0 8).1 (TX0 8).2.1 (TX0 8).2.2.1 ∈ WS := inWS 149 (by decide +kernel) (by decide +kernel)
theorem wf_X0_55 : Cond.fieldLink RX0 55 (TX0 9).1 (TX0 9).2.1 (TX0 9).2.2.1 ∈ WS := inWS 154 (by decide +kernel) (by decide +kernel)
theorem wf_X0_58 : Cond.fieldLink RX0 58 (TX0 10).1 (TX0 10).2.1 (TX0 10).2.2.1 ∈ WS := inWS 159 (by decide +kernel) (by decide +kernel)
theorem wf_X0_36 : Cond.fieldLink RX0 36 (TX0 11).1 (TX0 11).2.1 (TX0 11).2.2.1 ∈ WS := inWS 163 (by decide +kernel) (by decide +kernel)
theorem wf_X0_40 : Cond.fieldLink RX0 40 (TX0 12).1 (TX0 12).2.1 (TX0 12).2.2.1 ∈ WS := inWS 168 (by decide +kernel) (by decide +kernel)
theorem wf_X0_43 : Cond.fieldLink RX0 43 (TX0 13).1 (TX0 13).2.1 (TX0 13).2.2.1 ∈ WS := inWS 172 (by decide +kernel) (by decide +kernel)
theorem ml_X0_61 : MLn RX0 61 yX10_hasBit M_X10_hasBit := ⟨⟨"ClashDays", List.mem_of_getElem? (i := 10) rfl⟩, inWS 91 (by decide +kernel) (by decide +kernel), inWS 648 (by decide +kernel) (by decide +kernel), by decide +kernel⟩
theorem mt_X10_hasBit : Cond.static yX10_hasBit ∈ WS := inWS 647 (by decide +kernel) (by decide +kernel)
theorem wc_J6_265 : Cond.constant "java/lang/Integer" 265 (1431655765 : Int32) ∈ WS := inWS 661 (by decide +kernel) (by decide +kernel)
theorem wc_J6_266 : Cond.constant "java/lang/Integer" 266 (858993459 : Int32) ∈ WS := inWS 662 (by decide +kernel) (by decide +kernel)
theorem wc_J6_267 : Cond.constant "java/lang/Integer" 267 (252645135 : Int32) ∈ WS := inWS 663 (by decide +kernel) (by decide +kernel)
theorem ml_X0_65 : ML RX0 65 yX0_doesTake M_X0_doesTake := ⟨inWS 653 (by decide +kernel) (by decide +kernel), inWS 92 (by decide +kernel) (by decide +kernel), inWS 645 (by decide +kernel) (by decide +kernel), by decide +kernel⟩
theorem mv_X0_doesTake : MLv yX0_doesTake := ⟨inWS 643 (by decide +kernel) (by decide +kernel), inWS 644 (by decide +kernel) (by decide +kernel)⟩
theorem ml_X0_68 : ML RX0 68 yX0_papersOf M_X0_papersOf := ⟨inWS 654 (by decide +kernel) (by decide +kernel), inWS 92 (by decide +kernel) (by decide +kernel), inWS 657 (by decide +kernel) (by decide +kernel), by decide +kernel⟩
theorem mv_X0_papersOf : MLv yX0_papersOf := ⟨inWS 655 (by decide +kernel) (by decide +kernel), inWS 656 (by decide +kernel) (by decide +kernel)⟩
theorem ml_X0_72 : ML RX0 72 yJ6_bitCount_0f7a4 M_J6_bitCount_0f7a4 := ⟨inWS 658 (by decide +kernel) (by decide +kernel), inWS 104 (by decide +kernel) (by decide +kernel), inWS 660 (by decide +kernel) (by decide +kernel), by decide +kernel⟩
theorem mt_J6_bitCount_0f7a4 : Cond.static yJ6_bitCount_0f7a4 ∈ WS := inWS 659 (by decide +kernel) (by decide +kernel)
theorem ml_X0_77 : ML RX0 77 yX2_timeOf M_X2_timeOf := ⟨inWS 879 (by decide +kernel) (by decide +kernel), inWS 103 (by decide +kernel) (by decide +kernel), inWS 593 (by decide +kernel) (by decide +kernel), by decide +kernel⟩
theorem mt_X2_timeOf : Cond.static yX2_timeOf ∈ WS := inWS 592 (by decide +kernel) (by decide +kernel)
theorem ml_X0_83 : ML RX0 83 yX2_restOf M_X2_restOf := ⟨inWS 862 (by decide +kernel) (by decide +kernel), inWS 103 (by decide +kernel) (by decide +kernel), inWS 596 (by decide +kernel) (by decide +kernel), by decide +kernel⟩
theorem mt_X2_restOf : Cond.static yX2_restOf ∈ WS := inWS 595 (by decide +kernel) (by decide +kernel)
theorem wc_X0_87 : Cond.constant "ClashDays$Book" 87 (1103515245 : Int32) ∈ WS := inWS 1260 (by decide +kernel) (by decide +kernel)
theorem wf_X1_30 : Cond.fieldLink RX1 30 (TX1 6).1 (TX1 6).2.1 (TX1 6).2.2.1 ∈ WS := inWS 386 (by decide +kernel) (by decide +kernel)
theorem wf_X1_34 : Cond.fieldLink RX1 34 (TX1 7).1 (TX1 7).2.1 (TX1 7).2.2.1 ∈ WS := inWS 387 (by decide +kernel) (by decide +kernel)
theorem wf_X1_37 : Cond.fieldLink RX1 37 (TX1 8).1 (TX1 8).2.1 (TX1 8).2.2.1 ∈ WS := inWS 388 (by decide +kernel) (by decide +kernel)
theorem wf_X1_9 : Cond.fieldLink RX1 9 (TX1 0).1 (TX1 0).2.1 (TX1 0).2.2.1 ∈ WS := inWS 380 (by decide +kernel) (by decide +kernel)
theorem wf_X1_15 : Cond.fieldLink RX1 15 (TX1 1).1 (TX1 1).2.1 (TX1 1).2.2.1 ∈ WS := inWS 381 (by decide +kernel) (by decide +kernel)
theorem wf_X1_18 : Cond.fieldLink RX1 18 (TX1 2).1 (TX1 2).2.1 (TX1 2).2.2.1 ∈ WS := inWS 382 (by decide +kernel) (by decide +kernel)
theorem wf_X1_21 : Cond.fieldLink RX1 21 (TX1 3).1 (TX1 3).2.1 (TX1 3).2.2.1 ∈ WS := inWS 383 (by decide +kernel) (by decide +kernel)
theorem wf_X1_24 : Cond.fieldLink RX1 24 (TX1 4).1 (TX1 4).2.1 (TX1 4).2.2.1 ∈ WS := inWS 384 (by decide +kernel) (by decide +kernel)
theorem wf_X9_28 : Cond.fieldLink RX9 28 (TX9 3).1 (TX9 3).2.1 (TX9 3).2.2.1 ∈ WS := inWS 362 (by decide +kernel) (by decide +kernel)
theorem wf_X8_15 : Cond.fieldLink RX8 15 (TX8 1).1 (TX8 1).2.1 (TX8 1).2.2.1 ∈ WS := inWS 320 (by decide +kernel) (by decide +kernel)
theorem wf_X8_9 : Cond.fieldLink RX8 9 (TX8 0).1 (TX8 0).2.1 (TX8 0).2.2.1 ∈ WS := inWS 317 (by decide +kernel) (by decide +kernel)
theorem wf_X8_19 : Cond.fieldLink RX8 19 (TX8 2).1 (TX8 2).2.1 (TX8 2).2.2.1 ∈ WS := inWS 323 (by decide +kernel) (by decide +kernel)
theorem wf_X8_22 : Cond.fieldLink RX8 22 (TX8 3).1 (TX8 3).2.1 (TX8 3).2.2.1 ∈ WS := inWS 326 (by decide +kernel) (by decide +kernel)
theorem wf_X8_25 : Cond.fieldLink RX8 25 (TX8 4).1 (TX8 4).2.1 (TX8 4).2.2.1 ∈ WS := inWS 329 (by decide +kernel) (by decide +kernel)
theorem wf_X8_28 : Cond.fieldLink RX8 28 (TX8 5).1 (TX8 5).2.1 (TX8 5).2.2.1 ∈ WS := inWS 331 (by decide +kernel) (by decide +kernel)
theorem wc_X10_419 : Cond.constantLong "ClashDays" 419 (-1 : Int64) ∈ WS := inWS 894 (by decide +kernel) (by decide +kernel)
theorem wf_X3_30 : Cond.fieldLink RX3 30 (TX3 6).1 (TX3 6).2.1 (TX3 6).2.2.1 ∈ WS := inWS 261 (by decide +kernel) (by decide +kernel)
theorem ml_X3_44 : ML RX3 44 yX0_restFor M_X0_restFor := ⟨inWS 890 (by decide +kernel) (by decide +kernel), inWS 92 (by decide +kernel) (by decide +kernel), inWS 861 (by decide +kernel) (by decide +kernel), by decide +kernel⟩
theorem mv_X0_restFor : MLv yX0_restFor := ⟨inWS 859 (by decide +kernel) (by decide +kernel), inWS 860 (by decide +kernel) (by decide +kernel)⟩
theorem wf_X3_50 : Cond.fieldLink RX3 50 (TX3 7).1 (TX3 7).2.1 (TX3 7).2.2.1 ∈ WS := inWS 262 (by decide +kernel) (by decide +kernel)
theorem wf_X3_53 : Cond.fieldLink RX3 53 (TX3 8).1 (TX3 8).2.1 (TX3 8).2.2.1 ∈ WS := inWS 263 (by decide +kernel) (by decide +kernel)
theorem wf_X3_56 : Cond.fieldLink RX3 56 (TX0 11).1 (TX0 11).2.1 (TX0 11).2.2.1 ∈ WS := inWS 165 (by decide +kernel) (by decide +kernel)
theorem wf_X3_59 : Cond.fieldLink RX3 59 (TX3 9).1 (TX3 9).2.1 (TX3 9).2.2.1 ∈ WS := inWS 264 (by decide +kernel) (by decide +kernel)
theorem ml_X3_62 : MLn RX3 62 yX10_span M_X10_span := ⟨⟨"ClashDays", List.mem_of_getElem? (i := 11) rfl⟩, inWS 91 (by decide +kernel) (by decide +kernel), inWS 893 (by decide +kernel) (by decide +kernel), by decide +kernel⟩
theorem mt_X10_span : Cond.static yX10_span ∈ WS := inWS 892 (by decide +kernel) (by decide +kernel)
theorem wf_X3_66 : Cond.fieldLink RX3 66 (TX3 10).1 (TX3 10).2.1 (TX3 10).2.2.1 ∈ WS := inWS 265 (by decide +kernel) (by decide +kernel)
theorem wf_X3_69 : Cond.fieldLink RX3 69 (TX0 8).1 (TX0 8).2.1 (TX0 8).2.2.1 ∈ WS := inWS 153 (by decide +kernel) (by decide +kernel)
theorem ml_X3_72 : MLn RX3 72 yX10_hasBit M_X10_hasBit := ⟨⟨"ClashDays", List.mem_of_getElem? (i := 12) rfl⟩, inWS 91 (by decide +kernel) (by decide +kernel), inWS 648 (by decide +kernel) (by decide +kernel), by decide +kernel⟩
theorem wf_X3_9 : Cond.fieldLink RX3 9 (TX3 0).1 (TX3 0).2.1 (TX3 0).2.2.1 ∈ WS := inWS 255 (by decide +kernel) (by decide +kernel)
theorem wf_X3_15 : Cond.fieldLink RX3 15 (TX3 1).1 (TX3 1).2.1 (TX3 1).2.2.1 ∈ WS := inWS 256 (by decide +kernel) (by decide +kernel)
theorem wf_X3_76 : Cond.fieldLink RX3 76 (TX0 1).1 (TX0 1).2.1 (TX0 1).2.2.1 ∈ WS := inWS 131 (by decide +kernel) (by decide +kernel)
theorem wf_X3_18 : Cond.fieldLink RX3 18 (TX3 2).1 (TX3 2).2.1 (TX3 2).2.2.1 ∈ WS := inWS 257 (by decide +kernel) (by decide +kernel)
theorem ml_X3_79 : ML RX3 79 yX0_timeFor M_X0_timeFor := ⟨inWS 896 (by decide +kernel) (by decide +kernel), inWS 92 (by decide +kernel) (by decide +kernel), inWS 878 (by decide +kernel) (by decide +kernel), by decide +kernel⟩
theorem mv_X0_timeFor : MLv yX0_timeFor := ⟨inWS 876 (by decide +kernel) (by decide +kernel), inWS 877 (by decide +kernel) (by decide +kernel)⟩
theorem wa_X3_100 : Cond.methodLink RX3 100 Lib.Math.max.name ∈ WS := inWS 905 (by decide +kernel) (by decide +kernel)
theorem wm_max : Cond.static Lib.Math.max.name ∈ WS ∧ Cond.initialized "java/lang/Math" ∈ WS ∧ Cond.code Lib.Math.max.name Lib.Math.max.code 2 (some .int) ∈ WS := ⟨inWS 906 (by decide +kernel) (by decide +kernel), inWS 109 (by decide +kernel) (by decide +kernel), inWS 907 (by decide +kernel) (by decide +kernel)⟩
theorem wf_X3_27 : Cond.fieldLink RX3 27 (TX3 5).1 (TX3 5).2.1 (TX3 5).2.2.1 ∈ WS := inWS 260 (by decide +kernel) (by decide +kernel)
theorem wc_X3_105 : Cond.constantLong "ClashDays$Orders" 105 (-1 : Int64) ∈ WS := inWS 908 (by decide +kernel) (by decide +kernel)
theorem wf_X3_40 : Cond.fieldLink RX3 40 (TX3 11).1 (TX3 11).2.1 (TX3 11).2.2.1 ∈ WS := inWS 266 (by decide +kernel) (by decide +kernel)
theorem wc_J13_314 : Cond.constantLong "java/lang/Long" 314 (6148914691236517205 : Int64) ∈ WS := inWS 916 (by decide +kernel) (by decide +kernel)
theorem wc_J13_316 : Cond.constantLong "java/lang/Long" 316 (3689348814741910323 : Int64) ∈ WS := inWS 917 (by decide +kernel) (by decide +kernel)
theorem wc_J13_318 : Cond.constantLong "java/lang/Long" 318 (1085102592571150095 : Int64) ∈ WS := inWS 918 (by decide +kernel) (by decide +kernel)
theorem ml_X3_107 : ML RX3 107 yJ13_bitCount_95d88 M_J13_bitCount_95d88 := ⟨inWS 913 (by decide +kernel) (by decide +kernel), inWS 110 (by decide +kernel) (by decide +kernel), inWS 915 (by decide +kernel) (by decide +kernel), by decide +kernel⟩
theorem mt_J13_bitCount_95d88 : Cond.static yJ13_bitCount_95d88 ∈ WS := inWS 914 (by decide +kernel) (by decide +kernel)
theorem wf_X3_21 : Cond.fieldLink RX3 21 (TX3 3).1 (TX3 3).2.1 (TX3 3).2.2.1 ∈ WS := inWS 258 (by decide +kernel) (by decide +kernel)
theorem ml_X3_113 : ML RX3 113 yX3_join M_X3_join := ⟨inWS 919 (by decide +kernel) (by decide +kernel), inWS 96 (by decide +kernel) (by decide +kernel), inWS 921 (by decide +kernel) (by decide +kernel), by decide +kernel⟩
theorem mt_X3_join : Cond.static yX3_join ∈ WS := inWS 920 (by decide +kernel) (by decide +kernel)
theorem ml_X3_117 : ML RX3 117 yX3_swap M_X3_swap := ⟨inWS 927 (by decide +kernel) (by decide +kernel), inWS 96 (by decide +kernel) (by decide +kernel), inWS 930 (by decide +kernel) (by decide +kernel), by decide +kernel⟩
theorem mv_X3_swap : MLv yX3_swap := ⟨inWS 929 (by decide +kernel) (by decide +kernel), inWS 18 (by decide +kernel) (by decide +kernel)⟩
theorem wf_X3_34 : Cond.fieldLink RX3 34 (TX3 12).1 (TX3 12).2.1 (TX3 12).2.2.1 ∈ WS := inWS 267 (by decide +kernel) (by decide +kernel)
theorem wf_X3_37 : Cond.fieldLink RX3 37 (TX3 13).1 (TX3 13).2.1 (TX3 13).2.2.1 ∈ WS := inWS 268 (by decide +kernel) (by decide +kernel)
theorem ml_X3_83 : ML RX3 83 yX3_walk M_X3_walk := ⟨inWS 901 (by decide +kernel) (by decide +kernel), inWS 96 (by decide +kernel) (by decide +kernel), inWS 904 (by decide +kernel) (by decide +kernel), by decide +kernel⟩
theorem mv_X3_walk : MLv yX3_walk := ⟨inWS 903 (by decide +kernel) (by decide +kernel), inWS 15 (by decide +kernel) (by decide +kernel)⟩
theorem ml_X3_87 : ML RX3 87 yX3_measured M_X3_measured := ⟨inWS 909 (by decide +kernel) (by decide +kernel), inWS 96 (by decide +kernel) (by decide +kernel), inWS 912 (by decide +kernel) (by decide +kernel), by decide +kernel⟩
theorem mv_X3_measured : MLv yX3_measured := ⟨inWS 911 (by decide +kernel) (by decide +kernel), inWS 16 (by decide +kernel) (by decide +kernel)⟩
theorem ml_X3_96 : ML RX3 96 yX3_nextRow M_X3_nextRow := ⟨inWS 923 (by decide +kernel) (by decide +kernel), inWS 96 (by decide +kernel) (by decide +kernel), inWS 926 (by decide +kernel) (by decide +kernel), by decide +kernel⟩
theorem mv_X3_nextRow : MLv yX3_nextRow := ⟨inWS 925 (by decide +kernel) (by decide +kernel), inWS 17 (by decide +kernel) (by decide +kernel)⟩
theorem wf_X3_24 : Cond.fieldLink RX3 24 (TX3 4).1 (TX3 4).2.1 (TX3 4).2.2.1 ∈ WS := inWS 259 (by decide +kernel) (by decide +kernel)
theorem wa_X3_90 : Cond.methodLink RX3 90 arraycopyName ∈ WS := inWS 922 (by decide +kernel) (by decide +kernel)
theorem ml_X8_47 : ML RX8 47 yX3_count M_X3_count := ⟨inWS 935 (by decide +kernel) (by decide +kernel), inWS 96 (by decide +kernel) (by decide +kernel), inWS 938 (by decide +kernel) (by decide +kernel), by decide +kernel⟩
theorem mv_X3_count : MLv yX3_count := ⟨inWS 936 (by decide +kernel) (by decide +kernel), inWS 937 (by decide +kernel) (by decide +kernel)⟩
theorem ml_X8_52 : ML RX8 52 yX3_keptSlots M_X3_keptSlots := ⟨inWS 939 (by decide +kernel) (by decide +kernel), inWS 96 (by decide +kernel) (by decide +kernel), inWS 942 (by decide +kernel) (by decide +kernel), by decide +kernel⟩
theorem mv_X3_keptSlots : MLv yX3_keptSlots := ⟨inWS 940 (by decide +kernel) (by decide +kernel), inWS 941 (by decide +kernel) (by decide +kernel)⟩
theorem wf_X8_32 : Cond.fieldLink RX8 32 (TX8 6).1 (TX8 6).2.1 (TX8 6).2.2.1 ∈ WS := inWS 333 (by decide +kernel) (by decide +kernel)
theorem ml_X8_56 : ML RX8 56 yX3_paperAt M_X3_paperAt := ⟨inWS 943 (by decide +kernel) (by decide +kernel), inWS 96 (by decide +kernel) (by decide +kernel), inWS 946 (by decide +kernel) (by decide +kernel), by decide +kernel⟩
theorem mv_X3_paperAt : MLv yX3_paperAt := ⟨inWS 944 (by decide +kernel) (by decide +kernel), inWS 945 (by decide +kernel) (by decide +kernel)⟩
theorem wf_X8_35 : Cond.fieldLink RX8 35 (TX8 7).1 (TX8 7).2.1 (TX8 7).2.2.1 ∈ WS := inWS 335 (by decide +kernel) (by decide +kernel)
theorem ml_X8_60 : ML RX8 60 yX3_beginAt M_X3_beginAt := ⟨inWS 947 (by decide +kernel) (by decide +kernel), inWS 96 (by decide +kernel) (by decide +kernel), inWS 950 (by decide +kernel) (by decide +kernel), by decide +kernel⟩
theorem mv_X3_beginAt : MLv yX3_beginAt := ⟨inWS 948 (by decide +kernel) (by decide +kernel), inWS 949 (by decide +kernel) (by decide +kernel)⟩
theorem wf_X8_38 : Cond.fieldLink RX8 38 (TX8 8).1 (TX8 8).2.1 (TX8 8).2.2.1 ∈ WS := inWS 337 (by decide +kernel) (by decide +kernel)
theorem ml_X8_63 : ML RX8 63 yX3_endAt M_X3_endAt := ⟨inWS 951 (by decide +kernel) (by decide +kernel), inWS 96 (by decide +kernel) (by decide +kernel), inWS 954 (by decide +kernel) (by decide +kernel), by decide +kernel⟩
theorem mv_X3_endAt : MLv yX3_endAt := ⟨inWS 952 (by decide +kernel) (by decide +kernel), inWS 953 (by decide +kernel) (by decide +kernel)⟩
theorem ml_X4_28 : ML RX4 28 yX8_cameTo M_X8_cameTo := ⟨inWS 871 (by decide +kernel) (by decide +kernel), inWS 98 (by decide +kernel) (by decide +kernel), inWS 874 (by decide +kernel) (by decide +kernel), by decide +kernel⟩
theorem mv_X8_cameTo : MLv yX8_cameTo := ⟨inWS 872 (by decide +kernel) (by decide +kernel), inWS 873 (by decide +kernel) (by decide +kernel)⟩
theorem ml_X4_32 : ML RX4 32 yX0_timeFor M_X0_timeFor := ⟨inWS 875 (by decide +kernel) (by decide +kernel), inWS 92 (by decide +kernel) (by decide +kernel), inWS 878 (by decide +kernel) (by decide +kernel), by decide +kernel⟩
theorem ml_X4_38 : ML RX4 38 yX0_restFor M_X0_restFor := ⟨inWS 880 (by decide +kernel) (by decide +kernel), inWS 92 (by decide +kernel) (by decide +kernel), inWS 861 (by decide +kernel) (by decide +kernel), by decide +kernel⟩
theorem ml_X4_41 : ML RX4 41 yX8_open M_X8_open := ⟨inWS 881 (by decide +kernel) (by decide +kernel), inWS 98 (by decide +kernel) (by decide +kernel), inWS 884 (by decide +kernel) (by decide +kernel), by decide +kernel⟩
theorem mv_X8_open : MLv yX8_open := ⟨inWS 882 (by decide +kernel) (by decide +kernel), inWS 883 (by decide +kernel) (by decide +kernel)⟩
theorem wf_X4_45 : Cond.fieldLink RX4 45 (TX0 6).1 (TX0 6).2.1 (TX0 6).2.2.1 ∈ WS := inWS 144 (by decide +kernel) (by decide +kernel)
theorem ml_X4_48 : ML RX4 48 yX0_papersOf M_X0_papersOf := ⟨inWS 885 (by decide +kernel) (by decide +kernel), inWS 92 (by decide +kernel) (by decide +kernel), inWS 657 (by decide +kernel) (by decide +kernel), by decide +kernel⟩
theorem wf_X4_12 : Cond.fieldLink RX4 12 (TX4 0).1 (TX4 0).2.1 (TX4 0).2.2.1 ∈ WS := inWS 298 (by decide +kernel) (by decide +kernel)
theorem ml_X4_51 : ML RX4 51 yX3_gather M_X3_gather := ⟨inWS 886 (by decide +kernel) (by decide +kernel), inWS 96 (by decide +kernel) (by decide +kernel), inWS 889 (by decide +kernel) (by decide +kernel), by decide +kernel⟩
theorem mv_X3_gather : MLv yX3_gather := ⟨inWS 887 (by decide +kernel) (by decide +kernel), inWS 888 (by decide +kernel) (by decide +kernel)⟩
theorem ml_X4_55 : ML RX4 55 yX3_search M_X3_search := ⟨inWS 897 (by decide +kernel) (by decide +kernel), inWS 96 (by decide +kernel) (by decide +kernel), inWS 900 (by decide +kernel) (by decide +kernel), by decide +kernel⟩
theorem mv_X3_search : MLv yX3_search := ⟨inWS 898 (by decide +kernel) (by decide +kernel), inWS 899 (by decide +kernel) (by decide +kernel)⟩
theorem wf_X4_63 : Cond.fieldLink RX4 63 (TX0 5).1 (TX0 5).2.1 (TX0 5).2.2.1 ∈ WS := inWS 140 (by decide +kernel) (by decide +kernel)
theorem ml_X4_59 : ML RX4 59 yX8_put M_X8_put := ⟨inWS 931 (by decide +kernel) (by decide +kernel), inWS 98 (by decide +kernel) (by decide +kernel), inWS 934 (by decide +kernel) (by decide +kernel), by decide +kernel⟩
theorem mv_X8_put : MLv yX8_put := ⟨inWS 932 (by decide +kernel) (by decide +kernel), inWS 933 (by decide +kernel) (by decide +kernel)⟩
theorem wf_X4_66 : Cond.fieldLink RX4 66 (TX0 8).1 (TX0 8).2.1 (TX0 8).2.2.1 ∈ WS := inWS 150 (by decide +kernel) (by decide +kernel)
theorem ml_X4_70 : MLn RX4 70 yX10_hasBit M_X10_hasBit := ⟨⟨"ClashDays", List.mem_of_getElem? (i := 13) rfl⟩, inWS 91 (by decide +kernel) (by decide +kernel), inWS 648 (by decide +kernel) (by decide +kernel), by decide +kernel⟩
theorem wf_X4_74 : Cond.fieldLink RX4 74 (TX0 11).1 (TX0 11).2.1 (TX0 11).2.2.1 ∈ WS := inWS 164 (by decide +kernel) (by decide +kernel)
theorem wa_X4_77 : Cond.methodLink RX4 77 Lib.Math.min.name ∈ WS := inWS 956 (by decide +kernel) (by decide +kernel)
theorem wm_min : Cond.static Lib.Math.min.name ∈ WS ∧ Cond.initialized "java/lang/Math" ∈ WS ∧ Cond.code Lib.Math.min.name Lib.Math.min.code 2 (some .int) ∈ WS := ⟨inWS 957 (by decide +kernel) (by decide +kernel), inWS 109 (by decide +kernel) (by decide +kernel), inWS 958 (by decide +kernel) (by decide +kernel)⟩
theorem wf_X4_82 : Cond.fieldLink RX4 82 (TX0 1).1 (TX0 1).2.1 (TX0 1).2.2.1 ∈ WS := inWS 129 (by decide +kernel) (by decide +kernel)
theorem ml_X4_85 : MLn RX4 85 yX10_span M_X10_span := ⟨⟨"ClashDays", List.mem_of_getElem? (i := 14) rfl⟩, inWS 91 (by decide +kernel) (by decide +kernel), inWS 893 (by decide +kernel) (by decide +kernel), by decide +kernel⟩
theorem wf_X4_89 : Cond.fieldLink RX4 89 (TX8 0).1 (TX8 0).2.1 (TX8 0).2.2.1 ∈ WS := inWS 318 (by decide +kernel) (by decide +kernel)
theorem ml_X4_93 : ML RX4 93 yX3_least M_X3_least := ⟨inWS 960 (by decide +kernel) (by decide +kernel), inWS 96 (by decide +kernel) (by decide +kernel), inWS 963 (by decide +kernel) (by decide +kernel), by decide +kernel⟩
theorem mv_X3_least : MLv yX3_least := ⟨inWS 961 (by decide +kernel) (by decide +kernel), inWS 962 (by decide +kernel) (by decide +kernel)⟩
theorem wf_X9_20 : Cond.fieldLink RX9 20 (TX9 1).1 (TX9 1).2.1 (TX9 1).2.2.1 ∈ WS := inWS 360 (by decide +kernel) (by decide +kernel)
theorem wf_X9_24 : Cond.fieldLink RX9 24 (TX9 2).1 (TX9 2).2.1 (TX9 2).2.2.1 ∈ WS := inWS 361 (by decide +kernel) (by decide +kernel)
theorem wf_X9_12 : Cond.fieldLink RX9 12 (TX9 0).1 (TX9 0).2.1 (TX9 0).2.2.1 ∈ WS := inWS 359 (by decide +kernel) (by decide +kernel)
theorem ml_X9_33 : ML RX9 33 yX4_planDay M_X4_planDay := ⟨inWS 867 (by decide +kernel) (by decide +kernel), inWS 95 (by decide +kernel) (by decide +kernel), inWS 870 (by decide +kernel) (by decide +kernel), by decide +kernel⟩
theorem mv_X4_planDay : MLv yX4_planDay := ⟨inWS 868 (by decide +kernel) (by decide +kernel), inWS 869 (by decide +kernel) (by decide +kernel)⟩
theorem ml_X8_75 : MLn RX8 75 yX10_hasSlot M_X10_hasSlot := ⟨⟨"ClashDays", List.mem_of_getElem? (i := 15) rfl⟩, inWS 91 (by decide +kernel) (by decide +kernel), inWS 1014 (by decide +kernel) (by decide +kernel), by decide +kernel⟩
theorem mt_X10_hasSlot : Cond.static yX10_hasSlot ∈ WS := inWS 1013 (by decide +kernel) (by decide +kernel)
theorem wf_X1_27 : Cond.fieldLink RX1 27 (TX1 5).1 (TX1 5).2.1 (TX1 5).2.2.1 ∈ WS := inWS 385 (by decide +kernel) (by decide +kernel)
theorem ml_X1_77 : ML RX1 77 yX1_beginOf M_X1_beginOf := ⟨inWS 1073 (by decide +kernel) (by decide +kernel), inWS 99 (by decide +kernel) (by decide +kernel), inWS 1076 (by decide +kernel) (by decide +kernel), by decide +kernel⟩
theorem mv_X1_beginOf : MLv yX1_beginOf := ⟨inWS 1075 (by decide +kernel) (by decide +kernel), inWS 23 (by decide +kernel) (by decide +kernel)⟩
theorem ml_X1_81 : ML RX1 81 yX1_watcherAt M_X1_watcherAt := ⟨inWS 1077 (by decide +kernel) (by decide +kernel), inWS 99 (by decide +kernel) (by decide +kernel), inWS 1080 (by decide +kernel) (by decide +kernel), by decide +kernel⟩
theorem mv_X1_watcherAt : MLv yX1_watcherAt := ⟨inWS 1079 (by decide +kernel) (by decide +kernel), inWS 24 (by decide +kernel) (by decide +kernel)⟩
theorem wa_X1_84 : Cond.methodLink RX1 84 Lib.Math.max.name ∈ WS := inWS 1085 (by decide +kernel) (by decide +kernel)
theorem wf_X1_40 : Cond.fieldLink RX1 40 (TX1 9).1 (TX1 9).2.1 (TX1 9).2.2.1 ∈ WS := inWS 389 (by decide +kernel) (by decide +kernel)
theorem ml_X1_43 : ML RX1 43 yX9_edition M_X9_edition := ⟨inWS 1056 (by decide +kernel) (by decide +kernel), inWS 97 (by decide +kernel) (by decide +kernel), inWS 1059 (by decide +kernel) (by decide +kernel), by decide +kernel⟩
theorem mv_X9_edition : MLv yX9_edition := ⟨inWS 1057 (by decide +kernel) (by decide +kernel), inWS 1058 (by decide +kernel) (by decide +kernel)⟩
theorem wf_X1_67 : Cond.fieldLink RX1 67 (TX0 12).1 (TX0 12).2.1 (TX0 12).2.2.1 ∈ WS := inWS 169 (by decide +kernel) (by decide +kernel)
theorem ml_X1_70 : ML RX1 70 yX1_giveOut M_X1_giveOut := ⟨inWS 1069 (by decide +kernel) (by decide +kernel), inWS 99 (by decide +kernel) (by decide +kernel), inWS 1072 (by decide +kernel) (by decide +kernel), by decide +kernel⟩
theorem mv_X1_giveOut : MLv yX1_giveOut := ⟨inWS 1071 (by decide +kernel) (by decide +kernel), inWS 22 (by decide +kernel) (by decide +kernel)⟩
theorem ml_X1_74 : ML RX1 74 yX1_countAtOnce M_X1_countAtOnce := ⟨inWS 1081 (by decide +kernel) (by decide +kernel), inWS 99 (by decide +kernel) (by decide +kernel), inWS 1084 (by decide +kernel) (by decide +kernel), by decide +kernel⟩
theorem mv_X1_countAtOnce : MLv yX1_countAtOnce := ⟨inWS 1083 (by decide +kernel) (by decide +kernel), inWS 25 (by decide +kernel) (by decide +kernel)⟩
theorem wf_X1_48 : Cond.fieldLink RX1 48 (TX0 9).1 (TX0 9).2.1 (TX0 9).2.2.1 ∈ WS := inWS 155 (by decide +kernel) (by decide +kernel)
theorem ml_X1_53 : ML RX1 53 yX9_of M_X9_of := ⟨inWS 1060 (by decide +kernel) (by decide +kernel), inWS 97 (by decide +kernel) (by decide +kernel), inWS 866 (by decide +kernel) (by decide +kernel), by decide +kernel⟩
theorem mv_X9_of : MLv yX9_of := ⟨inWS 864 (by decide +kernel) (by decide +kernel), inWS 865 (by decide +kernel) (by decide +kernel)⟩
theorem ml_X1_57 : ML RX1 57 yX8_dutyFrom M_X8_dutyFrom := ⟨inWS 1061 (by decide +kernel) (by decide +kernel), inWS 98 (by decide +kernel) (by decide +kernel), inWS 1064 (by decide +kernel) (by decide +kernel), by decide +kernel⟩
theorem mv_X8_dutyFrom : MLv yX8_dutyFrom := ⟨inWS 1062 (by decide +kernel) (by decide +kernel), inWS 1063 (by decide +kernel) (by decide +kernel)⟩
theorem ml_X1_63 : ML RX1 63 yX1_add M_X1_add := ⟨inWS 1065 (by decide +kernel) (by decide +kernel), inWS 99 (by decide +kernel) (by decide +kernel), inWS 1068 (by decide +kernel) (by decide +kernel), by decide +kernel⟩
theorem mv_X1_add : MLv yX1_add := ⟨inWS 1067 (by decide +kernel) (by decide +kernel), inWS 21 (by decide +kernel) (by decide +kernel)⟩
theorem ml_X2_11 : ML RX2 11 yX2_above M_X2_above := ⟨inWS 585 (by decide +kernel) (by decide +kernel), inWS 103 (by decide +kernel) (by decide +kernel), inWS 587 (by decide +kernel) (by decide +kernel), by decide +kernel⟩
theorem mt_X2_above : Cond.static yX2_above ∈ WS := inWS 586 (by decide +kernel) (by decide +kernel)
theorem ml_X2_15 : ML RX2 15 yX2_timeOf M_X2_timeOf := ⟨inWS 591 (by decide +kernel) (by decide +kernel), inWS 103 (by decide +kernel) (by decide +kernel), inWS 593 (by decide +kernel) (by decide +kernel), by decide +kernel⟩
theorem ml_X2_19 : ML RX2 19 yX2_restOf M_X2_restOf := ⟨inWS 594 (by decide +kernel) (by decide +kernel), inWS 103 (by decide +kernel) (by decide +kernel), inWS 596 (by decide +kernel) (by decide +kernel), by decide +kernel⟩
theorem ml_X4_18 : ML RX4 18 yX4_planDay M_X4_planDay := ⟨inWS 1196 (by decide +kernel) (by decide +kernel), inWS 95 (by decide +kernel) (by decide +kernel), inWS 870 (by decide +kernel) (by decide +kernel), by decide +kernel⟩
theorem wf_X4_22 : Cond.fieldLink RX4 22 (TX8 1).1 (TX8 1).2.1 (TX8 1).2.2.1 ∈ WS := inWS 321 (by decide +kernel) (by decide +kernel)
theorem wf_X4_97 : Cond.fieldLink RX4 97 (TX8 2).1 (TX8 2).2.1 (TX8 2).2.2.1 ∈ WS := inWS 324 (by decide +kernel) (by decide +kernel)
theorem wf_X4_100 : Cond.fieldLink RX4 100 (TX8 3).1 (TX8 3).2.1 (TX8 3).2.2.1 ∈ WS := inWS 327 (by decide +kernel) (by decide +kernel)
theorem ml_X4_103 : ML RX4 103 yJ6_bitCount_0f7a4 M_J6_bitCount_0f7a4 := ⟨inWS 998 (by decide +kernel) (by decide +kernel), inWS 104 (by decide +kernel) (by decide +kernel), inWS 660 (by decide +kernel) (by decide +kernel), by decide +kernel⟩
theorem wf_X5_22 : Cond.fieldLink RX5 22 (TX5 3).1 (TX5 3).2.1 (TX5 3).2.2.1 ∈ WS := inWS 420 (by decide +kernel) (by decide +kernel)
theorem wf_X5_25 : Cond.fieldLink RX5 25 (TX5 4).1 (TX5 4).2.1 (TX5 4).2.2.1 ∈ WS := inWS 421 (by decide +kernel) (by decide +kernel)
theorem wf_X5_28 : Cond.fieldLink RX5 28 (TX5 5).1 (TX5 5).2.1 (TX5 5).2.2.1 ∈ WS := inWS 422 (by decide +kernel) (by decide +kernel)
theorem wf_X5_9 : Cond.fieldLink RX5 9 (TX5 0).1 (TX5 0).2.1 (TX5 0).2.2.1 ∈ WS := inWS 417 (by decide +kernel) (by decide +kernel)
theorem ml_X8_95 : MLn RX8 95 yX10_span M_X10_span := ⟨⟨"ClashDays", List.mem_of_getElem? (i := 16) rfl⟩, inWS 91 (by decide +kernel) (by decide +kernel), inWS 893 (by decide +kernel) (by decide +kernel), by decide +kernel⟩
theorem ml_X8_98 : ML RX8 98 yX8_dutyFrom M_X8_dutyFrom := ⟨inWS 1125 (by decide +kernel) (by decide +kernel), inWS 98 (by decide +kernel) (by decide +kernel), inWS 1064 (by decide +kernel) (by decide +kernel), by decide +kernel⟩
theorem ml_X8_91 : ML RX8 91 yX8_pieceFrom M_X8_pieceFrom := ⟨inWS 1120 (by decide +kernel) (by decide +kernel), inWS 98 (by decide +kernel) (by decide +kernel), inWS 1123 (by decide +kernel) (by decide +kernel), by decide +kernel⟩
theorem mv_X8_pieceFrom : MLv yX8_pieceFrom := ⟨inWS 1122 (by decide +kernel) (by decide +kernel), inWS 26 (by decide +kernel) (by decide +kernel)⟩
theorem wf_X5_31 : Cond.fieldLink RX5 31 (TX5 6).1 (TX5 6).2.1 (TX5 6).2.2.1 ∈ WS := inWS 423 (by decide +kernel) (by decide +kernel)
theorem ml_X5_84 : ML RX5 84 yX5_costWith M_X5_costWith := ⟨inWS 1142 (by decide +kernel) (by decide +kernel), inWS 100 (by decide +kernel) (by decide +kernel), inWS 1145 (by decide +kernel) (by decide +kernel), by decide +kernel⟩
theorem mv_X5_costWith : MLv yX5_costWith := ⟨inWS 1144 (by decide +kernel) (by decide +kernel), inWS 31 (by decide +kernel) (by decide +kernel)⟩
theorem wf_X5_15 : Cond.fieldLink RX5 15 (TX5 1).1 (TX5 1).2.1 (TX5 1).2.2.1 ∈ WS := inWS 418 (by decide +kernel) (by decide +kernel)
theorem wf_X5_19 : Cond.fieldLink RX5 19 (TX5 2).1 (TX5 2).2.1 (TX5 2).2.2.1 ∈ WS := inWS 419 (by decide +kernel) (by decide +kernel)
theorem ml_X5_72 : ML RX5 72 yX5_firstRoom M_X5_firstRoom := ⟨inWS 1138 (by decide +kernel) (by decide +kernel), inWS 100 (by decide +kernel) (by decide +kernel), inWS 1141 (by decide +kernel) (by decide +kernel), by decide +kernel⟩
theorem mv_X5_firstRoom : MLv yX5_firstRoom := ⟨inWS 1140 (by decide +kernel) (by decide +kernel), inWS 30 (by decide +kernel) (by decide +kernel)⟩
theorem ml_X5_80 : ML RX5 80 yX5_costFrom M_X5_costFrom := ⟨inWS 1134 (by decide +kernel) (by decide +kernel), inWS 100 (by decide +kernel) (by decide +kernel), inWS 1137 (by decide +kernel) (by decide +kernel), by decide +kernel⟩
theorem mv_X5_costFrom : MLv yX5_costFrom := ⟨inWS 1136 (by decide +kernel) (by decide +kernel), inWS 29 (by decide +kernel) (by decide +kernel)⟩
theorem ml_X5_87 : MLn RX5 87 yX10_hasSlot M_X10_hasSlot := ⟨⟨"ClashDays", List.mem_of_getElem? (i := 17) rfl⟩, inWS 91 (by decide +kernel) (by decide +kernel), inWS 1014 (by decide +kernel) (by decide +kernel), by decide +kernel⟩
theorem wf_X5_91 : Cond.fieldLink RX5 91 (TX0 7).1 (TX0 7).2.1 (TX0 7).2.2.1 ∈ WS := inWS 147 (by decide +kernel) (by decide +kernel)
theorem wf_X5_65 : Cond.fieldLink RX5 65 (TX0 10).1 (TX0 10).2.1 (TX0 10).2.2.1 ∈ WS := inWS 160 (by decide +kernel) (by decide +kernel)
theorem ml_X5_68 : ML RX5 68 yX5_countMoves M_X5_countMoves := ⟨inWS 1130 (by decide +kernel) (by decide +kernel), inWS 100 (by decide +kernel) (by decide +kernel), inWS 1133 (by decide +kernel) (by decide +kernel), by decide +kernel⟩
theorem mv_X5_countMoves : MLv yX5_countMoves := ⟨inWS 1132 (by decide +kernel) (by decide +kernel), inWS 28 (by decide +kernel) (by decide +kernel)⟩
theorem ml_X5_76 : ML RX5 76 yX5_fill M_X5_fill := ⟨inWS 1146 (by decide +kernel) (by decide +kernel), inWS 100 (by decide +kernel) (by decide +kernel), inWS 1149 (by decide +kernel) (by decide +kernel), by decide +kernel⟩
theorem mv_X5_fill : MLv yX5_fill := ⟨inWS 1148 (by decide +kernel) (by decide +kernel), inWS 32 (by decide +kernel) (by decide +kernel)⟩
theorem wf_X5_34 : Cond.fieldLink RX5 34 (TX5 8).1 (TX5 8).2.1 (TX5 8).2.2.1 ∈ WS := inWS 425 (by decide +kernel) (by decide +kernel)
theorem ml_X5_38 : ML RX5 38 yX9_edition M_X9_edition := ⟨inWS 1114 (by decide +kernel) (by decide +kernel), inWS 97 (by decide +kernel) (by decide +kernel), inWS 1059 (by decide +kernel) (by decide +kernel), by decide +kernel⟩
theorem wf_X5_43 : Cond.fieldLink RX5 43 (TX5 7).1 (TX5 7).2.1 (TX5 7).2.2.1 ∈ WS := inWS 424 (by decide +kernel) (by decide +kernel)
theorem wf_X5_46 : Cond.fieldLink RX5 46 (TX0 9).1 (TX0 9).2.1 (TX0 9).2.2.1 ∈ WS := inWS 156 (by decide +kernel) (by decide +kernel)
theorem ml_X5_51 : ML RX5 51 yX9_of M_X9_of := ⟨inWS 1115 (by decide +kernel) (by decide +kernel), inWS 97 (by decide +kernel) (by decide +kernel), inWS 866 (by decide +kernel) (by decide +kernel), by decide +kernel⟩
theorem ml_X5_55 : ML RX5 55 yX8_piecesOf M_X8_piecesOf := ⟨inWS 1116 (by decide +kernel) (by decide +kernel), inWS 98 (by decide +kernel) (by decide +kernel), inWS 1119 (by decide +kernel) (by decide +kernel), by decide +kernel⟩
theorem mv_X8_piecesOf : MLv yX8_piecesOf := ⟨inWS 1117 (by decide +kernel) (by decide +kernel), inWS 1118 (by decide +kernel) (by decide +kernel)⟩
theorem ml_X5_61 : ML RX5 61 yX5_seat M_X5_seat := ⟨inWS 1126 (by decide +kernel) (by decide +kernel), inWS 100 (by decide +kernel) (by decide +kernel), inWS 1129 (by decide +kernel) (by decide +kernel), by decide +kernel⟩
theorem mv_X5_seat : MLv yX5_seat := ⟨inWS 1128 (by decide +kernel) (by decide +kernel), inWS 27 (by decide +kernel) (by decide +kernel)⟩
theorem ml_X6_22 : ML RX6 22 yX6_isShelf M_X6_isShelf := ⟨inWS 518 (by decide +kernel) (by decide +kernel), inWS 94 (by decide +kernel) (by decide +kernel), inWS 494 (by decide +kernel) (by decide +kernel), by decide +kernel⟩
theorem mt_X6_isShelf : Cond.static yX6_isShelf ∈ WS := inWS 493 (by decide +kernel) (by decide +kernel)
theorem wf_X6_9 : Cond.fieldLink RX6 9 (TX6 0).1 (TX6 0).2.1 (TX6 0).2.2.1 ∈ WS := inWS 232 (by decide +kernel) (by decide +kernel)
theorem ml_X6_26 : ML RX6 26 yX6_holding M_X6_holding := ⟨inWS 514 (by decide +kernel) (by decide +kernel), inWS 94 (by decide +kernel) (by decide +kernel), inWS 517 (by decide +kernel) (by decide +kernel), by decide +kernel⟩
theorem mv_X6_holding : MLv yX6_holding := ⟨inWS 515 (by decide +kernel) (by decide +kernel), inWS 516 (by decide +kernel) (by decide +kernel)⟩
theorem wf_X6_15 : Cond.fieldLink RX6 15 (TX6 1).1 (TX6 1).2.1 (TX6 1).2.2.1 ∈ WS := inWS 233 (by decide +kernel) (by decide +kernel)
theorem wf_X6_18 : Cond.fieldLink RX6 18 (TX6 2).1 (TX6 2).2.1 (TX6 2).2.2.1 ∈ WS := inWS 234 (by decide +kernel) (by decide +kernel)
theorem ml_X6_30 : ML RX6 30 yX6_hasElement M_X6_hasElement := ⟨inWS 527 (by decide +kernel) (by decide +kernel), inWS 94 (by decide +kernel) (by decide +kernel), inWS 522 (by decide +kernel) (by decide +kernel), by decide +kernel⟩
theorem mv_X6_hasElement : MLv yX6_hasElement := ⟨inWS 520 (by decide +kernel) (by decide +kernel), inWS 521 (by decide +kernel) (by decide +kernel)⟩
theorem ml_X6_34 : ML RX6 34 yX6_lowest M_X6_lowest := ⟨inWS 528 (by decide +kernel) (by decide +kernel), inWS 94 (by decide +kernel) (by decide +kernel), inWS 530 (by decide +kernel) (by decide +kernel), by decide +kernel⟩
theorem mt_X6_lowest : Cond.static yX6_lowest ∈ WS := inWS 529 (by decide +kernel) (by decide +kernel)
theorem wa_X6_38 : Cond.methodLink RX6 38 arraycopyName ∈ WS := inWS 544 (by decide +kernel) (by decide +kernel)
theorem ml_X6_44 : ML RX6 44 yX6_candOn M_X6_candOn := ⟨inWS 1277 (by decide +kernel) (by decide +kernel), inWS 94 (by decide +kernel) (by decide +kernel), inWS 581 (by decide +kernel) (by decide +kernel), by decide +kernel⟩
theorem mv_X6_candOn : MLv yX6_candOn := ⟨inWS 579 (by decide +kernel) (by decide +kernel), inWS 580 (by decide +kernel) (by decide +kernel)⟩
theorem wf_X7_15 : Cond.fieldLink RX7 15 (TX7 1).1 (TX7 1).2.1 (TX7 1).2.2.1 ∈ WS := inWS 211 (by decide +kernel) (by decide +kernel)
theorem wf_X7_19 : Cond.fieldLink RX7 19 (TX7 4).1 (TX7 4).2.1 (TX7 4).2.2.1 ∈ WS := inWS 214 (by decide +kernel) (by decide +kernel)
theorem wf_X7_11 : Cond.fieldLink RX7 11 (TX7 0).1 (TX7 0).2.1 (TX7 0).2.2.1 ∈ WS := inWS 210 (by decide +kernel) (by decide +kernel)
theorem wf_X7_22 : Cond.fieldLink RX7 22 (TX7 2).1 (TX7 2).2.1 (TX7 2).2.2.1 ∈ WS := inWS 212 (by decide +kernel) (by decide +kernel)
theorem ml_X7_32 : ML RX7 32 yX7_byteAt M_X7_byteAt := ⟨inWS 733 (by decide +kernel) (by decide +kernel), inWS 93 (by decide +kernel) (by decide +kernel), inWS 736 (by decide +kernel) (by decide +kernel), by decide +kernel⟩
theorem mv_X7_byteAt : MLv yX7_byteAt := ⟨inWS 735 (by decide +kernel) (by decide +kernel), inWS 3 (by decide +kernel) (by decide +kernel)⟩
theorem wf_J0_38 : Cond.fieldLink "java/lang/String" 38 "java/lang/String" "COMPACT_STRINGS" "Z" ∈ WS := inWS 753 (by decide +kernel) (by decide +kernel)
theorem wf_J0_15 : Cond.fieldLink "java/lang/String" 15 "java/lang/String" "coder" "B" ∈ WS := inWS 1877 (by decide +kernel) (by decide +kernel)
theorem wf_J0_9 : Cond.fieldLink "java/lang/String" 9 "java/lang/String" "value" "[B" ∈ WS := inWS 1876 (by decide +kernel) (by decide +kernel)
theorem ml_J0_335 : ML RJ0 335 yJ0_coder_7d493 M_J0_coder_7d493 := ⟨inWS 749 (by decide +kernel) (by decide +kernel), inWS 105 (by decide +kernel) (by decide +kernel), inWS 752 (by decide +kernel) (by decide +kernel), by decide +kernel⟩
theorem mv_J0_coder_7d493 : MLv yJ0_coder_7d493 := ⟨inWS 750 (by decide +kernel) (by decide +kernel), inWS 751 (by decide +kernel) (by decide +kernel)⟩
theorem wf_J0_1053 : Cond.fieldLink "java/lang/String" 1053 "jdk/internal/util/Preconditions" "SIOOBE_FORMATTER" "Ljava/util/function/BiFunction;" ∈ WS := inWS 769 (by decide +kernel) (by decide +kernel)
theorem ml_J0_1059 : ML RJ0 1059 yJ3_checkIndex_8e157 M_J3_checkIndex_8e157 := ⟨inWS 771 (by decide +kernel) (by decide +kernel), inWS 107 (by decide +kernel) (by decide +kernel), inWS 773 (by decide +kernel) (by decide +kernel), by decide +kernel⟩
theorem mt_J3_checkIndex_8e157 : Cond.static yJ3_checkIndex_8e157 ∈ WS := inWS 772 (by decide +kernel) (by decide +kernel)
theorem ml_J1_9 : ML RJ1 9 yJ0_checkIndex_df160 M_J0_checkIndex_df160 := ⟨inWS 766 (by decide +kernel) (by decide +kernel), inWS 105 (by decide +kernel) (by decide +kernel), inWS 768 (by decide +kernel) (by decide +kernel), by decide +kernel⟩
theorem mt_J0_checkIndex_df160 : Cond.static yJ0_checkIndex_df160 ∈ WS := inWS 767 (by decide +kernel) (by decide +kernel)
theorem ml_J0_492 : ML RJ0 492 yJ0_isLatin1_aae02 M_J0_isLatin1_aae02 := ⟨inWS 759 (by decide +kernel) (by decide +kernel), inWS 105 (by decide +kernel) (by decide +kernel), inWS 762 (by decide +kernel) (by decide +kernel), by decide +kernel⟩
theorem mv_J0_isLatin1_aae02 : MLv yJ0_isLatin1_aae02 := ⟨inWS 760 (by decide +kernel) (by decide +kernel), inWS 761 (by decide +kernel) (by decide +kernel)⟩
theorem ml_J0_495 : ML RJ0 495 yJ1_charAt_3b067 M_J1_charAt_3b067 := ⟨inWS 763 (by decide +kernel) (by decide +kernel), inWS 106 (by decide +kernel) (by decide +kernel), inWS 765 (by decide +kernel) (by decide +kernel), by decide +kernel⟩
theorem mt_J1_charAt_3b067 : Cond.static yJ1_charAt_3b067 ∈ WS := inWS 764 (by decide +kernel) (by decide +kernel)
theorem wf_X7_36 : Cond.fieldLink RX7 36 (TX7 3).1 (TX7 3).2.1 (TX7 3).2.2.1 ∈ WS := inWS 213 (by decide +kernel) (by decide +kernel)
theorem ml_X7_139 : ML RX7 139 yJ0_length_8abf5 M_J0_length_8abf5 := ⟨inWS 745 (by decide +kernel) (by decide +kernel), inWS 105 (by decide +kernel) (by decide +kernel), inWS 748 (by decide +kernel) (by decide +kernel), by decide +kernel⟩
theorem mv_J0_length_8abf5 : MLv yJ0_length_8abf5 := ⟨inWS 746 (by decide +kernel) (by decide +kernel), inWS 747 (by decide +kernel) (by decide +kernel)⟩
theorem ml_X7_145 : ML RX7 145 yJ0_charAt_5068e M_J0_charAt_5068e := ⟨inWS 755 (by decide +kernel) (by decide +kernel), inWS 105 (by decide +kernel) (by decide +kernel), inWS 758 (by decide +kernel) (by decide +kernel), by decide +kernel⟩
theorem mv_J0_charAt_5068e : MLv yJ0_charAt_5068e := ⟨inWS 756 (by decide +kernel) (by decide +kernel), inWS 757 (by decide +kernel) (by decide +kernel)⟩
theorem ml_X7_29 : ML RX7 29 yX7_skipBlanks M_X7_skipBlanks := ⟨inWS 729 (by decide +kernel) (by decide +kernel), inWS 93 (by decide +kernel) (by decide +kernel), inWS 732 (by decide +kernel) (by decide +kernel), by decide +kernel⟩
theorem mv_X7_skipBlanks : MLv yX7_skipBlanks := ⟨inWS 731 (by decide +kernel) (by decide +kernel), inWS 2 (by decide +kernel) (by decide +kernel)⟩
theorem ml_X7_136 : ML RX7 136 yX7_isDigit M_X7_isDigit := ⟨inWS 805 (by decide +kernel) (by decide +kernel), inWS 93 (by decide +kernel) (by decide +kernel), inWS 807 (by decide +kernel) (by decide +kernel), by decide +kernel⟩
theorem mt_X7_isDigit : Cond.static yX7_isDigit ∈ WS := inWS 806 (by decide +kernel) (by decide +kernel)
theorem ml_X7_87 : ML RX7 87 yX7_faultHere M_X7_faultHere := ⟨inWS 797 (by decide +kernel) (by decide +kernel), inWS 93 (by decide +kernel) (by decide +kernel), inWS 800 (by decide +kernel) (by decide +kernel), by decide +kernel⟩
theorem mv_X7_faultHere : MLv yX7_faultHere := ⟨inWS 799 (by decide +kernel) (by decide +kernel), inWS 6 (by decide +kernel) (by decide +kernel)⟩
theorem wf_X7_91 : Cond.fieldLink RX7 91 (TX0 8).1 (TX0 8).2.1 (TX0 8).2.2.1 ∈ WS := inWS 151 (by decide +kernel) (by decide +kernel)
theorem ml_X7_96 : ML RX7 96 yX7_number M_X7_number := ⟨inWS 801 (by decide +kernel) (by decide +kernel), inWS 93 (by decide +kernel) (by decide +kernel), inWS 804 (by decide +kernel) (by decide +kernel), by decide +kernel⟩
theorem mv_X7_number : MLv yX7_number := ⟨inWS 803 (by decide +kernel) (by decide +kernel), inWS 7 (by decide +kernel) (by decide +kernel)⟩
theorem ml_X7_100 : ML RX7 100 yX0_addPaper M_X0_addPaper := ⟨inWS 808 (by decide +kernel) (by decide +kernel), inWS 92 (by decide +kernel) (by decide +kernel), inWS 610 (by decide +kernel) (by decide +kernel), by decide +kernel⟩
theorem mv_X0_addPaper : MLv yX0_addPaper := ⟨inWS 608 (by decide +kernel) (by decide +kernel), inWS 609 (by decide +kernel) (by decide +kernel)⟩
theorem wf_X7_104 : Cond.fieldLink RX7 104 (TX0 9).1 (TX0 9).2.1 (TX0 9).2.2.1 ∈ WS := inWS 157 (by decide +kernel) (by decide +kernel)
theorem ml_X7_109 : ML RX7 109 yX0_addCand M_X0_addCand := ⟨inWS 814 (by decide +kernel) (by decide +kernel), inWS 92 (by decide +kernel) (by decide +kernel), inWS 630 (by decide +kernel) (by decide +kernel), by decide +kernel⟩
theorem mv_X0_addCand : MLv yX0_addCand := ⟨inWS 628 (by decide +kernel) (by decide +kernel), inWS 629 (by decide +kernel) (by decide +kernel)⟩
theorem ml_X7_112 : ML RX7 112 yX0_doesTake M_X0_doesTake := ⟨inWS 820 (by decide +kernel) (by decide +kernel), inWS 92 (by decide +kernel) (by decide +kernel), inWS 645 (by decide +kernel) (by decide +kernel), by decide +kernel⟩
theorem ml_X7_116 : ML RX7 116 yX0_mayFlip M_X0_mayFlip := ⟨inWS 821 (by decide +kernel) (by decide +kernel), inWS 92 (by decide +kernel) (by decide +kernel), inWS 652 (by decide +kernel) (by decide +kernel), by decide +kernel⟩
theorem mv_X0_mayFlip : MLv yX0_mayFlip := ⟨inWS 650 (by decide +kernel) (by decide +kernel), inWS 651 (by decide +kernel) (by decide +kernel)⟩
theorem ml_X7_119 : ML RX7 119 yX0_flip M_X0_flip := ⟨inWS 822 (by decide +kernel) (by decide +kernel), inWS 92 (by decide +kernel) (by decide +kernel), inWS 667 (by decide +kernel) (by decide +kernel), by decide +kernel⟩
theorem mv_X0_flip : MLv yX0_flip := ⟨inWS 665 (by decide +kernel) (by decide +kernel), inWS 666 (by decide +kernel) (by decide +kernel)⟩
theorem wf_X7_123 : Cond.fieldLink RX7 123 (TX0 5).1 (TX0 5).2.1 (TX0 5).2.2.1 ∈ WS := inWS 141 (by decide +kernel) (by decide +kernel)
theorem wf_X7_126 : Cond.fieldLink RX7 126 (TX0 10).1 (TX0 10).2.1 (TX0 10).2.2.1 ∈ WS := inWS 161 (by decide +kernel) (by decide +kernel)
theorem ml_X7_129 : ML RX7 129 yX0_addRoom M_X0_addRoom := ⟨inWS 838 (by decide +kernel) (by decide +kernel), inWS 92 (by decide +kernel) (by decide +kernel), inWS 683 (by decide +kernel) (by decide +kernel), by decide +kernel⟩
theorem mv_X0_addRoom : MLv yX0_addRoom := ⟨inWS 681 (by decide +kernel) (by decide +kernel), inWS 682 (by decide +kernel) (by decide +kernel)⟩
theorem wf_X7_132 : Cond.fieldLink RX7 132 (TX0 11).1 (TX0 11).2.1 (TX0 11).2.2.1 ∈ WS := inWS 166 (by decide +kernel) (by decide +kernel)
theorem wf_X7_134 : Cond.fieldLink RX7 134 (TX0 12).1 (TX0 12).2.1 (TX0 12).2.2.1 ∈ WS := inWS 170 (by decide +kernel) (by decide +kernel)
theorem ml_X7_39 : ML RX7 39 yX7_isLetter M_X7_isLetter := ⟨inWS 737 (by decide +kernel) (by decide +kernel), inWS 93 (by decide +kernel) (by decide +kernel), inWS 739 (by decide +kernel) (by decide +kernel), by decide +kernel⟩
theorem mt_X7_isLetter : Cond.static yX7_isLetter ∈ WS := inWS 738 (by decide +kernel) (by decide +kernel)
theorem ml_X7_45 : ML RX7 45 yX7_isWord M_X7_isWord := ⟨inWS 741 (by decide +kernel) (by decide +kernel), inWS 93 (by decide +kernel) (by decide +kernel), inWS 744 (by decide +kernel) (by decide +kernel), by decide +kernel⟩
theorem mv_X7_isWord : MLv yX7_isWord := ⟨inWS 743 (by decide +kernel) (by decide +kernel), inWS 4 (by decide +kernel) (by decide +kernel)⟩
theorem ml_X7_84 : ML RX7 84 yX7_readTurn M_X7_readTurn := ⟨inWS 845 (by decide +kernel) (by decide +kernel), inWS 93 (by decide +kernel) (by decide +kernel), inWS 848 (by decide +kernel) (by decide +kernel), by decide +kernel⟩
theorem mv_X7_readTurn : MLv yX7_readTurn := ⟨inWS 847 (by decide +kernel) (by decide +kernel), inWS 14 (by decide +kernel) (by decide +kernel)⟩
theorem ml_X7_79 : ML RX7 79 yX7_readHours M_X7_readHours := ⟨inWS 840 (by decide +kernel) (by decide +kernel), inWS 93 (by decide +kernel) (by decide +kernel), inWS 843 (by decide +kernel) (by decide +kernel), by decide +kernel⟩
theorem mv_X7_readHours : MLv yX7_readHours := ⟨inWS 842 (by decide +kernel) (by decide +kernel), inWS 13 (by decide +kernel) (by decide +kernel)⟩
theorem ml_X7_74 : ML RX7 74 yX7_readRoom M_X7_readRoom := ⟨inWS 834 (by decide +kernel) (by decide +kernel), inWS 93 (by decide +kernel) (by decide +kernel), inWS 837 (by decide +kernel) (by decide +kernel), by decide +kernel⟩
theorem mv_X7_readRoom : MLv yX7_readRoom := ⟨inWS 836 (by decide +kernel) (by decide +kernel), inWS 12 (by decide +kernel) (by decide +kernel)⟩
theorem ml_X7_69 : ML RX7 69 yX7_readNight M_X7_readNight := ⟨inWS 829 (by decide +kernel) (by decide +kernel), inWS 93 (by decide +kernel) (by decide +kernel), inWS 832 (by decide +kernel) (by decide +kernel), by decide +kernel⟩
theorem mv_X7_readNight : MLv yX7_readNight := ⟨inWS 831 (by decide +kernel) (by decide +kernel), inWS 11 (by decide +kernel) (by decide +kernel)⟩
theorem ml_X7_64 : ML RX7 64 yX7_readDrops M_X7_readDrops := ⟨inWS 824 (by decide +kernel) (by decide +kernel), inWS 93 (by decide +kernel) (by decide +kernel), inWS 827 (by decide +kernel) (by decide +kernel), by decide +kernel⟩
theorem mv_X7_readDrops : MLv yX7_readDrops := ⟨inWS 826 (by decide +kernel) (by decide +kernel), inWS 10 (by decide +kernel) (by decide +kernel)⟩
theorem ml_X7_59 : ML RX7 59 yX7_readTakes M_X7_readTakes := ⟨inWS 816 (by decide +kernel) (by decide +kernel), inWS 93 (by decide +kernel) (by decide +kernel), inWS 819 (by decide +kernel) (by decide +kernel), by decide +kernel⟩
theorem mv_X7_readTakes : MLv yX7_readTakes := ⟨inWS 818 (by decide +kernel) (by decide +kernel), inWS 9 (by decide +kernel) (by decide +kernel)⟩
theorem ml_X7_54 : ML RX7 54 yX7_readCand M_X7_readCand := ⟨inWS 810 (by decide +kernel) (by decide +kernel), inWS 93 (by decide +kernel) (by decide +kernel), inWS 813 (by decide +kernel) (by decide +kernel), by decide +kernel⟩
theorem mv_X7_readCand : MLv yX7_readCand := ⟨inWS 812 (by decide +kernel) (by decide +kernel), inWS 8 (by decide +kernel) (by decide +kernel)⟩
theorem ml_X7_49 : ML RX7 49 yX7_readPaper M_X7_readPaper := ⟨inWS 793 (by decide +kernel) (by decide +kernel), inWS 93 (by decide +kernel) (by decide +kernel), inWS 796 (by decide +kernel) (by decide +kernel), by decide +kernel⟩
theorem mv_X7_readPaper : MLv yX7_readPaper := ⟨inWS 795 (by decide +kernel) (by decide +kernel), inWS 5 (by decide +kernel) (by decide +kernel)⟩
theorem ml_X7_25 : ML RX7 25 yX7_statement M_X7_statement := ⟨inWS 725 (by decide +kernel) (by decide +kernel), inWS 93 (by decide +kernel) (by decide +kernel), inWS 728 (by decide +kernel) (by decide +kernel), by decide +kernel⟩
theorem mv_X7_statement : MLv yX7_statement := ⟨inWS 727 (by decide +kernel) (by decide +kernel), inWS 1 (by decide +kernel) (by decide +kernel)⟩
theorem wa_X8_41 : Cond.methodLink RX8 41 arraycopyName ∈ WS := inWS 1191 (by decide +kernel) (by decide +kernel)
theorem ml_X8_66 : ML RX8 66 yJ13_bitCount_95d88 M_J13_bitCount_95d88 := ⟨inWS 1026 (by decide +kernel) (by decide +kernel), inWS 110 (by decide +kernel) (by decide +kernel), inWS 915 (by decide +kernel) (by decide +kernel), by decide +kernel⟩
theorem ml_X8_72 : ML RX8 72 yX8_cameTo M_X8_cameTo := ⟨inWS 1011 (by decide +kernel) (by decide +kernel), inWS 98 (by decide +kernel) (by decide +kernel), inWS 874 (by decide +kernel) (by decide +kernel), by decide +kernel⟩
theorem wf_X8_79 : Cond.fieldLink RX8 79 (TX0 1).1 (TX0 1).2.1 (TX0 1).2.2.1 ∈ WS := inWS 130 (by decide +kernel) (by decide +kernel)
theorem ml_X8_84 : ML RX8 84 yX3_join M_X3_join := ⟨inWS 1027 (by decide +kernel) (by decide +kernel), inWS 96 (by decide +kernel) (by decide +kernel), inWS 921 (by decide +kernel) (by decide +kernel), by decide +kernel⟩
theorem wf_X8_88 : Cond.fieldLink RX8 88 (TX0 0).1 (TX0 0).2.1 (TX0 0).2.2.1 ∈ WS := inWS 126 (by decide +kernel) (by decide +kernel)
theorem wf_X10_36 : Cond.fieldLink RX10 36 (TX10 6).1 (TX10 6).2.1 (TX10 6).2.2.1 ∈ WS := inWS 451 (by decide +kernel) (by decide +kernel)
theorem ml_X10_81 : ML RX10 81 yX6_isShelf M_X6_isShelf := ⟨inWS 492 (by decide +kernel) (by decide +kernel), inWS 94 (by decide +kernel) (by decide +kernel), inWS 494 (by decide +kernel) (by decide +kernel), by decide +kernel⟩
theorem ml_X10_85 : ML RX10 85 yX6_isSort M_X6_isSort := ⟨inWS 495 (by decide +kernel) (by decide +kernel), inWS 94 (by decide +kernel) (by decide +kernel), inWS 497 (by decide +kernel) (by decide +kernel), by decide +kernel⟩
theorem mt_X6_isSort : Cond.static yX6_isSort ∈ WS := inWS 496 (by decide +kernel) (by decide +kernel)
theorem wf_X10_32 : Cond.fieldLink RX10 32 (TX10 5).1 (TX10 5).2.1 (TX10 5).2.2.1 ∈ WS := inWS 450 (by decide +kernel) (by decide +kernel)
theorem ml_X10_92 : ML RX10 92 yX6_putRow M_X6_putRow := ⟨inWS 502 (by decide +kernel) (by decide +kernel), inWS 94 (by decide +kernel) (by decide +kernel), inWS 505 (by decide +kernel) (by decide +kernel), by decide +kernel⟩
theorem mv_X6_putRow : MLv yX6_putRow := ⟨inWS 503 (by decide +kernel) (by decide +kernel), inWS 504 (by decide +kernel) (by decide +kernel)⟩
theorem ml_X10_88 : ML RX10 88 yX10_refuse M_X10_refuse := ⟨inWS 498 (by decide +kernel) (by decide +kernel), inWS 91 (by decide +kernel) (by decide +kernel), inWS 501 (by decide +kernel) (by decide +kernel), by decide +kernel⟩
theorem mv_X10_refuse : MLv yX10_refuse := ⟨inWS 500 (by decide +kernel) (by decide +kernel), inWS 0 (by decide +kernel) (by decide +kernel)⟩
theorem ml_X10_96 : ML RX10 96 yX6_rowTrouble M_X6_rowTrouble := ⟨inWS 510 (by decide +kernel) (by decide +kernel), inWS 94 (by decide +kernel) (by decide +kernel), inWS 513 (by decide +kernel) (by decide +kernel), by decide +kernel⟩
theorem mv_X6_rowTrouble : MLv yX6_rowTrouble := ⟨inWS 511 (by decide +kernel) (by decide +kernel), inWS 512 (by decide +kernel) (by decide +kernel)⟩
theorem ml_X10_99 : ML RX10 99 yX6_hasElement M_X6_hasElement := ⟨inWS 519 (by decide +kernel) (by decide +kernel), inWS 94 (by decide +kernel) (by decide +kernel), inWS 522 (by decide +kernel) (by decide +kernel), by decide +kernel⟩
theorem ml_X10_103 : ML RX10 103 yX6_putElement M_X6_putElement := ⟨inWS 523 (by decide +kernel) (by decide +kernel), inWS 94 (by decide +kernel) (by decide +kernel), inWS 526 (by decide +kernel) (by decide +kernel), by decide +kernel⟩
theorem mv_X6_putElement : MLv yX6_putElement := ⟨inWS 524 (by decide +kernel) (by decide +kernel), inWS 525 (by decide +kernel) (by decide +kernel)⟩
theorem ml_X10_107 : ML RX10 107 yX6_holding M_X6_holding := ⟨inWS 535 (by decide +kernel) (by decide +kernel), inWS 94 (by decide +kernel) (by decide +kernel), inWS 517 (by decide +kernel) (by decide +kernel), by decide +kernel⟩
theorem ml_X10_110 : ML RX10 110 yX6_hasElements M_X6_hasElements := ⟨inWS 536 (by decide +kernel) (by decide +kernel), inWS 94 (by decide +kernel) (by decide +kernel), inWS 539 (by decide +kernel) (by decide +kernel), by decide +kernel⟩
theorem mv_X6_hasElements : MLv yX6_hasElements := ⟨inWS 537 (by decide +kernel) (by decide +kernel), inWS 538 (by decide +kernel) (by decide +kernel)⟩
theorem ml_X10_114 : ML RX10 114 yX6_carry M_X6_carry := ⟨inWS 540 (by decide +kernel) (by decide +kernel), inWS 94 (by decide +kernel) (by decide +kernel), inWS 543 (by decide +kernel) (by decide +kernel), by decide +kernel⟩
theorem mv_X6_carry : MLv yX6_carry := ⟨inWS 541 (by decide +kernel) (by decide +kernel), inWS 542 (by decide +kernel) (by decide +kernel)⟩
theorem ml_X10_118 : ML RX10 118 yX6_elementAt M_X6_elementAt := ⟨inWS 551 (by decide +kernel) (by decide +kernel), inWS 94 (by decide +kernel) (by decide +kernel), inWS 554 (by decide +kernel) (by decide +kernel), by decide +kernel⟩
theorem mv_X6_elementAt : MLv yX6_elementAt := ⟨inWS 552 (by decide +kernel) (by decide +kernel), inWS 553 (by decide +kernel) (by decide +kernel)⟩
theorem wf_X10_12 : Cond.fieldLink RX10 12 (TX10 0).1 (TX10 0).2.1 (TX10 0).2.2.1 ∈ WS := inWS 445 (by decide +kernel) (by decide +kernel)
theorem ml_X10_122 : ML RX10 122 yX0_hasCand M_X0_hasCand := ⟨inWS 563 (by decide +kernel) (by decide +kernel), inWS 92 (by decide +kernel) (by decide +kernel), inWS 566 (by decide +kernel) (by decide +kernel), by decide +kernel⟩
theorem mv_X0_hasCand : MLv yX0_hasCand := ⟨inWS 564 (by decide +kernel) (by decide +kernel), inWS 565 (by decide +kernel) (by decide +kernel)⟩
theorem ml_X10_125 : ML RX10 125 yX6_putCand M_X6_putCand := ⟨inWS 567 (by decide +kernel) (by decide +kernel), inWS 94 (by decide +kernel) (by decide +kernel), inWS 570 (by decide +kernel) (by decide +kernel), by decide +kernel⟩
theorem mv_X6_putCand : MLv yX6_putCand := ⟨inWS 568 (by decide +kernel) (by decide +kernel), inWS 569 (by decide +kernel) (by decide +kernel)⟩
theorem ml_X10_129 : ML RX10 129 yX2_isKind M_X2_isKind := ⟨inWS 575 (by decide +kernel) (by decide +kernel), inWS 103 (by decide +kernel) (by decide +kernel), inWS 577 (by decide +kernel) (by decide +kernel), by decide +kernel⟩
theorem mt_X2_isKind : Cond.static yX2_isKind ∈ WS := inWS 576 (by decide +kernel) (by decide +kernel)
theorem ml_X10_134 : ML RX10 134 yX6_candOn M_X6_candOn := ⟨inWS 578 (by decide +kernel) (by decide +kernel), inWS 94 (by decide +kernel) (by decide +kernel), inWS 581 (by decide +kernel) (by decide +kernel), by decide +kernel⟩
theorem wf_X10_137 : Cond.fieldLink RX10 137 (TX0 3).1 (TX0 3).2.1 (TX0 3).2.2.1 ∈ WS := inWS 136 (by decide +kernel) (by decide +kernel)
theorem ml_X10_140 : ML RX10 140 yX2_isUnder M_X2_isUnder := ⟨inWS 582 (by decide +kernel) (by decide +kernel), inWS 103 (by decide +kernel) (by decide +kernel), inWS 584 (by decide +kernel) (by decide +kernel), by decide +kernel⟩
theorem mt_X2_isUnder : Cond.static yX2_isUnder ∈ WS := inWS 583 (by decide +kernel) (by decide +kernel)
theorem wf_X10_143 : Cond.fieldLink RX10 143 (TX0 4).1 (TX0 4).2.1 (TX0 4).2.2.1 ∈ WS := inWS 138 (by decide +kernel) (by decide +kernel)
theorem ml_X10_146 : ML RX10 146 yX2_word M_X2_word := ⟨inWS 588 (by decide +kernel) (by decide +kernel), inWS 103 (by decide +kernel) (by decide +kernel), inWS 590 (by decide +kernel) (by decide +kernel), by decide +kernel⟩
theorem mt_X2_word : Cond.static yX2_word ∈ WS := inWS 589 (by decide +kernel) (by decide +kernel)
theorem ml_X10_150 : ML RX10 150 yX10_isDay M_X10_isDay := ⟨inWS 601 (by decide +kernel) (by decide +kernel), inWS 91 (by decide +kernel) (by decide +kernel), inWS 603 (by decide +kernel) (by decide +kernel), by decide +kernel⟩
theorem mt_X10_isDay : Cond.static yX10_isDay ∈ WS := inWS 602 (by decide +kernel) (by decide +kernel)
theorem ml_X10_153 : ML RX10 153 yX10_isSlot M_X10_isSlot := ⟨inWS 604 (by decide +kernel) (by decide +kernel), inWS 91 (by decide +kernel) (by decide +kernel), inWS 606 (by decide +kernel) (by decide +kernel), by decide +kernel⟩
theorem mt_X10_isSlot : Cond.static yX10_isSlot ∈ WS := inWS 605 (by decide +kernel) (by decide +kernel)
theorem wf_X10_156 : Cond.fieldLink RX10 156 (TX0 8).1 (TX0 8).2.1 (TX0 8).2.2.1 ∈ WS := inWS 152 (by decide +kernel) (by decide +kernel)
theorem ml_X10_160 : ML RX10 160 yX0_addPaper M_X0_addPaper := ⟨inWS 607 (by decide +kernel) (by decide +kernel), inWS 92 (by decide +kernel) (by decide +kernel), inWS 610 (by decide +kernel) (by decide +kernel), by decide +kernel⟩
theorem ml_X10_164 : ML RX10 164 yX0_hasPaper M_X0_hasPaper := ⟨inWS 615 (by decide +kernel) (by decide +kernel), inWS 92 (by decide +kernel) (by decide +kernel), inWS 618 (by decide +kernel) (by decide +kernel), by decide +kernel⟩
theorem mv_X0_hasPaper : MLv yX0_hasPaper := ⟨inWS 616 (by decide +kernel) (by decide +kernel), inWS 617 (by decide +kernel) (by decide +kernel)⟩
theorem wf_X10_168 : Cond.fieldLink RX10 168 (TX0 1).1 (TX0 1).2.1 (TX0 1).2.2.1 ∈ WS := inWS 132 (by decide +kernel) (by decide +kernel)
theorem wf_X10_50 : Cond.fieldLink RX10 50 (TX10 8).1 (TX10 8).2.1 (TX10 8).2.2.1 ∈ WS := inWS 453 (by decide +kernel) (by decide +kernel)
theorem ml_X10_171 : ML RX10 171 yX9_forgetAll M_X9_forgetAll := ⟨inWS 619 (by decide +kernel) (by decide +kernel), inWS 97 (by decide +kernel) (by decide +kernel), inWS 622 (by decide +kernel) (by decide +kernel), by decide +kernel⟩
theorem mv_X9_forgetAll : MLv yX9_forgetAll := ⟨inWS 620 (by decide +kernel) (by decide +kernel), inWS 621 (by decide +kernel) (by decide +kernel)⟩
theorem wf_X10_174 : Cond.fieldLink RX10 174 (TX0 9).1 (TX0 9).2.1 (TX0 9).2.2.1 ∈ WS := inWS 158 (by decide +kernel) (by decide +kernel)
theorem ml_X10_177 : ML RX10 177 yX0_addCand M_X0_addCand := ⟨inWS 627 (by decide +kernel) (by decide +kernel), inWS 92 (by decide +kernel) (by decide +kernel), inWS 630 (by decide +kernel) (by decide +kernel), by decide +kernel⟩
theorem ml_X10_181 : ML RX10 181 yX9_forget M_X9_forget := ⟨inWS 631 (by decide +kernel) (by decide +kernel), inWS 97 (by decide +kernel) (by decide +kernel), inWS 634 (by decide +kernel) (by decide +kernel), by decide +kernel⟩
theorem mv_X9_forget : MLv yX9_forget := ⟨inWS 632 (by decide +kernel) (by decide +kernel), inWS 633 (by decide +kernel) (by decide +kernel)⟩
theorem ml_X10_185 : ML RX10 185 yX10_isYesOrNo M_X10_isYesOrNo := ⟨inWS 639 (by decide +kernel) (by decide +kernel), inWS 91 (by decide +kernel) (by decide +kernel), inWS 641 (by decide +kernel) (by decide +kernel), by decide +kernel⟩
theorem mt_X10_isYesOrNo : Cond.static yX10_isYesOrNo ∈ WS := inWS 640 (by decide +kernel) (by decide +kernel)
theorem ml_X10_188 : ML RX10 188 yX0_doesTake M_X0_doesTake := ⟨inWS 642 (by decide +kernel) (by decide +kernel), inWS 92 (by decide +kernel) (by decide +kernel), inWS 645 (by decide +kernel) (by decide +kernel), by decide +kernel⟩
theorem ml_X10_191 : ML RX10 191 yX0_mayFlip M_X0_mayFlip := ⟨inWS 649 (by decide +kernel) (by decide +kernel), inWS 92 (by decide +kernel) (by decide +kernel), inWS 652 (by decide +kernel) (by decide +kernel), by decide +kernel⟩
theorem ml_X10_194 : ML RX10 194 yX0_flip M_X0_flip := ⟨inWS 664 (by decide +kernel) (by decide +kernel), inWS 92 (by decide +kernel) (by decide +kernel), inWS 667 (by decide +kernel) (by decide +kernel), by decide +kernel⟩
theorem wf_X10_197 : Cond.fieldLink RX10 197 (TX0 5).1 (TX0 5).2.1 (TX0 5).2.2.1 ∈ WS := inWS 142 (by decide +kernel) (by decide +kernel)
theorem wf_X10_200 : Cond.fieldLink RX10 200 (TX0 10).1 (TX0 10).2.1 (TX0 10).2.2.1 ∈ WS := inWS 162 (by decide +kernel) (by decide +kernel)
theorem ml_X10_203 : ML RX10 203 yX9_forgetOthers M_X9_forgetOthers := ⟨inWS 676 (by decide +kernel) (by decide +kernel), inWS 97 (by decide +kernel) (by decide +kernel), inWS 679 (by decide +kernel) (by decide +kernel), by decide +kernel⟩
theorem mv_X9_forgetOthers : MLv yX9_forgetOthers := ⟨inWS 677 (by decide +kernel) (by decide +kernel), inWS 678 (by decide +kernel) (by decide +kernel)⟩
theorem ml_X10_206 : ML RX10 206 yX0_addRoom M_X0_addRoom := ⟨inWS 680 (by decide +kernel) (by decide +kernel), inWS 92 (by decide +kernel) (by decide +kernel), inWS 683 (by decide +kernel) (by decide +kernel), by decide +kernel⟩
theorem wf_X10_209 : Cond.fieldLink RX10 209 (TX0 11).1 (TX0 11).2.1 (TX0 11).2.2.1 ∈ WS := inWS 167 (by decide +kernel) (by decide +kernel)
theorem wf_X10_212 : Cond.fieldLink RX10 212 (TX0 12).1 (TX0 12).2.1 (TX0 12).2.2.1 ∈ WS := inWS 171 (by decide +kernel) (by decide +kernel)
theorem wf_X10_25 : Cond.fieldLink RX10 25 (TX10 4).1 (TX10 4).2.1 (TX10 4).2.2.1 ∈ WS := inWS 449 (by decide +kernel) (by decide +kernel)
theorem ml_X10_215 : ML RX10 215 yX7_isFull M_X7_isFull := ⟨inWS 696 (by decide +kernel) (by decide +kernel), inWS 93 (by decide +kernel) (by decide +kernel), inWS 699 (by decide +kernel) (by decide +kernel), by decide +kernel⟩
theorem mv_X7_isFull : MLv yX7_isFull := ⟨inWS 697 (by decide +kernel) (by decide +kernel), inWS 698 (by decide +kernel) (by decide +kernel)⟩
theorem ml_X10_219 : ML RX10 219 yX7_append M_X7_append := ⟨inWS 700 (by decide +kernel) (by decide +kernel), inWS 93 (by decide +kernel) (by decide +kernel), inWS 703 (by decide +kernel) (by decide +kernel), by decide +kernel⟩
theorem mv_X7_append : MLv yX7_append := ⟨inWS 701 (by decide +kernel) (by decide +kernel), inWS 702 (by decide +kernel) (by decide +kernel)⟩
theorem ml_X10_222 : ML RX10 222 yX7_clear M_X7_clear := ⟨inWS 708 (by decide +kernel) (by decide +kernel), inWS 93 (by decide +kernel) (by decide +kernel), inWS 711 (by decide +kernel) (by decide +kernel), by decide +kernel⟩
theorem mv_X7_clear : MLv yX7_clear := ⟨inWS 709 (by decide +kernel) (by decide +kernel), inWS 710 (by decide +kernel) (by decide +kernel)⟩
theorem wf_X10_16 : Cond.fieldLink RX10 16 (TX10 1).1 (TX10 1).2.1 (TX10 1).2.2.1 ∈ WS := inWS 446 (by decide +kernel) (by decide +kernel)
theorem ml_X10_226 : ML RX10 226 yX0_become M_X0_become := ⟨inWS 716 (by decide +kernel) (by decide +kernel), inWS 92 (by decide +kernel) (by decide +kernel), inWS 719 (by decide +kernel) (by decide +kernel), by decide +kernel⟩
theorem mv_X0_become : MLv yX0_become := ⟨inWS 717 (by decide +kernel) (by decide +kernel), inWS 718 (by decide +kernel) (by decide +kernel)⟩
theorem ml_X10_230 : ML RX10 230 yX7_readInto M_X7_readInto := ⟨inWS 721 (by decide +kernel) (by decide +kernel), inWS 93 (by decide +kernel) (by decide +kernel), inWS 724 (by decide +kernel) (by decide +kernel), by decide +kernel⟩
theorem mv_X7_readInto : MLv yX7_readInto := ⟨inWS 722 (by decide +kernel) (by decide +kernel), inWS 723 (by decide +kernel) (by decide +kernel)⟩
theorem ml_X10_234 : ML RX10 234 yX7_fault M_X7_fault := ⟨inWS 849 (by decide +kernel) (by decide +kernel), inWS 93 (by decide +kernel) (by decide +kernel), inWS 852 (by decide +kernel) (by decide +kernel), by decide +kernel⟩
theorem mv_X7_fault : MLv yX7_fault := ⟨inWS 850 (by decide +kernel) (by decide +kernel), inWS 851 (by decide +kernel) (by decide +kernel)⟩
theorem wf_X10_237 : Cond.fieldLink RX10 237 (TX0 6).1 (TX0 6).2.1 (TX0 6).2.2.1 ∈ WS := inWS 145 (by decide +kernel) (by decide +kernel)
theorem ml_X10_240 : ML RX10 240 yX0_restFor M_X0_restFor := ⟨inWS 858 (by decide +kernel) (by decide +kernel), inWS 92 (by decide +kernel) (by decide +kernel), inWS 861 (by decide +kernel) (by decide +kernel), by decide +kernel⟩
theorem ml_X10_243 : ML RX10 243 yX9_of M_X9_of := ⟨inWS 863 (by decide +kernel) (by decide +kernel), inWS 97 (by decide +kernel) (by decide +kernel), inWS 866 (by decide +kernel) (by decide +kernel), by decide +kernel⟩
theorem ml_X10_247 : ML RX10 247 yX8_cants M_X8_cants := ⟨inWS 964 (by decide +kernel) (by decide +kernel), inWS 98 (by decide +kernel) (by decide +kernel), inWS 967 (by decide +kernel) (by decide +kernel), by decide +kernel⟩
theorem mv_X8_cants : MLv yX8_cants := ⟨inWS 965 (by decide +kernel) (by decide +kernel), inWS 966 (by decide +kernel) (by decide +kernel)⟩
theorem ml_X10_421 : ML RX10 421 yX8_beginsLate M_X8_beginsLate := ⟨inWS 980 (by decide +kernel) (by decide +kernel), inWS 98 (by decide +kernel) (by decide +kernel), inWS 983 (by decide +kernel) (by decide +kernel), by decide +kernel⟩
theorem mv_X8_beginsLate : MLv yX8_beginsLate := ⟨inWS 981 (by decide +kernel) (by decide +kernel), inWS 982 (by decide +kernel) (by decide +kernel)⟩
theorem wf_X10_250 : Cond.fieldLink RX10 250 (TX0 0).1 (TX0 0).2.1 (TX0 0).2.2.1 ∈ WS := inWS 127 (by decide +kernel) (by decide +kernel)
theorem wf_X10_253 : Cond.fieldLink RX10 253 (TX0 2).1 (TX0 2).2.1 (TX0 2).2.2.1 ∈ WS := inWS 134 (by decide +kernel) (by decide +kernel)
theorem ml_X10_256 : ML RX10 256 yX10_takersOf M_X10_takersOf := ⟨inWS 972 (by decide +kernel) (by decide +kernel), inWS 91 (by decide +kernel) (by decide +kernel), inWS 975 (by decide +kernel) (by decide +kernel), by decide +kernel⟩
theorem mv_X10_takersOf : MLv yX10_takersOf := ⟨inWS 974 (by decide +kernel) (by decide +kernel), inWS 19 (by decide +kernel) (by decide +kernel)⟩
theorem ml_X10_259 : ML RX10 259 yX10_lateOnesOf M_X10_lateOnesOf := ⟨inWS 976 (by decide +kernel) (by decide +kernel), inWS 91 (by decide +kernel) (by decide +kernel), inWS 979 (by decide +kernel) (by decide +kernel), by decide +kernel⟩
theorem mv_X10_lateOnesOf : MLv yX10_lateOnesOf := ⟨inWS 978 (by decide +kernel) (by decide +kernel), inWS 20 (by decide +kernel) (by decide +kernel)⟩
theorem ml_X10_262 : ML RX10 262 yX0_timeFor M_X0_timeFor := ⟨inWS 988 (by decide +kernel) (by decide +kernel), inWS 92 (by decide +kernel) (by decide +kernel), inWS 878 (by decide +kernel) (by decide +kernel), by decide +kernel⟩
theorem wf_X10_265 : Cond.fieldLink RX10 265 (TX8 0).1 (TX8 0).2.1 (TX8 0).2.2.1 ∈ WS := inWS 319 (by decide +kernel) (by decide +kernel)
theorem wf_X10_269 : Cond.fieldLink RX10 269 (TX8 5).1 (TX8 5).2.1 (TX8 5).2.2.1 ∈ WS := inWS 332 (by decide +kernel) (by decide +kernel)
theorem ml_X10_273 : ML RX10 273 yJ13_bitCount_95d88 M_J13_bitCount_95d88 := ⟨inWS 993 (by decide +kernel) (by decide +kernel), inWS 110 (by decide +kernel) (by decide +kernel), inWS 915 (by decide +kernel) (by decide +kernel), by decide +kernel⟩
theorem wf_X10_279 : Cond.fieldLink RX10 279 (TX8 1).1 (TX8 1).2.1 (TX8 1).2.2.1 ∈ WS := inWS 322 (by decide +kernel) (by decide +kernel)
theorem wf_X10_282 : Cond.fieldLink RX10 282 (TX8 2).1 (TX8 2).2.1 (TX8 2).2.2.1 ∈ WS := inWS 325 (by decide +kernel) (by decide +kernel)
theorem wf_X10_285 : Cond.fieldLink RX10 285 (TX8 3).1 (TX8 3).2.1 (TX8 3).2.2.1 ∈ WS := inWS 328 (by decide +kernel) (by decide +kernel)
theorem wf_X10_288 : Cond.fieldLink RX10 288 (TX8 4).1 (TX8 4).2.1 (TX8 4).2.2.1 ∈ WS := inWS 330 (by decide +kernel) (by decide +kernel)
theorem wf_X10_43 : Cond.fieldLink RX10 43 (TX10 7).1 (TX10 7).2.1 (TX10 7).2.2.1 ∈ WS := inWS 452 (by decide +kernel) (by decide +kernel)
theorem ml_X10_291 : ML RX10 291 yX4_clash M_X4_clash := ⟨inWS 994 (by decide +kernel) (by decide +kernel), inWS 95 (by decide +kernel) (by decide +kernel), inWS 997 (by decide +kernel) (by decide +kernel), by decide +kernel⟩
theorem mv_X4_clash : MLv yX4_clash := ⟨inWS 995 (by decide +kernel) (by decide +kernel), inWS 996 (by decide +kernel) (by decide +kernel)⟩
theorem wf_X10_295 : Cond.fieldLink RX10 295 (TX8 6).1 (TX8 6).2.1 (TX8 6).2.2.1 ∈ WS := inWS 334 (by decide +kernel) (by decide +kernel)
theorem wf_X10_298 : Cond.fieldLink RX10 298 (TX8 7).1 (TX8 7).2.1 (TX8 7).2.2.1 ∈ WS := inWS 336 (by decide +kernel) (by decide +kernel)
theorem wf_X10_301 : Cond.fieldLink RX10 301 (TX8 8).1 (TX8 8).2.1 (TX8 8).2.2.1 ∈ WS := inWS 338 (by decide +kernel) (by decide +kernel)
theorem ml_X10_304 : ML RX10 304 yX8_deed M_X8_deed := ⟨inWS 1007 (by decide +kernel) (by decide +kernel), inWS 98 (by decide +kernel) (by decide +kernel), inWS 1010 (by decide +kernel) (by decide +kernel), by decide +kernel⟩
theorem mv_X8_deed : MLv yX8_deed := ⟨inWS 1008 (by decide +kernel) (by decide +kernel), inWS 1009 (by decide +kernel) (by decide +kernel)⟩
theorem ml_X10_307 : ML RX10 307 yX10_isMeasure M_X10_isMeasure := ⟨inWS 1019 (by decide +kernel) (by decide +kernel), inWS 91 (by decide +kernel) (by decide +kernel), inWS 1021 (by decide +kernel) (by decide +kernel), by decide +kernel⟩
theorem mt_X10_isMeasure : Cond.static yX10_isMeasure ∈ WS := inWS 1020 (by decide +kernel) (by decide +kernel)
theorem ml_X10_310 : ML RX10 310 yX8_measured M_X8_measured := ⟨inWS 1022 (by decide +kernel) (by decide +kernel), inWS 98 (by decide +kernel) (by decide +kernel), inWS 1025 (by decide +kernel) (by decide +kernel), by decide +kernel⟩
theorem mv_X8_measured : MLv yX8_measured := ⟨inWS 1023 (by decide +kernel) (by decide +kernel), inWS 1024 (by decide +kernel) (by decide +kernel)⟩
theorem ml_X10_314 : ML RX10 314 yX4_ordersOf M_X4_ordersOf := ⟨inWS 1032 (by decide +kernel) (by decide +kernel), inWS 95 (by decide +kernel) (by decide +kernel), inWS 1035 (by decide +kernel) (by decide +kernel), by decide +kernel⟩
theorem mv_X4_ordersOf : MLv yX4_ordersOf := ⟨inWS 1033 (by decide +kernel) (by decide +kernel), inWS 1034 (by decide +kernel) (by decide +kernel)⟩
theorem ml_X10_318 : ML RX10 318 yX3_count M_X3_count := ⟨inWS 1036 (by decide +kernel) (by decide +kernel), inWS 96 (by decide +kernel) (by decide +kernel), inWS 938 (by decide +kernel) (by decide +kernel), by decide +kernel⟩
theorem ml_X10_322 : ML RX10 322 yX3_search M_X3_search := ⟨inWS 1037 (by decide +kernel) (by decide +kernel), inWS 96 (by decide +kernel) (by decide +kernel), inWS 900 (by decide +kernel) (by decide +kernel), by decide +kernel⟩
theorem ml_X10_329 : ML RX10 329 yX3_paperAt M_X3_paperAt := ⟨inWS 1039 (by decide +kernel) (by decide +kernel), inWS 96 (by decide +kernel) (by decide +kernel), inWS 946 (by decide +kernel) (by decide +kernel), by decide +kernel⟩
theorem ml_X10_326 : ML RX10 326 yX3_least M_X3_least := ⟨inWS 1038 (by decide +kernel) (by decide +kernel), inWS 96 (by decide +kernel) (by decide +kernel), inWS 963 (by decide +kernel) (by decide +kernel), by decide +kernel⟩
theorem ml_X10_332 : ML RX10 332 yX3_lawfulOnes M_X3_lawfulOnes := ⟨inWS 1044 (by decide +kernel) (by decide +kernel), inWS 96 (by decide +kernel) (by decide +kernel), inWS 1047 (by decide +kernel) (by decide +kernel), by decide +kernel⟩
theorem mv_X3_lawfulOnes : MLv yX3_lawfulOnes := ⟨inWS 1045 (by decide +kernel) (by decide +kernel), inWS 1046 (by decide +kernel) (by decide +kernel)⟩
theorem wf_X10_64 : Cond.fieldLink RX10 64 (TX10 10).1 (TX10 10).2.1 (TX10 10).2.2.1 ∈ WS := inWS 455 (by decide +kernel) (by decide +kernel)
theorem ml_X10_335 : ML RX10 335 yX1_gather M_X1_gather := ⟨inWS 1052 (by decide +kernel) (by decide +kernel), inWS 99 (by decide +kernel) (by decide +kernel), inWS 1055 (by decide +kernel) (by decide +kernel), by decide +kernel⟩
theorem mv_X1_gather : MLv yX1_gather := ⟨inWS 1053 (by decide +kernel) (by decide +kernel), inWS 1054 (by decide +kernel) (by decide +kernel)⟩
theorem ml_X10_339 : ML RX10 339 yX1_count M_X1_count := ⟨inWS 1086 (by decide +kernel) (by decide +kernel), inWS 99 (by decide +kernel) (by decide +kernel), inWS 1089 (by decide +kernel) (by decide +kernel), by decide +kernel⟩
theorem mv_X1_count : MLv yX1_count := ⟨inWS 1087 (by decide +kernel) (by decide +kernel), inWS 1088 (by decide +kernel) (by decide +kernel)⟩
theorem ml_X10_340 : ML RX10 340 yX1_watchers M_X1_watchers := ⟨inWS 1090 (by decide +kernel) (by decide +kernel), inWS 99 (by decide +kernel) (by decide +kernel), inWS 1093 (by decide +kernel) (by decide +kernel), by decide +kernel⟩
theorem mv_X1_watchers : MLv yX1_watchers := ⟨inWS 1091 (by decide +kernel) (by decide +kernel), inWS 1092 (by decide +kernel) (by decide +kernel)⟩
theorem ml_X10_343 : ML RX10 343 yX1_atOnce M_X1_atOnce := ⟨inWS 1094 (by decide +kernel) (by decide +kernel), inWS 99 (by decide +kernel) (by decide +kernel), inWS 1097 (by decide +kernel) (by decide +kernel), by decide +kernel⟩
theorem mv_X1_atOnce : MLv yX1_atOnce := ⟨inWS 1095 (by decide +kernel) (by decide +kernel), inWS 1096 (by decide +kernel) (by decide +kernel)⟩
theorem ml_X10_346 : ML RX10 346 yX1_tell M_X1_tell := ⟨inWS 1102 (by decide +kernel) (by decide +kernel), inWS 99 (by decide +kernel) (by decide +kernel), inWS 1105 (by decide +kernel) (by decide +kernel), by decide +kernel⟩
theorem mv_X1_tell : MLv yX1_tell := ⟨inWS 1103 (by decide +kernel) (by decide +kernel), inWS 1104 (by decide +kernel) (by decide +kernel)⟩
theorem wf_X10_71 : Cond.fieldLink RX10 71 (TX10 11).1 (TX10 11).2.1 (TX10 11).2.2.1 ∈ WS := inWS 456 (by decide +kernel) (by decide +kernel)
theorem ml_X10_349 : ML RX10 349 yX5_lay M_X5_lay := ⟨inWS 1110 (by decide +kernel) (by decide +kernel), inWS 100 (by decide +kernel) (by decide +kernel), inWS 1113 (by decide +kernel) (by decide +kernel), by decide +kernel⟩
theorem mv_X5_lay : MLv yX5_lay := ⟨inWS 1111 (by decide +kernel) (by decide +kernel), inWS 1112 (by decide +kernel) (by decide +kernel)⟩
theorem ml_X10_356 : ML RX10 356 yX5_movesOf M_X5_movesOf := ⟨inWS 1155 (by decide +kernel) (by decide +kernel), inWS 100 (by decide +kernel) (by decide +kernel), inWS 1158 (by decide +kernel) (by decide +kernel), by decide +kernel⟩
theorem mv_X5_movesOf : MLv yX5_movesOf := ⟨inWS 1156 (by decide +kernel) (by decide +kernel), inWS 1157 (by decide +kernel) (by decide +kernel)⟩
theorem ml_X10_353 : ML RX10 353 yX5_piecesOf M_X5_piecesOf := ⟨inWS 1151 (by decide +kernel) (by decide +kernel), inWS 100 (by decide +kernel) (by decide +kernel), inWS 1154 (by decide +kernel) (by decide +kernel), by decide +kernel⟩
theorem mv_X5_piecesOf : MLv yX5_piecesOf := ⟨inWS 1152 (by decide +kernel) (by decide +kernel), inWS 1153 (by decide +kernel) (by decide +kernel)⟩
theorem ml_X10_359 : ML RX10 359 yX5_roomAt M_X5_roomAt := ⟨inWS 1163 (by decide +kernel) (by decide +kernel), inWS 100 (by decide +kernel) (by decide +kernel), inWS 1166 (by decide +kernel) (by decide +kernel), by decide +kernel⟩
theorem mv_X5_roomAt : MLv yX5_roomAt := ⟨inWS 1164 (by decide +kernel) (by decide +kernel), inWS 1165 (by decide +kernel) (by decide +kernel)⟩
theorem ml_X10_362 : ML RX10 362 yX0_hasRoom M_X0_hasRoom := ⟨inWS 1171 (by decide +kernel) (by decide +kernel), inWS 92 (by decide +kernel) (by decide +kernel), inWS 1174 (by decide +kernel) (by decide +kernel), by decide +kernel⟩
theorem mv_X0_hasRoom : MLv yX0_hasRoom := ⟨inWS 1172 (by decide +kernel) (by decide +kernel), inWS 1173 (by decide +kernel) (by decide +kernel)⟩
theorem wf_X10_365 : Cond.fieldLink RX10 365 (TX0 7).1 (TX0 7).2.1 (TX0 7).2.2.1 ∈ WS := inWS 148 (by decide +kernel) (by decide +kernel)
theorem ml_X10_368 : ML RX10 368 yX5_usedAt M_X5_usedAt := ⟨inWS 1175 (by decide +kernel) (by decide +kernel), inWS 100 (by decide +kernel) (by decide +kernel), inWS 1178 (by decide +kernel) (by decide +kernel), by decide +kernel⟩
theorem mv_X5_usedAt : MLv yX5_usedAt := ⟨inWS 1176 (by decide +kernel) (by decide +kernel), inWS 1177 (by decide +kernel) (by decide +kernel)⟩
theorem wf_X10_57 : Cond.fieldLink RX10 57 (TX10 9).1 (TX10 9).2.1 (TX10 9).2.2.1 ∈ WS := inWS 454 (by decide +kernel) (by decide +kernel)
theorem ml_X10_425 : ML RX10 425 yX8_become M_X8_become := ⟨inWS 1187 (by decide +kernel) (by decide +kernel), inWS 98 (by decide +kernel) (by decide +kernel), inWS 1190 (by decide +kernel) (by decide +kernel), by decide +kernel⟩
theorem mv_X8_become : MLv yX8_become := ⟨inWS 1188 (by decide +kernel) (by decide +kernel), inWS 1189 (by decide +kernel) (by decide +kernel)⟩
theorem ml_X10_428 : ML RX10 428 yX4_replan M_X4_replan := ⟨inWS 1192 (by decide +kernel) (by decide +kernel), inWS 95 (by decide +kernel) (by decide +kernel), inWS 1195 (by decide +kernel) (by decide +kernel), by decide +kernel⟩
theorem mv_X4_replan : MLv yX4_replan := ⟨inWS 1193 (by decide +kernel) (by decide +kernel), inWS 1194 (by decide +kernel) (by decide +kernel)⟩
theorem ml_X10_371 : ML RX10 371 yX10_cantsFlipped M_X10_cantsFlipped := ⟨inWS 1183 (by decide +kernel) (by decide +kernel), inWS 91 (by decide +kernel) (by decide +kernel), inWS 1186 (by decide +kernel) (by decide +kernel), by decide +kernel⟩
theorem mv_X10_cantsFlipped : MLv yX10_cantsFlipped := ⟨inWS 1185 (by decide +kernel) (by decide +kernel), inWS 33 (by decide +kernel) (by decide +kernel)⟩
theorem ml_X10_374 : ML RX10 374 yX4_planWeek M_X4_planWeek := ⟨inWS 1201 (by decide +kernel) (by decide +kernel), inWS 95 (by decide +kernel) (by decide +kernel), inWS 1204 (by decide +kernel) (by decide +kernel), by decide +kernel⟩
theorem mv_X4_planWeek : MLv yX4_planWeek := ⟨inWS 1202 (by decide +kernel) (by decide +kernel), inWS 1203 (by decide +kernel) (by decide +kernel)⟩
theorem ml_X10_378 : ML RX10 378 yX8_keptSlots M_X8_keptSlots := ⟨inWS 1205 (by decide +kernel) (by decide +kernel), inWS 98 (by decide +kernel) (by decide +kernel), inWS 1208 (by decide +kernel) (by decide +kernel), by decide +kernel⟩
theorem mv_X8_keptSlots : MLv yX8_keptSlots := ⟨inWS 1206 (by decide +kernel) (by decide +kernel), inWS 1207 (by decide +kernel) (by decide +kernel)⟩
theorem wf_X10_75 : Cond.fieldLink RX10 75 (TX10 12).1 (TX10 12).2.1 (TX10 12).2.2.1 ∈ WS := inWS 457 (by decide +kernel) (by decide +kernel)
theorem wf_X10_78 : Cond.fieldLink RX10 78 (TX10 13).1 (TX10 13).2.1 (TX10 13).2.2.1 ∈ WS := inWS 458 (by decide +kernel) (by decide +kernel)
theorem ml_X10_381 : ML RX10 381 yX10_tryStarts M_X10_tryStarts := ⟨inWS 1217 (by decide +kernel) (by decide +kernel), inWS 91 (by decide +kernel) (by decide +kernel), inWS 1220 (by decide +kernel) (by decide +kernel), by decide +kernel⟩
theorem mv_X10_tryStarts : MLv yX10_tryStarts := ⟨inWS 1219 (by decide +kernel) (by decide +kernel), inWS 34 (by decide +kernel) (by decide +kernel)⟩
theorem ml_X10_432 : ML RX10 432 yX2_timeOf M_X2_timeOf := ⟨inWS 1236 (by decide +kernel) (by decide +kernel), inWS 103 (by decide +kernel) (by decide +kernel), inWS 593 (by decide +kernel) (by decide +kernel), by decide +kernel⟩
theorem ml_X10_384 : ML RX10 384 yX10_isTold M_X10_isTold := ⟨inWS 1229 (by decide +kernel) (by decide +kernel), inWS 91 (by decide +kernel) (by decide +kernel), inWS 1231 (by decide +kernel) (by decide +kernel), by decide +kernel⟩
theorem mt_X10_isTold : Cond.static yX10_isTold ∈ WS := inWS 1230 (by decide +kernel) (by decide +kernel)
theorem ml_X10_387 : ML RX10 387 yX10_hasToldTimes M_X10_hasToldTimes := ⟨inWS 1232 (by decide +kernel) (by decide +kernel), inWS 91 (by decide +kernel) (by decide +kernel), inWS 1235 (by decide +kernel) (by decide +kernel), by decide +kernel⟩
theorem mv_X10_hasToldTimes : MLv yX10_hasToldTimes := ⟨inWS 1234 (by decide +kernel) (by decide +kernel), inWS 35 (by decide +kernel) (by decide +kernel)⟩
theorem ml_X10_435 : ML RX10 435 yX0_papersOf M_X0_papersOf := ⟨inWS 1245 (by decide +kernel) (by decide +kernel), inWS 92 (by decide +kernel) (by decide +kernel), inWS 657 (by decide +kernel) (by decide +kernel), by decide +kernel⟩
theorem ml_X10_438 : ML RX10 438 yX10_hasBit M_X10_hasBit := ⟨inWS 1246 (by decide +kernel) (by decide +kernel), inWS 91 (by decide +kernel) (by decide +kernel), inWS 648 (by decide +kernel) (by decide +kernel), by decide +kernel⟩
theorem wa_X10_441 : Cond.methodLink RX10 441 Lib.Math.max.name ∈ WS := inWS 1247 (by decide +kernel) (by decide +kernel)
theorem ml_X10_391 : ML RX10 391 yX10_firstWrong M_X10_firstWrong := ⟨inWS 1241 (by decide +kernel) (by decide +kernel), inWS 91 (by decide +kernel) (by decide +kernel), inWS 1244 (by decide +kernel) (by decide +kernel), by decide +kernel⟩
theorem mv_X10_firstWrong : MLv yX10_firstWrong := ⟨inWS 1243 (by decide +kernel) (by decide +kernel), inWS 36 (by decide +kernel) (by decide +kernel)⟩
theorem ml_X10_394 : ML RX10 394 yX0_draw M_X0_draw := ⟨inWS 1256 (by decide +kernel) (by decide +kernel), inWS 92 (by decide +kernel) (by decide +kernel), inWS 1259 (by decide +kernel) (by decide +kernel), by decide +kernel⟩
theorem mv_X0_draw : MLv yX0_draw := ⟨inWS 1257 (by decide +kernel) (by decide +kernel), inWS 1258 (by decide +kernel) (by decide +kernel)⟩
theorem wf_X10_397 : Cond.fieldLink RX10 397 (TX0 13).1 (TX0 13).2.1 (TX0 13).2.2.1 ∈ WS := inWS 173 (by decide +kernel) (by decide +kernel)
theorem wf_X10_19 : Cond.fieldLink RX10 19 (TX10 2).1 (TX10 2).2.1 (TX10 2).2.2.1 ∈ WS := inWS 447 (by decide +kernel) (by decide +kernel)
theorem wf_X10_400 : Cond.fieldLink RX10 400 (TX10 3).1 (TX10 3).2.1 (TX10 3).2.2.1 ∈ WS := inWS 448 (by decide +kernel) (by decide +kernel)
theorem ml_X10_404 : ML RX10 404 yX6_dropCandsFrom M_X6_dropCandsFrom := ⟨inWS 1273 (by decide +kernel) (by decide +kernel), inWS 94 (by decide +kernel) (by decide +kernel), inWS 1276 (by decide +kernel) (by decide +kernel), by decide +kernel⟩
theorem mv_X6_dropCandsFrom : MLv yX6_dropCandsFrom := ⟨inWS 1274 (by decide +kernel) (by decide +kernel), inWS 1275 (by decide +kernel) (by decide +kernel)⟩
theorem ml_X10_407 : ML RX10 407 yX0_takenInAll M_X0_takenInAll := ⟨inWS 1282 (by decide +kernel) (by decide +kernel), inWS 92 (by decide +kernel) (by decide +kernel), inWS 1285 (by decide +kernel) (by decide +kernel), by decide +kernel⟩
theorem mv_X0_takenInAll : MLv yX0_takenInAll := ⟨inWS 1283 (by decide +kernel) (by decide +kernel), inWS 1284 (by decide +kernel) (by decide +kernel)⟩
theorem ml_X10_410 : ML RX10 410 yX10_daysSomebodyCant M_X10_daysSomebodyCant := ⟨inWS 1286 (by decide +kernel) (by decide +kernel), inWS 91 (by decide +kernel) (by decide +kernel), inWS 1289 (by decide +kernel) (by decide +kernel), by decide +kernel⟩
theorem mv_X10_daysSomebodyCant : MLv yX10_daysSomebodyCant := ⟨inWS 1288 (by decide +kernel) (by decide +kernel), inWS 37 (by decide +kernel) (by decide +kernel)⟩
theorem ml_X10_413 : ML RX10 413 yX7_size M_X7_size := ⟨inWS 1290 (by decide +kernel) (by decide +kernel), inWS 93 (by decide +kernel) (by decide +kernel), inWS 1293 (by decide +kernel) (by decide +kernel), by decide +kernel⟩
theorem mv_X7_size : MLv yX7_size := ⟨inWS 1291 (by decide +kernel) (by decide +kernel), inWS 1292 (by decide +kernel) (by decide +kernel)⟩
theorem ml_X10_416 : ML RX10 416 yX6_filled M_X6_filled := ⟨inWS 1294 (by decide +kernel) (by decide +kernel), inWS 94 (by decide +kernel) (by decide +kernel), inWS 1297 (by decide +kernel) (by decide +kernel), by decide +kernel⟩
theorem mv_X6_filled : MLv yX6_filled := ⟨inWS 1295 (by decide +kernel) (by decide +kernel), inWS 1296 (by decide +kernel) (by decide +kernel)⟩
theorem wf_X11_16 : Cond.fieldLink RX11 16 (TX11 3).1 (TX11 3).2.1 (TX11 3).2.2.1 ∈ WS := inWS 1307 (by decide +kernel) (by decide +kernel)
theorem wf_X11_7 : Cond.fieldLink RX11 7 (TX11 0).1 (TX11 0).2.1 (TX11 0).2.2.1 ∈ WS := inWS 1304 (by decide +kernel) (by decide +kernel)
theorem ml_X11_120 : ML RX11 120 yX11_isIn M_X11_isIn := ⟨inWS 1449 (by decide +kernel) (by decide +kernel), inWS 101 (by decide +kernel) (by decide +kernel), inWS 1451 (by decide +kernel) (by decide +kernel), by decide +kernel⟩
theorem mt_X11_isIn : Cond.static yX11_isIn ∈ WS := inWS 1450 (by decide +kernel) (by decide +kernel)
theorem wc_X11_124 : Cond.constantLong "ClashDaysModel" 124 (4 : Int64) ∈ WS := inWS 1452 (by decide +kernel) (by decide +kernel)
theorem wc_X11_126 : Cond.constantLong "ClashDaysModel" 126 (47 : Int64) ∈ WS := inWS 1515 (by decide +kernel) (by decide +kernel)
theorem ml_X11_128 : ML RX11 128 yX11_who M_X11_who := ⟨inWS 1492 (by decide +kernel) (by decide +kernel), inWS 101 (by decide +kernel) (by decide +kernel), inWS 1495 (by decide +kernel) (by decide +kernel), by decide +kernel⟩
theorem mv_X11_who : MLv yX11_who := ⟨inWS 1494 (by decide +kernel) (by decide +kernel), inWS 41 (by decide +kernel) (by decide +kernel)⟩
theorem ml_X11_132 : ML RX11 132 yX11_length M_X11_length := ⟨inWS 1643 (by decide +kernel) (by decide +kernel), inWS 101 (by decide +kernel) (by decide +kernel), inWS 1646 (by decide +kernel) (by decide +kernel), by decide +kernel⟩
theorem mv_X11_length : MLv yX11_length := ⟨inWS 1645 (by decide +kernel) (by decide +kernel), inWS 60 (by decide +kernel) (by decide +kernel)⟩
theorem ml_X11_136 : ML RX11 136 yX11_timeOf M_X11_timeOf := ⟨inWS 1499 (by decide +kernel) (by decide +kernel), inWS 101 (by decide +kernel) (by decide +kernel), inWS 1501 (by decide +kernel) (by decide +kernel), by decide +kernel⟩
theorem mt_X11_timeOf : Cond.static yX11_timeOf ∈ WS := inWS 1500 (by decide +kernel) (by decide +kernel)
theorem ml_X11_140 : ML RX11 140 yX11_restOf M_X11_restOf := ⟨inWS 1502 (by decide +kernel) (by decide +kernel), inWS 101 (by decide +kernel) (by decide +kernel), inWS 1504 (by decide +kernel) (by decide +kernel), by decide +kernel⟩
theorem mt_X11_restOf : Cond.static yX11_restOf ∈ WS := inWS 1503 (by decide +kernel) (by decide +kernel)
theorem wc_X11_143 : Cond.constantLong "ClashDaysModel" 143 (7 : Int64) ∈ WS := inWS 1448 (by decide +kernel) (by decide +kernel)
theorem wf_X11_19 : Cond.fieldLink RX11 19 (TX11 4).1 (TX11 4).2.1 (TX11 4).2.2.1 ∈ WS := inWS 1308 (by decide +kernel) (by decide +kernel)
theorem ml_X11_145 : ML RX11 145 yX11_isShelf M_X11_isShelf := ⟨inWS 1445 (by decide +kernel) (by decide +kernel), inWS 101 (by decide +kernel) (by decide +kernel), inWS 1447 (by decide +kernel) (by decide +kernel), by decide +kernel⟩
theorem mt_X11_isShelf : Cond.static yX11_isShelf ∈ WS := inWS 1446 (by decide +kernel) (by decide +kernel)
theorem wc_X11_149 : Cond.constantLong "ClashDaysModel" 149 (40 : Int64) ∈ WS := inWS 1453 (by decide +kernel) (by decide +kernel)
theorem wf_X11_22 : Cond.fieldLink RX11 22 (TX11 5).1 (TX11 5).2.1 (TX11 5).2.2.1 ∈ WS := inWS 1309 (by decide +kernel) (by decide +kernel)
theorem ml_X11_151 : ML RX11 151 yX11_no M_X11_no := ⟨inWS 1454 (by decide +kernel) (by decide +kernel), inWS 101 (by decide +kernel) (by decide +kernel), inWS 1457 (by decide +kernel) (by decide +kernel), by decide +kernel⟩
theorem mv_X11_no : MLv yX11_no := ⟨inWS 1456 (by decide +kernel) (by decide +kernel), inWS 38 (by decide +kernel) (by decide +kernel)⟩
theorem wf_X11_25 : Cond.fieldLink RX11 25 (TX11 6).1 (TX11 6).2.1 (TX11 6).2.2.1 ∈ WS := inWS 1310 (by decide +kernel) (by decide +kernel)
theorem wf_X11_29 : Cond.fieldLink RX11 29 (TX11 7).1 (TX11 7).2.1 (TX11 7).2.2.1 ∈ WS := inWS 1311 (by decide +kernel) (by decide +kernel)
theorem ml_X11_154 : ML RX11 154 yX11_isRow M_X11_isRow := ⟨inWS 1470 (by decide +kernel) (by decide +kernel), inWS 101 (by decide +kernel) (by decide +kernel), inWS 1473 (by decide +kernel) (by decide +kernel), by decide +kernel⟩
theorem mv_X11_isRow : MLv yX11_isRow := ⟨inWS 1472 (by decide +kernel) (by decide +kernel), inWS 39 (by decide +kernel) (by decide +kernel)⟩
theorem ml_X11_157 : ML RX11 157 yX11_isCand M_X11_isCand := ⟨inWS 1482 (by decide +kernel) (by decide +kernel), inWS 101 (by decide +kernel) (by decide +kernel), inWS 1485 (by decide +kernel) (by decide +kernel), by decide +kernel⟩
theorem mv_X11_isCand : MLv yX11_isCand := ⟨inWS 1484 (by decide +kernel) (by decide +kernel), inWS 40 (by decide +kernel) (by decide +kernel)⟩
theorem wc_X11_160 : Cond.constantLong "ClashDaysModel" 160 (5 : Int64) ∈ WS := inWS 1490 (by decide +kernel) (by decide +kernel)
theorem wc_X11_162 : Cond.constantLong "ClashDaysModel" 162 (12 : Int64) ∈ WS := inWS 1491 (by decide +kernel) (by decide +kernel)
theorem ml_X11_164 : ML RX11 164 yX11_isUnder M_X11_isUnder := ⟨inWS 1496 (by decide +kernel) (by decide +kernel), inWS 101 (by decide +kernel) (by decide +kernel), inWS 1498 (by decide +kernel) (by decide +kernel), by decide +kernel⟩
theorem mt_X11_isUnder : Cond.static yX11_isUnder ∈ WS := inWS 1497 (by decide +kernel) (by decide +kernel)
theorem ml_X11_168 : ML RX11 168 yX11_isDay M_X11_isDay := ⟨inWS 1509 (by decide +kernel) (by decide +kernel), inWS 101 (by decide +kernel) (by decide +kernel), inWS 1511 (by decide +kernel) (by decide +kernel), by decide +kernel⟩
theorem mt_X11_isDay : Cond.static yX11_isDay ∈ WS := inWS 1510 (by decide +kernel) (by decide +kernel)
theorem ml_X11_171 : ML RX11 171 yX11_isSlot M_X11_isSlot := ⟨inWS 1512 (by decide +kernel) (by decide +kernel), inWS 101 (by decide +kernel) (by decide +kernel), inWS 1514 (by decide +kernel) (by decide +kernel), by decide +kernel⟩
theorem mt_X11_isSlot : Cond.static yX11_isSlot ∈ WS := inWS 1513 (by decide +kernel) (by decide +kernel)
theorem ml_X11_174 : ML RX11 174 yX11_isPaper M_X11_isPaper := ⟨inWS 1520 (by decide +kernel) (by decide +kernel), inWS 101 (by decide +kernel) (by decide +kernel), inWS 1523 (by decide +kernel) (by decide +kernel), by decide +kernel⟩
theorem mv_X11_isPaper : MLv yX11_isPaper := ⟨inWS 1522 (by decide +kernel) (by decide +kernel), inWS 42 (by decide +kernel) (by decide +kernel)⟩
theorem ml_X11_177 : ML RX11 177 yX11_becomes M_X11_becomes := ⟨inWS 1524 (by decide +kernel) (by decide +kernel), inWS 101 (by decide +kernel) (by decide +kernel), inWS 1527 (by decide +kernel) (by decide +kernel), by decide +kernel⟩
theorem mv_X11_becomes : MLv yX11_becomes := ⟨inWS 1526 (by decide +kernel) (by decide +kernel), inWS 43 (by decide +kernel) (by decide +kernel)⟩
theorem wc_X11_180 : Cond.constantLong "ClashDaysModel" 180 (9 : Int64) ∈ WS := inWS 1532 (by decide +kernel) (by decide +kernel)
theorem ml_X11_182 : ML RX11 182 yX11_has M_X11_has := ⟨inWS 1537 (by decide +kernel) (by decide +kernel), inWS 101 (by decide +kernel) (by decide +kernel), inWS 1540 (by decide +kernel) (by decide +kernel), by decide +kernel⟩
theorem mv_X11_has : MLv yX11_has := ⟨inWS 1539 (by decide +kernel) (by decide +kernel), inWS 44 (by decide +kernel) (by decide +kernel)⟩
theorem ml_X11_185 : ML RX11 185 yX11_day M_X11_day := ⟨inWS 1545 (by decide +kernel) (by decide +kernel), inWS 101 (by decide +kernel) (by decide +kernel), inWS 1548 (by decide +kernel) (by decide +kernel), by decide +kernel⟩
theorem mv_X11_day : MLv yX11_day := ⟨inWS 1547 (by decide +kernel) (by decide +kernel), inWS 46 (by decide +kernel) (by decide +kernel)⟩
theorem ml_X11_188 : ML RX11 188 yX11_ofDay M_X11_ofDay := ⟨inWS 1549 (by decide +kernel) (by decide +kernel), inWS 101 (by decide +kernel) (by decide +kernel), inWS 1552 (by decide +kernel) (by decide +kernel), by decide +kernel⟩
theorem mv_X11_ofDay : MLv yX11_ofDay := ⟨inWS 1551 (by decide +kernel) (by decide +kernel), inWS 47 (by decide +kernel) (by decide +kernel)⟩
theorem ml_X11_191 : ML RX11 191 yX11_many M_X11_many := ⟨inWS 1553 (by decide +kernel) (by decide +kernel), inWS 101 (by decide +kernel) (by decide +kernel), inWS 1555 (by decide +kernel) (by decide +kernel), by decide +kernel⟩
theorem mt_X11_many : Cond.static yX11_many ∈ WS := inWS 1554 (by decide +kernel) (by decide +kernel)
theorem ml_X11_194 : ML RX11 194 yX11_isFifth M_X11_isFifth := ⟨inWS 1541 (by decide +kernel) (by decide +kernel), inWS 101 (by decide +kernel) (by decide +kernel), inWS 1544 (by decide +kernel) (by decide +kernel), by decide +kernel⟩
theorem mv_X11_isFifth : MLv yX11_isFifth := ⟨inWS 1543 (by decide +kernel) (by decide +kernel), inWS 45 (by decide +kernel) (by decide +kernel)⟩
theorem ml_X11_197 : ML RX11 197 yX11_toggles M_X11_toggles := ⟨inWS 1556 (by decide +kernel) (by decide +kernel), inWS 101 (by decide +kernel) (by decide +kernel), inWS 1559 (by decide +kernel) (by decide +kernel), by decide +kernel⟩
theorem mv_X11_toggles : MLv yX11_toggles := ⟨inWS 1558 (by decide +kernel) (by decide +kernel), inWS 48 (by decide +kernel) (by decide +kernel)⟩
theorem wc_X11_201 : Cond.constantLong "ClashDaysModel" 201 (8 : Int64) ∈ WS := inWS 1572 (by decide +kernel) (by decide +kernel)
theorem wc_X11_203 : Cond.constantLong "ClashDaysModel" 203 (255 : Int64) ∈ WS := inWS 1581 (by decide +kernel) (by decide +kernel)
theorem wf_X11_205 : Cond.fieldLink RX11 205 (TX11 9).1 (TX11 9).2.1 (TX11 9).2.2.1 ∈ WS := inWS 1313 (by decide +kernel) (by decide +kernel)
theorem wf_X11_32 : Cond.fieldLink RX11 32 (TX11 8).1 (TX11 8).2.1 (TX11 8).2.2.1 ∈ WS := inWS 1312 (by decide +kernel) (by decide +kernel)
theorem wf_X11_209 : Cond.fieldLink RX11 209 (TX11 10).1 (TX11 10).2.1 (TX11 10).2.2.1 ∈ WS := inWS 1314 (by decide +kernel) (by decide +kernel)
theorem wf_X11_212 : Cond.fieldLink RX11 212 (TX11 11).1 (TX11 11).2.1 (TX11 11).2.2.1 ∈ WS := inWS 1315 (by decide +kernel) (by decide +kernel)
theorem wf_X11_215 : Cond.fieldLink RX11 215 (TX11 13).1 (TX11 13).2.1 (TX11 13).2.2.1 ∈ WS := inWS 1317 (by decide +kernel) (by decide +kernel)
theorem ml_X11_218 : ML RX11 218 yX11_blanks M_X11_blanks := ⟨inWS 1601 (by decide +kernel) (by decide +kernel), inWS 101 (by decide +kernel) (by decide +kernel), inWS 1604 (by decide +kernel) (by decide +kernel), by decide +kernel⟩
theorem mv_X11_blanks : MLv yX11_blanks := ⟨inWS 1603 (by decide +kernel) (by decide +kernel), inWS 51 (by decide +kernel) (by decide +kernel)⟩
theorem ml_X11_221 : ML RX11 221 yX11_isLetter M_X11_isLetter := ⟨inWS 1605 (by decide +kernel) (by decide +kernel), inWS 101 (by decide +kernel) (by decide +kernel), inWS 1608 (by decide +kernel) (by decide +kernel), by decide +kernel⟩
theorem mv_X11_isLetter : MLv yX11_isLetter := ⟨inWS 1607 (by decide +kernel) (by decide +kernel), inWS 52 (by decide +kernel) (by decide +kernel)⟩
theorem wf_X11_35 : Cond.fieldLink RX11 35 (TX11 14).1 (TX11 14).2.1 (TX11 14).2.2.1 ∈ WS := inWS 1318 (by decide +kernel) (by decide +kernel)
theorem ml_X11_224 : ML RX11 224 yX11_isFigure M_X11_isFigure := ⟨inWS 1617 (by decide +kernel) (by decide +kernel), inWS 101 (by decide +kernel) (by decide +kernel), inWS 1620 (by decide +kernel) (by decide +kernel), by decide +kernel⟩
theorem mv_X11_isFigure : MLv yX11_isFigure := ⟨inWS 1619 (by decide +kernel) (by decide +kernel), inWS 55 (by decide +kernel) (by decide +kernel)⟩
theorem ml_X11_227 : ML RX11 227 yX11_wrong M_X11_wrong := ⟨inWS 1609 (by decide +kernel) (by decide +kernel), inWS 101 (by decide +kernel) (by decide +kernel), inWS 1612 (by decide +kernel) (by decide +kernel), by decide +kernel⟩
theorem mv_X11_wrong : MLv yX11_wrong := ⟨inWS 1611 (by decide +kernel) (by decide +kernel), inWS 53 (by decide +kernel) (by decide +kernel)⟩
theorem wf_X11_230 : Cond.fieldLink RX11 230 (TX11 12).1 (TX11 12).2.1 (TX11 12).2.2.1 ∈ WS := inWS 1316 (by decide +kernel) (by decide +kernel)
theorem ml_X11_233 : ML RX11 233 yX11_word M_X11_word := ⟨inWS 1597 (by decide +kernel) (by decide +kernel), inWS 101 (by decide +kernel) (by decide +kernel), inWS 1600 (by decide +kernel) (by decide +kernel), by decide +kernel⟩
theorem mv_X11_word : MLv yX11_word := ⟨inWS 1599 (by decide +kernel) (by decide +kernel), inWS 50 (by decide +kernel) (by decide +kernel)⟩
theorem ml_X11_237 : ML RX11 237 yX11_number M_X11_number := ⟨inWS 1613 (by decide +kernel) (by decide +kernel), inWS 101 (by decide +kernel) (by decide +kernel), inWS 1616 (by decide +kernel) (by decide +kernel), by decide +kernel⟩
theorem mv_X11_number : MLv yX11_number := ⟨inWS 1615 (by decide +kernel) (by decide +kernel), inWS 54 (by decide +kernel) (by decide +kernel)⟩
theorem ml_X11_242 : ML RX11 242 yX11_cand M_X11_cand := ⟨inWS 1622 (by decide +kernel) (by decide +kernel), inWS 101 (by decide +kernel) (by decide +kernel), inWS 1531 (by decide +kernel) (by decide +kernel), by decide +kernel⟩
theorem mv_X11_cand : MLv yX11_cand := ⟨inWS 1529 (by decide +kernel) (by decide +kernel), inWS 1530 (by decide +kernel) (by decide +kernel)⟩
theorem ml_X11_239 : ML RX11 239 yX11_paper M_X11_paper := ⟨inWS 1621 (by decide +kernel) (by decide +kernel), inWS 101 (by decide +kernel) (by decide +kernel), inWS 1508 (by decide +kernel) (by decide +kernel), by decide +kernel⟩
theorem mv_X11_paper : MLv yX11_paper := ⟨inWS 1506 (by decide +kernel) (by decide +kernel), inWS 1507 (by decide +kernel) (by decide +kernel)⟩
theorem wf_X11_39 : Cond.fieldLink RX11 39 (TX11 15).1 (TX11 15).2.1 (TX11 15).2.2.1 ∈ WS := inWS 1319 (by decide +kernel) (by decide +kernel)
theorem ml_X11_245 : ML RX11 245 yX11_move M_X11_move := ⟨inWS 1590 (by decide +kernel) (by decide +kernel), inWS 101 (by decide +kernel) (by decide +kernel), inWS 1592 (by decide +kernel) (by decide +kernel), by decide +kernel⟩
theorem mt_X11_move : Cond.static yX11_move ∈ WS := inWS 1591 (by decide +kernel) (by decide +kernel)
theorem ml_X11_249 : ML RX11 249 yX11_statement M_X11_statement := ⟨inWS 1593 (by decide +kernel) (by decide +kernel), inWS 101 (by decide +kernel) (by decide +kernel), inWS 1596 (by decide +kernel) (by decide +kernel), by decide +kernel⟩
theorem mv_X11_statement : MLv yX11_statement := ⟨inWS 1595 (by decide +kernel) (by decide +kernel), inWS 49 (by decide +kernel) (by decide +kernel)⟩
theorem wf_X11_42 : Cond.fieldLink RX11 42 (TX11 16).1 (TX11 16).2.1 (TX11 16).2.2.1 ∈ WS := inWS 1320 (by decide +kernel) (by decide +kernel)
theorem wf_X11_48 : Cond.fieldLink RX11 48 (TX11 18).1 (TX11 18).2.1 (TX11 18).2.2.1 ∈ WS := inWS 1322 (by decide +kernel) (by decide +kernel)
theorem ml_X11_252 : ML RX11 252 yX11_rest M_X11_rest := ⟨inWS 1627 (by decide +kernel) (by decide +kernel), inWS 101 (by decide +kernel) (by decide +kernel), inWS 1630 (by decide +kernel) (by decide +kernel), by decide +kernel⟩
theorem mv_X11_rest : MLv yX11_rest := ⟨inWS 1629 (by decide +kernel) (by decide +kernel), inWS 56 (by decide +kernel) (by decide +kernel)⟩
theorem wf_X11_45 : Cond.fieldLink RX11 45 (TX11 17).1 (TX11 17).2.1 (TX11 17).2.2.1 ∈ WS := inWS 1321 (by decide +kernel) (by decide +kernel)
theorem ml_X11_255 : ML RX11 255 yX11_start M_X11_start := ⟨inWS 1659 (by decide +kernel) (by decide +kernel), inWS 101 (by decide +kernel) (by decide +kernel), inWS 1662 (by decide +kernel) (by decide +kernel), by decide +kernel⟩
theorem mv_X11_start : MLv yX11_start := ⟨inWS 1661 (by decide +kernel) (by decide +kernel), inWS 64 (by decide +kernel) (by decide +kernel)⟩
theorem wa_X11_258 : Cond.methodLink RX11 258 Lib.Math.max.name ∈ WS := inWS 1663 (by decide +kernel) (by decide +kernel)
theorem ml_X11_263 : ML RX11 263 yX11_timed M_X11_timed := ⟨inWS 1639 (by decide +kernel) (by decide +kernel), inWS 101 (by decide +kernel) (by decide +kernel), inWS 1642 (by decide +kernel) (by decide +kernel), by decide +kernel⟩
theorem mv_X11_timed : MLv yX11_timed := ⟨inWS 1641 (by decide +kernel) (by decide +kernel), inWS 59 (by decide +kernel) (by decide +kernel)⟩
theorem ml_X11_266 : ML RX11 266 yX11_isWaiting M_X11_isWaiting := ⟨inWS 1668 (by decide +kernel) (by decide +kernel), inWS 101 (by decide +kernel) (by decide +kernel), inWS 1671 (by decide +kernel) (by decide +kernel), by decide +kernel⟩
theorem mv_X11_isWaiting : MLv yX11_isWaiting := ⟨inWS 1670 (by decide +kernel) (by decide +kernel), inWS 66 (by decide +kernel) (by decide +kernel)⟩
theorem ml_X11_270 : ML RX11 270 yX11_isSitting M_X11_isSitting := ⟨inWS 1672 (by decide +kernel) (by decide +kernel), inWS 101 (by decide +kernel) (by decide +kernel), inWS 1675 (by decide +kernel) (by decide +kernel), by decide +kernel⟩
theorem mv_X11_isSitting : MLv yX11_isSitting := ⟨inWS 1674 (by decide +kernel) (by decide +kernel), inWS 67 (by decide +kernel) (by decide +kernel)⟩
theorem ml_X11_273 : ML RX11 273 yX11_rows M_X11_rows := ⟨inWS 1651 (by decide +kernel) (by decide +kernel), inWS 101 (by decide +kernel) (by decide +kernel), inWS 1654 (by decide +kernel) (by decide +kernel), by decide +kernel⟩
theorem mv_X11_rows : MLv yX11_rows := ⟨inWS 1653 (by decide +kernel) (by decide +kernel), inWS 62 (by decide +kernel) (by decide +kernel)⟩
theorem wf_X11_60 : Cond.fieldLink RX11 60 (TX11 22).1 (TX11 22).2.1 (TX11 22).2.2.1 ∈ WS := inWS 1326 (by decide +kernel) (by decide +kernel)
theorem wf_X11_63 : Cond.fieldLink RX11 63 (TX11 23).1 (TX11 23).2.1 (TX11 23).2.2.1 ∈ WS := inWS 1327 (by decide +kernel) (by decide +kernel)
theorem ml_X11_276 : ML RX11 276 yX11_isLaid M_X11_isLaid := ⟨inWS 1655 (by decide +kernel) (by decide +kernel), inWS 101 (by decide +kernel) (by decide +kernel), inWS 1658 (by decide +kernel) (by decide +kernel), by decide +kernel⟩
theorem mv_X11_isLaid : MLv yX11_isLaid := ⟨inWS 1657 (by decide +kernel) (by decide +kernel), inWS 63 (by decide +kernel) (by decide +kernel)⟩
theorem ml_X11_280 : ML RX11 280 yX11_keeps M_X11_keeps := ⟨inWS 1664 (by decide +kernel) (by decide +kernel), inWS 101 (by decide +kernel) (by decide +kernel), inWS 1667 (by decide +kernel) (by decide +kernel), by decide +kernel⟩
theorem mv_X11_keeps : MLv yX11_keeps := ⟨inWS 1666 (by decide +kernel) (by decide +kernel), inWS 65 (by decide +kernel) (by decide +kernel)⟩
theorem wf_X11_51 : Cond.fieldLink RX11 51 (TX11 19).1 (TX11 19).2.1 (TX11 19).2.2.1 ∈ WS := inWS 1323 (by decide +kernel) (by decide +kernel)
theorem wf_X11_54 : Cond.fieldLink RX11 54 (TX11 20).1 (TX11 20).2.1 (TX11 20).2.2.1 ∈ WS := inWS 1324 (by decide +kernel) (by decide +kernel)
theorem ml_X11_283 : ML RX11 283 yX11_next M_X11_next := ⟨inWS 1676 (by decide +kernel) (by decide +kernel), inWS 101 (by decide +kernel) (by decide +kernel), inWS 1679 (by decide +kernel) (by decide +kernel), by decide +kernel⟩
theorem mv_X11_next : MLv yX11_next := ⟨inWS 1678 (by decide +kernel) (by decide +kernel), inWS 68 (by decide +kernel) (by decide +kernel)⟩
theorem wf_X11_57 : Cond.fieldLink RX11 57 (TX11 21).1 (TX11 21).2.1 (TX11 21).2.2.1 ∈ WS := inWS 1325 (by decide +kernel) (by decide +kernel)
theorem wf_X11_66 : Cond.fieldLink RX11 66 (TX11 24).1 (TX11 24).2.1 (TX11 24).2.2.1 ∈ WS := inWS 1328 (by decide +kernel) (by decide +kernel)
theorem wf_X11_69 : Cond.fieldLink RX11 69 (TX11 25).1 (TX11 25).2.1 (TX11 25).2.2.1 ∈ WS := inWS 1329 (by decide +kernel) (by decide +kernel)
theorem wf_X11_72 : Cond.fieldLink RX11 72 (TX11 26).1 (TX11 26).2.1 (TX11 26).2.2.1 ∈ WS := inWS 1330 (by decide +kernel) (by decide +kernel)
theorem ml_X11_286 : ML RX11 286 yX11_tries M_X11_tries := ⟨inWS 1647 (by decide +kernel) (by decide +kernel), inWS 101 (by decide +kernel) (by decide +kernel), inWS 1650 (by decide +kernel) (by decide +kernel), by decide +kernel⟩
theorem mv_X11_tries : MLv yX11_tries := ⟨inWS 1649 (by decide +kernel) (by decide +kernel), inWS 61 (by decide +kernel) (by decide +kernel)⟩
theorem ml_X11_290 : ML RX11 290 yX11_plans M_X11_plans := ⟨inWS 1635 (by decide +kernel) (by decide +kernel), inWS 101 (by decide +kernel) (by decide +kernel), inWS 1638 (by decide +kernel) (by decide +kernel), by decide +kernel⟩
theorem mv_X11_plans : MLv yX11_plans := ⟨inWS 1637 (by decide +kernel) (by decide +kernel), inWS 58 (by decide +kernel) (by decide +kernel)⟩
theorem ml_X11_294 : ML RX11 294 yX11_isLawful M_X11_isLawful := ⟨inWS 1701 (by decide +kernel) (by decide +kernel), inWS 101 (by decide +kernel) (by decide +kernel), inWS 1704 (by decide +kernel) (by decide +kernel), by decide +kernel⟩
theorem mv_X11_isLawful : MLv yX11_isLawful := ⟨inWS 1703 (by decide +kernel) (by decide +kernel), inWS 71 (by decide +kernel) (by decide +kernel)⟩
theorem ml_X11_297 : ML RX11 297 yX11_cants M_X11_cants := ⟨inWS 1631 (by decide +kernel) (by decide +kernel), inWS 101 (by decide +kernel) (by decide +kernel), inWS 1634 (by decide +kernel) (by decide +kernel), by decide +kernel⟩
theorem mv_X11_cants : MLv yX11_cants := ⟨inWS 1633 (by decide +kernel) (by decide +kernel), inWS 57 (by decide +kernel) (by decide +kernel)⟩
theorem ml_X11_300 : ML RX11 300 yX11_elsewhere M_X11_elsewhere := ⟨inWS 1684 (by decide +kernel) (by decide +kernel), inWS 101 (by decide +kernel) (by decide +kernel), inWS 1687 (by decide +kernel) (by decide +kernel), by decide +kernel⟩
theorem mv_X11_elsewhere : MLv yX11_elsewhere := ⟨inWS 1686 (by decide +kernel) (by decide +kernel), inWS 69 (by decide +kernel) (by decide +kernel)⟩
theorem wc_X11_303 : Cond.constantLong "ClashDaysModel" 303 (6 : Int64) ∈ WS := inWS 1696 (by decide +kernel) (by decide +kernel)
theorem ml_X11_305 : ML RX11 305 yX11_clash M_X11_clash := ⟨inWS 1697 (by decide +kernel) (by decide +kernel), inWS 101 (by decide +kernel) (by decide +kernel), inWS 1700 (by decide +kernel) (by decide +kernel), by decide +kernel⟩
theorem mv_X11_clash : MLv yX11_clash := ⟨inWS 1699 (by decide +kernel) (by decide +kernel), inWS 70 (by decide +kernel) (by decide +kernel)⟩
theorem wc_X11_308 : Cond.constantLong "ClashDaysModel" 308 (2 : Int64) ∈ WS := inWS 1709 (by decide +kernel) (by decide +kernel)
theorem ml_X11_310 : ML RX11 310 yX11_doing M_X11_doing := ⟨inWS 1714 (by decide +kernel) (by decide +kernel), inWS 101 (by decide +kernel) (by decide +kernel), inWS 1717 (by decide +kernel) (by decide +kernel), by decide +kernel⟩
theorem mv_X11_doing : MLv yX11_doing := ⟨inWS 1716 (by decide +kernel) (by decide +kernel), inWS 72 (by decide +kernel) (by decide +kernel)⟩
theorem ml_X11_313 : ML RX11 313 yX11_measured M_X11_measured := ⟨inWS 1722 (by decide +kernel) (by decide +kernel), inWS 101 (by decide +kernel) (by decide +kernel), inWS 1725 (by decide +kernel) (by decide +kernel), by decide +kernel⟩
theorem mv_X11_measured : MLv yX11_measured := ⟨inWS 1724 (by decide +kernel) (by decide +kernel), inWS 73 (by decide +kernel) (by decide +kernel)⟩
theorem wf_X11_75 : Cond.fieldLink RX11 75 (TX11 27).1 (TX11 27).2.1 (TX11 27).2.2.1 ∈ WS := inWS 1331 (by decide +kernel) (by decide +kernel)
theorem wf_X11_78 : Cond.fieldLink RX11 78 (TX11 28).1 (TX11 28).2.1 (TX11 28).2.2.1 ∈ WS := inWS 1332 (by decide +kernel) (by decide +kernel)
theorem wf_X11_322 : Cond.fieldLink RX11 322 (TX11 35).1 (TX11 35).2.1 (TX11 35).2.2.1 ∈ WS := inWS 1339 (by decide +kernel) (by decide +kernel)
theorem wf_X11_96 : Cond.fieldLink RX11 96 (TX11 36).1 (TX11 36).2.1 (TX11 36).2.2.1 ∈ WS := inWS 1340 (by decide +kernel) (by decide +kernel)
theorem ml_X11_316 : ML RX11 316 yX11_all M_X11_all := ⟨inWS 1742 (by decide +kernel) (by decide +kernel), inWS 101 (by decide +kernel) (by decide +kernel), inWS 1745 (by decide +kernel) (by decide +kernel), by decide +kernel⟩
theorem mv_X11_all : MLv yX11_all := ⟨inWS 1744 (by decide +kernel) (by decide +kernel), inWS 75 (by decide +kernel) (by decide +kernel)⟩
theorem wf_X11_319 : Cond.fieldLink RX11 319 (TX11 29).1 (TX11 29).2.1 (TX11 29).2.2.1 ∈ WS := inWS 1333 (by decide +kernel) (by decide +kernel)
theorem ml_X11_325 : ML RX11 325 yX11_what M_X11_what := ⟨inWS 1746 (by decide +kernel) (by decide +kernel), inWS 101 (by decide +kernel) (by decide +kernel), inWS 1749 (by decide +kernel) (by decide +kernel), by decide +kernel⟩
theorem mv_X11_what : MLv yX11_what := ⟨inWS 1748 (by decide +kernel) (by decide +kernel), inWS 76 (by decide +kernel) (by decide +kernel)⟩
theorem wf_X11_81 : Cond.fieldLink RX11 81 (TX11 30).1 (TX11 30).2.1 (TX11 30).2.2.1 ∈ WS := inWS 1334 (by decide +kernel) (by decide +kernel)
theorem wf_X11_84 : Cond.fieldLink RX11 84 (TX11 31).1 (TX11 31).2.1 (TX11 31).2.2.1 ∈ WS := inWS 1335 (by decide +kernel) (by decide +kernel)
theorem wf_X11_87 : Cond.fieldLink RX11 87 (TX11 32).1 (TX11 32).2.1 (TX11 32).2.2.1 ∈ WS := inWS 1336 (by decide +kernel) (by decide +kernel)
theorem wf_X11_90 : Cond.fieldLink RX11 90 (TX11 33).1 (TX11 33).2.1 (TX11 33).2.2.1 ∈ WS := inWS 1337 (by decide +kernel) (by decide +kernel)
theorem wf_X11_93 : Cond.fieldLink RX11 93 (TX11 34).1 (TX11 34).2.1 (TX11 34).2.2.1 ∈ WS := inWS 1338 (by decide +kernel) (by decide +kernel)
theorem ml_X11_328 : ML RX11 328 yX11_watcher M_X11_watcher := ⟨inWS 1750 (by decide +kernel) (by decide +kernel), inWS 101 (by decide +kernel) (by decide +kernel), inWS 1753 (by decide +kernel) (by decide +kernel), by decide +kernel⟩
theorem mv_X11_watcher : MLv yX11_watcher := ⟨inWS 1752 (by decide +kernel) (by decide +kernel), inWS 77 (by decide +kernel) (by decide +kernel)⟩
theorem ml_X11_331 : ML RX11 331 yX11_begin M_X11_begin := ⟨inWS 1758 (by decide +kernel) (by decide +kernel), inWS 101 (by decide +kernel) (by decide +kernel), inWS 1761 (by decide +kernel) (by decide +kernel), by decide +kernel⟩
theorem mv_X11_begin : MLv yX11_begin := ⟨inWS 1760 (by decide +kernel) (by decide +kernel), inWS 79 (by decide +kernel) (by decide +kernel)⟩
theorem ml_X11_334 : ML RX11 334 yX11_duties M_X11_duties := ⟨inWS 1738 (by decide +kernel) (by decide +kernel), inWS 101 (by decide +kernel) (by decide +kernel), inWS 1741 (by decide +kernel) (by decide +kernel), by decide +kernel⟩
theorem mv_X11_duties : MLv yX11_duties := ⟨inWS 1740 (by decide +kernel) (by decide +kernel), inWS 74 (by decide +kernel) (by decide +kernel)⟩
theorem ml_X11_337 : ML RX11 337 yX11_atOnce M_X11_atOnce := ⟨inWS 1754 (by decide +kernel) (by decide +kernel), inWS 101 (by decide +kernel) (by decide +kernel), inWS 1757 (by decide +kernel) (by decide +kernel), by decide +kernel⟩
theorem mv_X11_atOnce : MLv yX11_atOnce := ⟨inWS 1756 (by decide +kernel) (by decide +kernel), inWS 78 (by decide +kernel) (by decide +kernel)⟩
theorem wf_X11_340 : Cond.fieldLink RX11 340 (TX11 37).1 (TX11 37).2.1 (TX11 37).2.2.1 ∈ WS := inWS 1341 (by decide +kernel) (by decide +kernel)
theorem wf_X11_99 : Cond.fieldLink RX11 99 (TX11 38).1 (TX11 38).2.1 (TX11 38).2.2.1 ∈ WS := inWS 1342 (by decide +kernel) (by decide +kernel)
theorem wf_X11_102 : Cond.fieldLink RX11 102 (TX11 39).1 (TX11 39).2.1 (TX11 39).2.2.1 ∈ WS := inWS 1343 (by decide +kernel) (by decide +kernel)
theorem wf_X11_114 : Cond.fieldLink RX11 114 (TX11 43).1 (TX11 43).2.1 (TX11 43).2.2.1 ∈ WS := inWS 1347 (by decide +kernel) (by decide +kernel)
theorem wf_X11_117 : Cond.fieldLink RX11 117 (TX11 44).1 (TX11 44).2.1 (TX11 44).2.2.1 ∈ WS := inWS 1348 (by decide +kernel) (by decide +kernel)
theorem wa_X11_343 : Cond.methodLink RX11 343 Lib.Math.min.name ∈ WS := inWS 1782 (by decide +kernel) (by decide +kernel)
theorem ml_X11_346 : ML RX11 346 yX11_isSeat M_X11_isSeat := ⟨inWS 1783 (by decide +kernel) (by decide +kernel), inWS 101 (by decide +kernel) (by decide +kernel), inWS 1786 (by decide +kernel) (by decide +kernel), by decide +kernel⟩
theorem mv_X11_isSeat : MLv yX11_isSeat := ⟨inWS 1785 (by decide +kernel) (by decide +kernel), inWS 83 (by decide +kernel) (by decide +kernel)⟩
theorem wf_X11_108 : Cond.fieldLink RX11 108 (TX11 41).1 (TX11 41).2.1 (TX11 41).2.2.1 ∈ WS := inWS 1345 (by decide +kernel) (by decide +kernel)
theorem wf_X11_105 : Cond.fieldLink RX11 105 (TX11 40).1 (TX11 40).2.1 (TX11 40).2.2.1 ∈ WS := inWS 1344 (by decide +kernel) (by decide +kernel)
theorem ml_X11_349 : ML RX11 349 yX11_piecesOf M_X11_piecesOf := ⟨inWS 1774 (by decide +kernel) (by decide +kernel), inWS 101 (by decide +kernel) (by decide +kernel), inWS 1777 (by decide +kernel) (by decide +kernel), by decide +kernel⟩
theorem mv_X11_piecesOf : MLv yX11_piecesOf := ⟨inWS 1776 (by decide +kernel) (by decide +kernel), inWS 81 (by decide +kernel) (by decide +kernel)⟩
theorem wf_X11_111 : Cond.fieldLink RX11 111 (TX11 42).1 (TX11 42).2.1 (TX11 42).2.2.1 ∈ WS := inWS 1346 (by decide +kernel) (by decide +kernel)
theorem ml_X11_352 : ML RX11 352 yX11_isRoomed M_X11_isRoomed := ⟨inWS 1778 (by decide +kernel) (by decide +kernel), inWS 101 (by decide +kernel) (by decide +kernel), inWS 1781 (by decide +kernel) (by decide +kernel), by decide +kernel⟩
theorem mv_X11_isRoomed : MLv yX11_isRoomed := ⟨inWS 1780 (by decide +kernel) (by decide +kernel), inWS 82 (by decide +kernel) (by decide +kernel)⟩
theorem ml_X11_356 : ML RX11 356 yX11_roomed M_X11_roomed := ⟨inWS 1787 (by decide +kernel) (by decide +kernel), inWS 101 (by decide +kernel) (by decide +kernel), inWS 1790 (by decide +kernel) (by decide +kernel), by decide +kernel⟩
theorem mv_X11_roomed : MLv yX11_roomed := ⟨inWS 1789 (by decide +kernel) (by decide +kernel), inWS 84 (by decide +kernel) (by decide +kernel)⟩
theorem ml_X11_359 : ML RX11 359 yX11_seats M_X11_seats := ⟨inWS 1770 (by decide +kernel) (by decide +kernel), inWS 101 (by decide +kernel) (by decide +kernel), inWS 1773 (by decide +kernel) (by decide +kernel), by decide +kernel⟩
theorem mv_X11_seats : MLv yX11_seats := ⟨inWS 1772 (by decide +kernel) (by decide +kernel), inWS 80 (by decide +kernel) (by decide +kernel)⟩
theorem ml_X11_362 : ML RX11 362 yX11_keptInAll M_X11_keptInAll := ⟨inWS 1807 (by decide +kernel) (by decide +kernel), inWS 101 (by decide +kernel) (by decide +kernel), inWS 1810 (by decide +kernel) (by decide +kernel), by decide +kernel⟩
theorem mv_X11_keptInAll : MLv yX11_keptInAll := ⟨inWS 1809 (by decide +kernel) (by decide +kernel), inWS 85 (by decide +kernel) (by decide +kernel)⟩
theorem ml_X11_365 : ML RX11 365 yX11_wrongShelf M_X11_wrongShelf := ⟨inWS 1827 (by decide +kernel) (by decide +kernel), inWS 101 (by decide +kernel) (by decide +kernel), inWS 1830 (by decide +kernel) (by decide +kernel), by decide +kernel⟩
theorem mv_X11_wrongShelf : MLv yX11_wrongShelf := ⟨inWS 1829 (by decide +kernel) (by decide +kernel), inWS 86 (by decide +kernel) (by decide +kernel)⟩
theorem wc_X11_368 : Cond.constantLong "ClashDaysModel" 368 (11 : Int64) ∈ WS := inWS 1835 (by decide +kernel) (by decide +kernel)
theorem wc_X11_370 : Cond.constant "ClashDaysModel" 370 (1103515245 : Int32) ∈ WS := inWS 1849 (by decide +kernel) (by decide +kernel)
theorem wc_X11_371 : Cond.constantLong "ClashDaysModel" 371 (60 : Int64) ∈ WS := inWS 1844 (by decide +kernel) (by decide +kernel)
theorem ml_X11_373 : ML RX11 373 yX11_draw M_X11_draw := ⟨inWS 1845 (by decide +kernel) (by decide +kernel), inWS 101 (by decide +kernel) (by decide +kernel), inWS 1848 (by decide +kernel) (by decide +kernel), by decide +kernel⟩
theorem mv_X11_draw : MLv yX11_draw := ⟨inWS 1847 (by decide +kernel) (by decide +kernel), inWS 87 (by decide +kernel) (by decide +kernel)⟩
theorem wf_X11_13 : Cond.fieldLink RX11 13 (TX11 1).1 (TX11 1).2.1 (TX11 1).2.2.1 ∈ WS := inWS 1305 (by decide +kernel) (by decide +kernel)
theorem wf_X11_376 : Cond.fieldLink RX11 376 (TX11 2).1 (TX11 2).2.1 (TX11 2).2.2.1 ∈ WS := inWS 1306 (by decide +kernel) (by decide +kernel)
theorem ml_X11_380 : ML RX11 380 yX11_taken M_X11_taken := ⟨inWS 1866 (by decide +kernel) (by decide +kernel), inWS 101 (by decide +kernel) (by decide +kernel), inWS 1869 (by decide +kernel) (by decide +kernel), by decide +kernel⟩
theorem mv_X11_taken : MLv yX11_taken := ⟨inWS 1868 (by decide +kernel) (by decide +kernel), inWS 88 (by decide +kernel) (by decide +kernel)⟩
theorem ml_X11_383 : ML RX11 383 yX11_badDays M_X11_badDays := ⟨inWS 1870 (by decide +kernel) (by decide +kernel), inWS 101 (by decide +kernel) (by decide +kernel), inWS 1873 (by decide +kernel) (by decide +kernel), by decide +kernel⟩
theorem mv_X11_badDays : MLv yX11_badDays := ⟨inWS 1872 (by decide +kernel) (by decide +kernel), inWS 89 (by decide +kernel) (by decide +kernel)⟩
theorem wc_X11_386 : Cond.constantLong "ClashDaysModel" 386 (16 : Int64) ∈ WS := inWS 1874 (by decide +kernel) (by decide +kernel)
