/-! Static facts of the program: methods, links, constants; each entry of the code tables checked -/
def jTBL : List Cond := lw_tbl.filter goodWord
theorem jT_of {w : Cond} (h : w ∈ lw_tbl) (hg : goodWord w = true) : w ∈ jTBL := List.mem_filter.mpr ⟨h, hg⟩
theorem jT_good {w : Cond} (h : w ∈ jTBL) : w ∈ lw_tbl ∧ goodWord w = true := List.mem_filter.mp h
def jown : List String := ["EelThroat$Acts", "EelThroat$Asking", "EelThroat$Guessing", "EelThroat$Notes", "EelThroat$River", "EelThroat$Rule", "EelThroat$Scene", "EelThroat$Stream", "EelThroat$Tape", "EelThroat$Water", "EelThroat", "EelThroatModel", "EelThroat$Hands", "java/lang/Math", "java/lang/Integer"]
/-- name, bytes, locals, type of the answer, how many arguments, static, kind and family of the answer, class's number -/
abbrev jMI : Type := MethodName × ByteArray × Nat × Option FieldType × Nat × Bool × Nat × Nat × Nat
def jinfo : List jMI := [
  (yX0_keep, cX0_keep, 2, none, 2, false, 0, 0, 0),
  (yX0_takeBack, cX0_takeBack, 2, (some .int), 2, false, 1, 0, 0),
  (yX1_after, cX1_after, 4, (some (.object "EelThroat$Water")), 4, false, 3, 9, 1),
  (yX1_firstCatch, cX1_firstCatch, 6, (some .int), 5, false, 1, 0, 1),
  (yX1_firstFull, cX1_firstFull, 5, (some .int), 3, false, 1, 0, 1),
  (yX1_bestPlace, cX1_bestPlace, 15, (some .int), 6, false, 1, 0, 1),
  (yX1_smellsOfFree, cX1_smellsOfFree, 3, (some .int), 1, true, 1, 0, 1),
  (yX1_poolsBefore, cX1_poolsBefore, 8, (some .int), 6, false, 1, 0, 1),
  (yX1_leastThroat, cX1_leastThroat, 6, (some .int), 5, false, 1, 0, 1),
  (yX1_steadyBaits, cX1_steadyBaits, 10, (some .int), 7, false, 1, 0, 1),
  (yX1_sizeIn, cX1_sizeIn, 4, (some .int), 3, false, 1, 0, 1),
  (yX1_isSteady, cX1_isSteady, 5, (some .boolean), 2, false, 1, 0, 1),
  (yX1_firstRound, cX1_firstRound, 7, (some .int), 4, false, 1, 0, 1),
  (yX1_drawnNights, cX1_drawnNights, 11, (some .int), 7, false, 1, 0, 1),
  (yX1_draw, cX1_draw, 1, (some .int), 1, false, 1, 0, 1),
  (yX2_owners, cX2_owners, 6, (some .int), 4, false, 1, 0, 2),
  (yX2_sieve, cX2_sieve, 7, (some .int), 5, false, 1, 0, 2),
  (yX2_firstFitting, cX2_firstFitting, 1, (some .int), 1, false, 1, 0, 2),
  (yX2_fits, cX2_fits, 8, (some .boolean), 5, false, 1, 0, 2),
  (yX2_bestParting, cX2_bestParting, 8, (some .int), 4, false, 1, 0, 2),
  (yX2_mostAlike, cX2_mostAlike, 7, (some .int), 3, false, 1, 0, 2),
  (yX3_strayed, cX3_strayed, 4, (some .int), 1, true, 1, 0, 12),
  (yX3_ringed, cX3_ringed, 5, (some .int), 2, true, 1, 0, 12),
  (yX3_isRing, cX3_isRing, 8, (some .boolean), 2, true, 1, 0, 12),
  (yX3_share, cX3_share, 9, (some .int), 3, true, 1, 0, 12),
  (yX3_sizesOf, cX3_sizesOf, 4, (some .int), 2, true, 1, 0, 12),
  (yX4_add, cX4_add, 4, (some .boolean), 4, false, 1, 0, 3),
  (yX4_copy, cX4_copy, 2, none, 2, false, 0, 0, 3),
  (yX4_lastNight, cX4_lastNight, 3, (some .int), 1, false, 1, 0, 3),
  (yX4_hold, cX4_hold, 3, (some .boolean), 2, false, 1, 0, 3),
  (yX4_poolOrNone, cX4_poolOrNone, 1, (some .int), 1, true, 1, 0, 3),
  (yX5_copy, cX5_copy, 2, none, 2, false, 0, 0, 4),
  (yX5_round, cX5_round, 1, (some .int), 1, false, 1, 0, 4),
  (yX5_lightOf, cX5_lightOf, 2, (some .int), 2, false, 1, 0, 4),
  (yX5_read, cX5_read, 5, (some .boolean), 2, false, 1, 0, 4),
  (yX5_hasNoRoom, cX5_hasNoRoom, 2, (some .boolean), 2, false, 1, 0, 4),
  (yX5_readClause, cX5_readClause, 3, none, 3, false, 0, 0, 4),
  (yX6_read, cX6_read, 4, (some .boolean), 2, false, 1, 0, 5),
  (yX6_emit, cX6_emit, 3, none, 3, false, 0, 0, 5),
  (yX6_readTest, cX6_readTest, 5, (some .boolean), 3, false, 1, 0, 5),
  (yX6_readPart, cX6_readPart, 5, (some .boolean), 3, false, 1, 0, 5),
  (yX6_readFact, cX6_readFact, 5, (some .boolean), 3, false, 1, 0, 5),
  (yX6_readComparison, cX6_readComparison, 4, (some .boolean), 2, false, 1, 0, 5),
  (yX6_readSign, cX6_readSign, 1, (some .int), 1, true, 1, 0, 5),
  (yX6_readSum, cX6_readSum, 6, (some .boolean), 2, false, 1, 0, 5),
  (yX6_emitSign, cX6_emitSign, 2, none, 2, false, 0, 0, 5),
  (yX6_readValue, cX6_readValue, 4, (some .boolean), 2, false, 1, 0, 5),
  (yX6_hasUnit, cX6_hasUnit, 3, (some .boolean), 3, false, 1, 0, 5),
  (yX7_copy, cX7_copy, 2, none, 2, false, 0, 0, 6),
  (yX7_bitsAt, cX7_bitsAt, 2, (some .int), 2, false, 1, 0, 6),
  (yX7_freeBits, cX7_freeBits, 3, (some .int), 1, false, 1, 0, 6),
  (yX8_pass, cX8_pass, 7, none, 5, false, 0, 0, 7),
  (yX8_isStill, cX8_isStill, 1, (some .boolean), 1, false, 1, 0, 7),
  (yX8_step, cX8_step, 7, (some .int), 5, false, 1, 0, 7),
  (yX8_countPools, cX8_countPools, 2, none, 1, false, 0, 0, 7),
  (yX8_goalOf, cX8_goalOf, 10, (some .int), 2, false, 1, 0, 7),
  (yX8_goesToSea, cX8_goesToSea, 3, (some .boolean), 2, false, 1, 0, 7),
  (yX8_fillTraps, cX8_fillTraps, 4, (some .int), 1, false, 1, 0, 7),
  (yX8_worthOfPool, cX8_worthOfPool, 4, (some .long), 1, false, 2, 0, 7),
  (yX8_join, cX8_join, 5, (some .long), 3, true, 2, 0, 7),
  (yX8_wordValue, cX8_wordValue, 4, (some .int), 2, false, 1, 0, 7),
  (yX9_put, cX9_put, 3, none, 2, false, 0, 0, 8),
  (yX9_rewind, cX9_rewind, 1, none, 1, false, 0, 0, 8),
  (yX9_blame, cX9_blame, 3, (some .boolean), 3, false, 1, 0, 8),
  (yX9_peek, cX9_peek, 1, (some .int), 1, false, 1, 0, 8),
  (yX9_onDigit, cX9_onDigit, 1, (some .boolean), 1, false, 1, 0, 8),
  (yX9_skip, cX9_skip, 1, none, 1, false, 0, 0, 8),
  (yX9_over, cX9_over, 1, (some .boolean), 1, false, 1, 0, 8),
  (yX9_took, cX9_took, 2, (some .boolean), 2, false, 1, 0, 8),
  (yX9_find, cX9_find, 7, (some .int), 2, false, 1, 0, 8),
  (yX9_passWord, cX9_passWord, 1, none, 1, false, 0, 0, 8),
  (yX9_tookWord, cX9_tookWord, 2, (some .boolean), 2, false, 1, 0, 8),
  (yX9_number, cX9_number, 6, (some .int), 3, false, 1, 0, 8),
  (yX10_copy, cX10_copy, 2, none, 2, false, 0, 0, 9),
  (yX10_begin, cX10_begin, 3, none, 2, false, 0, 0, 9),
  (yX10_bitsAt, cX10_bitsAt, 5, (some .int), 3, false, 1, 0, 9),
  (yX10_fullTraps, cX10_fullTraps, 4, (some .int), 2, false, 1, 0, 9),
  (yX10_places, cX10_places, 5, (some .long), 2, false, 2, 0, 9),
  (yX11_feed, cX11_feed, 6, (some .int), 6, false, 1, 0, 10),
  (yX11_end, cX11_end, 2, (some .int), 2, false, 1, 0, 10),
  (yX11_river, cX11_river, 2, (some .int), 1, false, 1, 0, 10),
  (yX11_rule, cX11_rule, 2, (some .int), 1, false, 1, 0, 10),
  (yX11_force, cX11_force, 3, (some .int), 2, false, 1, 0, 10),
  (yX11_memory, cX11_memory, 3, (some .int), 3, false, 1, 0, 10),
  (yX11_trap, cX11_trap, 3, (some .int), 3, false, 1, 0, 10),
  (yX11_person, cX11_person, 2, (some .int), 2, false, 1, 0, 10),
  (yX11_moon, cX11_moon, 2, (some .int), 2, false, 1, 0, 10),
  (yX11_night, cX11_night, 1, (some .int), 1, false, 1, 0, 10),
  (yX11_lift, cX11_lift, 4, (some .int), 2, false, 1, 0, 10),
  (yX11_sink, cX11_sink, 6, (some .int), 4, false, 1, 0, 10),
  (yX11_free, cX11_free, 4, (some .int), 3, false, 1, 0, 10),
  (yX11_give, cX11_give, 4, (some .int), 3, false, 1, 0, 10),
  (yX11_undo, cX11_undo, 1, (some .int), 1, false, 1, 0, 10),
  (yX11_ahead, cX11_ahead, 3, (some .int), 3, false, 1, 0, 10),
  (yX11_caught, cX11_caught, 3, (some .int), 3, false, 1, 0, 10),
  (yX11_atSea, cX11_atSea, 2, (some .int), 2, false, 1, 0, 10),
  (yX11_full, cX11_full, 1, (some .int), 1, false, 1, 0, 10),
  (yX11_bestSink, cX11_bestSink, 4, (some .int), 4, false, 1, 0, 10),
  (yX11_lay, cX11_lay, 6, (some .int), 5, false, 1, 0, 10),
  (yX11_throats, cX11_throats, 3, (some .int), 3, false, 1, 0, 10),
  (yX11_astray, cX11_astray, 1, (some .int), 1, false, 1, 0, 10),
  (yX11_rings, cX11_rings, 2, (some .int), 2, false, 1, 0, 10),
  (yX11_right, cX11_right, 4, (some .int), 2, false, 1, 0, 10),
  (yX11_of, cX11_of, 2, (some .int), 2, false, 1, 0, 10),
  (yX11_rests, cX11_rests, 5, (some .int), 5, false, 1, 0, 10),
  (yX11_cycle, cX11_cycle, 2, (some .int), 2, false, 1, 0, 10),
  (yX11_pence, cX11_pence, 3, (some .int), 3, false, 1, 0, 10),
  (yX11_note, cX11_note, 4, (some .int), 4, false, 1, 0, 10),
  (yX11_ruled, cX11_ruled, 3, (some .int), 2, false, 1, 0, 10),
  (yX11_look, cX11_look, 4, (some .int), 3, false, 1, 0, 10),
  (yX11_seed, cX11_seed, 3, (some .int), 2, false, 1, 0, 10),
  (yX11_moons, cX11_moons, 5, (some .int), 5, false, 1, 0, 10),
  (yX11_count, cX11_count, 2, (some .int), 2, false, 1, 0, 10),
  (yX11_image, cX11_image, 2, (some .int), 2, false, 1, 0, 10),
  (yX11_back, cX11_back, 2, (some .int), 2, false, 1, 0, 10),
  (yX11_within, cX11_within, 3, (some .boolean), 3, true, 1, 0, 10),
  (yX11_isFreePlace, cX11_isFreePlace, 1, (some .boolean), 1, true, 1, 0, 10),
  (yX11_isMemory, cX11_isMemory, 2, (some .boolean), 2, false, 1, 0, 10),
  (yX11_isTrap, cX11_isTrap, 2, (some .boolean), 2, false, 1, 0, 10),
  (yX11_isPerson, cX11_isPerson, 2, (some .boolean), 2, false, 1, 0, 10),
  (yX11_isPool, cX11_isPool, 2, (some .boolean), 2, false, 1, 0, 10),
  (yX11_isEmptyTrap, cX11_isEmptyTrap, 2, (some .boolean), 2, false, 1, 0, 10),
  (yX11_isFree, cX11_isFree, 2, (some .boolean), 2, false, 1, 0, 10),
  (yX11_isHad, cX11_isHad, 2, (some .boolean), 2, false, 1, 0, 10),
  (yX11_ruling, cX11_ruling, 1, (some (.object "EelThroat$Rule")), 1, false, 3, 5, 10),
  (yX12_in, cX12_in, 6, (some .boolean), 3, true, 1, 0, 11),
  (yX12_isOf, cX12_isOf, 2, (some .boolean), 2, true, 1, 0, 11),
  (yX12_bits, cX12_bits, 3, (some .int), 1, true, 1, 0, 11),
  (yX12_four, cX12_four, 3, none, 2, false, 0, 0, 11),
  (yX12_feed, cX12_feed, 6, (some .int), 6, false, 1, 0, 11),
  (yX12_end, cX12_end, 2, (some .int), 2, false, 1, 0, 11),
  (yX12_fails, cX12_fails, 3, (some .boolean), 3, false, 1, 0, 11),
  (yX12_see, cX12_see, 1, (some .int), 1, false, 1, 0, 11),
  (yX12_isDigit, cX12_isDigit, 2, (some .boolean), 2, false, 1, 0, 11),
  (yX12_isLetter, cX12_isLetter, 2, (some .boolean), 2, false, 1, 0, 11),
  (yX12_isWord, cX12_isWord, 6, (some .boolean), 2, false, 1, 0, 11),
  (yX12_passWord, cX12_passWord, 1, none, 1, false, 0, 0, 11),
  (yX12_takesWord, cX12_takesWord, 3, (some .boolean), 2, false, 1, 0, 11),
  (yX12_numberHere, cX12_numberHere, 5, (some .boolean), 3, false, 1, 0, 11),
  (yX12_wordHere, cX12_wordHere, 1, (some .int), 1, false, 1, 0, 11),
  (yX12_puts, cX12_puts, 3, none, 3, false, 0, 0, 11),
  (yX12_makes, cX12_makes, 2, (some .boolean), 2, false, 1, 0, 11),
  (yX12_opens, cX12_opens, 2, (some .boolean), 2, false, 1, 0, 11),
  (yX12_strength, cX12_strength, 1, (some .int), 1, true, 1, 0, 11),
  (yX12_layDown, cX12_layDown, 2, none, 2, false, 0, 0, 11),
  (yX12_value, cX12_value, 3, (some .boolean), 1, false, 1, 0, 11),
  (yX12_term, cX12_term, 2, (some .boolean), 1, false, 1, 0, 11),
  (yX12_sum, cX12_sum, 2, (some .boolean), 1, false, 1, 0, 11),
  (yX12_compare, cX12_compare, 5, (some .boolean), 1, false, 1, 0, 11),
  (yX12_fact, cX12_fact, 3, (some .boolean), 1, false, 1, 0, 11),
  (yX12_isInside, cX12_isInside, 2, (some .boolean), 1, false, 1, 0, 11),
  (yX12_closes, cX12_closes, 1, none, 1, false, 0, 0, 11),
  (yX12_tested, cX12_tested, 3, (some .boolean), 1, false, 1, 0, 11),
  (yX12_isGoHere, cX12_isGoHere, 2, (some .boolean), 1, false, 1, 0, 11),
  (yX12_cellHere, cX12_cellHere, 4, (some .boolean), 4, false, 1, 0, 11),
  (yX12_isRiverHere, cX12_isRiverHere, 2, (some .boolean), 2, false, 1, 0, 11),
  (yX12_isMoonHere, cX12_isMoonHere, 2, (some .boolean), 2, false, 1, 0, 11),
  (yX12_isPersonHere, cX12_isPersonHere, 2, (some .boolean), 2, false, 1, 0, 11),
  (yX12_isMemoryHere, cX12_isMemoryHere, 3, (some .boolean), 2, false, 1, 0, 11),
  (yX12_isTrapHere, cX12_isTrapHere, 3, (some .boolean), 2, false, 1, 0, 11),
  (yX12_riverLineHere, cX12_riverLineHere, 2, (some .boolean), 2, false, 1, 0, 11),
  (yX12_isRiverWord, cX12_isRiverWord, 1, (some .boolean), 1, false, 1, 0, 11),
  (yX12_clauseHere, cX12_clauseHere, 3, (some .boolean), 1, false, 1, 0, 11),
  (yX12_readsAll, cX12_readsAll, 2, (some .boolean), 1, false, 1, 0, 11),
  (yX12_rule, cX12_rule, 1, (some .int), 1, false, 1, 0, 11),
  (yX12_river, cX12_river, 2, (some .int), 1, false, 1, 0, 11),
  (yX12_isRule, cX12_isRule, 2, (some .boolean), 2, false, 1, 0, 11),
  (yX12_push, cX12_push, 3, none, 2, false, 0, 0, 11),
  (yX12_pop, cX12_pop, 1, (some .long), 1, false, 2, 0, 11),
  (yX12_one, cX12_one, 5, (some .long), 3, true, 2, 0, 11),
  (yX12_reckons, cX12_reckons, 11, (some .long), 4, false, 2, 0, 11),
  (yX12_isRiver, cX12_isRiver, 1, (some .boolean), 1, false, 1, 0, 11),
  (yX12_rounds, cX12_rounds, 1, (some .int), 1, false, 1, 0, 11),
  (yX12_isPool, cX12_isPool, 2, (some .boolean), 2, false, 1, 0, 11),
  (yX12_isPerson, cX12_isPerson, 2, (some .boolean), 2, false, 1, 0, 11),
  (yX12_isMemory, cX12_isMemory, 2, (some .boolean), 2, false, 1, 0, 11),
  (yX12_isTrap, cX12_isTrap, 2, (some .boolean), 2, false, 1, 0, 11),
  (yX12_isFree, cX12_isFree, 2, (some .boolean), 2, false, 1, 0, 11),
  (yX12_isHad, cX12_isHad, 2, (some .boolean), 2, false, 1, 0, 11),
  (yX12_poolOf, cX12_poolOf, 2, (some .int), 2, false, 1, 0, 11),
  (yX12_baitOf, cX12_baitOf, 2, (some .int), 2, false, 1, 0, 11),
  (yX12_memoryIn, cX12_memoryIn, 3, (some .int), 2, false, 1, 0, 11),
  (yX12_isEmptyTrap, cX12_isEmptyTrap, 2, (some .boolean), 2, false, 1, 0, 11),
  (yX12_onesThat, cX12_onesThat, 5, (some .int), 3, false, 1, 0, 11),
  (yX12_lightOn, cX12_lightOn, 2, (some .int), 2, false, 1, 0, 11),
  (yX12_begins, cX12_begins, 2, none, 1, false, 0, 0, 11),
  (yX12_force, cX12_force, 3, (some .int), 2, false, 1, 0, 11),
  (yX12_memory, cX12_memory, 3, (some .int), 3, false, 1, 0, 11),
  (yX12_trap, cX12_trap, 3, (some .int), 3, false, 1, 0, 11),
  (yX12_person, cX12_person, 2, (some .int), 2, false, 1, 0, 11),
  (yX12_moon, cX12_moon, 2, (some .int), 2, false, 1, 0, 11),
  (yX12_summedBy, cX12_summedBy, 4, (some .long), 2, false, 2, 0, 11),
  (yX12_sumOf, cX12_sumOf, 7, (some .long), 3, false, 2, 0, 11),
  (yX12_choice, cX12_choice, 9, (some .int), 2, false, 1, 0, 11),
  (yX12_swim, cX12_swim, 4, none, 1, false, 0, 0, 11),
  (yX12_fitsIn, cX12_fitsIn, 3, (some .boolean), 3, false, 1, 0, 11),
  (yX12_catches, cX12_catches, 3, (some .int), 2, false, 1, 0, 11),
  (yX12_passes, cX12_passes, 3, (some .int), 1, false, 1, 0, 11),
  (yX12_passesAll, cX12_passesAll, 3, none, 2, false, 0, 0, 11),
  (yX12_keepsAct, cX12_keepsAct, 2, none, 1, false, 0, 0, 11),
  (yX12_undo, cX12_undo, 2, (some .int), 1, false, 1, 0, 11),
  (yX12_night, cX12_night, 1, (some .int), 1, false, 1, 0, 11),
  (yX12_lift, cX12_lift, 3, (some .int), 2, false, 1, 0, 11),
  (yX12_sink, cX12_sink, 5, (some .int), 4, false, 1, 0, 11),
  (yX12_free, cX12_free, 4, (some .int), 3, false, 1, 0, 11),
  (yX12_give, cX12_give, 4, (some .int), 3, false, 1, 0, 11),
  (yX12_keeps, cX12_keeps, 2, none, 1, false, 0, 0, 11),
  (yX12_laysBack, cX12_laysBack, 2, none, 1, false, 0, 0, 11),
  (yX12_ahead, cX12_ahead, 4, (some .int), 3, false, 1, 0, 11),
  (yX12_caught, cX12_caught, 5, (some .int), 3, false, 1, 0, 11),
  (yX12_atSea, cX12_atSea, 3, (some .int), 2, false, 1, 0, 11),
  (yX12_trapped, cX12_trapped, 1, (some .int), 1, false, 1, 0, 11),
  (yX12_full, cX12_full, 3, (some .int), 1, false, 1, 0, 11),
  (yX12_trappedIn, cX12_trappedIn, 3, (some .int), 2, false, 1, 0, 11),
  (yX12_bestSink, cX12_bestSink, 8, (some .int), 4, false, 1, 0, 11),
  (yX12_lay, cX12_lay, 7, (some .int), 5, false, 1, 0, 11),
  (yX12_throats, cX12_throats, 6, (some .int), 3, false, 1, 0, 11),
  (yX12_isAstray, cX12_isAstray, 2, (some .boolean), 2, false, 1, 0, 11),
  (yX12_astray, cX12_astray, 3, (some .int), 1, false, 1, 0, 11),
  (yX12_isLinked, cX12_isLinked, 7, (some .boolean), 3, false, 1, 0, 11),
  (yX12_isRing, cX12_isRing, 3, (some .boolean), 2, false, 1, 0, 11),
  (yX12_rings, cX12_rings, 5, (some .int), 2, false, 1, 0, 11),
  (yX12_right, cX12_right, 5, (some .int), 2, false, 1, 0, 11),
  (yX12_isRest, cX12_isRest, 4, (some .boolean), 3, false, 1, 0, 11),
  (yX12_sizeIn, cX12_sizeIn, 2, (some .int), 2, false, 1, 0, 11),
  (yX12_rests, cX12_rests, 8, (some .int), 5, false, 1, 0, 11),
  (yX12_areAlike, cX12_areAlike, 4, (some .boolean), 3, false, 1, 0, 11),
  (yX12_cycle, cX12_cycle, 4, (some .int), 2, false, 1, 0, 11),
  (yX12_sizesOf, cX12_sizesOf, 4, (some .int), 2, false, 1, 0, 11),
  (yX12_pence, cX12_pence, 9, (some .int), 3, false, 1, 0, 11),
  (yX12_note, cX12_note, 5, (some .int), 4, false, 1, 0, 11),
  (yX12_freeIn, cX12_freeIn, 2, (some .int), 2, false, 1, 0, 11),
  (yX12_areNotesSo, cX12_areNotesSo, 3, (some .boolean), 2, false, 1, 0, 11),
  (yX12_areAllSo, cX12_areAllSo, 6, (some .boolean), 3, false, 1, 0, 11),
  (yX12_of, cX12_of, 5, (some .int), 2, false, 1, 0, 11),
  (yX12_fillsFits, cX12_fillsFits, 4, none, 2, false, 0, 0, 11),
  (yX12_ruled, cX12_ruled, 5, (some .int), 2, false, 1, 0, 11),
  (yX12_alikeAt, cX12_alikeAt, 6, (some .int), 2, false, 1, 0, 11),
  (yX12_look, cX12_look, 7, (some .int), 3, false, 1, 0, 11),
  (yX12_seed, cX12_seed, 3, (some .int), 2, false, 1, 0, 11),
  (yX12_draw, cX12_draw, 2, (some .int), 2, false, 1, 0, 11),
  (yX12_moons, cX12_moons, 9, (some .int), 5, false, 1, 0, 11),
  (yX12_count, cX12_count, 2, (some .int), 2, false, 1, 0, 11),
  (yX12_image, cX12_image, 3, (some .int), 2, false, 1, 0, 11),
  (yX12_back, cX12_back, 3, (some .int), 2, false, 1, 0, 11),
  (yJ6_bitCount_0f7a4, cJ6_bitCount_0f7a4, 1, (some .int), 1, true, 1, 0, 14),
  (yJ9_max_7cf53, cJ9_max_7cf53, 2, (some .int), 2, true, 1, 0, 13),
  (yJ9_min_7cf53, cJ9_min_7cf53, 2, (some .int), 2, true, 1, 0, 13),
  (yJ0_length_8abf5, cJ0_length_8abf5, 1, (some .int), 1, false, 1, 0, 99),
  (yJ0_charAt_5068e, cJ0_charAt_5068e, 2, (some .char), 2, false, 1, 0, 99)]
def jposM : List (Nat × Nat × Nat × Nat) := [(802, 115, 800, 801), (887, 115, 885, 886), (895, 117, 893, 894), (918, 117, 916, 917), (933, 117, 931, 932), (945, 117, 943, 944), (949, 117, 948, 0), (957, 117, 955, 956), (971, 117, 969, 970), (1031, 117, 1029, 1030), (1035, 117, 1034, 26), (1039, 117, 1038, 27), (1047, 117, 1045, 1046), (1108, 117, 1106, 1107), (1113, 117, 1112, 29), (1002, 118, 1000, 1001), (1080, 118, 1078, 1079), (1084, 118, 1082, 1083), (1007, 118, 1006, 25), (1092, 118, 1090, 1091), (1096, 118, 1095, 28), (978, 128, 977, 0), (985, 128, 984, 0), (989, 128, 988, 0), (1061, 128, 1060, 0), (1064, 128, 1063, 0), (1072, 114, 1070, 1071), (1143, 114, 1141, 1142), (1011, 114, 1009, 1010), (1017, 114, 1015, 1016), (1020, 114, 1019, 0), (660, 112, 658, 659), (787, 112, 785, 786), (794, 112, 792, 793), (561, 112, 559, 560), (630, 112, 629, 0), (638, 112, 637, 1), (675, 119, 673, 674), (699, 119, 698, 4), (721, 119, 720, 7), (725, 119, 724, 8), (729, 119, 728, 9), (734, 119, 733, 10), (737, 119, 736, 0), (685, 119, 684, 2), (710, 119, 709, 6), (689, 119, 688, 3), (703, 119, 702, 5), (1137, 111, 1135, 1136), (775, 111, 773, 774), (1128, 111, 1126, 1127), (900, 116, 898, 899), (905, 116, 903, 904), (818, 116, 816, 817), (823, 116, 822, 15), (830, 116, 829, 16), (847, 116, 846, 19), (851, 116, 850, 20), (836, 116, 835, 17), (843, 116, 842, 0), (840, 116, 839, 18), (549, 110, 547, 548), (565, 110, 563, 564), (626, 110, 624, 625), (652, 110, 650, 651), (693, 110, 691, 692), (569, 110, 567, 568), (648, 110, 646, 647), (656, 110, 654, 655), (574, 110, 572, 573), (634, 110, 632, 633), (715, 110, 713, 714), (642, 110, 640, 641), (806, 113, 804, 805), (667, 113, 665, 666), (779, 113, 777, 778), (937, 113, 935, 936), (1051, 113, 1049, 1050), (545, 109, 543, 544), (553, 109, 551, 552), (557, 109, 555, 556), (671, 109, 669, 670), (744, 109, 742, 743), (748, 109, 746, 747), (759, 109, 757, 758), (767, 109, 765, 766), (783, 109, 781, 782), (798, 109, 796, 797), (855, 109, 853, 854), (859, 109, 857, 858), (871, 109, 869, 870), (879, 109, 877, 878), (883, 109, 881, 882), (891, 109, 889, 890), (909, 109, 907, 908), (924, 109, 922, 923), (929, 109, 927, 928), (941, 109, 939, 940), (953, 109, 951, 952), (967, 109, 965, 966), (975, 109, 973, 974), (982, 109, 980, 981), (994, 109, 992, 993), (998, 109, 996, 997), (1027, 109, 1025, 1026), (1043, 109, 1041, 1042), (1058, 109, 1056, 1057), (1068, 109, 1066, 1067), (1076, 109, 1074, 1075), (1088, 109, 1086, 1087), (1100, 109, 1098, 1099), (1104, 109, 1102, 1103), (1124, 109, 1122, 1123), (1133, 109, 1131, 1132), (1148, 109, 1146, 1147), (755, 109, 754, 0), (826, 109, 825, 0), (752, 109, 751, 11), (763, 109, 762, 12), (771, 109, 770, 13), (867, 109, 866, 22), (863, 109, 862, 21), (913, 109, 912, 24), (875, 109, 874, 23), (814, 109, 813, 14), (1344, 120, 1343, 0), (1625, 120, 1624, 0), (1640, 120, 1639, 0), (1275, 120, 1274, 30), (1271, 120, 1269, 1270), (1279, 120, 1277, 1278), (1317, 120, 1316, 37), (1295, 120, 1294, 33), (1341, 120, 1340, 43), (1308, 120, 1307, 36), (1304, 120, 1303, 35), (1329, 120, 1328, 40), (1405, 120, 1404, 55), (1337, 120, 1336, 42), (1389, 120, 1388, 54), (1385, 120, 1384, 53), (1381, 120, 1380, 52), (1418, 120, 1417, 58), (1433, 120, 1432, 0), (1430, 120, 1429, 61), (1376, 120, 1375, 51), (1372, 120, 1371, 50), (1368, 120, 1367, 49), (1422, 120, 1421, 59), (1413, 120, 1412, 57), (1437, 120, 1436, 62), (1426, 120, 1425, 60), (1409, 120, 1408, 56), (1364, 120, 1363, 48), (1333, 120, 1332, 41), (1325, 120, 1324, 39), (1348, 120, 1347, 44), (1352, 120, 1351, 45), (1356, 120, 1355, 46), (1360, 120, 1359, 47), (1321, 120, 1320, 38), (1299, 120, 1298, 34), (1291, 120, 1290, 32), (1287, 120, 1286, 31), (1283, 120, 1281, 1282), (1443, 120, 1441, 1442), (1455, 120, 1454, 64), (1561, 120, 1560, 84), (1565, 120, 1564, 85), (1568, 120, 1567, 0), (1557, 120, 1556, 83), (1508, 120, 1507, 73), (1504, 120, 1503, 72), (1541, 120, 1540, 79), (1492, 120, 1491, 70), (1463, 120, 1462, 65), (1472, 120, 1471, 66), (1532, 120, 1531, 77), (1597, 120, 1596, 89), (1476, 120, 1475, 67), (1480, 120, 1479, 68), (1484, 120, 1483, 69), (1588, 120, 1587, 88), (1496, 120, 1495, 71), (1549, 120, 1548, 81), (1447, 120, 1446, 63), (1451, 120, 1449, 1450), (1459, 120, 1457, 1458), (1468, 120, 1466, 1467), (1488, 120, 1486, 1487), (1500, 120, 1498, 1499), (1553, 120, 1552, 82), (1545, 120, 1544, 80), (1537, 120, 1536, 78), (1528, 120, 1527, 76), (1576, 120, 1575, 87), (1572, 120, 1571, 86), (1524, 120, 1523, 75), (1614, 120, 1613, 91), (1520, 120, 1519, 74), (1512, 120, 1510, 1511), (1516, 120, 1514, 1515), (1580, 120, 1578, 1579), (1584, 120, 1582, 1583), (1593, 120, 1591, 1592), (1601, 120, 1599, 1600), (1610, 120, 1609, 90), (1618, 120, 1617, 92), (1605, 120, 1603, 1604), (1622, 120, 1620, 1621), (1629, 120, 1627, 1628), (1637, 120, 1636, 93), (1633, 120, 1631, 1632), (1650, 120, 1649, 94), (1644, 120, 1642, 1643), (1654, 120, 1652, 1653), (1658, 120, 1656, 1657), (1666, 120, 1665, 95), (1662, 120, 1660, 1661), (1678, 120, 1677, 97), (1674, 120, 1673, 96), (1670, 120, 1668, 1669), (1682, 120, 1680, 1681), (1695, 120, 1694, 99), (1691, 120, 1690, 98), (1686, 120, 1684, 1685), (1703, 120, 1702, 100), (1699, 120, 1697, 1698), (1712, 120, 1711, 101), (1707, 120, 1705, 1706), (1716, 120, 1714, 1715), (1733, 120, 1732, 104), (1729, 120, 1728, 103), (1725, 120, 1724, 102), (1721, 120, 1719, 1720), (1741, 120, 1740, 105), (1737, 120, 1735, 1736), (1749, 120, 1748, 106), (1745, 120, 1743, 1744), (1753, 120, 1751, 1752), (1762, 120, 1761, 107), (1757, 120, 1755, 1756), (1770, 120, 1768, 1769), (1774, 120, 1772, 1773), (1778, 120, 1776, 1777), (960, 127, 959, 0), (790, 126, 789, 0), (810, 126, 809, 0), (578, 121, 576, 577), (588, 121, 586, 587)]
def jokM1 (q : jMI) (p : Nat × Nat × Nat × Nat) : Bool :=
  decide (lw_tbl[p.2.1]? = some (.initialized q.1.cls)) && (bif q.2.2.2.2.2.1 then decide (lw_tbl[p.2.2.1]? = some (.static q.1)) else decide (lw_tbl[p.2.2.1]? = some (.instanceMethod q.1)) && decide (lw_tbl[p.2.2.2]? = some (.selects q.1.cls q.1 q.1))) && decide (q.1.cls ≠ "java/lang/invoke/MethodHandle") && decide (q.1.cls ≠ "java/lang/invoke/VarHandle") && decide ((parseMethodDescriptor q.1.desc).map (fun d => d.parameters.length) = some (bif q.2.2.2.2.2.1 then q.2.2.2.2.1 else q.2.2.2.2.1 - 1)) && decide (q.2.2.1 ≤ 60) && (bif q.2.2.2.2.2.1 then true else decide (0 < q.2.2.2.2.1))
theorem jtb1 {w : Cond} (h : w ∈ tables_1_1) : w ∈ lw_tbl := List.mem_append_right _ (List.mem_append_left _ h)
theorem jtb2 {w : Cond} (h : w ∈ tables_1_2) : w ∈ lw_tbl := List.mem_append_right _ (List.mem_append_right _ (List.mem_append_left _ h))
theorem jtb3 {w : Cond} (h : w ∈ tables_1_3) : w ∈ lw_tbl := List.mem_append_right _ (List.mem_append_right _ (List.mem_append_right _ (List.mem_append_left _ h)))
theorem jtb4 {w : Cond} (h : w ∈ tables_1_4) : w ∈ lw_tbl := List.mem_append_right _ (List.mem_append_right _ (List.mem_append_right _ (List.mem_append_right _ (List.mem_append_left _ h))))
theorem jtb5 {w : Cond} (h : w ∈ tables_1_5) : w ∈ lw_tbl := List.mem_append_right _ (List.mem_append_right _ (List.mem_append_right _ (List.mem_append_right _ (List.mem_append_right _ (List.mem_append_left _ h)))))
theorem jtb6 {w : Cond} (h : w ∈ tables_1_6) : w ∈ lw_tbl := List.mem_append_right _ (List.mem_append_right _ (List.mem_append_right _ (List.mem_append_right _ (List.mem_append_right _ (List.mem_append_right _ (List.mem_append_left _ h))))))
theorem jtb7 {w : Cond} (h : w ∈ tables_1_7) : w ∈ lw_tbl := List.mem_append_right _ (List.mem_append_right _ (List.mem_append_right _ (List.mem_append_right _ (List.mem_append_right _ (List.mem_append_right _ (List.mem_append_right _ (h)))))))
set_option maxRecDepth 100000 in
theorem jcw0 : Cond.code yX0_keep cX0_keep 2 none ∈ lw_tbl := jtb3 (List.mem_of_getElem? (i := 214) rfl)
set_option maxRecDepth 100000 in
theorem jcw1 : Cond.code yX0_takeBack cX0_takeBack 2 (some .int) ∈ lw_tbl := jtb4 (List.mem_of_getElem? (i := 59) rfl)
set_option maxRecDepth 100000 in
theorem jcw2 : Cond.code yX1_after cX1_after 4 (some (.object "EelThroat$Water")) ∈ lw_tbl := jtb4 (List.mem_of_getElem? (i := 67) rfl)
set_option maxRecDepth 100000 in
theorem jcw3 : Cond.code yX1_firstCatch cX1_firstCatch 6 (some .int) ∈ lw_tbl := jtb4 (List.mem_of_getElem? (i := 90) rfl)
set_option maxRecDepth 100000 in
theorem jcw4 : Cond.code yX1_firstFull cX1_firstFull 5 (some .int) ∈ lw_tbl := jtb4 (List.mem_of_getElem? (i := 105) rfl)
set_option maxRecDepth 100000 in
theorem jcw5 : Cond.code yX1_bestPlace cX1_bestPlace 15 (some .int) ∈ lw_tbl := jtb4 (List.mem_of_getElem? (i := 117) rfl)
set_option maxRecDepth 100000 in
theorem jcw6 : Cond.code yX1_smellsOfFree cX1_smellsOfFree 3 (some .int) ∈ lw_tbl := jtb4 (List.mem_of_getElem? (i := 121) rfl)
set_option maxRecDepth 100000 in
theorem jcw7 : Cond.code yX1_poolsBefore cX1_poolsBefore 8 (some .int) ∈ lw_tbl := jtb4 (List.mem_of_getElem? (i := 129) rfl)
set_option maxRecDepth 100000 in
theorem jcw8 : Cond.code yX1_leastThroat cX1_leastThroat 6 (some .int) ∈ lw_tbl := jtb4 (List.mem_of_getElem? (i := 143) rfl)
set_option maxRecDepth 100000 in
theorem jcw9 : Cond.code yX1_steadyBaits cX1_steadyBaits 10 (some .int) ∈ lw_tbl := jtb4 (List.mem_of_getElem? (i := 203) rfl)
set_option maxRecDepth 100000 in
theorem jcw10 : Cond.code yX1_sizeIn cX1_sizeIn 4 (some .int) ∈ lw_tbl := jtb4 (List.mem_of_getElem? (i := 207) rfl)
set_option maxRecDepth 100000 in
theorem jcw11 : Cond.code yX1_isSteady cX1_isSteady 5 (some .boolean) ∈ lw_tbl := jtb4 (List.mem_of_getElem? (i := 211) rfl)
set_option maxRecDepth 100000 in
theorem jcw12 : Cond.code yX1_firstRound cX1_firstRound 7 (some .int) ∈ lw_tbl := jtb4 (List.mem_of_getElem? (i := 219) rfl)
set_option maxRecDepth 100000 in
theorem jcw13 : Cond.code yX1_drawnNights cX1_drawnNights 11 (some .int) ∈ lw_tbl := jtb5 (List.mem_of_getElem? (i := 40) rfl)
set_option maxRecDepth 100000 in
theorem jcw14 : Cond.code yX1_draw cX1_draw 1 (some .int) ∈ lw_tbl := jtb5 (List.mem_of_getElem? (i := 45) rfl)
set_option maxRecDepth 100000 in
theorem jcw15 : Cond.code yX2_owners cX2_owners 6 (some .int) ∈ lw_tbl := jtb4 (List.mem_of_getElem? (i := 174) rfl)
set_option maxRecDepth 100000 in
theorem jcw16 : Cond.code yX2_sieve cX2_sieve 7 (some .int) ∈ lw_tbl := jtb5 (List.mem_of_getElem? (i := 12) rfl)
set_option maxRecDepth 100000 in
theorem jcw17 : Cond.code yX2_firstFitting cX2_firstFitting 1 (some .int) ∈ lw_tbl := jtb5 (List.mem_of_getElem? (i := 16) rfl)
set_option maxRecDepth 100000 in
theorem jcw18 : Cond.code yX2_fits cX2_fits 8 (some .boolean) ∈ lw_tbl := jtb4 (List.mem_of_getElem? (i := 179) rfl)
set_option maxRecDepth 100000 in
theorem jcw19 : Cond.code yX2_bestParting cX2_bestParting 8 (some .int) ∈ lw_tbl := jtb5 (List.mem_of_getElem? (i := 24) rfl)
set_option maxRecDepth 100000 in
theorem jcw20 : Cond.code yX2_mostAlike cX2_mostAlike 7 (some .int) ∈ lw_tbl := jtb5 (List.mem_of_getElem? (i := 28) rfl)
set_option maxRecDepth 100000 in
theorem jcw21 : Cond.code yX3_strayed cX3_strayed 4 (some .int) ∈ lw_tbl := jtb4 (List.mem_of_getElem? (i := 150) rfl)
set_option maxRecDepth 100000 in
theorem jcw22 : Cond.code yX3_ringed cX3_ringed 5 (some .int) ∈ lw_tbl := jtb4 (List.mem_of_getElem? (i := 157) rfl)
set_option maxRecDepth 100000 in
theorem jcw23 : Cond.code yX3_isRing cX3_isRing 8 (some .boolean) ∈ lw_tbl := jtb4 (List.mem_of_getElem? (i := 161) rfl)
set_option maxRecDepth 100000 in
theorem jcw24 : Cond.code yX3_share cX3_share 9 (some .int) ∈ lw_tbl := jtb4 (List.mem_of_getElem? (i := 233) rfl)
set_option maxRecDepth 100000 in
theorem jcw25 : Cond.code yX3_sizesOf cX3_sizesOf 4 (some .int) ∈ lw_tbl := jtb4 (List.mem_of_getElem? (i := 236) rfl)
set_option maxRecDepth 100000 in
theorem jcw26 : Cond.code yX4_add cX4_add 4 (some .boolean) ∈ lw_tbl := jtb5 (List.mem_of_getElem? (i := 4) rfl)
set_option maxRecDepth 100000 in
theorem jcw27 : Cond.code yX4_copy cX4_copy 2 none ∈ lw_tbl := jtb5 (List.mem_of_getElem? (i := 75) rfl)
set_option maxRecDepth 100000 in
theorem jcw28 : Cond.code yX4_lastNight cX4_lastNight 3 (some .int) ∈ lw_tbl := jtb4 (List.mem_of_getElem? (i := 183) rfl)
set_option maxRecDepth 100000 in
theorem jcw29 : Cond.code yX4_hold cX4_hold 3 (some .boolean) ∈ lw_tbl := jtb4 (List.mem_of_getElem? (i := 189) rfl)
set_option maxRecDepth 100000 in
theorem jcw30 : Cond.code yX4_poolOrNone cX4_poolOrNone 1 (some .int) ∈ lw_tbl := jtb4 (List.mem_of_getElem? (i := 192) rfl)
set_option maxRecDepth 100000 in
theorem jcw31 : Cond.code yX5_copy cX5_copy 2 none ∈ lw_tbl := jtb3 (List.mem_of_getElem? (i := 72) rfl)
set_option maxRecDepth 100000 in
theorem jcw32 : Cond.code yX5_round cX5_round 1 (some .int) ∈ lw_tbl := jtb3 (List.mem_of_getElem? (i := 199) rfl)
set_option maxRecDepth 100000 in
theorem jcw33 : Cond.code yX5_lightOf cX5_lightOf 2 (some .int) ∈ lw_tbl := jtb3 (List.mem_of_getElem? (i := 206) rfl)
set_option maxRecDepth 100000 in
theorem jcw34 : Cond.code yX5_read cX5_read 5 (some .boolean) ∈ lw_tbl := jtb2 (List.mem_of_getElem? (i := 213) rfl)
set_option maxRecDepth 100000 in
theorem jcw35 : Cond.code yX5_hasNoRoom cX5_hasNoRoom 2 (some .boolean) ∈ lw_tbl := jtb3 (List.mem_of_getElem? (i := 42) rfl)
set_option maxRecDepth 100000 in
theorem jcw36 : Cond.code yX5_readClause cX5_readClause 3 none ∈ lw_tbl := jtb3 (List.mem_of_getElem? (i := 50) rfl)
set_option maxRecDepth 100000 in
theorem jcw37 : Cond.code yX6_read cX6_read 4 (some .boolean) ∈ lw_tbl := jtb3 (List.mem_of_getElem? (i := 87) rfl)
set_option maxRecDepth 100000 in
theorem jcw38 : Cond.code yX6_emit cX6_emit 3 none ∈ lw_tbl := jtb3 (List.mem_of_getElem? (i := 111) rfl)
set_option maxRecDepth 100000 in
theorem jcw39 : Cond.code yX6_readTest cX6_readTest 5 (some .boolean) ∈ lw_tbl := jtb3 (List.mem_of_getElem? (i := 133) rfl)
set_option maxRecDepth 100000 in
theorem jcw40 : Cond.code yX6_readPart cX6_readPart 5 (some .boolean) ∈ lw_tbl := jtb3 (List.mem_of_getElem? (i := 137) rfl)
set_option maxRecDepth 100000 in
theorem jcw41 : Cond.code yX6_readFact cX6_readFact 5 (some .boolean) ∈ lw_tbl := jtb3 (List.mem_of_getElem? (i := 141) rfl)
set_option maxRecDepth 100000 in
theorem jcw42 : Cond.code yX6_readComparison cX6_readComparison 4 (some .boolean) ∈ lw_tbl := jtb3 (List.mem_of_getElem? (i := 146) rfl)
set_option maxRecDepth 100000 in
theorem jcw43 : Cond.code yX6_readSign cX6_readSign 1 (some .int) ∈ lw_tbl := jtb3 (List.mem_of_getElem? (i := 149) rfl)
set_option maxRecDepth 100000 in
theorem jcw44 : Cond.code yX6_readSum cX6_readSum 6 (some .boolean) ∈ lw_tbl := jtb3 (List.mem_of_getElem? (i := 97) rfl)
set_option maxRecDepth 100000 in
theorem jcw45 : Cond.code yX6_emitSign cX6_emitSign 2 none ∈ lw_tbl := jtb3 (List.mem_of_getElem? (i := 122) rfl)
set_option maxRecDepth 100000 in
theorem jcw46 : Cond.code yX6_readValue cX6_readValue 4 (some .boolean) ∈ lw_tbl := jtb3 (List.mem_of_getElem? (i := 101) rfl)
set_option maxRecDepth 100000 in
theorem jcw47 : Cond.code yX6_hasUnit cX6_hasUnit 3 (some .boolean) ∈ lw_tbl := jtb3 (List.mem_of_getElem? (i := 115) rfl)
set_option maxRecDepth 100000 in
theorem jcw48 : Cond.code yX7_copy cX7_copy 2 none ∈ lw_tbl := jtb5 (List.mem_of_getElem? (i := 69) rfl)
set_option maxRecDepth 100000 in
theorem jcw49 : Cond.code yX7_bitsAt cX7_bitsAt 2 (some .int) ∈ lw_tbl := jtb3 (List.mem_of_getElem? (i := 187) rfl)
set_option maxRecDepth 100000 in
theorem jcw50 : Cond.code yX7_freeBits cX7_freeBits 3 (some .int) ∈ lw_tbl := jtb5 (List.mem_of_getElem? (i := 60) rfl)
set_option maxRecDepth 100000 in
theorem jcw51 : Cond.code yX8_pass cX8_pass 7 none ∈ lw_tbl := jtb4 (List.mem_of_getElem? (i := 72) rfl)
set_option maxRecDepth 100000 in
theorem jcw52 : Cond.code yX8_isStill cX8_isStill 1 (some .boolean) ∈ lw_tbl := jtb4 (List.mem_of_getElem? (i := 77) rfl)
set_option maxRecDepth 100000 in
theorem jcw53 : Cond.code yX8_step cX8_step 7 (some .int) ∈ lw_tbl := jtb3 (List.mem_of_getElem? (i := 230) rfl)
set_option maxRecDepth 100000 in
theorem jcw54 : Cond.code yX8_countPools cX8_countPools 2 none ∈ lw_tbl := jtb3 (List.mem_of_getElem? (i := 235) rfl)
set_option maxRecDepth 100000 in
theorem jcw55 : Cond.code yX8_goalOf cX8_goalOf 10 (some .int) ∈ lw_tbl := jtb4 (List.mem_of_getElem? (i := 2) rfl)
set_option maxRecDepth 100000 in
theorem jcw56 : Cond.code yX8_goesToSea cX8_goesToSea 3 (some .boolean) ∈ lw_tbl := jtb4 (List.mem_of_getElem? (i := 19) rfl)
set_option maxRecDepth 100000 in
theorem jcw57 : Cond.code yX8_fillTraps cX8_fillTraps 4 (some .int) ∈ lw_tbl := jtb4 (List.mem_of_getElem? (i := 23) rfl)
set_option maxRecDepth 100000 in
theorem jcw58 : Cond.code yX8_worthOfPool cX8_worthOfPool 4 (some .long) ∈ lw_tbl := jtb4 (List.mem_of_getElem? (i := 8) rfl)
set_option maxRecDepth 100000 in
theorem jcw59 : Cond.code yX8_join cX8_join 5 (some .long) ∈ lw_tbl := jtb4 (List.mem_of_getElem? (i := 15) rfl)
set_option maxRecDepth 100000 in
theorem jcw60 : Cond.code yX8_wordValue cX8_wordValue 4 (some .int) ∈ lw_tbl := jtb4 (List.mem_of_getElem? (i := 12) rfl)
set_option maxRecDepth 100000 in
theorem jcw61 : Cond.code yX9_put cX9_put 3 none ∈ lw_tbl := jtb2 (List.mem_of_getElem? (i := 201) rfl)
set_option maxRecDepth 100000 in
theorem jcw62 : Cond.code yX9_rewind cX9_rewind 1 none ∈ lw_tbl := jtb2 (List.mem_of_getElem? (i := 217) rfl)
set_option maxRecDepth 100000 in
theorem jcw63 : Cond.code yX9_blame cX9_blame 3 (some .boolean) ∈ lw_tbl := jtb3 (List.mem_of_getElem? (i := 38) rfl)
set_option maxRecDepth 100000 in
theorem jcw64 : Cond.code yX9_peek cX9_peek 1 (some .int) ∈ lw_tbl := jtb3 (List.mem_of_getElem? (i := 64) rfl)
set_option maxRecDepth 100000 in
theorem jcw65 : Cond.code yX9_onDigit cX9_onDigit 1 (some .boolean) ∈ lw_tbl := jtb3 (List.mem_of_getElem? (i := 105) rfl)
set_option maxRecDepth 100000 in
theorem jcw66 : Cond.code yX9_skip cX9_skip 1 none ∈ lw_tbl := jtb2 (List.mem_of_getElem? (i := 221) rfl)
set_option maxRecDepth 100000 in
theorem jcw67 : Cond.code yX9_over cX9_over 1 (some .boolean) ∈ lw_tbl := jtb3 (List.mem_of_getElem? (i := 60) rfl)
set_option maxRecDepth 100000 in
theorem jcw68 : Cond.code yX9_took cX9_took 2 (some .boolean) ∈ lw_tbl := jtb3 (List.mem_of_getElem? (i := 68) rfl)
set_option maxRecDepth 100000 in
theorem jcw69 : Cond.code yX9_find cX9_find 7 (some .int) ∈ lw_tbl := jtb2 (List.mem_of_getElem? (i := 226) rfl)
set_option maxRecDepth 100000 in
theorem jcw70 : Cond.code yX9_passWord cX9_passWord 1 none ∈ lw_tbl := jtb3 (List.mem_of_getElem? (i := 46) rfl)
set_option maxRecDepth 100000 in
theorem jcw71 : Cond.code yX9_tookWord cX9_tookWord 2 (some .boolean) ∈ lw_tbl := jtb3 (List.mem_of_getElem? (i := 127) rfl)
set_option maxRecDepth 100000 in
theorem jcw72 : Cond.code yX9_number cX9_number 6 (some .int) ∈ lw_tbl := jtb3 (List.mem_of_getElem? (i := 54) rfl)
set_option maxRecDepth 100000 in
theorem jcw73 : Cond.code yX10_copy cX10_copy 2 none ∈ lw_tbl := jtb3 (List.mem_of_getElem? (i := 218) rfl)
set_option maxRecDepth 100000 in
theorem jcw74 : Cond.code yX10_begin cX10_begin 3 none ∈ lw_tbl := jtb3 (List.mem_of_getElem? (i := 79) rfl)
set_option maxRecDepth 100000 in
theorem jcw75 : Cond.code yX10_bitsAt cX10_bitsAt 5 (some .int) ∈ lw_tbl := jtb3 (List.mem_of_getElem? (i := 191) rfl)
set_option maxRecDepth 100000 in
theorem jcw76 : Cond.code yX10_fullTraps cX10_fullTraps 4 (some .int) ∈ lw_tbl := jtb4 (List.mem_of_getElem? (i := 109) rfl)
set_option maxRecDepth 100000 in
theorem jcw77 : Cond.code yX10_places cX10_places 5 (some .long) ∈ lw_tbl := jtb4 (List.mem_of_getElem? (i := 223) rfl)
set_option maxRecDepth 100000 in
theorem jcw78 : Cond.code yX11_feed cX11_feed 6 (some .int) ∈ lw_tbl := jtb2 (List.mem_of_getElem? (i := 197) rfl)
set_option maxRecDepth 100000 in
theorem jcw79 : Cond.code yX11_end cX11_end 2 (some .int) ∈ lw_tbl := jtb2 (List.mem_of_getElem? (i := 205) rfl)
set_option maxRecDepth 100000 in
theorem jcw80 : Cond.code yX11_river cX11_river 2 (some .int) ∈ lw_tbl := jtb2 (List.mem_of_getElem? (i := 209) rfl)
set_option maxRecDepth 100000 in
theorem jcw81 : Cond.code yX11_rule cX11_rule 2 (some .int) ∈ lw_tbl := jtb3 (List.mem_of_getElem? (i := 83) rfl)
set_option maxRecDepth 100000 in
theorem jcw82 : Cond.code yX11_force cX11_force 3 (some .int) ∈ lw_tbl := jtb3 (List.mem_of_getElem? (i := 156) rfl)
set_option maxRecDepth 100000 in
theorem jcw83 : Cond.code yX11_memory cX11_memory 3 (some .int) ∈ lw_tbl := jtb3 (List.mem_of_getElem? (i := 160) rfl)
set_option maxRecDepth 100000 in
theorem jcw84 : Cond.code yX11_trap cX11_trap 3 (some .int) ∈ lw_tbl := jtb3 (List.mem_of_getElem? (i := 171) rfl)
set_option maxRecDepth 100000 in
theorem jcw85 : Cond.code yX11_person cX11_person 2 (some .int) ∈ lw_tbl := jtb3 (List.mem_of_getElem? (i := 179) rfl)
set_option maxRecDepth 100000 in
theorem jcw86 : Cond.code yX11_moon cX11_moon 2 (some .int) ∈ lw_tbl := jtb3 (List.mem_of_getElem? (i := 195) rfl)
set_option maxRecDepth 100000 in
theorem jcw87 : Cond.code yX11_night cX11_night 1 (some .int) ∈ lw_tbl := jtb3 (List.mem_of_getElem? (i := 210) rfl)
set_option maxRecDepth 100000 in
theorem jcw88 : Cond.code yX11_lift cX11_lift 4 (some .int) ∈ lw_tbl := jtb4 (List.mem_of_getElem? (i := 27) rfl)
set_option maxRecDepth 100000 in
theorem jcw89 : Cond.code yX11_sink cX11_sink 6 (some .int) ∈ lw_tbl := jtb4 (List.mem_of_getElem? (i := 31) rfl)
set_option maxRecDepth 100000 in
theorem jcw90 : Cond.code yX11_free cX11_free 4 (some .int) ∈ lw_tbl := jtb4 (List.mem_of_getElem? (i := 43) rfl)
set_option maxRecDepth 100000 in
theorem jcw91 : Cond.code yX11_give cX11_give 4 (some .int) ∈ lw_tbl := jtb4 (List.mem_of_getElem? (i := 51) rfl)
set_option maxRecDepth 100000 in
theorem jcw92 : Cond.code yX11_undo cX11_undo 1 (some .int) ∈ lw_tbl := jtb4 (List.mem_of_getElem? (i := 55) rfl)
set_option maxRecDepth 100000 in
theorem jcw93 : Cond.code yX11_ahead cX11_ahead 3 (some .int) ∈ lw_tbl := jtb4 (List.mem_of_getElem? (i := 63) rfl)
set_option maxRecDepth 100000 in
theorem jcw94 : Cond.code yX11_caught cX11_caught 3 (some .int) ∈ lw_tbl := jtb4 (List.mem_of_getElem? (i := 81) rfl)
set_option maxRecDepth 100000 in
theorem jcw95 : Cond.code yX11_atSea cX11_atSea 2 (some .int) ∈ lw_tbl := jtb4 (List.mem_of_getElem? (i := 96) rfl)
set_option maxRecDepth 100000 in
theorem jcw96 : Cond.code yX11_full cX11_full 1 (some .int) ∈ lw_tbl := jtb4 (List.mem_of_getElem? (i := 101) rfl)
set_option maxRecDepth 100000 in
theorem jcw97 : Cond.code yX11_bestSink cX11_bestSink 4 (some .int) ∈ lw_tbl := jtb4 (List.mem_of_getElem? (i := 113) rfl)
set_option maxRecDepth 100000 in
theorem jcw98 : Cond.code yX11_lay cX11_lay 6 (some .int) ∈ lw_tbl := jtb4 (List.mem_of_getElem? (i := 125) rfl)
set_option maxRecDepth 100000 in
theorem jcw99 : Cond.code yX11_throats cX11_throats 3 (some .int) ∈ lw_tbl := jtb4 (List.mem_of_getElem? (i := 139) rfl)
set_option maxRecDepth 100000 in
theorem jcw100 : Cond.code yX11_astray cX11_astray 1 (some .int) ∈ lw_tbl := jtb4 (List.mem_of_getElem? (i := 147) rfl)
set_option maxRecDepth 100000 in
theorem jcw101 : Cond.code yX11_rings cX11_rings 2 (some .int) ∈ lw_tbl := jtb4 (List.mem_of_getElem? (i := 154) rfl)
set_option maxRecDepth 100000 in
theorem jcw102 : Cond.code yX11_right cX11_right 4 (some .int) ∈ lw_tbl := jtb4 (List.mem_of_getElem? (i := 166) rfl)
set_option maxRecDepth 100000 in
theorem jcw103 : Cond.code yX11_of cX11_of 2 (some .int) ∈ lw_tbl := jtb4 (List.mem_of_getElem? (i := 170) rfl)
set_option maxRecDepth 100000 in
theorem jcw104 : Cond.code yX11_rests cX11_rests 5 (some .int) ∈ lw_tbl := jtb4 (List.mem_of_getElem? (i := 199) rfl)
set_option maxRecDepth 100000 in
theorem jcw105 : Cond.code yX11_cycle cX11_cycle 2 (some .int) ∈ lw_tbl := jtb4 (List.mem_of_getElem? (i := 215) rfl)
set_option maxRecDepth 100000 in
theorem jcw106 : Cond.code yX11_pence cX11_pence 3 (some .int) ∈ lw_tbl := jtb4 (List.mem_of_getElem? (i := 230) rfl)
set_option maxRecDepth 100000 in
theorem jcw107 : Cond.code yX11_note cX11_note 4 (some .int) ∈ lw_tbl := jtb5 (List.mem_of_getElem? (i := 0) rfl)
set_option maxRecDepth 100000 in
theorem jcw108 : Cond.code yX11_ruled cX11_ruled 3 (some .int) ∈ lw_tbl := jtb5 (List.mem_of_getElem? (i := 8) rfl)
set_option maxRecDepth 100000 in
theorem jcw109 : Cond.code yX11_look cX11_look 4 (some .int) ∈ lw_tbl := jtb5 (List.mem_of_getElem? (i := 20) rfl)
set_option maxRecDepth 100000 in
theorem jcw110 : Cond.code yX11_seed cX11_seed 3 (some .int) ∈ lw_tbl := jtb5 (List.mem_of_getElem? (i := 32) rfl)
set_option maxRecDepth 100000 in
theorem jcw111 : Cond.code yX11_moons cX11_moons 5 (some .int) ∈ lw_tbl := jtb5 (List.mem_of_getElem? (i := 36) rfl)
set_option maxRecDepth 100000 in
theorem jcw112 : Cond.code yX11_count cX11_count 2 (some .int) ∈ lw_tbl := jtb5 (List.mem_of_getElem? (i := 56) rfl)
set_option maxRecDepth 100000 in
theorem jcw113 : Cond.code yX11_image cX11_image 2 (some .int) ∈ lw_tbl := jtb5 (List.mem_of_getElem? (i := 65) rfl)
set_option maxRecDepth 100000 in
theorem jcw114 : Cond.code yX11_back cX11_back 2 (some .int) ∈ lw_tbl := jtb5 (List.mem_of_getElem? (i := 80) rfl)
set_option maxRecDepth 100000 in
theorem jcw115 : Cond.code yX11_within cX11_within 3 (some .boolean) ∈ lw_tbl := jtb3 (List.mem_of_getElem? (i := 167) rfl)
set_option maxRecDepth 100000 in
theorem jcw116 : Cond.code yX11_isFreePlace cX11_isFreePlace 1 (some .boolean) ∈ lw_tbl := jtb3 (List.mem_of_getElem? (i := 238) rfl)
set_option maxRecDepth 100000 in
theorem jcw117 : Cond.code yX11_isMemory cX11_isMemory 2 (some .boolean) ∈ lw_tbl := jtb3 (List.mem_of_getElem? (i := 164) rfl)
set_option maxRecDepth 100000 in
theorem jcw118 : Cond.code yX11_isTrap cX11_isTrap 2 (some .boolean) ∈ lw_tbl := jtb3 (List.mem_of_getElem? (i := 175) rfl)
set_option maxRecDepth 100000 in
theorem jcw119 : Cond.code yX11_isPerson cX11_isPerson 2 (some .boolean) ∈ lw_tbl := jtb3 (List.mem_of_getElem? (i := 183) rfl)
set_option maxRecDepth 100000 in
theorem jcw120 : Cond.code yX11_isPool cX11_isPool 2 (some .boolean) ∈ lw_tbl := jtb4 (List.mem_of_getElem? (i := 39) rfl)
set_option maxRecDepth 100000 in
theorem jcw121 : Cond.code yX11_isEmptyTrap cX11_isEmptyTrap 2 (some .boolean) ∈ lw_tbl := jtb4 (List.mem_of_getElem? (i := 35) rfl)
set_option maxRecDepth 100000 in
theorem jcw122 : Cond.code yX11_isFree cX11_isFree 2 (some .boolean) ∈ lw_tbl := jtb4 (List.mem_of_getElem? (i := 85) rfl)
set_option maxRecDepth 100000 in
theorem jcw123 : Cond.code yX11_isHad cX11_isHad 2 (some .boolean) ∈ lw_tbl := jtb4 (List.mem_of_getElem? (i := 47) rfl)
set_option maxRecDepth 100000 in
theorem jcw124 : Cond.code yX11_ruling cX11_ruling 1 (some (.object "EelThroat$Rule")) ∈ lw_tbl := jtb3 (List.mem_of_getElem? (i := 226) rfl)
set_option maxRecDepth 100000 in
theorem jcw125 : Cond.code yX12_in cX12_in 6 (some .boolean) ∈ lw_tbl := jtb6 (List.mem_of_getElem? (i := 36) rfl)
set_option maxRecDepth 100000 in
theorem jcw126 : Cond.code yX12_isOf cX12_isOf 2 (some .boolean) ∈ lw_tbl := jtb7 (List.mem_of_getElem? (i := 77) rfl)
set_option maxRecDepth 100000 in
theorem jcw127 : Cond.code yX12_bits cX12_bits 3 (some .int) ∈ lw_tbl := jtb7 (List.mem_of_getElem? (i := 92) rfl)
set_option maxRecDepth 100000 in
theorem jcw128 : Cond.code yX12_four cX12_four 3 none ∈ lw_tbl := jtb5 (List.mem_of_getElem? (i := 207) rfl)
set_option maxRecDepth 100000 in
theorem jcw129 : Cond.code yX12_feed cX12_feed 6 (some .int) ∈ lw_tbl := jtb5 (List.mem_of_getElem? (i := 203) rfl)
set_option maxRecDepth 100000 in
theorem jcw130 : Cond.code yX12_end cX12_end 2 (some .int) ∈ lw_tbl := jtb5 (List.mem_of_getElem? (i := 211) rfl)
set_option maxRecDepth 100000 in
theorem jcw131 : Cond.code yX12_fails cX12_fails 3 (some .boolean) ∈ lw_tbl := jtb6 (List.mem_of_getElem? (i := 9) rfl)
set_option maxRecDepth 100000 in
theorem jcw132 : Cond.code yX12_see cX12_see 1 (some .int) ∈ lw_tbl := jtb5 (List.mem_of_getElem? (i := 227) rfl)
set_option maxRecDepth 100000 in
theorem jcw133 : Cond.code yX12_isDigit cX12_isDigit 2 (some .boolean) ∈ lw_tbl := jtb6 (List.mem_of_getElem? (i := 33) rfl)
set_option maxRecDepth 100000 in
theorem jcw134 : Cond.code yX12_isLetter cX12_isLetter 2 (some .boolean) ∈ lw_tbl := jtb6 (List.mem_of_getElem? (i := 0) rfl)
set_option maxRecDepth 100000 in
theorem jcw135 : Cond.code yX12_isWord cX12_isWord 6 (some .boolean) ∈ lw_tbl := jtb5 (List.mem_of_getElem? (i := 236) rfl)
set_option maxRecDepth 100000 in
theorem jcw136 : Cond.code yX12_passWord cX12_passWord 1 none ∈ lw_tbl := jtb6 (List.mem_of_getElem? (i := 21) rfl)
set_option maxRecDepth 100000 in
theorem jcw137 : Cond.code yX12_takesWord cX12_takesWord 3 (some .boolean) ∈ lw_tbl := jtb6 (List.mem_of_getElem? (i := 97) rfl)
set_option maxRecDepth 100000 in
theorem jcw138 : Cond.code yX12_numberHere cX12_numberHere 5 (some .boolean) ∈ lw_tbl := jtb6 (List.mem_of_getElem? (i := 29) rfl)
set_option maxRecDepth 100000 in
theorem jcw139 : Cond.code yX12_wordHere cX12_wordHere 1 (some .int) ∈ lw_tbl := jtb6 (List.mem_of_getElem? (i := 81) rfl)
set_option maxRecDepth 100000 in
theorem jcw140 : Cond.code yX12_puts cX12_puts 3 none ∈ lw_tbl := jtb6 (List.mem_of_getElem? (i := 77) rfl)
set_option maxRecDepth 100000 in
theorem jcw141 : Cond.code yX12_makes cX12_makes 2 (some .boolean) ∈ lw_tbl := jtb6 (List.mem_of_getElem? (i := 73) rfl)
set_option maxRecDepth 100000 in
theorem jcw142 : Cond.code yX12_opens cX12_opens 2 (some .boolean) ∈ lw_tbl := jtb6 (List.mem_of_getElem? (i := 110) rfl)
set_option maxRecDepth 100000 in
theorem jcw143 : Cond.code yX12_strength cX12_strength 1 (some .int) ∈ lw_tbl := jtb6 (List.mem_of_getElem? (i := 125) rfl)
set_option maxRecDepth 100000 in
theorem jcw144 : Cond.code yX12_layDown cX12_layDown 2 none ∈ lw_tbl := jtb6 (List.mem_of_getElem? (i := 122) rfl)
set_option maxRecDepth 100000 in
theorem jcw145 : Cond.code yX12_value cX12_value 3 (some .boolean) ∈ lw_tbl := jtb6 (List.mem_of_getElem? (i := 68) rfl)
set_option maxRecDepth 100000 in
theorem jcw146 : Cond.code yX12_term cX12_term 2 (some .boolean) ∈ lw_tbl := jtb6 (List.mem_of_getElem? (i := 64) rfl)
set_option maxRecDepth 100000 in
theorem jcw147 : Cond.code yX12_sum cX12_sum 2 (some .boolean) ∈ lw_tbl := jtb6 (List.mem_of_getElem? (i := 60) rfl)
set_option maxRecDepth 100000 in
theorem jcw148 : Cond.code yX12_compare cX12_compare 5 (some .boolean) ∈ lw_tbl := jtb6 (List.mem_of_getElem? (i := 114) rfl)
set_option maxRecDepth 100000 in
theorem jcw149 : Cond.code yX12_fact cX12_fact 3 (some .boolean) ∈ lw_tbl := jtb6 (List.mem_of_getElem? (i := 105) rfl)
set_option maxRecDepth 100000 in
theorem jcw150 : Cond.code yX12_isInside cX12_isInside 2 (some .boolean) ∈ lw_tbl := jtb6 (List.mem_of_getElem? (i := 129) rfl)
set_option maxRecDepth 100000 in
theorem jcw151 : Cond.code yX12_closes cX12_closes 1 none ∈ lw_tbl := jtb6 (List.mem_of_getElem? (i := 118) rfl)
set_option maxRecDepth 100000 in
theorem jcw152 : Cond.code yX12_tested cX12_tested 3 (some .boolean) ∈ lw_tbl := jtb6 (List.mem_of_getElem? (i := 101) rfl)
set_option maxRecDepth 100000 in
theorem jcw153 : Cond.code yX12_isGoHere cX12_isGoHere 2 (some .boolean) ∈ lw_tbl := jtb6 (List.mem_of_getElem? (i := 56) rfl)
set_option maxRecDepth 100000 in
theorem jcw154 : Cond.code yX12_cellHere cX12_cellHere 4 (some .boolean) ∈ lw_tbl := jtb6 (List.mem_of_getElem? (i := 25) rfl)
set_option maxRecDepth 100000 in
theorem jcw155 : Cond.code yX12_isRiverHere cX12_isRiverHere 2 (some .boolean) ∈ lw_tbl := jtb6 (List.mem_of_getElem? (i := 17) rfl)
set_option maxRecDepth 100000 in
theorem jcw156 : Cond.code yX12_isMoonHere cX12_isMoonHere 2 (some .boolean) ∈ lw_tbl := jtb6 (List.mem_of_getElem? (i := 40) rfl)
set_option maxRecDepth 100000 in
theorem jcw157 : Cond.code yX12_isPersonHere cX12_isPersonHere 2 (some .boolean) ∈ lw_tbl := jtb6 (List.mem_of_getElem? (i := 44) rfl)
set_option maxRecDepth 100000 in
theorem jcw158 : Cond.code yX12_isMemoryHere cX12_isMemoryHere 3 (some .boolean) ∈ lw_tbl := jtb6 (List.mem_of_getElem? (i := 48) rfl)
set_option maxRecDepth 100000 in
theorem jcw159 : Cond.code yX12_isTrapHere cX12_isTrapHere 3 (some .boolean) ∈ lw_tbl := jtb6 (List.mem_of_getElem? (i := 52) rfl)
set_option maxRecDepth 100000 in
theorem jcw160 : Cond.code yX12_riverLineHere cX12_riverLineHere 2 (some .boolean) ∈ lw_tbl := jtb6 (List.mem_of_getElem? (i := 13) rfl)
set_option maxRecDepth 100000 in
theorem jcw161 : Cond.code yX12_isRiverWord cX12_isRiverWord 1 (some .boolean) ∈ lw_tbl := jtb5 (List.mem_of_getElem? (i := 231) rfl)
set_option maxRecDepth 100000 in
theorem jcw162 : Cond.code yX12_clauseHere cX12_clauseHere 3 (some .boolean) ∈ lw_tbl := jtb5 (List.mem_of_getElem? (i := 223) rfl)
set_option maxRecDepth 100000 in
theorem jcw163 : Cond.code yX12_readsAll cX12_readsAll 2 (some .boolean) ∈ lw_tbl := jtb5 (List.mem_of_getElem? (i := 219) rfl)
set_option maxRecDepth 100000 in
theorem jcw164 : Cond.code yX12_rule cX12_rule 1 (some .int) ∈ lw_tbl := jtb5 (List.mem_of_getElem? (i := 215) rfl)
set_option maxRecDepth 100000 in
theorem jcw165 : Cond.code yX12_river cX12_river 2 (some .int) ∈ lw_tbl := jtb6 (List.mem_of_getElem? (i := 135) rfl)
set_option maxRecDepth 100000 in
theorem jcw166 : Cond.code yX12_isRule cX12_isRule 2 (some .boolean) ∈ lw_tbl := jtb6 (List.mem_of_getElem? (i := 147) rfl)
set_option maxRecDepth 100000 in
theorem jcw167 : Cond.code yX12_push cX12_push 3 none ∈ lw_tbl := jtb7 (List.mem_of_getElem? (i := 13) rfl)
set_option maxRecDepth 100000 in
theorem jcw168 : Cond.code yX12_pop cX12_pop 1 (some .long) ∈ lw_tbl := jtb7 (List.mem_of_getElem? (i := 17) rfl)
set_option maxRecDepth 100000 in
theorem jcw169 : Cond.code yX12_one cX12_one 5 (some .long) ∈ lw_tbl := jtb7 (List.mem_of_getElem? (i := 20) rfl)
set_option maxRecDepth 100000 in
theorem jcw170 : Cond.code yX12_reckons cX12_reckons 11 (some .long) ∈ lw_tbl := jtb7 (List.mem_of_getElem? (i := 9) rfl)
set_option maxRecDepth 100000 in
theorem jcw171 : Cond.code yX12_isRiver cX12_isRiver 1 (some .boolean) ∈ lw_tbl := jtb6 (List.mem_of_getElem? (i := 200) rfl)
set_option maxRecDepth 100000 in
theorem jcw172 : Cond.code yX12_rounds cX12_rounds 1 (some .int) ∈ lw_tbl := jtb6 (List.mem_of_getElem? (i := 196) rfl)
set_option maxRecDepth 100000 in
theorem jcw173 : Cond.code yX12_isPool cX12_isPool 2 (some .boolean) ∈ lw_tbl := jtb6 (List.mem_of_getElem? (i := 233) rfl)
set_option maxRecDepth 100000 in
theorem jcw174 : Cond.code yX12_isPerson cX12_isPerson 2 (some .boolean) ∈ lw_tbl := jtb6 (List.mem_of_getElem? (i := 184) rfl)
set_option maxRecDepth 100000 in
theorem jcw175 : Cond.code yX12_isMemory cX12_isMemory 2 (some .boolean) ∈ lw_tbl := jtb6 (List.mem_of_getElem? (i := 155) rfl)
set_option maxRecDepth 100000 in
theorem jcw176 : Cond.code yX12_isTrap cX12_isTrap 2 (some .boolean) ∈ lw_tbl := jtb6 (List.mem_of_getElem? (i := 164) rfl)
set_option maxRecDepth 100000 in
theorem jcw177 : Cond.code yX12_isFree cX12_isFree 2 (some .boolean) ∈ lw_tbl := jtb6 (List.mem_of_getElem? (i := 224) rfl)
set_option maxRecDepth 100000 in
theorem jcw178 : Cond.code yX12_isHad cX12_isHad 2 (some .boolean) ∈ lw_tbl := jtb7 (List.mem_of_getElem? (i := 49) rfl)
set_option maxRecDepth 100000 in
theorem jcw179 : Cond.code yX12_poolOf cX12_poolOf 2 (some .int) ∈ lw_tbl := jtb6 (List.mem_of_getElem? (i := 168) rfl)
set_option maxRecDepth 100000 in
theorem jcw180 : Cond.code yX12_baitOf cX12_baitOf 2 (some .int) ∈ lw_tbl := jtb6 (List.mem_of_getElem? (i := 172) rfl)
set_option maxRecDepth 100000 in
theorem jcw181 : Cond.code yX12_memoryIn cX12_memoryIn 3 (some .int) ∈ lw_tbl := jtb6 (List.mem_of_getElem? (i := 176) rfl)
set_option maxRecDepth 100000 in
theorem jcw182 : Cond.code yX12_isEmptyTrap cX12_isEmptyTrap 2 (some .boolean) ∈ lw_tbl := jtb7 (List.mem_of_getElem? (i := 40) rfl)
set_option maxRecDepth 100000 in
theorem jcw183 : Cond.code yX12_onesThat cX12_onesThat 5 (some .int) ∈ lw_tbl := jtb6 (List.mem_of_getElem? (i := 188) rfl)
set_option maxRecDepth 100000 in
theorem jcw184 : Cond.code yX12_lightOn cX12_lightOn 2 (some .int) ∈ lw_tbl := jtb7 (List.mem_of_getElem? (i := 1) rfl)
set_option maxRecDepth 100000 in
theorem jcw185 : Cond.code yX12_begins cX12_begins 2 none ∈ lw_tbl := jtb6 (List.mem_of_getElem? (i := 139) rfl)
set_option maxRecDepth 100000 in
theorem jcw186 : Cond.code yX12_force cX12_force 3 (some .int) ∈ lw_tbl := jtb6 (List.mem_of_getElem? (i := 143) rfl)
set_option maxRecDepth 100000 in
theorem jcw187 : Cond.code yX12_memory cX12_memory 3 (some .int) ∈ lw_tbl := jtb6 (List.mem_of_getElem? (i := 151) rfl)
set_option maxRecDepth 100000 in
theorem jcw188 : Cond.code yX12_trap cX12_trap 3 (some .int) ∈ lw_tbl := jtb6 (List.mem_of_getElem? (i := 160) rfl)
set_option maxRecDepth 100000 in
theorem jcw189 : Cond.code yX12_person cX12_person 2 (some .int) ∈ lw_tbl := jtb6 (List.mem_of_getElem? (i := 180) rfl)
set_option maxRecDepth 100000 in
theorem jcw190 : Cond.code yX12_moon cX12_moon 2 (some .int) ∈ lw_tbl := jtb6 (List.mem_of_getElem? (i := 192) rfl)
set_option maxRecDepth 100000 in
theorem jcw191 : Cond.code yX12_summedBy cX12_summedBy 4 (some .long) ∈ lw_tbl := jtb7 (List.mem_of_getElem? (i := 5) rfl)
set_option maxRecDepth 100000 in
theorem jcw192 : Cond.code yX12_sumOf cX12_sumOf 7 (some .long) ∈ lw_tbl := jtb6 (List.mem_of_getElem? (i := 237) rfl)
set_option maxRecDepth 100000 in
theorem jcw193 : Cond.code yX12_choice cX12_choice 9 (some .int) ∈ lw_tbl := jtb6 (List.mem_of_getElem? (i := 229) rfl)
set_option maxRecDepth 100000 in
theorem jcw194 : Cond.code yX12_swim cX12_swim 4 none ∈ lw_tbl := jtb6 (List.mem_of_getElem? (i := 220) rfl)
set_option maxRecDepth 100000 in
theorem jcw195 : Cond.code yX12_fitsIn cX12_fitsIn 3 (some .boolean) ∈ lw_tbl := jtb7 (List.mem_of_getElem? (i := 28) rfl)
set_option maxRecDepth 100000 in
theorem jcw196 : Cond.code yX12_catches cX12_catches 3 (some .int) ∈ lw_tbl := jtb7 (List.mem_of_getElem? (i := 24) rfl)
set_option maxRecDepth 100000 in
theorem jcw197 : Cond.code yX12_passes cX12_passes 3 (some .int) ∈ lw_tbl := jtb6 (List.mem_of_getElem? (i := 216) rfl)
set_option maxRecDepth 100000 in
theorem jcw198 : Cond.code yX12_passesAll cX12_passesAll 3 none ∈ lw_tbl := jtb7 (List.mem_of_getElem? (i := 66) rfl)
set_option maxRecDepth 100000 in
theorem jcw199 : Cond.code yX12_keepsAct cX12_keepsAct 2 none ∈ lw_tbl := jtb6 (List.mem_of_getElem? (i := 212) rfl)
set_option maxRecDepth 100000 in
theorem jcw200 : Cond.code yX12_undo cX12_undo 2 (some .int) ∈ lw_tbl := jtb6 (List.mem_of_getElem? (i := 204) rfl)
set_option maxRecDepth 100000 in
theorem jcw201 : Cond.code yX12_night cX12_night 1 (some .int) ∈ lw_tbl := jtb6 (List.mem_of_getElem? (i := 208) rfl)
set_option maxRecDepth 100000 in
theorem jcw202 : Cond.code yX12_lift cX12_lift 3 (some .int) ∈ lw_tbl := jtb7 (List.mem_of_getElem? (i := 32) rfl)
set_option maxRecDepth 100000 in
theorem jcw203 : Cond.code yX12_sink cX12_sink 5 (some .int) ∈ lw_tbl := jtb7 (List.mem_of_getElem? (i := 36) rfl)
set_option maxRecDepth 100000 in
theorem jcw204 : Cond.code yX12_free cX12_free 4 (some .int) ∈ lw_tbl := jtb7 (List.mem_of_getElem? (i := 45) rfl)
set_option maxRecDepth 100000 in
theorem jcw205 : Cond.code yX12_give cX12_give 4 (some .int) ∈ lw_tbl := jtb7 (List.mem_of_getElem? (i := 53) rfl)
set_option maxRecDepth 100000 in
theorem jcw206 : Cond.code yX12_keeps cX12_keeps 2 none ∈ lw_tbl := jtb7 (List.mem_of_getElem? (i := 62) rfl)
set_option maxRecDepth 100000 in
theorem jcw207 : Cond.code yX12_laysBack cX12_laysBack 2 none ∈ lw_tbl := jtb7 (List.mem_of_getElem? (i := 70) rfl)
set_option maxRecDepth 100000 in
theorem jcw208 : Cond.code yX12_ahead cX12_ahead 4 (some .int) ∈ lw_tbl := jtb7 (List.mem_of_getElem? (i := 57) rfl)
set_option maxRecDepth 100000 in
theorem jcw209 : Cond.code yX12_caught cX12_caught 5 (some .int) ∈ lw_tbl := jtb7 (List.mem_of_getElem? (i := 74) rfl)
set_option maxRecDepth 100000 in
theorem jcw210 : Cond.code yX12_atSea cX12_atSea 3 (some .int) ∈ lw_tbl := jtb7 (List.mem_of_getElem? (i := 81) rfl)
set_option maxRecDepth 100000 in
theorem jcw211 : Cond.code yX12_trapped cX12_trapped 1 (some .int) ∈ lw_tbl := jtb7 (List.mem_of_getElem? (i := 89) rfl)
set_option maxRecDepth 100000 in
theorem jcw212 : Cond.code yX12_full cX12_full 3 (some .int) ∈ lw_tbl := jtb7 (List.mem_of_getElem? (i := 85) rfl)
set_option maxRecDepth 100000 in
theorem jcw213 : Cond.code yX12_trappedIn cX12_trappedIn 3 (some .int) ∈ lw_tbl := jtb7 (List.mem_of_getElem? (i := 102) rfl)
set_option maxRecDepth 100000 in
theorem jcw214 : Cond.code yX12_bestSink cX12_bestSink 8 (some .int) ∈ lw_tbl := jtb7 (List.mem_of_getElem? (i := 96) rfl)
set_option maxRecDepth 100000 in
theorem jcw215 : Cond.code yX12_lay cX12_lay 7 (some .int) ∈ lw_tbl := jtb7 (List.mem_of_getElem? (i := 106) rfl)
set_option maxRecDepth 100000 in
theorem jcw216 : Cond.code yX12_throats cX12_throats 6 (some .int) ∈ lw_tbl := jtb7 (List.mem_of_getElem? (i := 110) rfl)
set_option maxRecDepth 100000 in
theorem jcw217 : Cond.code yX12_isAstray cX12_isAstray 2 (some .boolean) ∈ lw_tbl := jtb7 (List.mem_of_getElem? (i := 118) rfl)
set_option maxRecDepth 100000 in
theorem jcw218 : Cond.code yX12_astray cX12_astray 3 (some .int) ∈ lw_tbl := jtb7 (List.mem_of_getElem? (i := 114) rfl)
set_option maxRecDepth 100000 in
theorem jcw219 : Cond.code yX12_isLinked cX12_isLinked 7 (some .boolean) ∈ lw_tbl := jtb7 (List.mem_of_getElem? (i := 130) rfl)
set_option maxRecDepth 100000 in
theorem jcw220 : Cond.code yX12_isRing cX12_isRing 3 (some .boolean) ∈ lw_tbl := jtb7 (List.mem_of_getElem? (i := 126) rfl)
set_option maxRecDepth 100000 in
theorem jcw221 : Cond.code yX12_rings cX12_rings 5 (some .int) ∈ lw_tbl := jtb7 (List.mem_of_getElem? (i := 122) rfl)
set_option maxRecDepth 100000 in
theorem jcw222 : Cond.code yX12_right cX12_right 5 (some .int) ∈ lw_tbl := jtb7 (List.mem_of_getElem? (i := 134) rfl)
set_option maxRecDepth 100000 in
theorem jcw223 : Cond.code yX12_isRest cX12_isRest 4 (some .boolean) ∈ lw_tbl := jtb7 (List.mem_of_getElem? (i := 147) rfl)
set_option maxRecDepth 100000 in
theorem jcw224 : Cond.code yX12_sizeIn cX12_sizeIn 2 (some .int) ∈ lw_tbl := jtb7 (List.mem_of_getElem? (i := 143) rfl)
set_option maxRecDepth 100000 in
theorem jcw225 : Cond.code yX12_rests cX12_rests 8 (some .int) ∈ lw_tbl := jtb7 (List.mem_of_getElem? (i := 138) rfl)
set_option maxRecDepth 100000 in
theorem jcw226 : Cond.code yX12_areAlike cX12_areAlike 4 (some .boolean) ∈ lw_tbl := jtb7 (List.mem_of_getElem? (i := 155) rfl)
set_option maxRecDepth 100000 in
theorem jcw227 : Cond.code yX12_cycle cX12_cycle 4 (some .int) ∈ lw_tbl := jtb7 (List.mem_of_getElem? (i := 151) rfl)
set_option maxRecDepth 100000 in
theorem jcw228 : Cond.code yX12_sizesOf cX12_sizesOf 4 (some .int) ∈ lw_tbl := jtb7 (List.mem_of_getElem? (i := 164) rfl)
set_option maxRecDepth 100000 in
theorem jcw229 : Cond.code yX12_pence cX12_pence 9 (some .int) ∈ lw_tbl := jtb7 (List.mem_of_getElem? (i := 159) rfl)
set_option maxRecDepth 100000 in
theorem jcw230 : Cond.code yX12_note cX12_note 5 (some .int) ∈ lw_tbl := jtb7 (List.mem_of_getElem? (i := 168) rfl)
set_option maxRecDepth 100000 in
theorem jcw231 : Cond.code yX12_freeIn cX12_freeIn 2 (some .int) ∈ lw_tbl := jtb7 (List.mem_of_getElem? (i := 185) rfl)
set_option maxRecDepth 100000 in
theorem jcw232 : Cond.code yX12_areNotesSo cX12_areNotesSo 3 (some .boolean) ∈ lw_tbl := jtb7 (List.mem_of_getElem? (i := 181) rfl)
set_option maxRecDepth 100000 in
theorem jcw233 : Cond.code yX12_areAllSo cX12_areAllSo 6 (some .boolean) ∈ lw_tbl := jtb7 (List.mem_of_getElem? (i := 177) rfl)
set_option maxRecDepth 100000 in
theorem jcw234 : Cond.code yX12_of cX12_of 5 (some .int) ∈ lw_tbl := jtb7 (List.mem_of_getElem? (i := 173) rfl)
set_option maxRecDepth 100000 in
theorem jcw235 : Cond.code yX12_fillsFits cX12_fillsFits 4 none ∈ lw_tbl := jtb7 (List.mem_of_getElem? (i := 193) rfl)
set_option maxRecDepth 100000 in
theorem jcw236 : Cond.code yX12_ruled cX12_ruled 5 (some .int) ∈ lw_tbl := jtb7 (List.mem_of_getElem? (i := 189) rfl)
set_option maxRecDepth 100000 in
theorem jcw237 : Cond.code yX12_alikeAt cX12_alikeAt 6 (some .int) ∈ lw_tbl := jtb7 (List.mem_of_getElem? (i := 201) rfl)
set_option maxRecDepth 100000 in
theorem jcw238 : Cond.code yX12_look cX12_look 7 (some .int) ∈ lw_tbl := jtb7 (List.mem_of_getElem? (i := 197) rfl)
set_option maxRecDepth 100000 in
theorem jcw239 : Cond.code yX12_seed cX12_seed 3 (some .int) ∈ lw_tbl := jtb7 (List.mem_of_getElem? (i := 205) rfl)
set_option maxRecDepth 100000 in
theorem jcw240 : Cond.code yX12_draw cX12_draw 2 (some .int) ∈ lw_tbl := jtb7 (List.mem_of_getElem? (i := 214) rfl)
set_option maxRecDepth 100000 in
theorem jcw241 : Cond.code yX12_moons cX12_moons 9 (some .int) ∈ lw_tbl := jtb7 (List.mem_of_getElem? (i := 209) rfl)
set_option maxRecDepth 100000 in
theorem jcw242 : Cond.code yX12_count cX12_count 2 (some .int) ∈ lw_tbl := jtb7 (List.mem_of_getElem? (i := 222) rfl)
set_option maxRecDepth 100000 in
theorem jcw243 : Cond.code yX12_image cX12_image 3 (some .int) ∈ lw_tbl := jtb7 (List.mem_of_getElem? (i := 226) rfl)
set_option maxRecDepth 100000 in
theorem jcw244 : Cond.code yX12_back cX12_back 3 (some .int) ∈ lw_tbl := jtb7 (List.mem_of_getElem? (i := 230) rfl)
set_option maxRecDepth 100000 in
theorem jcw245 : Cond.code yJ6_bitCount_0f7a4 cJ6_bitCount_0f7a4 1 (some .int) ∈ lw_tbl := jtb4 (List.mem_of_getElem? (i := 132) rfl)
set_option maxRecDepth 100000 in
theorem jcw246 : Cond.code yJ9_max_7cf53 cJ9_max_7cf53 2 (some .int) ∈ lw_tbl := jtb3 (List.mem_of_getElem? (i := 202) rfl)
set_option maxRecDepth 100000 in
theorem jcw247 : Cond.code yJ9_min_7cf53 cJ9_min_7cf53 2 (some .int) ∈ lw_tbl := jtb3 (List.mem_of_getElem? (i := 222) rfl)
set_option maxRecDepth 100000 in
theorem jcw248 : Cond.code yJ0_length_8abf5 cJ0_length_8abf5 1 (some .int) ∈ lw_tbl := jtb2 (List.mem_of_getElem? (i := 230) rfl)
set_option maxRecDepth 100000 in
theorem jcw249 : Cond.code yJ0_charAt_5068e cJ0_charAt_5068e 2 (some .char) ∈ lw_tbl := jtb3 (List.mem_of_getElem? (i := 0) rfl)
theorem jinfo_ok0 : (((jinfo.drop 0).take 50).zip ((jposM.drop 0).take 50)).all (fun q => jokM1 q.1 q.2) = true := by decide +kernel
theorem jinfo_ok1 : (((jinfo.drop 50).take 50).zip ((jposM.drop 50).take 50)).all (fun q => jokM1 q.1 q.2) = true := by decide +kernel
theorem jinfo_ok2 : (((jinfo.drop 100).take 50).zip ((jposM.drop 100).take 50)).all (fun q => jokM1 q.1 q.2) = true := by decide +kernel
theorem jinfo_ok3 : (((jinfo.drop 150).take 50).zip ((jposM.drop 150).take 50)).all (fun q => jokM1 q.1 q.2) = true := by decide +kernel
theorem jinfo_ok4 : (((jinfo.drop 200).take 50).zip ((jposM.drop 200).take 50)).all (fun q => jokM1 q.1 q.2) = true := by decide +kernel
def jlF : List (Nat × Nat × Nat × Nat × Nat) := [(0, 11, 0, 0, 379), (0, 18, 0, 1, 380), (0, 26, 0, 2, 381), (1, 12, 1, 0, 444), (1, 21, 1, 1, 445), (1, 25, 1, 2, 446), (1, 29, 1, 3, 447), (1, 33, 1, 4, 448), (1, 36, 6, 1, 342), (1, 45, 6, 0, 339), (1, 53, 9, 1, 277), (1, 64, 9, 0, 272), (1, 68, 4, 6, 198), (1, 85, 4, 1, 180), (1, 88, 9, 3, 288), (1, 91, 9, 5, 294), (1, 94, 4, 5, 196), (1, 97, 4, 11, 212), (1, 100, 9, 4, 291), (1, 103, 9, 6, 299), (1, 113, 4, 10, 210), (1, 129, 6, 4, 351), (1, 132, 1, 5, 449), (2, 12, 2, 0, 473), (2, 21, 2, 1, 474), (2, 25, 2, 2, 475), (2, 29, 2, 3, 476), (2, 32, 6, 0, 338), (2, 38, 4, 4, 187), (2, 48, 9, 2, 284), (2, 55, 6, 2, 347), (2, 75, 9, 1, 281), (3, 9, 3, 1, 324), (3, 15, 3, 2, 325), (3, 18, 3, 3, 326), (3, 21, 3, 0, 322), (3, 37, 9, 0, 273), (3, 42, 9, 1, 280), (4, 9, 4, 7, 201), (4, 15, 4, 8, 202), (4, 18, 4, 9, 204), (4, 21, 4, 10, 206), (4, 24, 4, 11, 211), (4, 27, 4, 12, 215), (4, 30, 4, 13, 219), (4, 33, 4, 14, 221), (4, 36, 4, 15, 224), (4, 39, 4, 16, 226), (4, 42, 4, 0, 177), (4, 46, 4, 1, 179), (4, 50, 4, 2, 183), (4, 53, 4, 3, 186), (4, 56, 4, 4, 188), (4, 59, 4, 5, 192), (4, 62, 4, 6, 197), (4, 91, 8, 2, 148), (4, 109, 8, 3, 151), (5, 9, 5, 0, 491), (5, 15, 5, 1, 493), (5, 18, 5, 2, 495), (5, 22, 5, 3, 497), (5, 26, 5, 4, 499), (5, 43, 8, 2, 146), (5, 120, 8, 3, 152), (6, 12, 6, 0, 336), (6, 21, 6, 1, 341), (6, 28, 6, 2, 345), (6, 32, 6, 3, 348), (6, 46, 6, 4, 350), (6, 49, 4, 5, 193), (6, 56, 9, 1, 278), (7, 11, 7, 0, 396), (7, 15, 7, 1, 397), (7, 19, 7, 2, 398), (7, 22, 7, 3, 399), (7, 25, 9, 0, 270), (7, 45, 7, 11, 407), (7, 49, 7, 6, 402), (7, 53, 5, 3, 498), (7, 58, 7, 4, 400), (7, 62, 7, 5, 401), (7, 66, 7, 7, 403), (7, 69, 7, 8, 404), (7, 75, 4, 5, 194), (7, 78, 9, 1, 279), (7, 95, 4, 6, 199), (7, 98, 9, 3, 287), (7, 101, 4, 1, 181), (7, 110, 7, 9, 405), (7, 116, 7, 10, 406), (7, 123, 4, 10, 208), (7, 126, 4, 2, 184), (7, 129, 9, 6, 298), (7, 132, 4, 11, 214), (7, 135, 9, 5, 295), (7, 138, 9, 4, 292), (7, 141, 5, 2, 496), (7, 144, 5, 0, 492), (7, 147, 5, 1, 494), (7, 157, 9, 2, 285), (8, 9, 8, 0, 143), (8, 15, 8, 1, 145), (8, 19, 8, 2, 147), (8, 22, 8, 3, 149), (9, 9, 9, 1, 275), (9, 15, 9, 2, 283), (9, 18, 9, 3, 286), (9, 21, 9, 4, 290), (9, 24, 9, 5, 293), (9, 27, 9, 6, 297), (9, 30, 9, 0, 271), (9, 40, 4, 9, 205), (9, 45, 4, 12, 217), (9, 46, 4, 13, 220), (9, 47, 4, 14, 222), (9, 48, 4, 15, 225), (10, 10, 10, 0, 511), (10, 18, 10, 1, 512), (10, 25, 10, 3, 514), (10, 29, 10, 4, 515), (10, 36, 10, 5, 516), (10, 43, 10, 6, 517), (10, 50, 10, 7, 518), (10, 57, 10, 8, 519), (10, 64, 10, 9, 520), (10, 69, 8, 1, 144), (10, 81, 8, 3, 150), (10, 84, 6, 0, 340), (10, 91, 6, 1, 344), (10, 100, 6, 2, 346), (10, 104, 3, 0, 323), (10, 107, 0, 2, 382), (10, 108, 4, 5, 195), (10, 111, 10, 2, 513), (10, 115, 6, 3, 349), (10, 122, 4, 10, 209), (10, 125, 4, 11, 213), (10, 128, 4, 12, 218), (10, 131, 9, 1, 282), (10, 137, 9, 3, 289), (10, 140, 4, 14, 223), (10, 143, 9, 5, 296), (10, 146, 4, 16, 227), (10, 149, 9, 6, 300), (10, 170, 4, 0, 178), (10, 174, 9, 0, 274), (10, 189, 4, 8, 203), (10, 277, 6, 4, 352), (10, 283, 4, 1, 182), (10, 286, 4, 2, 185), (10, 289, 4, 4, 190), (10, 292, 4, 6, 200), (10, 301, 6, 5, 353), (11, 7, 11, 0, 1155), (11, 13, 11, 3, 1158), (11, 17, 11, 4, 1159), (11, 20, 11, 5, 1160), (11, 23, 11, 6, 1161), (11, 26, 11, 7, 1162), (11, 29, 11, 15, 1170), (11, 32, 11, 17, 1172), (11, 36, 11, 19, 1174), (11, 39, 11, 20, 1175), (11, 42, 11, 21, 1176), (11, 46, 11, 23, 1178), (11, 49, 11, 24, 1179), (11, 52, 11, 25, 1180), (11, 55, 11, 27, 1182), (11, 58, 11, 28, 1183), (11, 61, 11, 29, 1184), (11, 64, 11, 30, 1185), (11, 68, 11, 31, 1186), (11, 71, 11, 33, 1188), (11, 74, 11, 34, 1189), (11, 77, 11, 35, 1190), (11, 80, 11, 36, 1191), (11, 83, 11, 1, 1156), (11, 90, 11, 9, 1164), (11, 93, 11, 8, 1163), (11, 118, 11, 10, 1165), (11, 149, 11, 11, 1166), (11, 152, 11, 12, 1167), (11, 155, 11, 13, 1168), (11, 158, 11, 16, 1171), (11, 253, 11, 14, 1169), (11, 265, 11, 2, 1157), (11, 274, 11, 26, 1181), (11, 277, 11, 18, 1173), (11, 443, 11, 22, 1177), (11, 446, 11, 32, 1187), (12, 9, 6, 0, 337), (12, 15, 4, 5, 191), (12, 21, 6, 1, 343), (12, 25, 9, 1, 276), (12, 31, 4, 12, 216), (12, 34, 4, 4, 189), (12, 57, 4, 10, 207)]
def jcl (f : Nat) : vw_C := vwCl.getD f ("", (fun _ => ("", "", "", false)), 0)
theorem jlF_ok : jlF.all (fun q => decide (lw_tbl[q.2.2.2.2]? = some (.fieldLink (jown.getD q.1 "") q.2.1 (jcl q.2.2.1).1 ((jcl q.2.2.1).2.1 q.2.2.2.1).2.1 ((jcl q.2.2.1).2.1 q.2.2.2.1).2.2.1))) = true := by decide +kernel
def jlM : List (Nat × Nat × Nat × Nat) := [(0, 22, 73, 803), (0, 29, 247, 808), (1, 41, 73, 896), (1, 49, 51, 897), (1, 60, 52, 920), (1, 73, 76, 934), (1, 77, 2, 946), (1, 81, 6, 947), (1, 106, 10, 1032), (1, 110, 11, 1036), (1, 116, 77, 1048), (1, 119, 32, 1053), (1, 123, 246, 1054), (1, 135, 33, 1109), (1, 138, 14, 1110), (1, 141, 53, 1118), (1, 145, 75, 1119), (1, 148, 245, 1120), (2, 44, 74, 1003), (2, 51, 18, 1004), (2, 59, 28, 1008), (2, 65, 246, 1013), (2, 71, 29, 1014), (2, 78, 30, 1022), (2, 82, 51, 1023), (2, 86, 20, 1093), (3, 31, 246, 1012), (3, 45, 30, 1018), (4, 71, 246, 788), (4, 77, 62, 562), (4, 82, 66, 566), (4, 87, 69, 571), (4, 94, 63, 623), (4, 98, 35, 627), (4, 102, 70, 631), (4, 105, 36, 635), (4, 112, 67, 645), (4, 116, 68, 653), (4, 119, 72, 639), (5, 29, 62, 676), (5, 34, 66, 677), (5, 39, 69, 679), (5, 46, 63, 680), (5, 50, 70, 681), (5, 53, 44, 682), (5, 59, 71, 712), (5, 63, 39, 718), (5, 67, 38, 696), (5, 71, 67, 740), (5, 75, 68, 706), (5, 79, 40, 722), (5, 84, 41, 726), (5, 91, 64, 705), (5, 95, 42, 731), (5, 98, 43, 735), (5, 102, 47, 700), (5, 105, 46, 686), (5, 108, 45, 707), (5, 112, 65, 690), (5, 116, 72, 695), (6, 36, 31, 1138), (6, 40, 73, 1139), (6, 43, 27, 1140), (6, 52, 75, 776), (7, 31, 33, 819), (7, 37, 53, 901), (7, 41, 52, 902), (7, 72, 54, 820), (7, 85, 55, 827), (7, 88, 56, 844), (7, 91, 57, 848), (7, 104, 247, 831), (7, 113, 246, 832), (7, 119, 58, 833), (7, 150, 60, 837), (7, 153, 59, 841), (8, 25, 66, 643), (8, 28, 64, 649), (8, 32, 248, 575), (8, 37, 249, 585), (8, 41, 69, 716), (8, 45, 70, 717), (8, 48, 63, 644), (10, 73, 61, 546), (10, 77, 34, 558), (10, 87, 31, 657), (10, 95, 74, 664), (10, 114, 37, 672), (10, 118, 117, 749), (10, 134, 118, 760), (10, 152, 119, 768), (10, 155, 49, 772), (10, 159, 32, 784), (10, 163, 115, 753), (10, 167, 33, 791), (10, 177, 0, 799), (10, 181, 124, 811), (10, 185, 53, 815), (10, 192, 121, 860), (10, 195, 120, 864), (10, 198, 123, 872), (10, 201, 1, 884), (10, 205, 2, 892), (10, 209, 122, 910), (10, 212, 3, 915), (10, 216, 75, 925), (10, 219, 4, 930), (10, 223, 5, 942), (10, 227, 7, 954), (10, 230, 245, 958), (10, 235, 8, 968), (10, 238, 21, 976), (10, 244, 22, 983), (10, 248, 15, 999), (10, 252, 9, 1028), (10, 256, 12, 1044), (10, 259, 24, 1059), (10, 263, 26, 1069), (10, 266, 16, 1077), (10, 270, 17, 1081), (10, 273, 19, 1089), (10, 280, 13, 1105), (10, 295, 50, 1125), (10, 298, 48, 1134), (10, 304, 116, 914), (11, 86, 128, 1272), (11, 96, 132, 1292), (11, 100, 134, 1305), (11, 104, 135, 1301), (11, 108, 136, 1326), (11, 111, 133, 1338), (11, 114, 131, 1314), (11, 121, 125, 1342), (11, 161, 143, 1431), (11, 165, 140, 1382), (11, 170, 138, 1334), (11, 173, 141, 1378), (11, 176, 139, 1386), (11, 179, 145, 1373), (11, 183, 146, 1369), (11, 186, 147, 1365), (11, 191, 142, 1415), (11, 194, 148, 1419), (11, 197, 144, 1427), (11, 200, 150, 1434), (11, 203, 149, 1410), (11, 206, 151, 1423), (11, 215, 137, 1402), (11, 218, 152, 1406), (11, 221, 154, 1330), (11, 227, 155, 1322), (11, 232, 156, 1345), (11, 237, 157, 1349), (11, 240, 158, 1353), (11, 243, 159, 1357), (11, 248, 161, 1296), (11, 256, 160, 1318), (11, 259, 153, 1361), (11, 262, 162, 1288), (11, 268, 163, 1284), (11, 271, 185, 1444), (11, 280, 167, 1558), (11, 284, 168, 1562), (11, 288, 169, 1566), (11, 292, 171, 1505), (11, 295, 175, 1460), (11, 300, 176, 1469), (11, 303, 181, 1481), (11, 306, 172, 1501), (11, 309, 166, 1452), (11, 314, 179, 1473), (11, 317, 180, 1477), (11, 320, 174, 1489), (11, 323, 183, 1493), (11, 327, 170, 1554), (11, 331, 184, 1546), (11, 334, 191, 1550), (11, 338, 173, 1538), (11, 341, 192, 1542), (11, 345, 177, 1529), (11, 348, 193, 1534), (11, 351, 195, 1573), (11, 354, 194, 1525), (11, 357, 196, 1569), (11, 360, 197, 1521), (11, 363, 199, 1517), (11, 366, 182, 1585), (11, 371, 178, 1594), (11, 376, 206, 1607), (11, 379, 198, 1611), (11, 382, 207, 1615), (11, 385, 126, 1623), (11, 388, 127, 1638), (11, 391, 211, 1634), (11, 398, 213, 1647), (11, 401, 217, 1663), (11, 404, 219, 1675), (11, 407, 220, 1671), (11, 412, 224, 1688), (11, 415, 223, 1692), (11, 418, 226, 1700), (11, 423, 228, 1709), (11, 428, 231, 1730), (11, 431, 232, 1726), (11, 434, 233, 1722), (11, 437, 235, 1738), (11, 440, 237, 1746), (11, 460, 240, 1759), (12, 37, 245, 986), (12, 43, 23, 987), (12, 49, 21, 990), (12, 53, 25, 1062)]
def jnm (z : Nat) : MethodName := match jinfo[z]? with
  | some q => q.1
  | none => ⟨"", "", ""⟩
theorem jlM_ok : jlM.all (fun q => decide (lw_tbl[q.2.2.2]? = some (.methodLink (jown.getD q.1 "") q.2.1 (jnm q.2.2.1)))) = true := by decide +kernel
def jlN : List (Nat × Nat × Nat × Nat) := [(1, 56, 116, 919), (3, 49, 116, 1021), (6, 60, 116, 1129), (7, 81, 116, 824)]
theorem jlN_ok : jlN.all (fun q => decide (lw_tbl[q.2.2.2]? = some (.methodLinkNest (jown.getD q.1 "") q.2.1 (jnm q.2.2.1) "EelThroat"))) = true := by decide +kernel
def jlK : List (Nat × Nat × Nat × Nat × Nat × Nat) := [(1, 153, 1103515245, 0, 1, 1114), (1, 155, 12345, 0, 1, 1115), (1, 157, 2147483648, 0, 1, 1116), (1, 159, 65536, 0, 1, 1117), (5, 115, 99999, 0, 0, 694), (9, 49, 64, 0, 1, 1052), (11, 125, 120282395144825, 0, 1, 1311), (11, 127, 1886351212, 0, 1, 1390), (11, 129, 1718775661, 0, 1, 1391), (11, 131, 1936292453, 0, 1, 1392), (11, 133, 495756602476, 0, 1, 1393), (11, 135, 1650551156, 0, 1, 1394), (11, 137, 500135194739, 0, 1, 1395), (11, 139, 2003399784, 0, 1, 1396), (11, 141, 465624852596, 0, 1, 1397), (11, 143, 1852143732, 0, 1, 1398), (11, 145, 512853242725, 0, 1, 1399), (11, 147, 474214787188, 0, 1, 1400), (11, 169, 99999, 0, 0, 1377), (11, 189, 7237492, 0, 1, 1414), (11, 209, 6385252, 0, 1, 1438), (11, 211, 28530, 0, 1, 1439), (11, 213, 26982, 0, 1, 1401), (11, 225, 491395638642, 0, 1, 1300), (11, 230, 1836019566, 0, 1, 1309), (11, 235, 123581014175598, 0, 1, 1310), (11, 246, 1953653104, 0, 1, 1312), (11, 251, 26479, 0, 1, 1313), (11, 298, 19, 0, 1, 1533), (11, 312, 3, 0, 1, 1464), (11, 369, 7, 0, 1, 1589), (11, 374, 100, 0, 1, 1606), (11, 394, 40, 0, 1, 1645), (11, 396, 2, 0, 1, 1646), (11, 410, 20, 0, 1, 1687), (11, 421, 9999, 0, 1, 1708), (11, 426, 60, 0, 1, 1717), (11, 450, 1103515245, 0, 1, 1763), (11, 452, 12345, 0, 1, 1764), (11, 454, 2147483648, 0, 1, 1765), (11, 456, 65536, 0, 1, 1766), (11, 458, 10, 0, 1, 1758), (14, 265, 1431655765, 0, 0, 961), (14, 266, 858993459, 0, 0, 962), (14, 267, 252645135, 0, 0, 963)]
theorem jlK_ok : jlK.all (fun q => bif Nat.beq q.2.2.2.2.1 0 then decide (lw_tbl[q.2.2.2.2.2]? = some (.constant (jown.getD q.1 "") q.2.1 (Int32.ofInt ((q.2.2.1 : Int) - (q.2.2.2.1 : Int))))) else decide (lw_tbl[q.2.2.2.2.2]? = some (.constantLong (jown.getD q.1 "") q.2.1 (Int64.ofInt (q.2.2.1 : Int))))) = true := by decide +kernel
def jlC : List (Nat × Nat × Nat) := [(3, 25, 1144), (4, 65, 661), (9, 34, 807)]
theorem jlC_ok : jlC.all (fun q => decide (lw_tbl[q.2.2]? = some (.methodLink (jown.getD q.1 "") q.2.1 arraycopyName))) = true := by decide +kernel
theorem jcopy_ok : decide (lw_tbl[663]? = some (.native arraycopyName)) && decide (lw_tbl[662]? = some (.static arraycopyName)) && decide (lw_tbl[125]? = some (.initialized "java/lang/System")) = true := by decide +kernel
/-- texts: class, place in its pool, number -/
def jlS : List (Nat × Nat × Nat) := [(4, 85, 0), (5, 37, 1), (5, 57, 3), (5, 82, 6), (5, 87, 5), (5, 89, 4), (5, 123, 2)]
theorem jin0 : (u_ws RX0 TX0 3).all (fun w => decide (w ∈ lw_tbl) && goodWord w) = true := by decide +kernel
theorem jin1 : (u_ws RX1 TX1 6).all (fun w => decide (w ∈ lw_tbl) && goodWord w) = true := by decide +kernel
theorem jin2 : (u_ws RX2 TX2 4).all (fun w => decide (w ∈ lw_tbl) && goodWord w) = true := by decide +kernel
theorem jin3 : (u_ws RX4 TX4 4).all (fun w => decide (w ∈ lw_tbl) && goodWord w) = true := by decide +kernel
theorem jin4 : (u_ws RX5 TX5 17).all (fun w => decide (w ∈ lw_tbl) && goodWord w) = true := by decide +kernel
theorem jin5 : (u_ws RX6 TX6 5).all (fun w => decide (w ∈ lw_tbl) && goodWord w) = true := by decide +kernel
theorem jin6 : (u_ws RX7 TX7 6).all (fun w => decide (w ∈ lw_tbl) && goodWord w) = true := by decide +kernel
theorem jin7 : (u_ws RX8 TX8 12).all (fun w => decide (w ∈ lw_tbl) && goodWord w) = true := by decide +kernel
theorem jin8 : (u_ws RX9 TX9 4).all (fun w => decide (w ∈ lw_tbl) && goodWord w) = true := by decide +kernel
theorem jin9 : (u_ws RX10 TX10 7).all (fun w => decide (w ∈ lw_tbl) && goodWord w) = true := by decide +kernel
theorem jin10 : (u_ws RX11 TX11 10).all (fun w => decide (w ∈ lw_tbl) && goodWord w) = true := by decide +kernel
theorem jin11 : (u_ws RX12 TX12 37).all (fun w => decide (w ∈ lw_tbl) && goodWord w) = true := by decide +kernel
