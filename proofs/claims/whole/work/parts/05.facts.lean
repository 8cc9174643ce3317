def MX7_add : Mx := (yX7_add, cX7_add, 3, none, 2)
def MX11_feed : Mx := (yX11_feed, cX11_feed, 6, (some .int), 4)
def MX11_end : Mx := (yX11_end, cX11_end, 2, (some .int), 2)
def MX1_turnOf_27 : Mx := (yX1_turnOf, cX1_turnOf, 4, (some .int), 2)
def MX1_minutes_27 : Mx := (yX1_minutes, cX1_minutes, 3, (some .int), 2)
def MX1_measure_27 : Mx := (yX1_measure, cX1_measure, 5, none, 4)
def MX7_byteAt : Mx := (yX7_byteAt, cX7_byteAt, 2, (some .int), 2)
def MX8_skipBlanks : Mx := (yX8_skipBlanks, cX8_skipBlanks, 1, none, 4)
def MX8_isLetter : Mx := (yX8_isLetter, cX8_isLetter, 1, (some .boolean), 2)
def MX8_isDigit : Mx := (yX8_isDigit, cX8_isDigit, 1, (some .boolean), 2)
def MX8_isSignByte : Mx := (yX8_isSignByte, cX8_isSignByte, 1, (some .boolean), 2)
def MX8_readNumber : Mx := (yX8_readNumber, cX8_readNumber, 2, none, 4)
def MX8_withLetter : Mx := (yX8_withLetter, cX8_withLetter, 3, (some .long), 2)
def MX8_readWord : Mx := (yX8_readWord, cX8_readWord, 2, none, 4)
def MX8_step : Mx := (yX8_step, cX8_step, 2, none, 6)
def MX3_refuse : Mx := (yX3_refuse, cX3_refuse, 2, (some .boolean), 2)
def MX3_newName : Mx := (yX3_newName, cX3_newName, 4, (some .boolean), 8)
def MX8_isWord : Mx := (yX8_isWord, cX8_isWord, 2, (some .boolean), 2)
def MX3_number : Mx := (yX3_number, cX3_number, 6, (some .boolean), 8)
def MX8_isSign : Mx := (yX8_isSign, cX8_isSign, 2, (some .boolean), 2)
def MX3_sign : Mx := (yX3_sign, cX3_sign, 2, (some .boolean), 8)
def MX3_placeLine : Mx := (yX3_placeLine, cX3_placeLine, 2, (some .boolean), 10)
def MX3_placeHere : Mx := (yX3_placeHere, cX3_placeHere, 2, (some .int), 4)
def MX1_isJoined_27 : Mx := (yX1_isJoined, cX1_isJoined, 3, (some .boolean), 2)
def MX1_join_27 : Mx := (yX1_join, cX1_join, 4, none, 2)
def MX3_roadLine : Mx := (yX3_roadLine, cX3_roadLine, 3, (some .boolean), 10)
def MX3_atPlace : Mx := (yX3_atPlace, cX3_atPlace, 4, (some .boolean), 8)
def MX3_thingLine : Mx := (yX3_thingLine, cX3_thingLine, 3, (some .boolean), 10)
def MX3_enclosed (d : Nat) : Mx := (yX3_enclosed, cX3_enclosed, 2, (some .boolean), 10 + 12 * d + 1)
def MX4_add_33 : Mx := (yX4_add, cX4_add, 2, none, 2)
def MX3_unit (d : Nat) : Mx := (yX3_unit, cX3_unit, 5, (some .boolean), 10 + 12 * d + 2)
def MX3_term (d : Nat) : Mx := (yX3_term, cX3_term, 3, (some .boolean), 10 + 12 * d + 3)
def MX3_sum (d : Nat) : Mx := (yX3_sum, cX3_sum, 4, (some .boolean), 10 + 12 * d + 4)
def MX3_negated (d : Nat) : Mx := (yX3_negated, cX3_negated, 2, (some .boolean), 10 + 12 * d + 5)
def MX3_one (d : Nat) : Mx := (yX3_one, cX3_one, 3, (some .boolean), 10 + 12 * d + 6)
def MX3_both (d : Nat) : Mx := (yX3_both, cX3_both, 3, (some .boolean), 10 + 12 * d + 7)
def MX3_either (d : Nat) : Mx := (yX3_either, cX3_either, 3, (some .boolean), 10 + 12 * d + 8)
def MX3_word : Mx := (yX3_word, cX3_word, 2, (some .boolean), 8)
def MX3_personLine : Mx := (yX3_personLine, cX3_personLine, 3, (some .boolean), 132)
def MX3_lawLine : Mx := (yX3_lawLine, cX3_lawLine, 1, (some .boolean), 10)
def MX3_lateLine : Mx := (yX3_lateLine, cX3_lateLine, 1, (some .boolean), 10)
def MX3_line : Mx := (yX3_line, cX3_line, 1, (some .boolean), 134)
def MX1_clear_27 : Mx := (yX1_clear, cX1_clear, 2, none, 2)
def MX4_clear_33 : Mx := (yX4_clear, cX4_clear, 1, none, 2)
def MX10_clear_26 : Mx := (yX10_clear, cX10_clear, 1, none, 4)
def MX8_begin : Mx := (yX8_begin, cX8_begin, 1, none, 8)
def MX3_readTape : Mx := (yX3_readTape, cX3_readTape, 3, (some .boolean), 136)
def MX1_copyFrom_4 : Mx := (yX1_copyFrom, cX1_copyFrom, 2, none, 2)
def MX4_copyFrom_10 : Mx := (yX4_copyFrom, cX4_copyFrom, 2, none, 2)
def MX10_copyFrom_3 : Mx := (yX10_copyFrom, cX10_copyFrom, 3, none, 4)
def MX2_beginIn : Mx := (yX2_beginIn, cX2_beginIn, 3, none, 2)
def MX11_valley : Mx := (yX11_valley, cX11_valley, 3, (some .int), 138)
def MX11_fault : Mx := (yX11_fault, cX11_fault, 2, (some .int), 2)
def MX0_stoodAt : Mx := (yX0_stoodAt, cX0_stoodAt, 4, (some .boolean), 2)
def MX1_minutes_4 : Mx := (yX1_minutes, cX1_minutes, 3, (some .int), 2)
def MX0_isInTime : Mx := (yX0_isInTime, cX0_isInTime, 7, (some .boolean), 4)
def MX4_value_10 : Mx := (yX4_value, cX4_value, 8, (some .int), 2)
def MX0_ask : Mx := (yX0_ask, cX0_ask, 5, (some .int), 4)
def MX0_aim : Mx := (yX0_aim, cX0_aim, 8, (some .int), 6)
def MX0_setOut : Mx := (yX0_setOut, cX0_setOut, 6, none, 8)
def MX0_isAhead : Mx := (yX0_isAhead, cX0_isAhead, 4, (some .boolean), 2)
def MJ6_bitCount_0f7a4 : Mx := (yJ6_bitCount_0f7a4, cJ6_bitCount_0f7a4, 1, (some .int), 2)
def MX2_draw : Mx := (yX2_draw, cX2_draw, 2, (some .int), 2)
def MX0_drawnOf : Mx := (yX0_drawnOf, cX0_drawnOf, 6, (some .int), 4)
def MX0_winner : Mx := (yX0_winner, cX0_winner, 6, (some .int), 6)
def MX10_isTaker_3 : Mx := (yX10_isTaker, cX10_isTaker, 3, (some .boolean), 2)
def MX0_settle : Mx := (yX0_settle, cX0_settle, 6, none, 8)
def MX0_remember : Mx := (yX0_remember, cX0_remember, 3, none, 2)
def MX0_noons : Mx := (yX0_noons, cX0_noons, 8, none, 10)
def MX2_endDay : Mx := (yX2_endDay, cX2_endDay, 1, none, 2)
def MX0_wearDown : Mx := (yX0_wearDown, cX0_wearDown, 4, none, 2)
def MX0_use : Mx := (yX0_use, cX0_use, 7, (some .int), 4)
def MX0_mend : Mx := (yX0_mend, cX0_mend, 6, none, 2)
def MX0_live : Mx := (yX0_live, cX0_live, 5, (some .int), 12)
def MX11_run : Mx := (yX11_run, cX11_run, 4, (some .int), 14)
def MX11_isThing : Mx := (yX11_isThing, cX11_isThing, 2, (some .boolean), 2)
def MX11_thing : Mx := (yX11_thing, cX11_thing, 3, (some .int), 4)
def MX11_isPerson : Mx := (yX11_isPerson, cX11_isPerson, 2, (some .boolean), 2)
def MX11_thingsOf : Mx := (yX11_thingsOf, cX11_thingsOf, 4, (some .int), 2)
def MX11_person : Mx := (yX11_person, cX11_person, 3, (some .int), 8)
def MX11_isPlace : Mx := (yX11_isPlace, cX11_isPlace, 2, (some .boolean), 2)
def MX11_far : Mx := (yX11_far, cX11_far, 3, (some .int), 4)
def MX11_isPersonOrNobody : Mx := (yX11_isPersonOrNobody, cX11_isPersonOrNobody, 2, (some .boolean), 4)
def MX11_give : Mx := (yX11_give, cX11_give, 3, (some .boolean), 6)
def MX11_chip : Mx := (yX11_chip, cX11_chip, 3, (some .int), 4)
def MX11_asks : Mx := (yX11_asks, cX11_asks, 3, (some .int), 6)
def MX9_isDrawn : Mx := (yX9_isDrawn, cX9_isDrawn, 2, (some .boolean), 2)
def MX9_lotsFor : Mx := (yX9_lotsFor, cX9_lotsFor, 2, (some .int), 4)
def MX9_commonDivisor : Mx := (yX9_commonDivisor, cX9_commonDivisor, 6, (some .int), 2)
def MX2_copyFrom : Mx := (yX2_copyFrom, cX2_copyFrom, 3, none, 2)
def MX9_beginDay : Mx := (yX9_beginDay, cX9_beginDay, 4, none, 6)
def MX9_isHis : Mx := (yX9_isHis, cX9_isHis, 3, (some .boolean), 4)
def MX9_weigh : Mx := (yX9_weigh, cX9_weigh, 11, (some .boolean), 12)
def MX11_chance : Mx := (yX11_chance, cX11_chance, 4, (some .int), 14)
def MX5_isSpent : Mx := (yX5_isSpent, cX5_isSpent, 3, (some .boolean), 2)
def MX5_choiceOf : Mx := (yX5_choiceOf, cX5_choiceOf, 3, (some .int), 2)
def MX5_choose : Mx := (yX5_choose, cX5_choose, 3, none, 4)
def MX5_goOn : Mx := (yX5_goOn, cX5_goOn, 2, (some .boolean), 6)
def MX5_walk : Mx := (yX5_walk, cX5_walk, 3, (some .int), 4)
def MX5_isAhead : Mx := (yX5_isAhead, cX5_isAhead, 5, (some .boolean), 6)
def MX5_payFor : Mx := (yX5_payFor, cX5_payFor, 6, (some .int), 8)
def MX5_isAtRest : Mx := (yX5_isAtRest, cX5_isAtRest, 4, (some .boolean), 10)
def MX5_payOfAll : Mx := (yX5_payOfAll, cX5_payOfAll, 3, (some .int), 10)
def MX5_lost : Mx := (yX5_lost, cX5_lost, 7, (some .int), 4)
def MX5_addChoice : Mx := (yX5_addChoice, cX5_addChoice, 3, none, 2)
def MX5_listChoices : Mx := (yX5_listChoices, cX5_listChoices, 5, none, 6)
def MX5_seek : Mx := (yX5_seek, cX5_seek, 4, (some .boolean), 12)
def MX11_rest : Mx := (yX11_rest, cX11_rest, 2, (some .int), 14)
def MX11_stands : Mx := (yX11_stands, cX11_stands, 3, (some .int), 14)
def MX9_madeBy : Mx := (yX9_madeBy, cX9_madeBy, 6, (some .int), 14)
def MX9_madeKept : Mx := (yX9_madeKept, cX9_madeKept, 5, (some .int), 6)
def MX11_made : Mx := (yX11_made, cX11_made, 3, (some .int), 16)
def MX11_law : Mx := (yX11_law, cX11_law, 6, (some .int), 16)
def MX9_mostOfDay : Mx := (yX9_mostOfDay, cX9_mostOfDay, 11, (some .long), 2)
def MX9_useWell : Mx := (yX9_useWell, cX9_useWell, 8, (some .int), 4)
def MX11_used : Mx := (yX11_used, cX11_used, 6, (some .int), 6)
def MX11_keeps : Mx := (yX11_keeps, cX11_keeps, 4, (some .int), 14)
def MX11_lift : Mx := (yX11_lift, cX11_lift, 6, (some .int), 4)
def MX1_mostNoons_4 : Mx := (yX1_mostNoons, cX1_mostNoons, 9, (some .int), 4)
def MX11_tour : Mx := (yX11_tour, cX11_tour, 4, (some .int), 6)
def MX2_ownerBehind : Mx := (yX2_ownerBehind, cX2_ownerBehind, 4, (some .int), 2)
def MX11_since : Mx := (yX11_since, cX11_since, 4, (some .int), 4)
def MX6_add : Mx := (yX6_add, cX6_add, 5, (some .int), 2)
def MX11_tale : Mx := (yX11_tale, cX11_tale, 4, (some .int), 6)
def MX6_takeBack : Mx := (yX6_takeBack, cX6_takeBack, 3, (some .boolean), 2)
def MX11_untell : Mx := (yX11_untell, cX11_untell, 2, (some .boolean), 4)
def MX11_later : Mx := (yX11_later, cX11_later, 2, (some .int), 2)
def MX6_counts : Mx := (yX6_counts, cX6_counts, 3, (some .boolean), 2)
def MX6_isFalse : Mx := (yX6_isFalse, cX6_isFalse, 3, (some .boolean), 4)
def MX6_countFalse : Mx := (yX6_countFalse, cX6_countFalse, 5, (some .int), 6)
def MX6_countOpen : Mx := (yX6_countOpen, cX6_countOpen, 5, (some .int), 4)
def MX6_firstFalse : Mx := (yX6_firstFalse, cX6_firstFalse, 4, (some .int), 6)
def MX6_contradictsEarlier : Mx := (yX6_contradictsEarlier, cX6_contradictsEarlier, 5, (some .boolean), 4)
def MX6_firstDouble : Mx := (yX6_firstDouble, cX6_firstDouble, 3, (some .int), 6)
def MX11_judge : Mx := (yX11_judge, cX11_judge, 3, (some .int), 8)
def MX11_seed : Mx := (yX11_seed, cX11_seed, 3, (some .int), 2)
def MX11_image : Mx := (yX11_image, cX11_image, 2, (some .int), 4)
def MX11_back : Mx := (yX11_back, cX11_back, 2, (some .int), 4)
def MX11_about : Mx := (yX11_about, cX11_about, 2, (some .int), 2)
def MX12_four : Mx := (yX12_four, cX12_four, 3, none, 2)
def MX12_feed : Mx := (yX12_feed, cX12_feed, 6, (some .int), 4)
def MX12_end : Mx := (yX12_end, cX12_end, 2, (some .int), 2)
def MX12_layFar : Mx := (yX12_layFar, cX12_layFar, 5, none, 2)
def MX12_fresh : Mx := (yX12_fresh, cX12_fresh, 2, none, 2)
def MX12_here : Mx := (yX12_here, cX12_here, 2, (some .int), 2)
def MX12_isDigit : Mx := (yX12_isDigit, cX12_isDigit, 1, (some .boolean), 2)
def MX12_isLetter : Mx := (yX12_isLetter, cX12_isLetter, 1, (some .boolean), 2)
def MX12_isSign : Mx := (yX12_isSign, cX12_isSign, 1, (some .boolean), 2)
def MX12_token : Mx := (yX12_token, cX12_token, 3, none, 4)
def MX12_wrong : Mx := (yX12_wrong, cX12_wrong, 2, none, 2)
def MX12_isWord : Mx := (yX12_isWord, cX12_isWord, 3, (some .boolean), 2)
def MX12_toldNumber : Mx := (yX12_toldNumber, cX12_toldNumber, 4, (some .int), 6)
def MX12_readLate : Mx := (yX12_readLate, cX12_readLate, 1, none, 8)
def MX12_readLaw : Mx := (yX12_readLaw, cX12_readLaw, 1, none, 6)
def MX12_isName : Mx := (yX12_isName, cX12_isName, 3, (some .boolean), 2)
def MX12_find : Mx := (yX12_find, cX12_find, 6, (some .int), 2)
def MX12_newName : Mx := (yX12_newName, cX12_newName, 5, (some .long), 6)
def MX12_want : Mx := (yX12_want, cX12_want, 3, none, 6)
def MX12_oldPlace : Mx := (yX12_oldPlace, cX12_oldPlace, 2, (some .int), 6)
def MX12_atPlace : Mx := (yX12_atPlace, cX12_atPlace, 1, (some .int), 8)
def MX12_told : Mx := (yX12_told, cX12_told, 5, (some .int), 8)
def MX12_upper : Mx := (yX12_upper, cX12_upper, 1, (some .int), 2)
def MX12_rank : Mx := (yX12_rank, cX12_rank, 1, (some .int), 2)
def MX12_note : Mx := (yX12_note, cX12_note, 3, none, 2)
def MX12_pop : Mx := (yX12_pop, cX12_pop, 1, none, 4)
def MX12_settle : Mx := (yX12_settle, cX12_settle, 2, none, 6)
def MX12_hold : Mx := (yX12_hold, cX12_hold, 2, none, 2)
def MX12_known : Mx := (yX12_known, cX12_known, 2, (some .int), 4)
def MX12_operand : Mx := (yX12_operand, cX12_operand, 5, (some .int), 6)
def MX12_signOf : Mx := (yX12_signOf, cX12_signOf, 1, (some .int), 4)
def MX12_isOpen : Mx := (yX12_isOpen, cX12_isOpen, 3, (some .boolean), 2)
def MX12_sign : Mx := (yX12_sign, cX12_sign, 2, (some .int), 8)
def MX12_readStands : Mx := (yX12_readStands, cX12_readStands, 2, none, 10)
def MX12_readPerson : Mx := (yX12_readPerson, cX12_readPerson, 8, none, 12)
def MX12_readThing : Mx := (yX12_readThing, cX12_readThing, 8, none, 10)
def MX12_readRoad : Mx := (yX12_readRoad, cX12_readRoad, 4, none, 10)
def MX12_readPlace : Mx := (yX12_readPlace, cX12_readPlace, 4, none, 10)
def MX12_readLine : Mx := (yX12_readLine, cX12_readLine, 1, none, 14)
def MX12_valley : Mx := (yX12_valley, cX12_valley, 2, (some .int), 16)
def MX12_fault : Mx := (yX12_fault, cX12_fault, 2, (some .int), 2)
def MX12_isPlace : Mx := (yX12_isPlace, cX12_isPlace, 2, (some .boolean), 2)
def MX12_farOf : Mx := (yX12_farOf, cX12_farOf, 3, (some .int), 2)
def MX12_far : Mx := (yX12_far, cX12_far, 3, (some .int), 4)
def MX12_allMade : Mx := (yX12_allMade, cX12_allMade, 3, (some .int), 2)
def MX12_placeOf : Mx := (yX12_placeOf, cX12_placeOf, 2, (some .int), 2)
def MX12_worked : Mx := (yX12_worked, cX12_worked, 3, (some .int), 2)
def MX12_forceOf : Mx := (yX12_forceOf, cX12_forceOf, 2, (some .int), 2)
def MX12_heavyOf : Mx := (yX12_heavyOf, cX12_heavyOf, 2, (some .int), 2)
def MX12_asksOf : Mx := (yX12_asksOf, cX12_asksOf, 6, (some .int), 4)
def MX12_aimOf : Mx := (yX12_aimOf, cX12_aimOf, 11, (some .int), 6)
def MX12_goTo : Mx := (yX12_goTo, cX12_goTo, 4, none, 8)
def MX12_ones : Mx := (yX12_ones, cX12_ones, 3, (some .int), 2)
def MX12_draw : Mx := (yX12_draw, cX12_draw, 2, (some .int), 2)
def MX12_nth : Mx := (yX12_nth, cX12_nth, 4, (some .int), 2)
def MX12_firstBy : Mx := (yX12_firstBy, cX12_firstBy, 6, (some .int), 4)
def MX12_standersOf : Mx := (yX12_standersOf, cX12_standersOf, 4, (some .int), 2)
def MX12_takersOf : Mx := (yX12_takersOf, cX12_takersOf, 4, (some .int), 4)
def MX12_giveBy : Mx := (yX12_giveBy, cX12_giveBy, 5, none, 6)
def MX12_noonOf : Mx := (yX12_noonOf, cX12_noonOf, 4, none, 10)
def MX12_beginNoons : Mx := (yX12_beginNoons, cX12_beginNoons, 3, none, 2)
def MX12_doNoons : Mx := (yX12_doNoons, cX12_doNoons, 5, none, 12)
def MX12_mend : Mx := (yX12_mend, cX12_mend, 4, none, 2)
def MX12_hardOf : Mx := (yX12_hardOf, cX12_hardOf, 2, (some .int), 2)
def MX12_lower : Mx := (yX12_lower, cX12_lower, 4, (some .int), 2)
def MX12_use : Mx := (yX12_use, cX12_use, 3, none, 4)
def MX12_useAndMend : Mx := (yX12_useAndMend, cX12_useAndMend, 2, none, 6)
def MX12_doDay : Mx := (yX12_doDay, cX12_doDay, 4, none, 14)
def MX12_run : Mx := (yX12_run, cX12_run, 4, (some .int), 16)
def MX12_isThing : Mx := (yX12_isThing, cX12_isThing, 2, (some .boolean), 2)
def MX12_thing : Mx := (yX12_thing, cX12_thing, 3, (some .int), 4)
def MX12_isPerson : Mx := (yX12_isPerson, cX12_isPerson, 2, (some .boolean), 2)
def MX12_ownedBy : Mx := (yX12_ownedBy, cX12_ownedBy, 4, (some .int), 2)
def MX12_person : Mx := (yX12_person, cX12_person, 3, (some .int), 8)
def MX12_give : Mx := (yX12_give, cX12_give, 3, (some .boolean), 4)
def MX12_chip : Mx := (yX12_chip, cX12_chip, 3, (some .int), 4)
def MX12_asks : Mx := (yX12_asks, cX12_asks, 3, (some .int), 6)
def MX12_bring : Mx := (yX12_bring, cX12_bring, 2, none, 2)
def MX12_put : Mx := (yX12_put, cX12_put, 2, none, 2)
def MX12_seekThen : Mx := (yX12_seekThen, cX12_seekThen, 3, none, 14)
def MX12_sixtieths : Mx := (yX12_sixtieths, cX12_sixtieths, 2, (some .int), 4)
def MX12_chanceIn : Mx := (yX12_chanceIn, cX12_chanceIn, 4, (some .int), 16)
def MX12_common : Mx := (yX12_common, cX12_common, 10, (some .long), 2)
def MX12_chance : Mx := (yX12_chance, cX12_chance, 6, (some .int), 18)
def MX12_keeps : Mx := (yX12_keeps, cX12_keeps, 5, (some .int), 18)
def MX12_isTooMany : Mx := (yX12_isTooMany, cX12_isTooMany, 3, (some .boolean), 2)
def MX12_lostOf : Mx := (yX12_lostOf, cX12_lostOf, 4, (some .int), 6)
def MX12_payOf : Mx := (yX12_payOf, cX12_payOf, 5, (some .int), 6)
def MX12_choose : Mx := (yX12_choose, cX12_choose, 3, none, 4)
def MX12_mayStand : Mx := (yX12_mayStand, cX12_mayStand, 3, (some .boolean), 4)
def MX12_layRow : Mx := (yX12_layRow, cX12_layRow, 5, (some .boolean), 6)
def MX12_isAtRest : Mx := (yX12_isAtRest, cX12_isAtRest, 6, (some .boolean), 8)
def MX12_seekRest : Mx := (yX12_seekRest, cX12_seekRest, 8, (some .int), 10)
def MX12_rest : Mx := (yX12_rest, cX12_rest, 3, (some .int), 12)
def MX12_stands : Mx := (yX12_stands, cX12_stands, 5, (some .int), 12)
def MX12_madeBy : Mx := (yX12_madeBy, cX12_madeBy, 5, (some .int), 16)
def MX12_isTerm : Mx := (yX12_isTerm, cX12_isTerm, 1, (some .boolean), 2)
def MX12_made : Mx := (yX12_made, cX12_made, 3, (some .int), 18)
def MX12_law : Mx := (yX12_law, cX12_law, 4, (some .int), 18)
def MX12_usedOf : Mx := (yX12_usedOf, cX12_usedOf, 8, (some .long), 4)
def MX12_bestUse : Mx := (yX12_bestUse, cX12_bestUse, 9, (some .long), 6)
def MX12_used : Mx := (yX12_used, cX12_used, 7, (some .int), 8)
def MX12_lift : Mx := (yX12_lift, cX12_lift, 5, (some .int), 4)
def MX12_hasThing : Mx := (yX12_hasThing, cX12_hasThing, 4, (some .boolean), 4)
def MX12_tour : Mx := (yX12_tour, cX12_tour, 6, (some .int), 6)
def MX12_since : Mx := (yX12_since, cX12_since, 3, (some .int), 4)
def MX12_tale : Mx := (yX12_tale, cX12_tale, 4, (some .int), 4)
def MX12_untell : Mx := (yX12_untell, cX12_untell, 2, (some .boolean), 2)
def MX12_later : Mx := (yX12_later, cX12_later, 2, (some .int), 2)
def MX12_counts : Mx := (yX12_counts, cX12_counts, 3, (some .boolean), 2)
def MX12_isFalse : Mx := (yX12_isFalse, cX12_isFalse, 2, (some .boolean), 2)
def MX12_isDouble : Mx := (yX12_isDouble, cX12_isDouble, 5, (some .boolean), 4)
def MX12_judge : Mx := (yX12_judge, cX12_judge, 7, (some .int), 6)
def MX12_seed : Mx := (yX12_seed, cX12_seed, 3, (some .int), 2)
def MX12_isBox : Mx := (yX12_isBox, cX12_isBox, 1, (some .boolean), 2)
def MX12_image : Mx := (yX12_image, cX12_image, 4, (some .int), 4)
def MX12_back : Mx := (yX12_back, cX12_back, 4, (some .int), 4)
def MX12_about : Mx := (yX12_about, cX12_about, 2, (some .int), 2)
theorem wsin_11 : ∀ w ∈ u_ws RX11 TX11 12, w ∈ tbg := wsin [682, 684, 686, 688, 690, 692, 694, 696, 698, 700, 702, 704] (by decide +kernel)
theorem fa_RX11_10 : FA RX11 10 11 0 (.object "NoonSquare$Tape") true := ⟨RX11, TX11, 12, tyX11, rfl, by decide, tb3 55 (by decide +kernel) (by decide +kernel), wsin_11, tyX11_ok, nmX11, tyX11_ok 0 (by decide), rfl, rfl, rfl⟩
theorem wsin_7 : ∀ w ∈ u_ws RX7 TX7 2, w ∈ tbg := wsin [174, 176] (by decide +kernel)
theorem fa_RX11_84 : FA RX11 84 7 1 (.int) false := ⟨RX7, TX7, 2, tyX7, rfl, by decide, tb1 36 (by decide +kernel) (by decide +kernel), wsin_7, tyX7_ok, nmX7, tyX7_ok 1 (by decide), rfl, rfl, rfl⟩
theorem ob_0 : OB 178 0 11 := ⟨by decide, by decide +kernel, by decide +kernel⟩
theorem rf_0_0 : RF 0 0 = some 1 := by decide +kernel
theorem fk_11_0 : fk 11 0 = 2 := by decide +kernel
theorem ob_1 : OB 178 1 7 := ⟨by decide, by decide +kernel, by decide +kernel⟩
theorem fk_7_1 : fk 7 1 = 0 := by decide +kernel
theorem kb_20 : (Int8.ofInt 20).toInt32 = 20 := by decide +kernel
theorem ks_1700 : (Int16.ofInt 1700).toInt32 = 1700 := by decide +kernel
theorem fa_RX7_15 : FA RX7 15 7 1 (.int) false := ⟨RX7, TX7, 2, tyX7, rfl, by decide, tb1 37 (by decide +kernel) (by decide +kernel), wsin_7, tyX7_ok, nmX7, tyX7_ok 1 (by decide), rfl, rfl, rfl⟩
theorem fa_RX7_9 : FA RX7 9 7 0 (.array .byte) true := ⟨RX7, TX7, 2, tyX7, rfl, by decide, tb1 35 (by decide +kernel) (by decide +kernel), wsin_7, tyX7_ok, nmX7, tyX7_ok 0 (by decide), rfl, rfl, rfl⟩
theorem rf_1_0 : RF 1 0 = some 2 := by decide +kernel
theorem fk_7_0 : fk 7 0 = 2 := by decide +kernel
theorem ar_2 : AR 178 2 3 1700 := ⟨by decide, by decide +kernel, by decide +kernel⟩
theorem ki_1 : Int32.ofInt 1 = 1 := by decide +kernel
theorem ki_m8 : Int32.ofInt (-8) = (-8) := by decide +kernel
theorem kb_24 : (Int8.ofInt 24).toInt32 = 24 := by decide +kernel
theorem pn_RX7 : plainName RX7 = true := by decide +kernel
theorem ki_m1 : Int32.ofInt (-1) = (-1) := by decide +kernel
theorem pn_RX11 : plainName RX11 = true := by decide +kernel
theorem fa_RX11_31 : FA RX11 31 11 3 (.object "NoonSquare$Reader") true := ⟨RX11, TX11, 12, tyX11, rfl, by decide, tb3 58 (by decide +kernel) (by decide +kernel), wsin_11, tyX11_ok, nmX11, tyX11_ok 3 (by decide), rfl, rfl, rfl⟩
theorem fa_RX11_19 : FA RX11 19 11 1 (.object "NoonSquare$Valley") true := ⟨RX11, TX11, 12, tyX11, rfl, by decide, tb3 56 (by decide +kernel) (by decide +kernel), wsin_11, tyX11_ok, nmX11, tyX11_ok 1 (by decide), rfl, rfl, rfl⟩
theorem fa_RX11_23 : FA RX11 23 11 2 (.object "NoonSquare$Valley") true := ⟨RX11, TX11, 12, tyX11, rfl, by decide, tb3 57 (by decide +kernel) (by decide +kernel), wsin_11, tyX11_ok, nmX11, tyX11_ok 2 (by decide), rfl, rfl, rfl⟩
theorem fa_RX11_38 : FA RX11 38 11 4 (.object "NoonSquare$Now") true := ⟨RX11, TX11, 12, tyX11, rfl, by decide, tb3 59 (by decide +kernel) (by decide +kernel), wsin_11, tyX11_ok, nmX11, tyX11_ok 4 (by decide), rfl, rfl, rfl⟩
theorem fa_RX11_72 : FA RX11 72 11 8 (.object "NoonSquare$Tales") true := ⟨RX11, TX11, 12, tyX11, rfl, by decide, tb3 63 (by decide +kernel) (by decide +kernel), wsin_11, tyX11_ok, nmX11, tyX11_ok 8 (by decide), rfl, rfl, rfl⟩
theorem fa_RX11_80 : FA RX11 80 11 10 (.array .boolean) true := ⟨RX11, TX11, 12, tyX11, rfl, by decide, tb3 65 (by decide +kernel) (by decide +kernel), wsin_11, tyX11_ok, nmX11, tyX11_ok 10 (by decide), rfl, rfl, rfl⟩
theorem wsin_10 : ∀ w ∈ u_ws RX10 TX10 17, w ∈ tbg := wsin [322, 324, 326, 328, 330, 332, 334, 336, 338, 340, 342, 344, 346, 348, 350, 352, 354] (by decide +kernel)
theorem fa_RX11_105 : FA RX11 105 10 3 (.int) false := ⟨RX10, TX10, 17, tyX10, rfl, by decide, tb1 138 (by decide +kernel) (by decide +kernel), wsin_10, tyX10_ok, nmX10, tyX10_ok 3 (by decide), rfl, rfl, rfl⟩
theorem ki_3 : Int32.ofInt 3 = 3 := by decide +kernel
theorem rf_0_1 : RF 0 1 = some 3 := by decide +kernel
theorem fk_11_1 : fk 11 1 = 2 := by decide +kernel
theorem ob_3 : OB 178 3 10 := ⟨by decide, by decide +kernel, by decide +kernel⟩
theorem fk_10_3 : fk 10 3 = 0 := by decide +kernel
theorem rf_0_10 : RF 0 10 = some 92 := by decide +kernel
theorem fk_11_10 : fk 11 10 = 2 := by decide +kernel
theorem ki_0 : Int32.ofInt 0 = 0 := by decide +kernel
theorem ar_92 : AR 178 92 2 3 := ⟨by decide, by decide +kernel, by decide +kernel⟩
theorem rf_0_3 : RF 0 3 = some 49 := by decide +kernel
theorem fk_11_3 : fk 11 3 = 2 := by decide +kernel
theorem wsin_3 : ∀ w ∈ u_ws RX3 TX3 9, w ∈ tbg := wsin [455, 457, 459, 461, 463, 465, 467, 469, 471] (by decide +kernel)
theorem fa_RX3_28 : FA RX3 28 3 1 (.object "NoonSquare$Valley") true := ⟨RX3, TX3, 9, tyX3, rfl, by decide, tb2 70 (by decide +kernel) (by decide +kernel), wsin_3, tyX3_ok, nmX3, tyX3_ok 1 (by decide), rfl, rfl, rfl⟩
theorem fa_RX3_24 : FA RX3 24 3 0 (.object "NoonSquare$Tokens") true := ⟨RX3, TX3, 9, tyX3, rfl, by decide, tb2 69 (by decide +kernel) (by decide +kernel), wsin_3, tyX3_ok, nmX3, tyX3_ok 0 (by decide), rfl, rfl, rfl⟩
theorem wsin_8 : ∀ w ∈ u_ws RX8 TX8 7, w ∈ tbg := wsin [429, 431, 433, 435, 437, 439, 441] (by decide +kernel)
theorem fa_RX3_60 : FA RX3 60 8 3 (.int) false := ⟨RX8, TX8, 7, tyX8, rfl, by decide, tb2 46 (by decide +kernel) (by decide +kernel), wsin_8, tyX8_ok, nmX8, tyX8_ok 3 (by decide), rfl, rfl, rfl⟩
theorem fa_RX3_38 : FA RX3 38 3 2 (.object "NoonSquare$Land") true := ⟨RX3, TX3, 9, tyX3, rfl, by decide, tb2 71 (by decide +kernel) (by decide +kernel), wsin_3, tyX3_ok, nmX3, tyX3_ok 2 (by decide), rfl, rfl, rfl⟩
theorem ob_49 : OB 178 49 3 := ⟨by decide, by decide +kernel, by decide +kernel⟩
theorem rf_49_2 : RF 49 2 = some 27 := by decide +kernel
theorem fk_3_2 : fk 3 2 = 2 := by decide +kernel
theorem wsin_1 : ∀ w ∈ u_ws RX1 TX1 7, w ∈ tbg := wsin [209, 211, 213, 215, 217, 219, 221] (by decide +kernel)
theorem fa_RX1_28 : FA RX1 28 1 0 (.int) false := ⟨RX1, TX1, 7, tyX1, rfl, by decide, tb1 57 (by decide +kernel) (by decide +kernel), wsin_1, tyX1_ok, nmX1, tyX1_ok 0 (by decide), rfl, rfl, rfl⟩
theorem fa_RX1_22 : FA RX1 22 1 5 (.array .int) true := ⟨RX1, TX1, 7, tyX1, rfl, by decide, tb1 72 (by decide +kernel) (by decide +kernel), wsin_1, tyX1_ok, nmX1, tyX1_ok 5 (by decide), rfl, rfl, rfl⟩
theorem fa_RX1_19 : FA RX1 19 1 4 (.array .int) true := ⟨RX1, TX1, 7, tyX1, rfl, by decide, tb1 70 (by decide +kernel) (by decide +kernel), wsin_1, tyX1_ok, nmX1, tyX1_ok 4 (by decide), rfl, rfl, rfl⟩
theorem ob_27 : OB 178 27 1 := ⟨by decide, by decide +kernel, by decide +kernel⟩
theorem fk_1_0 : fk 1 0 = 0 := by decide +kernel
theorem rf_27_4 : RF 27 4 = some 30 := by decide +kernel
theorem fk_1_4 : fk 1 4 = 2 := by decide +kernel
theorem fa_RX1_15 : FA RX1 15 1 3 (.array .int) true := ⟨RX1, TX1, 7, tyX1, rfl, by decide, tb1 66 (by decide +kernel) (by decide +kernel), wsin_1, tyX1_ok, nmX1, tyX1_ok 3 (by decide), rfl, rfl, rfl⟩
theorem rf_27_3 : RF 27 3 = some 29 := by decide +kernel
theorem fk_1_3 : fk 1 3 = 2 := by decide +kernel
theorem ar_29 : AR 178 29 0 8 := ⟨by decide, by decide +kernel, by decide +kernel⟩
theorem pn_RX1 : plainName RX1 = true := by decide +kernel
theorem ar_30 : AR 178 30 0 8 := ⟨by decide, by decide +kernel, by decide +kernel⟩
theorem rf_27_5 : RF 27 5 = some 31 := by decide +kernel
theorem fk_1_5 : fk 1 5 = 2 := by decide +kernel
theorem kb_8 : (Int8.ofInt 8).toInt32 = 8 := by decide +kernel
theorem ar_31 : AR 178 31 0 64 := ⟨by decide, by decide +kernel, by decide +kernel⟩
theorem rf_49_0 : RF 49 0 = some 51 := by decide +kernel
theorem fk_3_0 : fk 3 0 = 2 := by decide +kernel
theorem ob_51 : OB 178 51 8 := ⟨by decide, by decide +kernel, by decide +kernel⟩
theorem fk_8_3 : fk 8 3 = 0 := by decide +kernel
theorem fa_RX3_79 : FA RX3 79 8 5 (.int) false := ⟨RX8, TX8, 7, tyX8, rfl, by decide, tb2 51 (by decide +kernel) (by decide +kernel), wsin_8, tyX8_ok, nmX8, tyX8_ok 5 (by decide), rfl, rfl, rfl⟩
theorem ki_2 : Int32.ofInt 2 = 2 := by decide +kernel
theorem fk_8_5 : fk 8 5 = 0 := by decide +kernel
theorem fa_RX3_100 : FA RX3 100 1 0 (.int) false := ⟨RX1, TX1, 7, tyX1, rfl, by decide, tb1 58 (by decide +kernel) (by decide +kernel), wsin_1, tyX1_ok, nmX1, tyX1_ok 0 (by decide), rfl, rfl, rfl⟩
theorem fa_RX3_106 : FA RX3 106 1 2 (.array .long) true := ⟨RX1, TX1, 7, tyX1, rfl, by decide, tb1 65 (by decide +kernel) (by decide +kernel), wsin_1, tyX1_ok, nmX1, tyX1_ok 2 (by decide), rfl, rfl, rfl⟩
theorem fa_RX3_114 : FA RX3 114 1 3 (.array .int) true := ⟨RX1, TX1, 7, tyX1, rfl, by decide, tb1 68 (by decide +kernel) (by decide +kernel), wsin_1, tyX1_ok, nmX1, tyX1_ok 3 (by decide), rfl, rfl, rfl⟩
theorem fa_RX8_35 : FA RX8 35 8 2 (.int) false := ⟨RX8, TX8, 7, tyX8, rfl, by decide, tb2 45 (by decide +kernel) (by decide +kernel), wsin_8, tyX8_ok, nmX8, tyX8_ok 2 (by decide), rfl, rfl, rfl⟩
theorem fa_RX8_15 : FA RX8 15 8 0 (.object "NoonSquare$Tape") true := ⟨RX8, TX8, 7, tyX8, rfl, by decide, tb2 43 (by decide +kernel) (by decide +kernel), wsin_8, tyX8_ok, nmX8, tyX8_ok 0 (by decide), rfl, rfl, rfl⟩
theorem fa_RX8_54 : FA RX8 54 8 3 (.int) false := ⟨RX8, TX8, 7, tyX8, rfl, by decide, tb2 47 (by decide +kernel) (by decide +kernel), wsin_8, tyX8_ok, nmX8, tyX8_ok 3 (by decide), rfl, rfl, rfl⟩
theorem fa_RX8_69 : FA RX8 69 8 5 (.int) false := ⟨RX8, TX8, 7, tyX8, rfl, by decide, tb2 50 (by decide +kernel) (by decide +kernel), wsin_8, tyX8_ok, nmX8, tyX8_ok 5 (by decide), rfl, rfl, rfl⟩
theorem fk_8_2 : fk 8 2 = 0 := by decide +kernel
theorem fa_RX8_72 : FA RX8 72 7 1 (.int) false := ⟨RX7, TX7, 2, tyX7, rfl, by decide, tb1 38 (by decide +kernel) (by decide +kernel), wsin_7, tyX7_ok, nmX7, tyX7_ok 1 (by decide), rfl, rfl, rfl⟩
theorem rf_51_0 : RF 51 0 = some 1 := by decide +kernel
theorem fk_8_0 : fk 8 0 = 2 := by decide +kernel
theorem ks_255 : (Int16.ofInt 255).toInt32 = 255 := by decide +kernel
theorem kb_32 : (Int8.ofInt 32).toInt32 = 32 := by decide +kernel
theorem kb_10 : (Int8.ofInt 10).toInt32 = 10 := by decide +kernel
theorem pn_RX8 : plainName RX8 = true := by decide +kernel
theorem fa_RX8_45 : FA RX8 45 8 4 (.int) false := ⟨RX8, TX8, 7, tyX8, rfl, by decide, tb2 48 (by decide +kernel) (by decide +kernel), wsin_8, tyX8_ok, nmX8, tyX8_ok 4 (by decide), rfl, rfl, rfl⟩
theorem fk_8_4 : fk 8 4 = 0 := by decide +kernel
theorem kb_97 : (Int8.ofInt 97).toInt32 = 97 := by decide +kernel
theorem kb_122 : (Int8.ofInt 122).toInt32 = 122 := by decide +kernel
theorem kb_48 : (Int8.ofInt 48).toInt32 = 48 := by decide +kernel
theorem kb_57 : (Int8.ofInt 57).toInt32 = 57 := by decide +kernel
theorem ki_5 : Int32.ofInt 5 = 5 := by decide +kernel
theorem ki_4 : Int32.ofInt 4 = 4 := by decide +kernel
theorem fa_RX8_75 : FA RX8 75 8 6 (.long) false := ⟨RX8, TX8, 7, tyX8, rfl, by decide, tb2 52 (by decide +kernel) (by decide +kernel), wsin_8, tyX8_ok, nmX8, tyX8_ok 6 (by decide), rfl, rfl, rfl⟩
theorem fa_RX8_9 : FA RX8 9 8 1 (.array .long) true := ⟨RX8, TX8, 7, tyX8, rfl, by decide, tb2 44 (by decide +kernel) (by decide +kernel), wsin_8, tyX8_ok, nmX8, tyX8_ok 1 (by decide), rfl, rfl, rfl⟩
theorem kb_28 : (Int8.ofInt 28).toInt32 = 28 := by decide +kernel
theorem rf_51_1 : RF 51 1 = some 52 := by decide +kernel
theorem fk_8_1 : fk 8 1 = 2 := by decide +kernel
theorem ar_52 : AR 178 52 1 28 := ⟨by decide, by decide +kernel, by decide +kernel⟩
theorem fk_8_6 : fk 8 6 = 1 := by decide +kernel
theorem ll_RX8_79 : Cond.constantLong RX8 79 (32) ∈ tbg := tb2 42 (by decide +kernel) (by decide +kernel)
theorem rf_27_2 : RF 27 2 = some 28 := by decide +kernel
theorem fk_1_2 : fk 1 2 = 2 := by decide +kernel
theorem fa_RX3_212 : FA RX3 212 8 6 (.long) false := ⟨RX8, TX8, 7, tyX8, rfl, by decide, tb2 53 (by decide +kernel) (by decide +kernel), wsin_8, tyX8_ok, nmX8, tyX8_ok 6 (by decide), rfl, rfl, rfl⟩
theorem fa_RX3_72 : FA RX3 72 8 4 (.int) false := ⟨RX8, TX8, 7, tyX8, rfl, by decide, tb2 49 (by decide +kernel) (by decide +kernel), wsin_8, tyX8_ok, nmX8, tyX8_ok 4 (by decide), rfl, rfl, rfl⟩
theorem fa_RX3_54 : FA RX3 54 3 7 (.int) false := ⟨RX3, TX3, 9, tyX3, rfl, by decide, tb2 76 (by decide +kernel) (by decide +kernel), wsin_3, tyX3_ok, nmX3, tyX3_ok 7 (by decide), rfl, rfl, rfl⟩
theorem fk_3_7 : fk 3 7 = 0 := by decide +kernel
theorem fa_RX3_15 : FA RX3 15 3 8 (.int) false := ⟨RX3, TX3, 9, tyX3, rfl, by decide, tb2 78 (by decide +kernel) (by decide +kernel), wsin_3, tyX3_ok, nmX3, tyX3_ok 8 (by decide), rfl, rfl, rfl⟩
theorem fk_3_8 : fk 3 8 = 0 := by decide +kernel
theorem pn_RX3 : plainName RX3 = true := by decide +kernel
theorem ar_28 : AR 178 28 1 8 := ⟨by decide, by decide +kernel, by decide +kernel⟩
theorem kb_59 : (Int8.ofInt 59).toInt32 = 59 := by decide +kernel
theorem fa_RX3_124 : FA RX3 124 1 1 (.int) false := ⟨RX1, TX1, 7, tyX1, rfl, by decide, tb1 62 (by decide +kernel) (by decide +kernel), wsin_1, tyX1_ok, nmX1, tyX1_ok 1 (by decide), rfl, rfl, rfl⟩
theorem fa_RX3_9 : FA RX3 9 3 6 (.array .int) true := ⟨RX3, TX3, 9, tyX3, rfl, by decide, tb2 75 (by decide +kernel) (by decide +kernel), wsin_3, tyX3_ok, nmX3, tyX3_ok 6 (by decide), rfl, rfl, rfl⟩
theorem fk_1_1 : fk 1 1 = 0 := by decide +kernel
theorem kb_16 : (Int8.ofInt 16).toInt32 = 16 := by decide +kernel
theorem ks_999 : (Int16.ofInt 999).toInt32 = 999 := by decide +kernel
theorem rf_49_6 : RF 49 6 = some 50 := by decide +kernel
theorem fk_3_6 : fk 3 6 = 2 := by decide +kernel
theorem kb_99 : (Int8.ofInt 99).toInt32 = 99 := by decide +kernel
theorem ar_50 : AR 178 50 0 1 := ⟨by decide, by decide +kernel, by decide +kernel⟩
theorem fa_RX1_32 : FA RX1 32 1 1 (.int) false := ⟨RX1, TX1, 7, tyX1, rfl, by decide, tb1 61 (by decide +kernel) (by decide +kernel), wsin_1, tyX1_ok, nmX1, tyX1_ok 1 (by decide), rfl, rfl, rfl⟩
theorem fa_RX3_139 : FA RX3 139 10 2 (.int) false := ⟨RX10, TX10, 17, tyX10, rfl, by decide, tb1 133 (by decide +kernel) (by decide +kernel), wsin_10, tyX10_ok, nmX10, tyX10_ok 2 (by decide), rfl, rfl, rfl⟩
theorem fa_RX3_142 : FA RX3 142 10 6 (.array .long) true := ⟨RX10, TX10, 17, tyX10, rfl, by decide, tb1 150 (by decide +kernel) (by decide +kernel), wsin_10, tyX10_ok, nmX10, tyX10_ok 6 (by decide), rfl, rfl, rfl⟩
theorem fa_RX3_145 : FA RX3 145 10 7 (.array .int) true := ⟨RX10, TX10, 17, tyX10, rfl, by decide, tb1 154 (by decide +kernel) (by decide +kernel), wsin_10, tyX10_ok, nmX10, tyX10_ok 7 (by decide), rfl, rfl, rfl⟩
theorem fa_RX3_152 : FA RX3 152 10 8 (.array .int) true := ⟨RX10, TX10, 17, tyX10, rfl, by decide, tb1 158 (by decide +kernel) (by decide +kernel), wsin_10, tyX10_ok, nmX10, tyX10_ok 8 (by decide), rfl, rfl, rfl⟩
theorem fa_RX3_155 : FA RX3 155 10 9 (.array .int) true := ⟨RX10, TX10, 17, tyX10, rfl, by decide, tb1 161 (by decide +kernel) (by decide +kernel), wsin_10, tyX10_ok, nmX10, tyX10_ok 9 (by decide), rfl, rfl, rfl⟩
theorem fa_RX3_158 : FA RX3 158 10 10 (.array .int) true := ⟨RX10, TX10, 17, tyX10, rfl, by decide, tb1 164 (by decide +kernel) (by decide +kernel), wsin_10, tyX10_ok, nmX10, tyX10_ok 10 (by decide), rfl, rfl, rfl⟩
theorem fa_RX3_161 : FA RX3 161 10 11 (.array .boolean) true := ⟨RX10, TX10, 17, tyX10, rfl, by decide, tb1 169 (by decide +kernel) (by decide +kernel), wsin_10, tyX10_ok, nmX10, tyX10_ok 11 (by decide), rfl, rfl, rfl⟩
theorem rf_49_1 : RF 49 1 = some 26 := by decide +kernel
theorem fk_3_1 : fk 3 1 = 2 := by decide +kernel
theorem ob_26 : OB 178 26 10 := ⟨by decide, by decide +kernel, by decide +kernel⟩
theorem fk_10_2 : fk 10 2 = 0 := by decide +kernel
theorem rf_26_11 : RF 26 11 = some 43 := by decide +kernel
theorem fk_10_11 : fk 10 11 = 2 := by decide +kernel
theorem ar_43 : AR 178 43 2 10 := ⟨by decide, by decide +kernel, by decide +kernel⟩
theorem rf_26_6 : RF 26 6 = some 38 := by decide +kernel
theorem fk_10_6 : fk 10 6 = 2 := by decide +kernel
theorem ar_38 : AR 178 38 1 10 := ⟨by decide, by decide +kernel, by decide +kernel⟩
theorem rf_26_7 : RF 26 7 = some 39 := by decide +kernel
theorem fk_10_7 : fk 10 7 = 2 := by decide +kernel
theorem kb_18 : (Int8.ofInt 18).toInt32 = 18 := by decide +kernel
theorem ar_39 : AR 178 39 0 10 := ⟨by decide, by decide +kernel, by decide +kernel⟩
theorem rf_26_8 : RF 26 8 = some 40 := by decide +kernel
theorem fk_10_8 : fk 10 8 = 2 := by decide +kernel
theorem ar_40 : AR 178 40 0 10 := ⟨by decide, by decide +kernel, by decide +kernel⟩
theorem rf_26_9 : RF 26 9 = some 41 := by decide +kernel
theorem fk_10_9 : fk 10 9 = 2 := by decide +kernel
theorem kb_19 : (Int8.ofInt 19).toInt32 = 19 := by decide +kernel
theorem ar_41 : AR 178 41 0 10 := ⟨by decide, by decide +kernel, by decide +kernel⟩
theorem rf_26_10 : RF 26 10 = some 42 := by decide +kernel
theorem fk_10_10 : fk 10 10 = 2 := by decide +kernel
theorem ar_42 : AR 178 42 0 10 := ⟨by decide, by decide +kernel, by decide +kernel⟩
theorem fa_RX3_168 : FA RX3 168 10 3 (.int) false := ⟨RX10, TX10, 17, tyX10, rfl, by decide, tb1 139 (by decide +kernel) (by decide +kernel), wsin_10, tyX10_ok, nmX10, tyX10_ok 3 (by decide), rfl, rfl, rfl⟩
theorem fa_RX3_171 : FA RX3 171 10 12 (.array .long) true := ⟨RX10, TX10, 17, tyX10, rfl, by decide, tb1 172 (by decide +kernel) (by decide +kernel), wsin_10, tyX10_ok, nmX10, tyX10_ok 12 (by decide), rfl, rfl, rfl⟩
theorem fa_RX3_174 : FA RX3 174 10 13 (.array .int) true := ⟨RX10, TX10, 17, tyX10, rfl, by decide, tb1 175 (by decide +kernel) (by decide +kernel), wsin_10, tyX10_ok, nmX10, tyX10_ok 13 (by decide), rfl, rfl, rfl⟩
theorem fa_RX3_177 : FA RX3 177 10 14 (.array .int) true := ⟨RX10, TX10, 17, tyX10, rfl, by decide, tb1 178 (by decide +kernel) (by decide +kernel), wsin_10, tyX10_ok, nmX10, tyX10_ok 14 (by decide), rfl, rfl, rfl⟩
theorem fa_RX3_180 : FA RX3 180 10 15 (.array .int) true := ⟨RX10, TX10, 17, tyX10, rfl, by decide, tb1 180 (by decide +kernel) (by decide +kernel), wsin_10, tyX10_ok, nmX10, tyX10_ok 15 (by decide), rfl, rfl, rfl⟩
theorem fa_RX3_183 : FA RX3 183 10 16 (.array .int) true := ⟨RX10, TX10, 17, tyX10, rfl, by decide, tb1 186 (by decide +kernel) (by decide +kernel), wsin_10, tyX10_ok, nmX10, tyX10_ok 16 (by decide), rfl, rfl, rfl⟩
theorem fa_RX3_43 : FA RX3 43 3 3 (.object "NoonSquare$Rules") true := ⟨RX3, TX3, 9, tyX3, rfl, by decide, tb2 72 (by decide +kernel) (by decide +kernel), wsin_3, tyX3_ok, nmX3, tyX3_ok 3 (by decide), rfl, rfl, rfl⟩
theorem wsin_4 : ∀ w ∈ u_ws RX4 TX4 6, w ∈ tbg := wsin [243, 245, 247, 249, 251, 253] (by decide +kernel)
theorem fa_RX3_189 : FA RX3 189 4 2 (.array .int) true := ⟨RX4, TX4, 6, tyX4, rfl, by decide, tb1 103 (by decide +kernel) (by decide +kernel), wsin_4, tyX4_ok, nmX4, tyX4_ok 2 (by decide), rfl, rfl, rfl⟩
theorem fa_RX3_194 : FA RX3 194 4 1 (.int) false := ⟨RX4, TX4, 6, tyX4, rfl, by decide, tb1 101 (by decide +kernel) (by decide +kernel), wsin_4, tyX4_ok, nmX4, tyX4_ok 1 (by decide), rfl, rfl, rfl⟩
theorem fa_RX3_200 : FA RX3 200 4 3 (.array .int) true := ⟨RX4, TX4, 6, tyX4, rfl, by decide, tb1 105 (by decide +kernel) (by decide +kernel), wsin_4, tyX4_ok, nmX4, tyX4_ok 3 (by decide), rfl, rfl, rfl⟩
theorem rf_49_3 : RF 49 3 = some 33 := by decide +kernel
theorem fk_3_3 : fk 3 3 = 2 := by decide +kernel
theorem ob_33 : OB 178 33 4 := ⟨by decide, by decide +kernel, by decide +kernel⟩
theorem rf_33_2 : RF 33 2 = some 34 := by decide +kernel
theorem fk_4_2 : fk 4 2 = 2 := by decide +kernel
theorem fk_4_1 : fk 4 1 = 0 := by decide +kernel
theorem ar_34 : AR 178 34 0 6 := ⟨by decide, by decide +kernel, by decide +kernel⟩
theorem kb_11 : (Int8.ofInt 11).toInt32 = 11 := by decide +kernel
theorem kb_12 : (Int8.ofInt 12).toInt32 = 12 := by decide +kernel
theorem ks_20000 : (Int16.ofInt 20000).toInt32 = 20000 := by decide +kernel
theorem kb_42 : (Int8.ofInt 42).toInt32 = 42 := by decide +kernel
theorem fa_RX3_238 : FA RX3 238 4 0 (.int) false := ⟨RX4, TX4, 6, tyX4, rfl, by decide, tb1 98 (by decide +kernel) (by decide +kernel), wsin_4, tyX4_ok, nmX4, tyX4_ok 0 (by decide), rfl, rfl, rfl⟩
theorem kb_41 : (Int8.ofInt 41).toInt32 = 41 := by decide +kernel
theorem fa_RX4_28 : FA RX4 28 4 1 (.int) false := ⟨RX4, TX4, 6, tyX4, rfl, by decide, tb1 100 (by decide +kernel) (by decide +kernel), wsin_4, tyX4_ok, nmX4, tyX4_ok 1 (by decide), rfl, rfl, rfl⟩
theorem fa_RX4_18 : FA RX4 18 4 4 (.array .int) true := ⟨RX4, TX4, 6, tyX4, rfl, by decide, tb1 106 (by decide +kernel) (by decide +kernel), wsin_4, tyX4_ok, nmX4, tyX4_ok 4 (by decide), rfl, rfl, rfl⟩
theorem ks_720 : (Int16.ofInt 720).toInt32 = 720 := by decide +kernel
theorem rf_33_4 : RF 33 4 = some 36 := by decide +kernel
theorem fk_4_4 : fk 4 4 = 2 := by decide +kernel
theorem ar_36 : AR 178 36 0 720 := ⟨by decide, by decide +kernel, by decide +kernel⟩
theorem pn_RX4 : plainName RX4 = true := by decide +kernel
theorem fk_4_0 : fk 4 0 = 0 := by decide +kernel
theorem ks_10000 : (Int16.ofInt 10000).toInt32 = 10000 := by decide +kernel
theorem kb_80 : (Int8.ofInt 80).toInt32 = 80 := by decide +kernel
theorem kb_40 : (Int8.ofInt 40).toInt32 = 40 := by decide +kernel
theorem kb_6 : (Int8.ofInt 6).toInt32 = 6 := by decide +kernel
theorem ks_20042 : (Int16.ofInt 20042).toInt32 = 20042 := by decide +kernel
theorem kb_43 : (Int8.ofInt 43).toInt32 = 43 := by decide +kernel
theorem kb_45 : (Int8.ofInt 45).toInt32 = 45 := by decide +kernel
theorem kb_13 : (Int8.ofInt 13).toInt32 = 13 := by decide +kernel
theorem kb_60 : (Int8.ofInt 60).toInt32 = 60 := by decide +kernel
theorem kb_62 : (Int8.ofInt 62).toInt32 = 62 := by decide +kernel
theorem kb_61 : (Int8.ofInt 61).toInt32 = 61 := by decide +kernel
theorem ks_20256 : (Int16.ofInt 20256).toInt32 = 20256 := by decide +kernel
theorem ks_20257 : (Int16.ofInt 20257).toInt32 = 20257 := by decide +kernel
theorem ks_20258 : (Int16.ofInt 20258).toInt32 = 20258 := by decide +kernel
theorem rf_33_3 : RF 33 3 = some 35 := by decide +kernel
theorem fk_4_3 : fk 4 3 = 2 := by decide +kernel
theorem ar_35 : AR 178 35 0 6 := ⟨by decide, by decide +kernel, by decide +kernel⟩
theorem rf_26_12 : RF 26 12 = some 44 := by decide +kernel
theorem fk_10_12 : fk 10 12 = 2 := by decide +kernel
theorem ar_44 : AR 178 44 1 6 := ⟨by decide, by decide +kernel, by decide +kernel⟩
theorem rf_26_13 : RF 26 13 = some 45 := by decide +kernel
theorem fk_10_13 : fk 10 13 = 2 := by decide +kernel
theorem ar_45 : AR 178 45 0 6 := ⟨by decide, by decide +kernel, by decide +kernel⟩
theorem rf_26_14 : RF 26 14 = some 46 := by decide +kernel
theorem fk_10_14 : fk 10 14 = 2 := by decide +kernel
theorem kb_9 : (Int8.ofInt 9).toInt32 = 9 := by decide +kernel
theorem ar_46 : AR 178 46 0 6 := ⟨by decide, by decide +kernel, by decide +kernel⟩
theorem rf_26_15 : RF 26 15 = some 47 := by decide +kernel
theorem fk_10_15 : fk 10 15 = 2 := by decide +kernel
theorem ar_47 : AR 178 47 0 6 := ⟨by decide, by decide +kernel, by decide +kernel⟩
theorem rf_26_16 : RF 26 16 = some 48 := by decide +kernel
theorem fk_10_16 : fk 10 16 = 2 := by decide +kernel
theorem kb_22 : (Int8.ofInt 22).toInt32 = 22 := by decide +kernel
theorem ar_48 : AR 178 48 0 6 := ⟨by decide, by decide +kernel, by decide +kernel⟩
theorem kb_23 : (Int8.ofInt 23).toInt32 = 23 := by decide +kernel
theorem fa_RX3_47 : FA RX3 47 3 4 (.boolean) false := ⟨RX3, TX3, 9, tyX3, rfl, by decide, tb2 73 (by decide +kernel) (by decide +kernel), wsin_3, tyX3_ok, nmX3, tyX3_ok 4 (by decide), rfl, rfl, rfl⟩
theorem fk_3_4 : fk 3 4 = 0 := by decide +kernel
theorem kb_25 : (Int8.ofInt 25).toInt32 = 25 := by decide +kernel
theorem kb_26 : (Int8.ofInt 26).toInt32 = 26 := by decide +kernel
theorem fa_RX3_203 : FA RX3 203 10 4 (.int) false := ⟨RX10, TX10, 17, tyX10, rfl, by decide, tb1 143 (by decide +kernel) (by decide +kernel), wsin_10, tyX10_ok, nmX10, tyX10_ok 4 (by decide), rfl, rfl, rfl⟩
theorem fk_10_4 : fk 10 4 = 0 := by decide +kernel
theorem fa_RX3_51 : FA RX3 51 3 5 (.boolean) false := ⟨RX3, TX3, 9, tyX3, rfl, by decide, tb2 74 (by decide +kernel) (by decide +kernel), wsin_3, tyX3_ok, nmX3, tyX3_ok 5 (by decide), rfl, rfl, rfl⟩
theorem fk_3_5 : fk 3 5 = 0 := by decide +kernel
theorem kb_27 : (Int8.ofInt 27).toInt32 = 27 := by decide +kernel
theorem kb_100 : (Int8.ofInt 100).toInt32 = 100 := by decide +kernel
theorem fa_RX3_206 : FA RX3 206 10 5 (.int) false := ⟨RX10, TX10, 17, tyX10, rfl, by decide, tb1 148 (by decide +kernel) (by decide +kernel), wsin_10, tyX10_ok, nmX10, tyX10_ok 5 (by decide), rfl, rfl, rfl⟩
theorem fk_10_5 : fk 10 5 = 0 := by decide +kernel
theorem fa_RX10_12 : FA RX10 12 10 0 (.object "NoonSquare$Land") true := ⟨RX10, TX10, 17, tyX10, rfl, by decide, tb1 121 (by decide +kernel) (by decide +kernel), wsin_10, tyX10_ok, nmX10, tyX10_ok 0 (by decide), rfl, rfl, rfl⟩
theorem fa_RX10_21 : FA RX10 21 10 1 (.object "NoonSquare$Rules") true := ⟨RX10, TX10, 17, tyX10, rfl, by decide, tb1 126 (by decide +kernel) (by decide +kernel), wsin_10, tyX10_ok, nmX10, tyX10_ok 1 (by decide), rfl, rfl, rfl⟩
theorem rf_26_0 : RF 26 0 = some 27 := by decide +kernel
theorem fk_10_0 : fk 10 0 = 2 := by decide +kernel
theorem kb_64 : (Int8.ofInt 64).toInt32 = 64 := by decide +kernel
theorem rf_26_1 : RF 26 1 = some 33 := by decide +kernel
theorem fk_10_1 : fk 10 1 = 2 := by decide +kernel
theorem fa_RX4_24 : FA RX4 24 4 0 (.int) false := ⟨RX4, TX4, 6, tyX4, rfl, by decide, tb1 97 (by decide +kernel) (by decide +kernel), wsin_4, tyX4_ok, nmX4, tyX4_ok 0 (by decide), rfl, rfl, rfl⟩
theorem fa_RX10_65 : FA RX10 65 10 2 (.int) false := ⟨RX10, TX10, 17, tyX10, rfl, by decide, tb1 130 (by decide +kernel) (by decide +kernel), wsin_10, tyX10_ok, nmX10, tyX10_ok 2 (by decide), rfl, rfl, rfl⟩
theorem fa_RX10_69 : FA RX10 69 10 3 (.int) false := ⟨RX10, TX10, 17, tyX10, rfl, by decide, tb1 136 (by decide +kernel) (by decide +kernel), wsin_10, tyX10_ok, nmX10, tyX10_ok 3 (by decide), rfl, rfl, rfl⟩
theorem fa_RX10_72 : FA RX10 72 10 4 (.int) false := ⟨RX10, TX10, 17, tyX10, rfl, by decide, tb1 140 (by decide +kernel) (by decide +kernel), wsin_10, tyX10_ok, nmX10, tyX10_ok 4 (by decide), rfl, rfl, rfl⟩
theorem fa_RX10_75 : FA RX10 75 10 5 (.int) false := ⟨RX10, TX10, 17, tyX10, rfl, by decide, tb1 146 (by decide +kernel) (by decide +kernel), wsin_10, tyX10_ok, nmX10, tyX10_ok 5 (by decide), rfl, rfl, rfl⟩
theorem pn_RX10 : plainName RX10 = true := by decide +kernel
theorem rf_0_2 : RF 0 2 = some 26 := by decide +kernel
theorem fk_11_2 : fk 11 2 = 2 := by decide +kernel
theorem fa_RX10_29 : FA RX10 29 10 7 (.array .int) true := ⟨RX10, TX10, 17, tyX10, rfl, by decide, tb1 151 (by decide +kernel) (by decide +kernel), wsin_10, tyX10_ok, nmX10, tyX10_ok 7 (by decide), rfl, rfl, rfl⟩
theorem fa_RX10_33 : FA RX10 33 10 8 (.array .int) true := ⟨RX10, TX10, 17, tyX10, rfl, by decide, tb1 156 (by decide +kernel) (by decide +kernel), wsin_10, tyX10_ok, nmX10, tyX10_ok 8 (by decide), rfl, rfl, rfl⟩
theorem fa_RX10_36 : FA RX10 36 10 9 (.array .int) true := ⟨RX10, TX10, 17, tyX10, rfl, by decide, tb1 159 (by decide +kernel) (by decide +kernel), wsin_10, tyX10_ok, nmX10, tyX10_ok 9 (by decide), rfl, rfl, rfl⟩
theorem fa_RX10_39 : FA RX10 39 10 10 (.array .int) true := ⟨RX10, TX10, 17, tyX10, rfl, by decide, tb1 163 (by decide +kernel) (by decide +kernel), wsin_10, tyX10_ok, nmX10, tyX10_ok 10 (by decide), rfl, rfl, rfl⟩
theorem fa_RX10_42 : FA RX10 42 10 11 (.array .boolean) true := ⟨RX10, TX10, 17, tyX10, rfl, by decide, tb1 167 (by decide +kernel) (by decide +kernel), wsin_10, tyX10_ok, nmX10, tyX10_ok 11 (by decide), rfl, rfl, rfl⟩
theorem fa_RX10_49 : FA RX10 49 10 13 (.array .int) true := ⟨RX10, TX10, 17, tyX10, rfl, by decide, tb1 173 (by decide +kernel) (by decide +kernel), wsin_10, tyX10_ok, nmX10, tyX10_ok 13 (by decide), rfl, rfl, rfl⟩
theorem fa_RX10_52 : FA RX10 52 10 14 (.array .int) true := ⟨RX10, TX10, 17, tyX10, rfl, by decide, tb1 176 (by decide +kernel) (by decide +kernel), wsin_10, tyX10_ok, nmX10, tyX10_ok 14 (by decide), rfl, rfl, rfl⟩
theorem fa_RX10_55 : FA RX10 55 10 15 (.array .int) true := ⟨RX10, TX10, 17, tyX10, rfl, by decide, tb1 179 (by decide +kernel) (by decide +kernel), wsin_10, tyX10_ok, nmX10, tyX10_ok 15 (by decide), rfl, rfl, rfl⟩
theorem fa_RX10_58 : FA RX10 58 10 16 (.array .int) true := ⟨RX10, TX10, 17, tyX10, rfl, by decide, tb1 184 (by decide +kernel) (by decide +kernel), wsin_10, tyX10_ok, nmX10, tyX10_ok 16 (by decide), rfl, rfl, rfl⟩
theorem rf_3_13 : RF 3 13 = some 22 := by decide +kernel
theorem ar_22 : AR 178 22 0 6 := ⟨by decide, by decide +kernel, by decide +kernel⟩
theorem ac_RX10_85 : Cond.methodLink RX10 85 arraycopyName ∈ tbg := tb4 51 (by decide +kernel) (by decide +kernel)
theorem rf_3_14 : RF 3 14 = some 23 := by decide +kernel
theorem ar_23 : AR 178 23 0 6 := ⟨by decide, by decide +kernel, by decide +kernel⟩
theorem rf_3_15 : RF 3 15 = some 24 := by decide +kernel
theorem ar_24 : AR 178 24 0 6 := ⟨by decide, by decide +kernel, by decide +kernel⟩
theorem rf_3_16 : RF 3 16 = some 25 := by decide +kernel
theorem ar_25 : AR 178 25 0 6 := ⟨by decide, by decide +kernel, by decide +kernel⟩
theorem rf_3_11 : RF 3 11 = some 20 := by decide +kernel
theorem ar_20 : AR 178 20 2 10 := ⟨by decide, by decide +kernel, by decide +kernel⟩
theorem rf_3_0 : RF 3 0 = some 4 := by decide +kernel
theorem ob_4 : OB 178 4 1 := ⟨by decide, by decide +kernel, by decide +kernel⟩
theorem rf_4_3 : RF 4 3 = some 6 := by decide +kernel
theorem ar_6 : AR 178 6 0 8 := ⟨by decide, by decide +kernel, by decide +kernel⟩
theorem ac_RX1_35 : Cond.methodLink RX1 35 arraycopyName ∈ tbg := tb4 43 (by decide +kernel) (by decide +kernel)
theorem rf_4_4 : RF 4 4 = some 7 := by decide +kernel
theorem ar_7 : AR 178 7 0 8 := ⟨by decide, by decide +kernel, by decide +kernel⟩
theorem rf_4_5 : RF 4 5 = some 8 := by decide +kernel
theorem ar_8 : AR 178 8 0 64 := ⟨by decide, by decide +kernel, by decide +kernel⟩
theorem rf_3_1 : RF 3 1 = some 10 := by decide +kernel
theorem fa_RX4_9 : FA RX4 9 4 2 (.array .int) true := ⟨RX4, TX4, 6, tyX4, rfl, by decide, tb1 102 (by decide +kernel) (by decide +kernel), wsin_4, tyX4_ok, nmX4, tyX4_ok 2 (by decide), rfl, rfl, rfl⟩
theorem fa_RX4_15 : FA RX4 15 4 3 (.array .int) true := ⟨RX4, TX4, 6, tyX4, rfl, by decide, tb1 104 (by decide +kernel) (by decide +kernel), wsin_4, tyX4_ok, nmX4, tyX4_ok 3 (by decide), rfl, rfl, rfl⟩
theorem ob_10 : OB 178 10 4 := ⟨by decide, by decide +kernel, by decide +kernel⟩
theorem rf_10_2 : RF 10 2 = some 11 := by decide +kernel
theorem ar_11 : AR 178 11 0 6 := ⟨by decide, by decide +kernel, by decide +kernel⟩
theorem ac_RX4_31 : Cond.methodLink RX4 31 arraycopyName ∈ tbg := tb4 50 (by decide +kernel) (by decide +kernel)
theorem rf_10_3 : RF 10 3 = some 12 := by decide +kernel
theorem ar_12 : AR 178 12 0 6 := ⟨by decide, by decide +kernel, by decide +kernel⟩
theorem rf_10_4 : RF 10 4 = some 13 := by decide +kernel
theorem ar_13 : AR 178 13 0 720 := ⟨by decide, by decide +kernel, by decide +kernel⟩
theorem rf_3_7 : RF 3 7 = some 16 := by decide +kernel
theorem ar_16 : AR 178 16 0 10 := ⟨by decide, by decide +kernel, by decide +kernel⟩
theorem rf_3_8 : RF 3 8 = some 17 := by decide +kernel
theorem ar_17 : AR 178 17 0 10 := ⟨by decide, by decide +kernel, by decide +kernel⟩
theorem rf_3_9 : RF 3 9 = some 18 := by decide +kernel
theorem ar_18 : AR 178 18 0 10 := ⟨by decide, by decide +kernel, by decide +kernel⟩
theorem rf_3_10 : RF 3 10 = some 19 := by decide +kernel
theorem ar_19 : AR 178 19 0 10 := ⟨by decide, by decide +kernel, by decide +kernel⟩
theorem rf_0_4 : RF 0 4 = some 53 := by decide +kernel
theorem fk_11_4 : fk 11 4 = 2 := by decide +kernel
theorem wsin_2 : ∀ w ∈ u_ws RX2 TX2 11, w ∈ tbg := wsin [520, 522, 524, 526, 528, 530, 532, 534, 536, 538, 540] (by decide +kernel)
theorem fa_RX2_15 : FA RX2 15 2 3 (.array .int) true := ⟨RX2, TX2, 11, tyX2, rfl, by decide, tb2 114 (by decide +kernel) (by decide +kernel), wsin_2, tyX2_ok, nmX2, tyX2_ok 3 (by decide), rfl, rfl, rfl⟩
theorem fa_RX2_19 : FA RX2 19 2 4 (.array .int) true := ⟨RX2, TX2, 11, tyX2, rfl, by decide, tb2 119 (by decide +kernel) (by decide +kernel), wsin_2, tyX2_ok, nmX2, tyX2_ok 4 (by decide), rfl, rfl, rfl⟩
theorem fa_RX2_22 : FA RX2 22 2 5 (.array .int) true := ⟨RX2, TX2, 11, tyX2, rfl, by decide, tb2 124 (by decide +kernel) (by decide +kernel), wsin_2, tyX2_ok, nmX2, tyX2_ok 5 (by decide), rfl, rfl, rfl⟩
theorem fa_RX2_25 : FA RX2 25 2 6 (.array .int) true := ⟨RX2, TX2, 11, tyX2, rfl, by decide, tb2 127 (by decide +kernel) (by decide +kernel), wsin_2, tyX2_ok, nmX2, tyX2_ok 6 (by decide), rfl, rfl, rfl⟩
theorem fa_RX2_47 : FA RX2 47 10 8 (.array .int) true := ⟨RX10, TX10, 17, tyX10, rfl, by decide, tb1 157 (by decide +kernel) (by decide +kernel), wsin_10, tyX10_ok, nmX10, tyX10_ok 8 (by decide), rfl, rfl, rfl⟩
theorem fa_RX2_28 : FA RX2 28 2 7 (.array .boolean) true := ⟨RX2, TX2, 11, tyX2, rfl, by decide, tb2 132 (by decide +kernel) (by decide +kernel), wsin_2, tyX2_ok, nmX2, tyX2_ok 7 (by decide), rfl, rfl, rfl⟩
theorem fa_RX2_32 : FA RX2 32 2 8 (.array .int) true := ⟨RX2, TX2, 11, tyX2, rfl, by decide, tb2 137 (by decide +kernel) (by decide +kernel), wsin_2, tyX2_ok, nmX2, tyX2_ok 8 (by decide), rfl, rfl, rfl⟩
theorem fa_RX2_50 : FA RX2 50 10 13 (.array .int) true := ⟨RX10, TX10, 17, tyX10, rfl, by decide, tb1 174 (by decide +kernel) (by decide +kernel), wsin_10, tyX10_ok, nmX10, tyX10_ok 13 (by decide), rfl, rfl, rfl⟩
theorem fa_RX2_35 : FA RX2 35 2 9 (.array .int) true := ⟨RX2, TX2, 11, tyX2, rfl, by decide, tb2 141 (by decide +kernel) (by decide +kernel), wsin_2, tyX2_ok, nmX2, tyX2_ok 9 (by decide), rfl, rfl, rfl⟩
theorem fk_2_8 : fk 2 8 = 2 := by decide +kernel
theorem fk_2_9 : fk 2 9 = 2 := by decide +kernel
theorem fk_2_3 : fk 2 3 = 2 := by decide +kernel
theorem fk_2_4 : fk 2 4 = 2 := by decide +kernel
theorem fk_2_5 : fk 2 5 = 2 := by decide +kernel
theorem fk_2_6 : fk 2 6 = 2 := by decide +kernel
theorem fk_2_7 : fk 2 7 = 2 := by decide +kernel
theorem fa_RX2_41 : FA RX2 41 2 0 (.int) false := ⟨RX2, TX2, 11, tyX2, rfl, by decide, tb2 105 (by decide +kernel) (by decide +kernel), wsin_2, tyX2_ok, nmX2, tyX2_ok 0 (by decide), rfl, rfl, rfl⟩
theorem fk_2_0 : fk 2 0 = 0 := by decide +kernel
theorem fa_RX2_44 : FA RX2 44 2 1 (.int) false := ⟨RX2, TX2, 11, tyX2, rfl, by decide, tb2 109 (by decide +kernel) (by decide +kernel), wsin_2, tyX2_ok, nmX2, tyX2_ok 1 (by decide), rfl, rfl, rfl⟩
theorem fk_2_1 : fk 2 1 = 0 := by decide +kernel
theorem pn_RX2 : plainName RX2 = true := by decide +kernel
theorem rf_0_8 : RF 0 8 = some 85 := by decide +kernel
theorem fk_11_8 : fk 11 8 = 2 := by decide +kernel
theorem wsin_6 : ∀ w ∈ u_ws RX6 TX6 6, w ∈ tbg := wsin [656, 658, 660, 662, 664, 666] (by decide +kernel)
theorem fa_RX11_102 : FA RX11 102 6 0 (.int) false := ⟨RX6, TX6, 6, tyX6, rfl, by decide, tb3 35 (by decide +kernel) (by decide +kernel), wsin_6, tyX6_ok, nmX6, tyX6_ok 0 (by decide), rfl, rfl, rfl⟩
theorem ob_85 : OB 178 85 6 := ⟨by decide, by decide +kernel, by decide +kernel⟩
theorem fk_6_0 : fk 6 0 = 0 := by decide +kernel
theorem ob_53 : OB 178 53 2 := ⟨by decide, by decide +kernel, by decide +kernel⟩
theorem fa_RX11_108 : FA RX11 108 3 7 (.int) false := ⟨RX3, TX3, 9, tyX3, rfl, by decide, tb2 77 (by decide +kernel) (by decide +kernel), wsin_3, tyX3_ok, nmX3, tyX3_ok 7 (by decide), rfl, rfl, rfl⟩
theorem fa_RX11_111 : FA RX11 111 3 8 (.int) false := ⟨RX3, TX3, 9, tyX3, rfl, by decide, tb2 79 (by decide +kernel) (by decide +kernel), wsin_3, tyX3_ok, nmX3, tyX3_ok 8 (by decide), rfl, rfl, rfl⟩
theorem fa_RX11_114 : FA RX11 114 2 0 (.int) false := ⟨RX2, TX2, 11, tyX2, rfl, by decide, tb2 107 (by decide +kernel) (by decide +kernel), wsin_2, tyX2_ok, nmX2, tyX2_ok 0 (by decide), rfl, rfl, rfl⟩
theorem fa_RX11_47 : FA RX11 47 11 5 (.object "NoonSquare$Day") true := ⟨RX11, TX11, 12, tyX11, rfl, by decide, tb3 60 (by decide +kernel) (by decide +kernel), wsin_11, tyX11_ok, nmX11, tyX11_ok 5 (by decide), rfl, rfl, rfl⟩
theorem fa_RX11_117 : FA RX11 117 10 4 (.int) false := ⟨RX10, TX10, 17, tyX10, rfl, by decide, tb1 142 (by decide +kernel) (by decide +kernel), wsin_10, tyX10_ok, nmX10, tyX10_ok 4 (by decide), rfl, rfl, rfl⟩
theorem rf_0_5 : RF 0 5 = some 62 := by decide +kernel
theorem fk_11_5 : fk 11 5 = 2 := by decide +kernel
theorem wsin_0 : ∀ w ∈ u_ws RX0 TX0 7, w ∈ tbg := wsin [557, 559, 561, 563, 565, 567, 569] (by decide +kernel)
theorem fa_RX0_30 : FA RX0 30 0 0 (.object "NoonSquare$Valley") true := ⟨RX0, TX0, 7, tyX0, rfl, by decide, tb2 174 (by decide +kernel) (by decide +kernel), wsin_0, tyX0_ok, nmX0, tyX0_ok 0 (by decide), rfl, rfl, rfl⟩
theorem fa_RX0_42 : FA RX0 42 10 5 (.int) false := ⟨RX10, TX10, 17, tyX10, rfl, by decide, tb1 145 (by decide +kernel) (by decide +kernel), wsin_10, tyX10_ok, nmX10, tyX10_ok 5 (by decide), rfl, rfl, rfl⟩
theorem fa_RX0_54 : FA RX0 54 2 1 (.int) false := ⟨RX2, TX2, 11, tyX2, rfl, by decide, tb2 110 (by decide +kernel) (by decide +kernel), wsin_2, tyX2_ok, nmX2, tyX2_ok 1 (by decide), rfl, rfl, rfl⟩
theorem fa_RX0_64 : FA RX0 64 10 3 (.int) false := ⟨RX10, TX10, 17, tyX10, rfl, by decide, tb1 137 (by decide +kernel) (by decide +kernel), wsin_10, tyX10_ok, nmX10, tyX10_ok 3 (by decide), rfl, rfl, rfl⟩
theorem fa_RX0_117 : FA RX0 117 10 0 (.object "NoonSquare$Land") true := ⟨RX10, TX10, 17, tyX10, rfl, by decide, tb1 124 (by decide +kernel) (by decide +kernel), wsin_10, tyX10_ok, nmX10, tyX10_ok 0 (by decide), rfl, rfl, rfl⟩
theorem fa_RX0_121 : FA RX0 121 1 0 (.int) false := ⟨RX1, TX1, 7, tyX1, rfl, by decide, tb1 59 (by decide +kernel) (by decide +kernel), wsin_1, tyX1_ok, nmX1, tyX1_ok 0 (by decide), rfl, rfl, rfl⟩
theorem fa_RX0_126 : FA RX0 126 1 4 (.array .int) true := ⟨RX1, TX1, 7, tyX1, rfl, by decide, tb1 71 (by decide +kernel) (by decide +kernel), wsin_1, tyX1_ok, nmX1, tyX1_ok 4 (by decide), rfl, rfl, rfl⟩
theorem fa_RX0_70 : FA RX0 70 10 2 (.int) false := ⟨RX10, TX10, 17, tyX10, rfl, by decide, tb1 132 (by decide +kernel) (by decide +kernel), wsin_10, tyX10_ok, nmX10, tyX10_ok 2 (by decide), rfl, rfl, rfl⟩
theorem fa_RX0_129 : FA RX0 129 10 7 (.array .int) true := ⟨RX10, TX10, 17, tyX10, rfl, by decide, tb1 153 (by decide +kernel) (by decide +kernel), wsin_10, tyX10_ok, nmX10, tyX10_ok 7 (by decide), rfl, rfl, rfl⟩
theorem fa_RX0_102 : FA RX0 102 2 7 (.array .boolean) true := ⟨RX2, TX2, 11, tyX2, rfl, by decide, tb2 134 (by decide +kernel) (by decide +kernel), wsin_2, tyX2_ok, nmX2, tyX2_ok 7 (by decide), rfl, rfl, rfl⟩
theorem fa_RX0_139 : FA RX0 139 1 3 (.array .int) true := ⟨RX1, TX1, 7, tyX1, rfl, by decide, tb1 69 (by decide +kernel) (by decide +kernel), wsin_1, tyX1_ok, nmX1, tyX1_ok 3 (by decide), rfl, rfl, rfl⟩
theorem ob_62 : OB 178 62 0 := ⟨by decide, by decide +kernel, by decide +kernel⟩
theorem rf_62_0 : RF 62 0 = some 3 := by decide +kernel
theorem fk_0_0 : fk 0 0 = 2 := by decide +kernel
theorem fa_RX0_21 : FA RX0 21 0 4 (.array .int) true := ⟨RX0, TX0, 7, tyX0, rfl, by decide, tb2 178 (by decide +kernel) (by decide +kernel), wsin_0, tyX0_ok, nmX0, tyX0_ok 4 (by decide), rfl, rfl, rfl⟩
theorem rf_62_4 : RF 62 4 = some 66 := by decide +kernel
theorem fk_0_4 : fk 0 4 = 2 := by decide +kernel
theorem ar_66 : AR 178 66 0 6 := ⟨by decide, by decide +kernel, by decide +kernel⟩
theorem pn_RX0 : plainName RX0 = true := by decide +kernel
theorem fa_RX0_24 : FA RX0 24 0 5 (.array .int) true := ⟨RX0, TX0, 7, tyX0, rfl, by decide, tb2 179 (by decide +kernel) (by decide +kernel), wsin_0, tyX0_ok, nmX0, tyX0_ok 5 (by decide), rfl, rfl, rfl⟩
theorem fa_RX0_148 : FA RX0 148 2 8 (.array .int) true := ⟨RX2, TX2, 11, tyX2, rfl, by decide, tb2 139 (by decide +kernel) (by decide +kernel), wsin_2, tyX2_ok, nmX2, tyX2_ok 8 (by decide), rfl, rfl, rfl⟩
theorem fa_RX0_9 : FA RX0 9 0 1 (.array .int) true := ⟨RX0, TX0, 7, tyX0, rfl, by decide, tb2 175 (by decide +kernel) (by decide +kernel), wsin_0, tyX0_ok, nmX0, tyX0_ok 1 (by decide), rfl, rfl, rfl⟩
theorem fa_RX0_76 : FA RX0 76 2 6 (.array .int) true := ⟨RX2, TX2, 11, tyX2, rfl, by decide, tb2 128 (by decide +kernel) (by decide +kernel), wsin_2, tyX2_ok, nmX2, tyX2_ok 6 (by decide), rfl, rfl, rfl⟩
theorem fa_RX0_79 : FA RX0 79 2 4 (.array .int) true := ⟨RX2, TX2, 11, tyX2, rfl, by decide, tb2 120 (by decide +kernel) (by decide +kernel), wsin_2, tyX2_ok, nmX2, tyX2_ok 4 (by decide), rfl, rfl, rfl⟩
theorem fa_RX0_145 : FA RX0 145 10 10 (.array .int) true := ⟨RX10, TX10, 17, tyX10, rfl, by decide, tb1 165 (by decide +kernel) (by decide +kernel), wsin_10, tyX10_ok, nmX10, tyX10_ok 10 (by decide), rfl, rfl, rfl⟩
theorem fa_RX0_15 : FA RX0 15 0 2 (.array .int) true := ⟨RX0, TX0, 7, tyX0, rfl, by decide, tb2 176 (by decide +kernel) (by decide +kernel), wsin_0, tyX0_ok, nmX0, tyX0_ok 2 (by decide), rfl, rfl, rfl⟩
theorem fa_RX0_18 : FA RX0 18 0 3 (.array .int) true := ⟨RX0, TX0, 7, tyX0, rfl, by decide, tb2 177 (by decide +kernel) (by decide +kernel), wsin_0, tyX0_ok, nmX0, tyX0_ok 3 (by decide), rfl, rfl, rfl⟩
theorem fa_RX0_154 : FA RX0 154 2 0 (.int) false := ⟨RX2, TX2, 11, tyX2, rfl, by decide, tb2 108 (by decide +kernel) (by decide +kernel), wsin_2, tyX2_ok, nmX2, tyX2_ok 0 (by decide), rfl, rfl, rfl⟩
theorem fa_RX0_105 : FA RX0 105 10 14 (.array .int) true := ⟨RX10, TX10, 17, tyX10, rfl, by decide, tb1 177 (by decide +kernel) (by decide +kernel), wsin_10, tyX10_ok, nmX10, tyX10_ok 14 (by decide), rfl, rfl, rfl⟩
theorem fa_RX0_157 : FA RX0 157 10 15 (.array .int) true := ⟨RX10, TX10, 17, tyX10, rfl, by decide, tb1 181 (by decide +kernel) (by decide +kernel), wsin_10, tyX10_ok, nmX10, tyX10_ok 15 (by decide), rfl, rfl, rfl⟩
theorem fa_RX0_160 : FA RX0 160 10 1 (.object "NoonSquare$Rules") true := ⟨RX10, TX10, 17, tyX10, rfl, by decide, tb1 128 (by decide +kernel) (by decide +kernel), wsin_10, tyX10_ok, nmX10, tyX10_ok 1 (by decide), rfl, rfl, rfl⟩
theorem ar_63 : AR 178 63 0 11 := ⟨by decide, by decide +kernel, by decide +kernel⟩
theorem rf_62_1 : RF 62 1 = some 63 := by decide +kernel
theorem fk_0_1 : fk 0 1 = 2 := by decide +kernel
theorem rf_62_3 : RF 62 3 = some 65 := by decide +kernel
theorem fk_0_3 : fk 0 3 = 2 := by decide +kernel
theorem ar_65 : AR 178 65 0 10 := ⟨by decide, by decide +kernel, by decide +kernel⟩
theorem kb_7 : (Int8.ofInt 7).toInt32 = 7 := by decide +kernel
theorem fa_RX4_21 : FA RX4 21 4 5 (.array .int) true := ⟨RX4, TX4, 6, tyX4, rfl, by decide, tb1 107 (by decide +kernel) (by decide +kernel), wsin_4, tyX4_ok, nmX4, tyX4_ok 5 (by decide), rfl, rfl, rfl⟩
theorem rf_10_5 : RF 10 5 = some 14 := by decide +kernel
theorem fk_4_5 : fk 4 5 = 2 := by decide +kernel
theorem ar_14 : AR 178 14 0 80 := ⟨by decide, by decide +kernel, by decide +kernel⟩
theorem rf_62_2 : RF 62 2 = some 64 := by decide +kernel
theorem fk_0_2 : fk 0 2 = 2 := by decide +kernel
theorem ar_64 : AR 178 64 0 10 := ⟨by decide, by decide +kernel, by decide +kernel⟩
theorem rf_62_5 : RF 62 5 = some 67 := by decide +kernel
theorem fk_0_5 : fk 0 5 = 2 := by decide +kernel
theorem ar_67 : AR 178 67 0 6 := ⟨by decide, by decide +kernel, by decide +kernel⟩
theorem fa_RX0_27 : FA RX0 27 0 6 (.array .int) true := ⟨RX0, TX0, 7, tyX0, rfl, by decide, tb2 180 (by decide +kernel) (by decide +kernel), wsin_0, tyX0_ok, nmX0, tyX0_ok 6 (by decide), rfl, rfl, rfl⟩
theorem fa_RX0_142 : FA RX0 142 2 5 (.array .int) true := ⟨RX2, TX2, 11, tyX2, rfl, by decide, tb2 126 (by decide +kernel) (by decide +kernel), wsin_2, tyX2_ok, nmX2, tyX2_ok 5 (by decide), rfl, rfl, rfl⟩
theorem fa_RX0_73 : FA RX0 73 2 3 (.array .int) true := ⟨RX2, TX2, 11, tyX2, rfl, by decide, tb2 115 (by decide +kernel) (by decide +kernel), wsin_2, tyX2_ok, nmX2, tyX2_ok 3 (by decide), rfl, rfl, rfl⟩
theorem rf_62_6 : RF 62 6 = some 68 := by decide +kernel
theorem fk_0_6 : fk 0 6 = 2 := by decide +kernel
theorem ar_68 : AR 178 68 0 10 := ⟨by decide, by decide +kernel, by decide +kernel⟩
theorem lc_RJ6_265 : Cond.constant RJ6 265 (1431655765) ∈ tbg := tb4 139 (by decide +kernel) (by decide +kernel)
theorem lc_RJ6_266 : Cond.constant RJ6 266 (858993459) ∈ tbg := tb4 140 (by decide +kernel) (by decide +kernel)
theorem lc_RJ6_267 : Cond.constant RJ6 267 (252645135) ∈ tbg := tb4 141 (by decide +kernel) (by decide +kernel)
theorem kb_63 : (Int8.ofInt 63).toInt32 = 63 := by decide +kernel
theorem pn_RJ6 : plainName RJ6 = true := by decide +kernel
theorem fa_RX2_9 : FA RX2 9 2 2 (.int) false := ⟨RX2, TX2, 11, tyX2, rfl, by decide, tb2 112 (by decide +kernel) (by decide +kernel), wsin_2, tyX2_ok, nmX2, tyX2_ok 2 (by decide), rfl, rfl, rfl⟩
theorem fk_2_2 : fk 2 2 = 0 := by decide +kernel
theorem lc_RX2_59 : Cond.constant RX2 59 (1103515245) ∈ tbg := tb4 90 (by decide +kernel) (by decide +kernel)
theorem ks_12345 : (Int16.ofInt 12345).toInt32 = 12345 := by decide +kernel
theorem kb_m60 : (Int8.ofInt (-60)).toInt32 = (-60) := by decide +kernel
theorem kb_m70 : (Int8.ofInt (-70)).toInt32 = (-70) := by decide +kernel
theorem fa_RX2_38 : FA RX2 38 2 10 (.array .int) true := ⟨RX2, TX2, 11, tyX2, rfl, by decide, tb2 144 (by decide +kernel) (by decide +kernel), wsin_2, tyX2_ok, nmX2, tyX2_ok 10 (by decide), rfl, rfl, rfl⟩
theorem fk_2_10 : fk 2 10 = 2 := by decide +kernel
theorem ac_RX2_53 : Cond.methodLink RX2 53 arraycopyName ∈ tbg := tb4 154 (by decide +kernel) (by decide +kernel)
theorem fa_RX0_67 : FA RX0 67 10 16 (.array .int) true := ⟨RX10, TX10, 17, tyX10, rfl, by decide, tb1 185 (by decide +kernel) (by decide +kernel), wsin_10, tyX10_ok, nmX10, tyX10_ok 16 (by decide), rfl, rfl, rfl⟩
theorem fa_RX0_82 : FA RX0 82 2 9 (.array .int) true := ⟨RX2, TX2, 11, tyX2, rfl, by decide, tb2 142 (by decide +kernel) (by decide +kernel), wsin_2, tyX2_ok, nmX2, tyX2_ok 9 (by decide), rfl, rfl, rfl⟩
theorem fa_RX0_89 : FA RX0 89 10 9 (.array .int) true := ⟨RX10, TX10, 17, tyX10, rfl, by decide, tb1 160 (by decide +kernel) (by decide +kernel), wsin_10, tyX10_ok, nmX10, tyX10_ok 9 (by decide), rfl, rfl, rfl⟩
theorem fa_RX0_98 : FA RX0 98 10 11 (.array .boolean) true := ⟨RX10, TX10, 17, tyX10, rfl, by decide, tb1 168 (by decide +kernel) (by decide +kernel), wsin_10, tyX10_ok, nmX10, tyX10_ok 11 (by decide), rfl, rfl, rfl⟩
theorem ml_RX0_92 : Cond.methodLink RX0 92 Lib.Math.max.name ∈ tbg := tb4 76 (by decide +kernel) (by decide +kernel)
theorem ml_RX0_108 : Cond.methodLink RX0 108 Lib.Math.min.name ∈ tbg := tb4 83 (by decide +kernel) (by decide +kernel)
theorem fa_RX11_128 : FA RX11 128 2 3 (.array .int) true := ⟨RX2, TX2, 11, tyX2, rfl, by decide, tb2 116 (by decide +kernel) (by decide +kernel), wsin_2, tyX2_ok, nmX2, tyX2_ok 3 (by decide), rfl, rfl, rfl⟩
theorem fa_RX11_144 : FA RX11 144 2 6 (.array .int) true := ⟨RX2, TX2, 11, tyX2, rfl, by decide, tb2 130 (by decide +kernel) (by decide +kernel), wsin_2, tyX2_ok, nmX2, tyX2_ok 6 (by decide), rfl, rfl, rfl⟩
theorem fa_RX11_141 : FA RX11 141 10 7 (.array .int) true := ⟨RX10, TX10, 17, tyX10, rfl, by decide, tb1 155 (by decide +kernel) (by decide +kernel), wsin_10, tyX10_ok, nmX10, tyX10_ok 7 (by decide), rfl, rfl, rfl⟩
theorem fa_RX11_138 : FA RX11 138 2 7 (.array .boolean) true := ⟨RX2, TX2, 11, tyX2, rfl, by decide, tb2 136 (by decide +kernel) (by decide +kernel), wsin_2, tyX2_ok, nmX2, tyX2_ok 7 (by decide), rfl, rfl, rfl⟩
theorem fa_RX11_135 : FA RX11 135 2 5 (.array .int) true := ⟨RX2, TX2, 11, tyX2, rfl, by decide, tb2 125 (by decide +kernel) (by decide +kernel), wsin_2, tyX2_ok, nmX2, tyX2_ok 5 (by decide), rfl, rfl, rfl⟩
theorem fa_RX11_132 : FA RX11 132 2 4 (.array .int) true := ⟨RX2, TX2, 11, tyX2, rfl, by decide, tb2 121 (by decide +kernel) (by decide +kernel), wsin_2, tyX2_ok, nmX2, tyX2_ok 4 (by decide), rfl, rfl, rfl⟩
theorem fa_RX11_227 : FA RX11 227 10 2 (.int) false := ⟨RX10, TX10, 17, tyX10, rfl, by decide, tb1 134 (by decide +kernel) (by decide +kernel), wsin_10, tyX10_ok, nmX10, tyX10_ok 2 (by decide), rfl, rfl, rfl⟩
theorem rf_53_3 : RF 53 3 = some 54 := by decide +kernel
theorem ar_54 : AR 178 54 0 10 := ⟨by decide, by decide +kernel, by decide +kernel⟩
theorem rf_53_4 : RF 53 4 = some 55 := by decide +kernel
theorem ar_55 : AR 178 55 0 10 := ⟨by decide, by decide +kernel, by decide +kernel⟩
theorem rf_53_5 : RF 53 5 = some 56 := by decide +kernel
theorem ar_56 : AR 178 56 0 10 := ⟨by decide, by decide +kernel, by decide +kernel⟩
theorem rf_53_7 : RF 53 7 = some 58 := by decide +kernel
theorem ar_58 : AR 178 58 2 10 := ⟨by decide, by decide +kernel, by decide +kernel⟩
theorem rf_53_6 : RF 53 6 = some 57 := by decide +kernel
theorem ar_57 : AR 178 57 0 10 := ⟨by decide, by decide +kernel, by decide +kernel⟩
theorem kb_m2 : (Int8.ofInt (-2)).toInt32 = (-2) := by decide +kernel
theorem fa_RX11_150 : FA RX11 150 2 8 (.array .int) true := ⟨RX2, TX2, 11, tyX2, rfl, by decide, tb2 138 (by decide +kernel) (by decide +kernel), wsin_2, tyX2_ok, nmX2, tyX2_ok 8 (by decide), rfl, rfl, rfl⟩
theorem fa_RX11_153 : FA RX11 153 2 9 (.array .int) true := ⟨RX2, TX2, 11, tyX2, rfl, by decide, tb2 143 (by decide +kernel) (by decide +kernel), wsin_2, tyX2_ok, nmX2, tyX2_ok 9 (by decide), rfl, rfl, rfl⟩
theorem rf_53_8 : RF 53 8 = some 59 := by decide +kernel
theorem ar_59 : AR 178 59 0 6 := ⟨by decide, by decide +kernel, by decide +kernel⟩
theorem rf_53_9 : RF 53 9 = some 60 := by decide +kernel
theorem ar_60 : AR 178 60 0 6 := ⟨by decide, by decide +kernel, by decide +kernel⟩
theorem fa_RX11_171 : FA RX11 171 10 0 (.object "NoonSquare$Land") true := ⟨RX10, TX10, 17, tyX10, rfl, by decide, tb1 125 (by decide +kernel) (by decide +kernel), wsin_10, tyX10_ok, nmX10, tyX10_ok 0 (by decide), rfl, rfl, rfl⟩
theorem fa_RX11_270 : FA RX11 270 1 0 (.int) false := ⟨RX1, TX1, 7, tyX1, rfl, by decide, tb1 60 (by decide +kernel) (by decide +kernel), wsin_1, tyX1_ok, nmX1, tyX1_ok 0 (by decide), rfl, rfl, rfl⟩
theorem lc_RX11_184 : Cond.constant RX11 184 (-1000000) ∈ tbg := tb4 202 (by decide +kernel) (by decide +kernel)
theorem fa_RX11_56 : FA RX11 56 11 6 (.object "NoonSquare$Trial") true := ⟨RX11, TX11, 12, tyX11, rfl, by decide, tb3 61 (by decide +kernel) (by decide +kernel), wsin_11, tyX11_ok, nmX11, tyX11_ok 6 (by decide), rfl, rfl, rfl⟩
theorem wsin_9 : ∀ w ∈ u_ws RX9 TX9 7, w ∈ tbg := wsin [590, 592, 594, 596, 598, 600, 602] (by decide +kernel)
theorem fa_RX11_192 : FA RX11 192 9 4 (.int) false := ⟨RX9, TX9, 7, tyX9, rfl, by decide, tb2 210 (by decide +kernel) (by decide +kernel), wsin_9, tyX9_ok, nmX9, tyX9_ok 4 (by decide), rfl, rfl, rfl⟩
theorem fa_RX11_195 : FA RX11 195 9 5 (.int) false := ⟨RX9, TX9, 7, tyX9, rfl, by decide, tb2 212 (by decide +kernel) (by decide +kernel), wsin_9, tyX9_ok, nmX9, tyX9_ok 5 (by decide), rfl, rfl, rfl⟩
theorem rf_0_6 : RF 0 6 = some 69 := by decide +kernel
theorem fk_11_6 : fk 11 6 = 2 := by decide +kernel
theorem fa_RX9_12 : FA RX9 12 9 2 (.object "NoonSquare$Now") true := ⟨RX9, TX9, 7, tyX9, rfl, by decide, tb2 207 (by decide +kernel) (by decide +kernel), wsin_9, tyX9_ok, nmX9, tyX9_ok 2 (by decide), rfl, rfl, rfl⟩
theorem fa_RX9_51 : FA RX9 51 2 7 (.array .boolean) true := ⟨RX2, TX2, 11, tyX2, rfl, by decide, tb2 133 (by decide +kernel) (by decide +kernel), wsin_2, tyX2_ok, nmX2, tyX2_ok 7 (by decide), rfl, rfl, rfl⟩
theorem fa_RX9_26 : FA RX9 26 9 1 (.object "NoonSquare$Day") true := ⟨RX9, TX9, 7, tyX9, rfl, by decide, tb2 206 (by decide +kernel) (by decide +kernel), wsin_9, tyX9_ok, nmX9, tyX9_ok 1 (by decide), rfl, rfl, rfl⟩
theorem fa_RX9_22 : FA RX9 22 9 0 (.object "NoonSquare$Valley") true := ⟨RX9, TX9, 7, tyX9, rfl, by decide, tb2 205 (by decide +kernel) (by decide +kernel), wsin_9, tyX9_ok, nmX9, tyX9_ok 0 (by decide), rfl, rfl, rfl⟩
theorem fa_RX9_55 : FA RX9 55 10 4 (.int) false := ⟨RX10, TX10, 17, tyX10, rfl, by decide, tb1 141 (by decide +kernel) (by decide +kernel), wsin_10, tyX10_ok, nmX10, tyX10_ok 4 (by decide), rfl, rfl, rfl⟩
theorem fa_RX9_73 : FA RX9 73 10 5 (.int) false := ⟨RX10, TX10, 17, tyX10, rfl, by decide, tb1 147 (by decide +kernel) (by decide +kernel), wsin_10, tyX10_ok, nmX10, tyX10_ok 5 (by decide), rfl, rfl, rfl⟩
theorem fa_RX9_76 : FA RX9 76 9 4 (.int) false := ⟨RX9, TX9, 7, tyX9, rfl, by decide, tb2 209 (by decide +kernel) (by decide +kernel), wsin_9, tyX9_ok, nmX9, tyX9_ok 4 (by decide), rfl, rfl, rfl⟩
theorem fa_RX9_79 : FA RX9 79 9 5 (.int) false := ⟨RX9, TX9, 7, tyX9, rfl, by decide, tb2 211 (by decide +kernel) (by decide +kernel), wsin_9, tyX9_ok, nmX9, tyX9_ok 5 (by decide), rfl, rfl, rfl⟩
theorem fa_RX9_90 : FA RX9 90 0 6 (.array .int) true := ⟨RX0, TX0, 7, tyX0, rfl, by decide, tb2 181 (by decide +kernel) (by decide +kernel), wsin_0, tyX0_ok, nmX0, tyX0_ok 6 (by decide), rfl, rfl, rfl⟩
theorem ob_69 : OB 178 69 9 := ⟨by decide, by decide +kernel, by decide +kernel⟩
theorem rf_69_0 : RF 69 0 = some 3 := by decide +kernel
theorem fk_9_0 : fk 9 0 = 2 := by decide +kernel
theorem rf_69_1 : RF 69 1 = some 62 := by decide +kernel
theorem fk_9_1 : fk 9 1 = 2 := by decide +kernel
theorem pn_RX9 : plainName RX9 = true := by decide +kernel
theorem fk_9_4 : fk 9 4 = 0 := by decide +kernel
theorem fk_9_5 : fk 9 5 = 0 := by decide +kernel
theorem fa_RX9_86 : FA RX9 86 2 6 (.array .int) true := ⟨RX2, TX2, 11, tyX2, rfl, by decide, tb2 129 (by decide +kernel) (by decide +kernel), wsin_2, tyX2_ok, nmX2, tyX2_ok 6 (by decide), rfl, rfl, rfl⟩
theorem rf_69_2 : RF 69 2 = some 70 := by decide +kernel
theorem fk_9_2 : fk 9 2 = 2 := by decide +kernel
theorem ks_600 : (Int16.ofInt 600).toInt32 = 600 := by decide +kernel
theorem ob_70 : OB 178 70 2 := ⟨by decide, by decide +kernel, by decide +kernel⟩
theorem rf_70_6 : RF 70 6 = some 74 := by decide +kernel
theorem ar_74 : AR 178 74 0 10 := ⟨by decide, by decide +kernel, by decide +kernel⟩
theorem fa_RX9_102 : FA RX9 102 2 3 (.array .int) true := ⟨RX2, TX2, 11, tyX2, rfl, by decide, tb2 117 (by decide +kernel) (by decide +kernel), wsin_2, tyX2_ok, nmX2, tyX2_ok 3 (by decide), rfl, rfl, rfl⟩
theorem rf_70_3 : RF 70 3 = some 71 := by decide +kernel
theorem ar_71 : AR 178 71 0 10 := ⟨by decide, by decide +kernel, by decide +kernel⟩
theorem rf_70_7 : RF 70 7 = some 75 := by decide +kernel
theorem ar_75 : AR 178 75 2 10 := ⟨by decide, by decide +kernel, by decide +kernel⟩
theorem fa_RX11_65 : FA RX11 65 11 7 (.object "NoonSquare$Standings") true := ⟨RX11, TX11, 12, tyX11, rfl, by decide, tb3 62 (by decide +kernel) (by decide +kernel), wsin_11, tyX11_ok, nmX11, tyX11_ok 7 (by decide), rfl, rfl, rfl⟩
theorem wsin_5 : ∀ w ∈ u_ws RX5 TX5 9, w ∈ tbg := wsin [624, 626, 628, 630, 632, 634, 636, 638, 640] (by decide +kernel)
theorem fa_RX11_204 : FA RX11 204 5 6 (.int) false := ⟨RX5, TX5, 9, tyX5, rfl, by decide, tb3 4 (by decide +kernel) (by decide +kernel), wsin_5, tyX5_ok, nmX5, tyX5_ok 6 (by decide), rfl, rfl, rfl⟩
theorem fa_RX11_205 : FA RX11 205 5 7 (.int) false := ⟨RX5, TX5, 9, tyX5, rfl, by decide, tb3 6 (by decide +kernel) (by decide +kernel), wsin_5, tyX5_ok, nmX5, tyX5_ok 7 (by decide), rfl, rfl, rfl⟩
theorem fa_RX11_208 : FA RX11 208 5 8 (.int) false := ⟨RX5, TX5, 9, tyX5, rfl, by decide, tb3 8 (by decide +kernel) (by decide +kernel), wsin_5, tyX5_ok, nmX5, tyX5_ok 8 (by decide), rfl, rfl, rfl⟩
theorem rf_0_7 : RF 0 7 = some 80 := by decide +kernel
theorem fk_11_7 : fk 11 7 = 2 := by decide +kernel
theorem fa_RX5_24 : FA RX5 24 5 0 (.object "NoonSquare$Valley") true := ⟨RX5, TX5, 9, tyX5, rfl, by decide, tb2 236 (by decide +kernel) (by decide +kernel), wsin_5, tyX5_ok, nmX5, tyX5_ok 0 (by decide), rfl, rfl, rfl⟩
theorem fa_RX5_32 : FA RX5 32 10 3 (.int) false := ⟨RX10, TX10, 17, tyX10, rfl, by decide, tb1 135 (by decide +kernel) (by decide +kernel), wsin_10, tyX10_ok, nmX10, tyX10_ok 3 (by decide), rfl, rfl, rfl⟩
theorem fa_RX5_38 : FA RX5 38 10 2 (.int) false := ⟨RX10, TX10, 17, tyX10, rfl, by decide, tb1 131 (by decide +kernel) (by decide +kernel), wsin_10, tyX10_ok, nmX10, tyX10_ok 2 (by decide), rfl, rfl, rfl⟩
theorem ob_80 : OB 178 80 5 := ⟨by decide, by decide +kernel, by decide +kernel⟩
theorem rf_80_0 : RF 80 0 = some 3 := by decide +kernel
theorem fk_5_0 : fk 5 0 = 2 := by decide +kernel
theorem pn_RX5 : plainName RX5 = true := by decide +kernel
theorem fa_RX5_41 : FA RX5 41 5 6 (.int) false := ⟨RX5, TX5, 9, tyX5, rfl, by decide, tb3 3 (by decide +kernel) (by decide +kernel), wsin_5, tyX5_ok, nmX5, tyX5_ok 6 (by decide), rfl, rfl, rfl⟩
theorem fa_RX5_44 : FA RX5 44 5 7 (.int) false := ⟨RX5, TX5, 9, tyX5, rfl, by decide, tb3 5 (by decide +kernel) (by decide +kernel), wsin_5, tyX5_ok, nmX5, tyX5_ok 7 (by decide), rfl, rfl, rfl⟩
theorem fa_RX5_47 : FA RX5 47 5 8 (.int) false := ⟨RX5, TX5, 9, tyX5, rfl, by decide, tb3 7 (by decide +kernel) (by decide +kernel), wsin_5, tyX5_ok, nmX5, tyX5_ok 8 (by decide), rfl, rfl, rfl⟩
theorem fa_RX5_18 : FA RX5 18 5 4 (.array .int) true := ⟨RX5, TX5, 9, tyX5, rfl, by decide, tb3 0 (by decide +kernel) (by decide +kernel), wsin_5, tyX5_ok, nmX5, tyX5_ok 4 (by decide), rfl, rfl, rfl⟩
theorem fa_RX5_15 : FA RX5 15 5 3 (.array .int) true := ⟨RX5, TX5, 9, tyX5, rfl, by decide, tb2 239 (by decide +kernel) (by decide +kernel), wsin_5, tyX5_ok, nmX5, tyX5_ok 3 (by decide), rfl, rfl, rfl⟩
theorem rf_80_4 : RF 80 4 = some 83 := by decide +kernel
theorem fk_5_4 : fk 5 4 = 2 := by decide +kernel
theorem ar_83 : AR 178 83 0 6 := ⟨by decide, by decide +kernel, by decide +kernel⟩
theorem rf_80_3 : RF 80 3 = some 82 := by decide +kernel
theorem fk_5_3 : fk 5 3 = 2 := by decide +kernel
theorem ar_82 : AR 178 82 0 6 := ⟨by decide, by decide +kernel, by decide +kernel⟩
theorem fa_RX5_21 : FA RX5 21 5 5 (.array .int) true := ⟨RX5, TX5, 9, tyX5, rfl, by decide, tb3 1 (by decide +kernel) (by decide +kernel), wsin_5, tyX5_ok, nmX5, tyX5_ok 5 (by decide), rfl, rfl, rfl⟩
theorem rf_80_5 : RF 80 5 = some 84 := by decide +kernel
theorem fk_5_5 : fk 5 5 = 2 := by decide +kernel
theorem fa_RX5_9 : FA RX5 9 5 2 (.array .int) true := ⟨RX5, TX5, 9, tyX5, rfl, by decide, tb2 238 (by decide +kernel) (by decide +kernel), wsin_5, tyX5_ok, nmX5, tyX5_ok 2 (by decide), rfl, rfl, rfl⟩
theorem rf_80_2 : RF 80 2 = some 81 := by decide +kernel
theorem fk_5_2 : fk 5 2 = 2 := by decide +kernel
theorem ar_81 : AR 178 81 0 66 := ⟨by decide, by decide +kernel, by decide +kernel⟩
theorem ar_84 : AR 178 84 0 6 := ⟨by decide, by decide +kernel, by decide +kernel⟩
theorem fa_RX5_28 : FA RX5 28 5 1 (.object "NoonSquare$Now") true := ⟨RX5, TX5, 9, tyX5, rfl, by decide, tb2 237 (by decide +kernel) (by decide +kernel), wsin_5, tyX5_ok, nmX5, tyX5_ok 1 (by decide), rfl, rfl, rfl⟩
theorem fa_RX5_114 : FA RX5 114 2 6 (.array .int) true := ⟨RX2, TX2, 11, tyX2, rfl, by decide, tb2 131 (by decide +kernel) (by decide +kernel), wsin_2, tyX2_ok, nmX2, tyX2_ok 6 (by decide), rfl, rfl, rfl⟩
theorem fa_RX5_117 : FA RX5 117 2 4 (.array .int) true := ⟨RX2, TX2, 11, tyX2, rfl, by decide, tb2 123 (by decide +kernel) (by decide +kernel), wsin_2, tyX2_ok, nmX2, tyX2_ok 4 (by decide), rfl, rfl, rfl⟩
theorem fa_RX5_120 : FA RX5 120 10 4 (.int) false := ⟨RX10, TX10, 17, tyX10, rfl, by decide, tb1 144 (by decide +kernel) (by decide +kernel), wsin_10, tyX10_ok, nmX10, tyX10_ok 4 (by decide), rfl, rfl, rfl⟩
theorem fa_RX5_127 : FA RX5 127 10 15 (.array .int) true := ⟨RX10, TX10, 17, tyX10, rfl, by decide, tb1 182 (by decide +kernel) (by decide +kernel), wsin_10, tyX10_ok, nmX10, tyX10_ok 15 (by decide), rfl, rfl, rfl⟩
theorem fa_RX5_82 : FA RX5 82 10 0 (.object "NoonSquare$Land") true := ⟨RX10, TX10, 17, tyX10, rfl, by decide, tb1 123 (by decide +kernel) (by decide +kernel), wsin_10, tyX10_ok, nmX10, tyX10_ok 0 (by decide), rfl, rfl, rfl⟩
theorem fa_RX5_130 : FA RX5 130 2 8 (.array .int) true := ⟨RX2, TX2, 11, tyX2, rfl, by decide, tb2 140 (by decide +kernel) (by decide +kernel), wsin_2, tyX2_ok, nmX2, tyX2_ok 8 (by decide), rfl, rfl, rfl⟩
theorem fa_RX5_76 : FA RX5 76 10 7 (.array .int) true := ⟨RX10, TX10, 17, tyX10, rfl, by decide, tb1 152 (by decide +kernel) (by decide +kernel), wsin_10, tyX10_ok, nmX10, tyX10_ok 7 (by decide), rfl, rfl, rfl⟩
theorem rf_80_1 : RF 80 1 = some 53 := by decide +kernel
theorem fk_5_1 : fk 5 1 = 2 := by decide +kernel
theorem fk_5_6 : fk 5 6 = 0 := by decide +kernel
theorem fk_5_7 : fk 5 7 = 0 := by decide +kernel
theorem ml_RX5_61 : Cond.methodLink RX5 61 Lib.Math.max.name ∈ tbg := tb5 49 (by decide +kernel) (by decide +kernel)
theorem fk_5_8 : fk 5 8 = 0 := by decide +kernel
theorem fa_RX5_136 : FA RX5 136 2 3 (.array .int) true := ⟨RX2, TX2, 11, tyX2, rfl, by decide, tb2 118 (by decide +kernel) (by decide +kernel), wsin_2, tyX2_ok, nmX2, tyX2_ok 3 (by decide), rfl, rfl, rfl⟩
theorem ml_RX5_70 : Cond.methodLink RX5 70 Lib.Math.min.name ∈ tbg := tb5 54 (by decide +kernel) (by decide +kernel)
theorem fa_RX5_86 : FA RX5 86 1 3 (.array .int) true := ⟨RX1, TX1, 7, tyX1, rfl, by decide, tb1 67 (by decide +kernel) (by decide +kernel), wsin_1, tyX1_ok, nmX1, tyX1_ok 3 (by decide), rfl, rfl, rfl⟩
theorem fa_RX5_91 : FA RX5 91 2 7 (.array .boolean) true := ⟨RX2, TX2, 11, tyX2, rfl, by decide, tb2 135 (by decide +kernel) (by decide +kernel), wsin_2, tyX2_ok, nmX2, tyX2_ok 7 (by decide), rfl, rfl, rfl⟩
theorem fa_RX11_211 : FA RX11 211 5 5 (.array .int) true := ⟨RX5, TX5, 9, tyX5, rfl, by decide, tb3 2 (by decide +kernel) (by decide +kernel), wsin_5, tyX5_ok, nmX5, tyX5_ok 5 (by decide), rfl, rfl, rfl⟩
theorem kb_m3 : (Int8.ofInt (-3)).toInt32 = (-3) := by decide +kernel
theorem fa_RX11_224 : FA RX11 224 9 6 (.int) false := ⟨RX9, TX9, 7, tyX9, rfl, by decide, tb2 214 (by decide +kernel) (by decide +kernel), wsin_9, tyX9_ok, nmX9, tyX9_ok 6 (by decide), rfl, rfl, rfl⟩
theorem kb_30 : (Int8.ofInt 30).toInt32 = 30 := by decide +kernel
theorem fa_RX9_105 : FA RX9 105 2 4 (.array .int) true := ⟨RX2, TX2, 11, tyX2, rfl, by decide, tb2 122 (by decide +kernel) (by decide +kernel), wsin_2, tyX2_ok, nmX2, tyX2_ok 4 (by decide), rfl, rfl, rfl⟩
theorem fa_RX9_18 : FA RX9 18 9 3 (.array .long) true := ⟨RX9, TX9, 7, tyX9, rfl, by decide, tb2 208 (by decide +kernel) (by decide +kernel), wsin_9, tyX9_ok, nmX9, tyX9_ok 3 (by decide), rfl, rfl, rfl⟩
theorem rf_69_3 : RF 69 3 = some 79 := by decide +kernel
theorem fk_9_3 : fk 9 3 = 2 := by decide +kernel
theorem fa_RX9_114 : FA RX9 114 10 11 (.array .boolean) true := ⟨RX10, TX10, 17, tyX10, rfl, by decide, tb1 170 (by decide +kernel) (by decide +kernel), wsin_10, tyX10_ok, nmX10, tyX10_ok 11 (by decide), rfl, rfl, rfl⟩
theorem fa_RX9_117 : FA RX9 117 10 9 (.array .int) true := ⟨RX10, TX10, 17, tyX10, rfl, by decide, tb1 162 (by decide +kernel) (by decide +kernel), wsin_10, tyX10_ok, nmX10, tyX10_ok 9 (by decide), rfl, rfl, rfl⟩
theorem fa_RX9_127 : FA RX9 127 9 6 (.int) false := ⟨RX9, TX9, 7, tyX9, rfl, by decide, tb2 213 (by decide +kernel) (by decide +kernel), wsin_9, tyX9_ok, nmX9, tyX9_ok 6 (by decide), rfl, rfl, rfl⟩
theorem fk_9_6 : fk 9 6 = 0 := by decide +kernel
theorem ml_RX9_120 : Cond.methodLink RX9 120 Lib.Math.max.name ∈ tbg := tb5 93 (by decide +kernel) (by decide +kernel)
theorem ar_79 : AR 178 79 1 101 := ⟨by decide, by decide +kernel, by decide +kernel⟩
theorem ll_RX9_125 : Cond.constantLong RX9 125 (100) ∈ tbg := tb5 94 (by decide +kernel) (by decide +kernel)
theorem ll_RX9_112 : Cond.constantLong RX9 112 (-1) ∈ tbg := tb5 92 (by decide +kernel) (by decide +kernel)
theorem fa_RX11_230 : FA RX11 230 10 10 (.array .int) true := ⟨RX10, TX10, 17, tyX10, rfl, by decide, tb1 166 (by decide +kernel) (by decide +kernel), wsin_10, tyX10_ok, nmX10, tyX10_ok 10 (by decide), rfl, rfl, rfl⟩
theorem fa_RX11_233 : FA RX11 233 10 15 (.array .int) true := ⟨RX10, TX10, 17, tyX10, rfl, by decide, tb1 183 (by decide +kernel) (by decide +kernel), wsin_10, tyX10_ok, nmX10, tyX10_ok 15 (by decide), rfl, rfl, rfl⟩
theorem fa_RX1_25 : FA RX1 25 1 6 (.array .int) true := ⟨RX1, TX1, 7, tyX1, rfl, by decide, tb1 73 (by decide +kernel) (by decide +kernel), wsin_1, tyX1_ok, nmX1, tyX1_ok 6 (by decide), rfl, rfl, rfl⟩
theorem rf_4_6 : RF 4 6 = some 9 := by decide +kernel
theorem fk_1_6 : fk 1 6 = 2 := by decide +kernel
theorem ar_9 : AR 178 9 0 8 := ⟨by decide, by decide +kernel, by decide +kernel⟩
theorem ml_RX1_49 : Cond.methodLink RX1 49 Lib.Math.max.name ∈ tbg := tb5 111 (by decide +kernel) (by decide +kernel)
theorem fa_RX11_242 : FA RX11 242 11 11 (.int) false := ⟨RX11, TX11, 12, tyX11, rfl, by decide, tb3 66 (by decide +kernel) (by decide +kernel), wsin_11, tyX11_ok, nmX11, tyX11_ok 11 (by decide), rfl, rfl, rfl⟩
theorem fk_11_11 : fk 11 11 = 0 := by decide +kernel
theorem fa_RX6_27 : FA RX6 27 6 0 (.int) false := ⟨RX6, TX6, 6, tyX6, rfl, by decide, tb3 34 (by decide +kernel) (by decide +kernel), wsin_6, tyX6_ok, nmX6, tyX6_ok 0 (by decide), rfl, rfl, rfl⟩
theorem fa_RX6_9 : FA RX6 9 6 1 (.array .int) true := ⟨RX6, TX6, 6, tyX6, rfl, by decide, tb3 36 (by decide +kernel) (by decide +kernel), wsin_6, tyX6_ok, nmX6, tyX6_ok 1 (by decide), rfl, rfl, rfl⟩
theorem fa_RX6_15 : FA RX6 15 6 2 (.array .int) true := ⟨RX6, TX6, 6, tyX6, rfl, by decide, tb3 37 (by decide +kernel) (by decide +kernel), wsin_6, tyX6_ok, nmX6, tyX6_ok 2 (by decide), rfl, rfl, rfl⟩
theorem fa_RX6_18 : FA RX6 18 6 3 (.array .int) true := ⟨RX6, TX6, 6, tyX6, rfl, by decide, tb3 38 (by decide +kernel) (by decide +kernel), wsin_6, tyX6_ok, nmX6, tyX6_ok 3 (by decide), rfl, rfl, rfl⟩
theorem fa_RX6_21 : FA RX6 21 6 4 (.array .int) true := ⟨RX6, TX6, 6, tyX6, rfl, by decide, tb3 39 (by decide +kernel) (by decide +kernel), wsin_6, tyX6_ok, nmX6, tyX6_ok 4 (by decide), rfl, rfl, rfl⟩
theorem fa_RX6_24 : FA RX6 24 6 5 (.array .int) true := ⟨RX6, TX6, 6, tyX6, rfl, by decide, tb3 40 (by decide +kernel) (by decide +kernel), wsin_6, tyX6_ok, nmX6, tyX6_ok 5 (by decide), rfl, rfl, rfl⟩
theorem rf_85_1 : RF 85 1 = some 86 := by decide +kernel
theorem fk_6_1 : fk 6 1 = 2 := by decide +kernel
theorem ar_86 : AR 178 86 0 40 := ⟨by decide, by decide +kernel, by decide +kernel⟩
theorem rf_85_2 : RF 85 2 = some 87 := by decide +kernel
theorem fk_6_2 : fk 6 2 = 2 := by decide +kernel
theorem ar_87 : AR 178 87 0 40 := ⟨by decide, by decide +kernel, by decide +kernel⟩
theorem rf_85_3 : RF 85 3 = some 88 := by decide +kernel
theorem fk_6_3 : fk 6 3 = 2 := by decide +kernel
theorem ar_88 : AR 178 88 0 40 := ⟨by decide, by decide +kernel, by decide +kernel⟩
theorem rf_85_4 : RF 85 4 = some 89 := by decide +kernel
theorem fk_6_4 : fk 6 4 = 2 := by decide +kernel
theorem ar_89 : AR 178 89 0 40 := ⟨by decide, by decide +kernel, by decide +kernel⟩
theorem rf_85_5 : RF 85 5 = some 90 := by decide +kernel
theorem fk_6_5 : fk 6 5 = 2 := by decide +kernel
theorem ar_90 : AR 178 90 0 40 := ⟨by decide, by decide +kernel, by decide +kernel⟩
theorem pn_RX6 : plainName RX6 = true := by decide +kernel
theorem ks_1000 : (Int16.ofInt 1000).toInt32 = 1000 := by decide +kernel
theorem lc_RX11_252 : Cond.constant RX11 252 (100000) ∈ tbg := tb5 140 (by decide +kernel) (by decide +kernel)
theorem fa_RX6_31 : FA RX6 31 2 0 (.int) false := ⟨RX2, TX2, 11, tyX2, rfl, by decide, tb2 106 (by decide +kernel) (by decide +kernel), wsin_2, tyX2_ok, nmX2, tyX2_ok 0 (by decide), rfl, rfl, rfl⟩
theorem fa_RX11_265 : FA RX11 265 2 2 (.int) false := ⟨RX2, TX2, 11, tyX2, rfl, by decide, tb2 113 (by decide +kernel) (by decide +kernel), wsin_2, tyX2_ok, nmX2, tyX2_ok 2 (by decide), rfl, rfl, rfl⟩
theorem fa_RX11_76 : FA RX11 76 11 9 (.array (.object "NoonSquare$Now")) true := ⟨RX11, TX11, 12, tyX11, rfl, by decide, tb3 64 (by decide +kernel) (by decide +kernel), wsin_11, tyX11_ok, nmX11, tyX11_ok 9 (by decide), rfl, rfl, rfl⟩
theorem rf_0_9 : RF 0 9 = some 91 := by decide +kernel
theorem fk_11_9 : fk 11 9 = 2 := by decide +kernel
theorem ar_91 : AR 178 91 4 3 := ⟨by decide, by decide +kernel, by decide +kernel⟩
theorem fa_RX11_285 : FA RX11 285 2 1 (.int) false := ⟨RX2, TX2, 11, tyX2, rfl, by decide, tb2 111 (by decide +kernel) (by decide +kernel), wsin_2, tyX2_ok, nmX2, tyX2_ok 1 (by decide), rfl, rfl, rfl⟩
theorem fa_RX11_276 : FA RX11 276 10 1 (.object "NoonSquare$Rules") true := ⟨RX10, TX10, 17, tyX10, rfl, by decide, tb1 129 (by decide +kernel) (by decide +kernel), wsin_10, tyX10_ok, nmX10, tyX10_ok 1 (by decide), rfl, rfl, rfl⟩
theorem fa_RX11_280 : FA RX11 280 4 0 (.int) false := ⟨RX4, TX4, 6, tyX4, rfl, by decide, tb1 99 (by decide +kernel) (by decide +kernel), wsin_4, tyX4_ok, nmX4, tyX4_ok 0 (by decide), rfl, rfl, rfl⟩
theorem fa_RX11_273 : FA RX11 273 1 1 (.int) false := ⟨RX1, TX1, 7, tyX1, rfl, by decide, tb1 63 (by decide +kernel) (by decide +kernel), wsin_1, tyX1_ok, nmX1, tyX1_ok 1 (by decide), rfl, rfl, rfl⟩
theorem wsin_12 : ∀ w ∈ u_ws RX12 TX12 104, w ∈ tbg := wsin [1400, 1402, 1404, 1406, 1408, 1410, 1412, 1414, 1416, 1418, 1420, 1422, 1424, 1426, 1428, 1430, 1432, 1434, 1436, 1438, 1440, 1442, 1444, 1446, 1448, 1450, 1452, 1454, 1456, 1458, 1460, 1462, 1464, 1466, 1468, 1470, 1472, 1474, 1476, 1478, 1480, 1482, 1484, 1486, 1488, 1490, 1492, 1494, 1496, 1498, 1500, 1502, 1504, 1506, 1508, 1510, 1512, 1514, 1516, 1518, 1520, 1522, 1524, 1526, 1528, 1530, 1532, 1534, 1536, 1538, 1540, 1542, 1544, 1546, 1548, 1550, 1552, 1554, 1556, 1558, 1560, 1562, 1564, 1566, 1568, 1570, 1572, 1574, 1576, 1578, 1580, 1582, 1584, 1586, 1588, 1590, 1592, 1594, 1596, 1598, 1600, 1602, 1604, 1606] (by decide +kernel)
theorem fa_RX12_196 : FA RX12 196 12 1 (.int) false := ⟨RX12, TX12, 104, tyX12, rfl, by decide, tb5 202 (by decide +kernel) (by decide +kernel), wsin_12, tyX12_ok, nmX12, tyX12_ok 1 (by decide), rfl, rfl, rfl⟩
theorem ob_120 : OB 178 120 12 := ⟨by decide, by decide +kernel, by decide +kernel⟩
theorem fk_12_1 : fk 12 1 = 0 := by decide +kernel
theorem fa_RX12_7 : FA RX12 7 12 0 (.array .int) true := ⟨RX12, TX12, 104, tyX12, rfl, by decide, tb5 201 (by decide +kernel) (by decide +kernel), wsin_12, tyX12_ok, nmX12, tyX12_ok 0 (by decide), rfl, rfl, rfl⟩
theorem rf_120_0 : RF 120 0 = some 121 := by decide +kernel
theorem fk_12_0 : fk 12 0 = 2 := by decide +kernel
theorem ar_121 : AR 178 121 0 1700 := ⟨by decide, by decide +kernel, by decide +kernel⟩
theorem pn_RX12 : plainName RX12 = true := by decide +kernel
theorem fa_RX12_57 : FA RX12 57 12 28 (.array .int) true := ⟨RX12, TX12, 104, tyX12, rfl, by decide, tb5 229 (by decide +kernel) (by decide +kernel), wsin_12, tyX12_ok, nmX12, tyX12_ok 28 (by decide), rfl, rfl, rfl⟩
theorem fa_RX12_236 : FA RX12 236 12 2 (.int) false := ⟨RX12, TX12, 104, tyX12, rfl, by decide, tb5 203 (by decide +kernel) (by decide +kernel), wsin_12, tyX12_ok, nmX12, tyX12_ok 2 (by decide), rfl, rfl, rfl⟩
theorem fa_RX12_223 : FA RX12 223 12 6 (.int) false := ⟨RX12, TX12, 104, tyX12, rfl, by decide, tb5 207 (by decide +kernel) (by decide +kernel), wsin_12, tyX12_ok, nmX12, tyX12_ok 6 (by decide), rfl, rfl, rfl⟩
theorem fa_RX12_371 : FA RX12 371 12 36 (.int) false := ⟨RX12, TX12, 104, tyX12, rfl, by decide, tb5 237 (by decide +kernel) (by decide +kernel), wsin_12, tyX12_ok, nmX12, tyX12_ok 36 (by decide), rfl, rfl, rfl⟩
theorem fa_RX12_385 : FA RX12 385 12 37 (.int) false := ⟨RX12, TX12, 104, tyX12, rfl, by decide, tb5 238 (by decide +kernel) (by decide +kernel), wsin_12, tyX12_ok, nmX12, tyX12_ok 37 (by decide), rfl, rfl, rfl⟩
theorem fa_RX12_388 : FA RX12 388 12 38 (.int) false := ⟨RX12, TX12, 104, tyX12, rfl, by decide, tb5 239 (by decide +kernel) (by decide +kernel), wsin_12, tyX12_ok, nmX12, tyX12_ok 38 (by decide), rfl, rfl, rfl⟩
theorem fa_RX12_355 : FA RX12 355 12 39 (.int) false := ⟨RX12, TX12, 104, tyX12, rfl, by decide, tb6 0 (by decide +kernel) (by decide +kernel), wsin_12, tyX12_ok, nmX12, tyX12_ok 39 (by decide), rfl, rfl, rfl⟩
theorem fa_RX12_401 : FA RX12 401 12 40 (.int) false := ⟨RX12, TX12, 104, tyX12, rfl, by decide, tb6 1 (by decide +kernel) (by decide +kernel), wsin_12, tyX12_ok, nmX12, tyX12_ok 40 (by decide), rfl, rfl, rfl⟩
theorem fa_RX12_407 : FA RX12 407 12 41 (.int) false := ⟨RX12, TX12, 104, tyX12, rfl, by decide, tb6 2 (by decide +kernel) (by decide +kernel), wsin_12, tyX12_ok, nmX12, tyX12_ok 41 (by decide), rfl, rfl, rfl⟩
theorem fa_RX12_339 : FA RX12 339 12 20 (.int) false := ⟨RX12, TX12, 104, tyX12, rfl, by decide, tb5 221 (by decide +kernel) (by decide +kernel), wsin_12, tyX12_ok, nmX12, tyX12_ok 20 (by decide), rfl, rfl, rfl⟩
theorem fa_RX12_66 : FA RX12 66 12 31 (.array .int) true := ⟨RX12, TX12, 104, tyX12, rfl, by decide, tb5 232 (by decide +kernel) (by decide +kernel), wsin_12, tyX12_ok, nmX12, tyX12_ok 31 (by decide), rfl, rfl, rfl⟩
theorem fa_RX12_54 : FA RX12 54 12 27 (.array .int) true := ⟨RX12, TX12, 104, tyX12, rfl, by decide, tb5 228 (by decide +kernel) (by decide +kernel), wsin_12, tyX12_ok, nmX12, tyX12_ok 27 (by decide), rfl, rfl, rfl⟩
theorem fa_RX12_69 : FA RX12 69 12 32 (.array .int) true := ⟨RX12, TX12, 104, tyX12, rfl, by decide, tb5 233 (by decide +kernel) (by decide +kernel), wsin_12, tyX12_ok, nmX12, tyX12_ok 32 (by decide), rfl, rfl, rfl⟩
theorem fa_RX12_75 : FA RX12 75 12 34 (.array .int) true := ⟨RX12, TX12, 104, tyX12, rfl, by decide, tb5 235 (by decide +kernel) (by decide +kernel), wsin_12, tyX12_ok, nmX12, tyX12_ok 34 (by decide), rfl, rfl, rfl⟩
theorem fa_RX12_60 : FA RX12 60 12 29 (.array .int) true := ⟨RX12, TX12, 104, tyX12, rfl, by decide, tb5 230 (by decide +kernel) (by decide +kernel), wsin_12, tyX12_ok, nmX12, tyX12_ok 29 (by decide), rfl, rfl, rfl⟩
theorem fa_RX12_78 : FA RX12 78 12 35 (.array .int) true := ⟨RX12, TX12, 104, tyX12, rfl, by decide, tb5 236 (by decide +kernel) (by decide +kernel), wsin_12, tyX12_ok, nmX12, tyX12_ok 35 (by decide), rfl, rfl, rfl⟩
theorem fa_RX12_63 : FA RX12 63 12 30 (.array .int) true := ⟨RX12, TX12, 104, tyX12, rfl, by decide, tb5 231 (by decide +kernel) (by decide +kernel), wsin_12, tyX12_ok, nmX12, tyX12_ok 30 (by decide), rfl, rfl, rfl⟩
theorem fa_RX12_313 : FA RX12 313 12 19 (.int) false := ⟨RX12, TX12, 104, tyX12, rfl, by decide, tb5 220 (by decide +kernel) (by decide +kernel), wsin_12, tyX12_ok, nmX12, tyX12_ok 19 (by decide), rfl, rfl, rfl⟩
theorem fa_RX12_26 : FA RX12 26 12 13 (.array .int) true := ⟨RX12, TX12, 104, tyX12, rfl, by decide, tb5 214 (by decide +kernel) (by decide +kernel), wsin_12, tyX12_ok, nmX12, tyX12_ok 13 (by decide), rfl, rfl, rfl⟩
theorem fa_RX12_17 : FA RX12 17 12 10 (.array .int) true := ⟨RX12, TX12, 104, tyX12, rfl, by decide, tb5 211 (by decide +kernel) (by decide +kernel), wsin_12, tyX12_ok, nmX12, tyX12_ok 10 (by decide), rfl, rfl, rfl⟩
theorem fa_RX12_29 : FA RX12 29 12 14 (.array .int) true := ⟨RX12, TX12, 104, tyX12, rfl, by decide, tb5 215 (by decide +kernel) (by decide +kernel), wsin_12, tyX12_ok, nmX12, tyX12_ok 14 (by decide), rfl, rfl, rfl⟩
theorem fa_RX12_20 : FA RX12 20 12 11 (.array .int) true := ⟨RX12, TX12, 104, tyX12, rfl, by decide, tb5 212 (by decide +kernel) (by decide +kernel), wsin_12, tyX12_ok, nmX12, tyX12_ok 11 (by decide), rfl, rfl, rfl⟩
theorem fa_RX12_440 : FA RX12 440 12 45 (.int) false := ⟨RX12, TX12, 104, tyX12, rfl, by decide, tb6 6 (by decide +kernel) (by decide +kernel), wsin_12, tyX12_ok, nmX12, tyX12_ok 45 (by decide), rfl, rfl, rfl⟩
theorem fa_RX12_32 : FA RX12 32 12 15 (.array .int) true := ⟨RX12, TX12, 104, tyX12, rfl, by decide, tb5 216 (by decide +kernel) (by decide +kernel), wsin_12, tyX12_ok, nmX12, tyX12_ok 15 (by decide), rfl, rfl, rfl⟩
theorem fa_RX12_23 : FA RX12 23 12 12 (.array .int) true := ⟨RX12, TX12, 104, tyX12, rfl, by decide, tb5 213 (by decide +kernel) (by decide +kernel), wsin_12, tyX12_ok, nmX12, tyX12_ok 12 (by decide), rfl, rfl, rfl⟩
theorem fa_RX12_166 : FA RX12 166 12 95 (.array .boolean) true := ⟨RX12, TX12, 104, tyX12, rfl, by decide, tb6 56 (by decide +kernel) (by decide +kernel), wsin_12, tyX12_ok, nmX12, tyX12_ok 95 (by decide), rfl, rfl, rfl⟩
theorem fk_12_45 : fk 12 45 = 0 := by decide +kernel
theorem rf_120_95 : RF 120 95 = some 169 := by decide +kernel
theorem fk_12_95 : fk 12 95 = 2 := by decide +kernel
theorem ar_169 : AR 178 169 2 3 := ⟨by decide, by decide +kernel, by decide +kernel⟩
theorem fa_RX12_72 : FA RX12 72 12 33 (.array .int) true := ⟨RX12, TX12, 104, tyX12, rfl, by decide, tb5 234 (by decide +kernel) (by decide +kernel), wsin_12, tyX12_ok, nmX12, tyX12_ok 33 (by decide), rfl, rfl, rfl⟩
theorem fa_RX12_431 : FA RX12 431 12 42 (.int) false := ⟨RX12, TX12, 104, tyX12, rfl, by decide, tb6 3 (by decide +kernel) (by decide +kernel), wsin_12, tyX12_ok, nmX12, tyX12_ok 42 (by decide), rfl, rfl, rfl⟩
theorem fk_12_42 : fk 12 42 = 0 := by decide +kernel
theorem rf_120_33 : RF 120 33 = some 140 := by decide +kernel
theorem fk_12_33 : fk 12 33 = 2 := by decide +kernel
theorem ar_140 : AR 178 140 0 64 := ⟨by decide, by decide +kernel, by decide +kernel⟩
theorem rf_120_32 : RF 120 32 = some 139 := by decide +kernel
theorem fk_12_32 : fk 12 32 = 2 := by decide +kernel
theorem ar_139 : AR 178 139 0 64 := ⟨by decide, by decide +kernel, by decide +kernel⟩
theorem fa_RX12_81 : FA RX12 81 12 50 (.array .int) true := ⟨RX12, TX12, 104, tyX12, rfl, by decide, tb6 11 (by decide +kernel) (by decide +kernel), wsin_12, tyX12_ok, nmX12, tyX12_ok 50 (by decide), rfl, rfl, rfl⟩
theorem fa_RX12_84 : FA RX12 84 12 51 (.array .int) true := ⟨RX12, TX12, 104, tyX12, rfl, by decide, tb6 12 (by decide +kernel) (by decide +kernel), wsin_12, tyX12_ok, nmX12, tyX12_ok 51 (by decide), rfl, rfl, rfl⟩
theorem fa_RX12_87 : FA RX12 87 12 52 (.array .int) true := ⟨RX12, TX12, 104, tyX12, rfl, by decide, tb6 13 (by decide +kernel) (by decide +kernel), wsin_12, tyX12_ok, nmX12, tyX12_ok 52 (by decide), rfl, rfl, rfl⟩
theorem fa_RX12_99 : FA RX12 99 12 56 (.array .boolean) true := ⟨RX12, TX12, 104, tyX12, rfl, by decide, tb6 17 (by decide +kernel) (by decide +kernel), wsin_12, tyX12_ok, nmX12, tyX12_ok 56 (by decide), rfl, rfl, rfl⟩
theorem fa_RX12_90 : FA RX12 90 12 53 (.array .int) true := ⟨RX12, TX12, 104, tyX12, rfl, by decide, tb6 14 (by decide +kernel) (by decide +kernel), wsin_12, tyX12_ok, nmX12, tyX12_ok 53 (by decide), rfl, rfl, rfl⟩
theorem fa_RX12_93 : FA RX12 93 12 54 (.array .int) true := ⟨RX12, TX12, 104, tyX12, rfl, by decide, tb6 15 (by decide +kernel) (by decide +kernel), wsin_12, tyX12_ok, nmX12, tyX12_ok 54 (by decide), rfl, rfl, rfl⟩
theorem fa_RX12_96 : FA RX12 96 12 55 (.array .int) true := ⟨RX12, TX12, 104, tyX12, rfl, by decide, tb6 16 (by decide +kernel) (by decide +kernel), wsin_12, tyX12_ok, nmX12, tyX12_ok 55 (by decide), rfl, rfl, rfl⟩
theorem fa_RX12_464 : FA RX12 464 12 57 (.int) false := ⟨RX12, TX12, 104, tyX12, rfl, by decide, tb6 18 (by decide +kernel) (by decide +kernel), wsin_12, tyX12_ok, nmX12, tyX12_ok 57 (by decide), rfl, rfl, rfl⟩
theorem fk_12_57 : fk 12 57 = 0 := by decide +kernel
theorem fa_RX12_467 : FA RX12 467 12 59 (.int) false := ⟨RX12, TX12, 104, tyX12, rfl, by decide, tb6 20 (by decide +kernel) (by decide +kernel), wsin_12, tyX12_ok, nmX12, tyX12_ok 59 (by decide), rfl, rfl, rfl⟩
theorem fk_12_59 : fk 12 59 = 0 := by decide +kernel
theorem rf_120_54 : RF 120 54 = some 147 := by decide +kernel
theorem fk_12_54 : fk 12 54 = 2 := by decide +kernel
theorem rf_120_35 : RF 120 35 = some 142 := by decide +kernel
theorem fk_12_35 : fk 12 35 = 2 := by decide +kernel
theorem ar_142 : AR 178 142 0 24 := ⟨by decide, by decide +kernel, by decide +kernel⟩
theorem ar_147 : AR 178 147 0 6 := ⟨by decide, by decide +kernel, by decide +kernel⟩
theorem rf_120_55 : RF 120 55 = some 148 := by decide +kernel
theorem fk_12_55 : fk 12 55 = 2 := by decide +kernel
theorem ar_148 : AR 178 148 0 6 := ⟨by decide, by decide +kernel, by decide +kernel⟩
theorem rf_120_50 : RF 120 50 = some 143 := by decide +kernel
theorem fk_12_50 : fk 12 50 = 2 := by decide +kernel
theorem ar_143 : AR 178 143 0 10 := ⟨by decide, by decide +kernel, by decide +kernel⟩
theorem rf_120_51 : RF 120 51 = some 144 := by decide +kernel
theorem fk_12_51 : fk 12 51 = 2 := by decide +kernel
theorem ar_144 : AR 178 144 0 10 := ⟨by decide, by decide +kernel, by decide +kernel⟩
theorem rf_120_52 : RF 120 52 = some 145 := by decide +kernel
theorem fk_12_52 : fk 12 52 = 2 := by decide +kernel
theorem ar_145 : AR 178 145 0 10 := ⟨by decide, by decide +kernel, by decide +kernel⟩
theorem rf_120_56 : RF 120 56 = some 149 := by decide +kernel
theorem fk_12_56 : fk 12 56 = 2 := by decide +kernel
theorem ar_149 : AR 178 149 2 10 := ⟨by decide, by decide +kernel, by decide +kernel⟩
theorem rf_120_53 : RF 120 53 = some 146 := by decide +kernel
theorem fk_12_53 : fk 12 53 = 2 := by decide +kernel
theorem rf_120_34 : RF 120 34 = some 141 := by decide +kernel
theorem fk_12_34 : fk 12 34 = 2 := by decide +kernel
theorem ar_141 : AR 178 141 0 50 := ⟨by decide, by decide +kernel, by decide +kernel⟩
theorem ar_146 : AR 178 146 0 10 := ⟨by decide, by decide +kernel, by decide +kernel⟩
theorem fa_RX12_455 : FA RX12 455 12 93 (.int) false := ⟨RX12, TX12, 104, tyX12, rfl, by decide, tb6 54 (by decide +kernel) (by decide +kernel), wsin_12, tyX12_ok, nmX12, tyX12_ok 93 (by decide), rfl, rfl, rfl⟩
theorem fk_12_93 : fk 12 93 = 0 := by decide +kernel
theorem rf_120_15 : RF 120 15 = some 127 := by decide +kernel
theorem fk_12_15 : fk 12 15 = 2 := by decide +kernel
theorem rf_120_12 : RF 120 12 = some 124 := by decide +kernel
theorem fk_12_12 : fk 12 12 = 2 := by decide +kernel
theorem ar_124 : AR 178 124 0 7 := ⟨by decide, by decide +kernel, by decide +kernel⟩
theorem ar_127 : AR 178 127 0 7 := ⟨by decide, by decide +kernel, by decide +kernel⟩
theorem fk_12_19 : fk 12 19 = 0 := by decide +kernel
theorem rf_120_13 : RF 120 13 = some 125 := by decide +kernel
theorem fk_12_13 : fk 12 13 = 2 := by decide +kernel
theorem rf_120_10 : RF 120 10 = some 122 := by decide +kernel
theorem fk_12_10 : fk 12 10 = 2 := by decide +kernel
theorem ar_122 : AR 178 122 0 640 := ⟨by decide, by decide +kernel, by decide +kernel⟩
theorem ar_125 : AR 178 125 0 640 := ⟨by decide, by decide +kernel, by decide +kernel⟩
theorem rf_120_14 : RF 120 14 = some 126 := by decide +kernel
theorem fk_12_14 : fk 12 14 = 2 := by decide +kernel
theorem rf_120_11 : RF 120 11 = some 123 := by decide +kernel
theorem fk_12_11 : fk 12 11 = 2 := by decide +kernel
theorem ar_123 : AR 178 123 0 640 := ⟨by decide, by decide +kernel, by decide +kernel⟩
theorem ar_126 : AR 178 126 0 640 := ⟨by decide, by decide +kernel, by decide +kernel⟩
theorem rf_120_30 : RF 120 30 = some 137 := by decide +kernel
theorem fk_12_30 : fk 12 30 = 2 := by decide +kernel
theorem ar_137 : AR 178 137 0 24 := ⟨by decide, by decide +kernel, by decide +kernel⟩
theorem kb_50 : (Int8.ofInt 50).toInt32 = 50 := by decide +kernel
theorem rf_120_29 : RF 120 29 = some 136 := by decide +kernel
theorem fk_12_29 : fk 12 29 = 2 := by decide +kernel
theorem ar_136 : AR 178 136 0 50 := ⟨by decide, by decide +kernel, by decide +kernel⟩
theorem rf_120_28 : RF 120 28 = some 135 := by decide +kernel
theorem fk_12_28 : fk 12 28 = 2 := by decide +kernel
theorem ar_135 : AR 178 135 0 64 := ⟨by decide, by decide +kernel, by decide +kernel⟩
theorem rf_120_31 : RF 120 31 = some 138 := by decide +kernel
theorem fk_12_31 : fk 12 31 = 2 := by decide +kernel
theorem rf_120_27 : RF 120 27 = some 134 := by decide +kernel
theorem fk_12_27 : fk 12 27 = 2 := by decide +kernel
theorem ar_134 : AR 178 134 0 8 := ⟨by decide, by decide +kernel, by decide +kernel⟩
theorem ar_138 : AR 178 138 0 8 := ⟨by decide, by decide +kernel, by decide +kernel⟩
theorem fk_12_2 : fk 12 2 = 0 := by decide +kernel
theorem fk_12_36 : fk 12 36 = 0 := by decide +kernel
theorem fk_12_37 : fk 12 37 = 0 := by decide +kernel
theorem fa_RX12_434 : FA RX12 434 12 43 (.int) false := ⟨RX12, TX12, 104, tyX12, rfl, by decide, tb6 4 (by decide +kernel) (by decide +kernel), wsin_12, tyX12_ok, nmX12, tyX12_ok 43 (by decide), rfl, rfl, rfl⟩
theorem fk_12_43 : fk 12 43 = 0 := by decide +kernel
theorem fk_12_38 : fk 12 38 = 0 := by decide +kernel
theorem fa_RX12_437 : FA RX12 437 12 44 (.int) false := ⟨RX12, TX12, 104, tyX12, rfl, by decide, tb6 5 (by decide +kernel) (by decide +kernel), wsin_12, tyX12_ok, nmX12, tyX12_ok 44 (by decide), rfl, rfl, rfl⟩
theorem fk_12_44 : fk 12 44 = 0 := by decide +kernel
theorem fk_12_39 : fk 12 39 = 0 := by decide +kernel
theorem fk_12_40 : fk 12 40 = 0 := by decide +kernel
theorem fa_RX12_443 : FA RX12 443 12 46 (.int) false := ⟨RX12, TX12, 104, tyX12, rfl, by decide, tb6 7 (by decide +kernel) (by decide +kernel), wsin_12, tyX12_ok, nmX12, tyX12_ok 46 (by decide), rfl, rfl, rfl⟩
theorem fk_12_46 : fk 12 46 = 0 := by decide +kernel
theorem fk_12_41 : fk 12 41 = 0 := by decide +kernel
theorem fa_RX12_446 : FA RX12 446 12 47 (.int) false := ⟨RX12, TX12, 104, tyX12, rfl, by decide, tb6 8 (by decide +kernel) (by decide +kernel), wsin_12, tyX12_ok, nmX12, tyX12_ok 47 (by decide), rfl, rfl, rfl⟩
theorem fk_12_47 : fk 12 47 = 0 := by decide +kernel
theorem fk_12_20 : fk 12 20 = 0 := by decide +kernel
theorem fa_RX12_449 : FA RX12 449 12 21 (.int) false := ⟨RX12, TX12, 104, tyX12, rfl, by decide, tb5 222 (by decide +kernel) (by decide +kernel), wsin_12, tyX12_ok, nmX12, tyX12_ok 21 (by decide), rfl, rfl, rfl⟩
theorem fk_12_21 : fk 12 21 = 0 := by decide +kernel
theorem fk_12_6 : fk 12 6 = 0 := by decide +kernel
theorem fa_RX12_397 : FA RX12 397 12 48 (.boolean) false := ⟨RX12, TX12, 104, tyX12, rfl, by decide, tb6 9 (by decide +kernel) (by decide +kernel), wsin_12, tyX12_ok, nmX12, tyX12_ok 48 (by decide), rfl, rfl, rfl⟩
theorem fa_RX12_404 : FA RX12 404 12 49 (.boolean) false := ⟨RX12, TX12, 104, tyX12, rfl, by decide, tb6 10 (by decide +kernel) (by decide +kernel), wsin_12, tyX12_ok, nmX12, tyX12_ok 49 (by decide), rfl, rfl, rfl⟩
theorem fa_RX12_203 : FA RX12 203 12 4 (.int) false := ⟨RX12, TX12, 104, tyX12, rfl, by decide, tb5 205 (by decide +kernel) (by decide +kernel), wsin_12, tyX12_ok, nmX12, tyX12_ok 4 (by decide), rfl, rfl, rfl⟩
theorem fa_RX12_216 : FA RX12 216 12 9 (.long) false := ⟨RX12, TX12, 104, tyX12, rfl, by decide, tb5 210 (by decide +kernel) (by decide +kernel), wsin_12, tyX12_ok, nmX12, tyX12_ok 9 (by decide), rfl, rfl, rfl⟩
theorem fa_RX12_220 : FA RX12 220 12 8 (.int) false := ⟨RX12, TX12, 104, tyX12, rfl, by decide, tb5 209 (by decide +kernel) (by decide +kernel), wsin_12, tyX12_ok, nmX12, tyX12_ok 8 (by decide), rfl, rfl, rfl⟩
theorem fk_12_4 : fk 12 4 = 0 := by decide +kernel
theorem fa_RX12_206 : FA RX12 206 12 5 (.int) false := ⟨RX12, TX12, 104, tyX12, rfl, by decide, tb5 206 (by decide +kernel) (by decide +kernel), wsin_12, tyX12_ok, nmX12, tyX12_ok 5 (by decide), rfl, rfl, rfl⟩
theorem fk_12_5 : fk 12 5 = 0 := by decide +kernel
theorem fk_12_8 : fk 12 8 = 0 := by decide +kernel
theorem fk_12_9 : fk 12 9 = 1 := by decide +kernel
theorem fa_RX12_213 : FA RX12 213 12 7 (.int) false := ⟨RX12, TX12, 104, tyX12, rfl, by decide, tb5 208 (by decide +kernel) (by decide +kernel), wsin_12, tyX12_ok, nmX12, tyX12_ok 7 (by decide), rfl, rfl, rfl⟩
theorem fk_12_7 : fk 12 7 = 0 := by decide +kernel
theorem fa_RX12_13 : FA RX12 13 12 3 (.int) false := ⟨RX12, TX12, 104, tyX12, rfl, by decide, tb5 204 (by decide +kernel) (by decide +kernel), wsin_12, tyX12_ok, nmX12, tyX12_ok 3 (by decide), rfl, rfl, rfl⟩
theorem fk_12_3 : fk 12 3 = 0 := by decide +kernel
theorem ll_RX12_275 : Cond.constantLong RX12 275 (1818326117) ∈ tbg := tb7 105 (by decide +kernel) (by decide +kernel)
theorem fk_12_49 : fk 12 49 = 0 := by decide +kernel
theorem ll_RX12_269 : Cond.constantLong RX12 269 (7102839) ∈ tbg := tb7 102 (by decide +kernel) (by decide +kernel)
theorem fk_12_48 : fk 12 48 = 0 := by decide +kernel
theorem ll_RX12_263 : Cond.constantLong RX12 263 (439956431717) ∈ tbg := tb7 99 (by decide +kernel) (by decide +kernel)
theorem ll_RX12_273 : Cond.constantLong RX12 273 (7106420) ∈ tbg := tb7 104 (by decide +kernel) (by decide +kernel)
theorem ll_RX12_271 : Cond.constantLong RX12 271 (1852137842) ∈ tbg := tb7 103 (by decide +kernel) (by decide +kernel)
theorem ll_RX12_259 : Cond.constantLong RX12 259 (123581014175598) ∈ tbg := tb7 97 (by decide +kernel) (by decide +kernel)
theorem fa_RX12_51 : FA RX12 51 12 26 (.array .long) true := ⟨RX12, TX12, 104, tyX12, rfl, by decide, tb5 227 (by decide +kernel) (by decide +kernel), wsin_12, tyX12_ok, nmX12, tyX12_ok 26 (by decide), rfl, rfl, rfl⟩
theorem rf_120_26 : RF 120 26 = some 133 := by decide +kernel
theorem fk_12_26 : fk 12 26 = 2 := by decide +kernel
theorem ll_RX12_267 : Cond.constantLong RX12 267 (126943688025203) ∈ tbg := tb7 101 (by decide +kernel) (by decide +kernel)
theorem ll_RX12_277 : Cond.constantLong RX12 277 (1818584692) ∈ tbg := tb7 106 (by decide +kernel) (by decide +kernel)
theorem ll_RX12_279 : Cond.constantLong RX12 279 (6709618) ∈ tbg := tb7 107 (by decide +kernel) (by decide +kernel)
theorem ll_RX12_281 : Cond.constantLong RX12 281 (1835626085) ∈ tbg := tb7 108 (by decide +kernel) (by decide +kernel)
theorem ll_RX12_283 : Cond.constantLong RX12 283 (1751477348) ∈ tbg := tb7 109 (by decide +kernel) (by decide +kernel)
theorem ll_RX12_285 : Cond.constantLong RX12 285 (427121669988) ∈ tbg := tb7 110 (by decide +kernel) (by decide +kernel)
theorem ll_RX12_287 : Cond.constantLong RX12 287 (6578553) ∈ tbg := tb7 111 (by decide +kernel) (by decide +kernel)
theorem ll_RX12_289 : Cond.constantLong RX12 289 (6385252) ∈ tbg := tb7 112 (by decide +kernel) (by decide +kernel)
theorem ll_RX12_291 : Cond.constantLong RX12 291 (28530) ∈ tbg := tb7 113 (by decide +kernel) (by decide +kernel)
theorem ll_RX12_293 : Cond.constantLong RX12 293 (7237492) ∈ tbg := tb7 114 (by decide +kernel) (by decide +kernel)
theorem ll_RX12_239 : Cond.constantLong RX12 239 (482854658917) ∈ tbg := tb7 71 (by decide +kernel) (by decide +kernel)
theorem ll_RX12_241 : Cond.constantLong RX12 241 (1852796782) ∈ tbg := tb7 88 (by decide +kernel) (by decide +kernel)
theorem ll_RX12_243 : Cond.constantLong RX12 243 (1919902052) ∈ tbg := tb7 89 (by decide +kernel) (by decide +kernel)
theorem ll_RX12_245 : Cond.constantLong RX12 245 (30796695599342963) ∈ tbg := tb7 90 (by decide +kernel) (by decide +kernel)
theorem ll_RX12_247 : Cond.constantLong RX12 247 (499967946343) ∈ tbg := tb7 91 (by decide +kernel) (by decide +kernel)
theorem ll_RX12_249 : Cond.constantLong RX12 249 (24948) ∈ tbg := tb7 92 (by decide +kernel) (by decide +kernel)
theorem ll_RX12_251 : Cond.constantLong RX12 251 (512970880104) ∈ tbg := tb7 93 (by decide +kernel) (by decide +kernel)
theorem ll_RX12_253 : Cond.constantLong RX12 253 (2003132786) ∈ tbg := tb7 94 (by decide +kernel) (by decide +kernel)
theorem ll_RX12_255 : Cond.constantLong RX12 255 (448377484921) ∈ tbg := tb7 95 (by decide +kernel) (by decide +kernel)
theorem ll_RX12_257 : Cond.constantLong RX12 257 (1718579044) ∈ tbg := tb7 96 (by decide +kernel) (by decide +kernel)
theorem ll_RX12_261 : Cond.constantLong RX12 261 (427120748148) ∈ tbg := tb7 98 (by decide +kernel) (by decide +kernel)
theorem ll_RX12_265 : Cond.constantLong RX12 265 (1751216740) ∈ tbg := tb7 100 (by decide +kernel) (by decide +kernel)
theorem ar_133 : AR 178 133 1 6 := ⟨by decide, by decide +kernel, by decide +kernel⟩
theorem fa_RX12_44 : FA RX12 44 12 24 (.array .long) true := ⟨RX12, TX12, 104, tyX12, rfl, by decide, tb5 225 (by decide +kernel) (by decide +kernel), wsin_12, tyX12_ok, nmX12, tyX12_ok 24 (by decide), rfl, rfl, rfl⟩
theorem rf_120_24 : RF 120 24 = some 131 := by decide +kernel
theorem fk_12_24 : fk 12 24 = 2 := by decide +kernel
theorem ar_131 : AR 178 131 1 8 := ⟨by decide, by decide +kernel, by decide +kernel⟩
theorem fa_RX12_316 : FA RX12 316 12 22 (.int) false := ⟨RX12, TX12, 104, tyX12, rfl, by decide, tb5 223 (by decide +kernel) (by decide +kernel), wsin_12, tyX12_ok, nmX12, tyX12_ok 22 (by decide), rfl, rfl, rfl⟩
theorem fa_RX12_35 : FA RX12 35 12 16 (.array .int) true := ⟨RX12, TX12, 104, tyX12, rfl, by decide, tb5 217 (by decide +kernel) (by decide +kernel), wsin_12, tyX12_ok, nmX12, tyX12_ok 16 (by decide), rfl, rfl, rfl⟩
theorem fk_12_22 : fk 12 22 = 0 := by decide +kernel
theorem rf_120_16 : RF 120 16 = some 128 := by decide +kernel
theorem fk_12_16 : fk 12 16 = 2 := by decide +kernel
theorem ar_128 : AR 178 128 0 300 := ⟨by decide, by decide +kernel, by decide +kernel⟩
theorem fa_RX12_319 : FA RX12 319 12 23 (.int) false := ⟨RX12, TX12, 104, tyX12, rfl, by decide, tb5 224 (by decide +kernel) (by decide +kernel), wsin_12, tyX12_ok, nmX12, tyX12_ok 23 (by decide), rfl, rfl, rfl⟩
theorem fk_12_23 : fk 12 23 = 0 := by decide +kernel
theorem kb_21 : (Int8.ofInt 21).toInt32 = 21 := by decide +kernel
theorem fa_RX12_48 : FA RX12 48 12 25 (.array .long) true := ⟨RX12, TX12, 104, tyX12, rfl, by decide, tb5 226 (by decide +kernel) (by decide +kernel), wsin_12, tyX12_ok, nmX12, tyX12_ok 25 (by decide), rfl, rfl, rfl⟩
theorem rf_120_25 : RF 120 25 = some 132 := by decide +kernel
theorem fk_12_25 : fk 12 25 = 2 := by decide +kernel
theorem ar_132 : AR 178 132 1 10 := ⟨by decide, by decide +kernel, by decide +kernel⟩
theorem fa_RX12_479 : FA RX12 479 12 70 (.boolean) false := ⟨RX12, TX12, 104, tyX12, rfl, by decide, tb6 31 (by decide +kernel) (by decide +kernel), wsin_12, tyX12_ok, nmX12, tyX12_ok 70 (by decide), rfl, rfl, rfl⟩
theorem fa_RX12_106 : FA RX12 106 12 60 (.array .int) true := ⟨RX12, TX12, 104, tyX12, rfl, by decide, tb6 21 (by decide +kernel) (by decide +kernel), wsin_12, tyX12_ok, nmX12, tyX12_ok 60 (by decide), rfl, rfl, rfl⟩
theorem fk_12_70 : fk 12 70 = 0 := by decide +kernel
theorem rf_120_60 : RF 120 60 = some 150 := by decide +kernel
theorem fk_12_60 : fk 12 60 = 2 := by decide +kernel
theorem ar_150 : AR 178 150 0 610 := ⟨by decide, by decide +kernel, by decide +kernel⟩
theorem fa_RX12_139 : FA RX12 139 12 76 (.int) false := ⟨RX12, TX12, 104, tyX12, rfl, by decide, tb6 37 (by decide +kernel) (by decide +kernel), wsin_12, tyX12_ok, nmX12, tyX12_ok 76 (by decide), rfl, rfl, rfl⟩
theorem fa_RX12_133 : FA RX12 133 12 73 (.array .int) true := ⟨RX12, TX12, 104, tyX12, rfl, by decide, tb6 34 (by decide +kernel) (by decide +kernel), wsin_12, tyX12_ok, nmX12, tyX12_ok 73 (by decide), rfl, rfl, rfl⟩
theorem rf_120_73 : RF 120 73 = some 159 := by decide +kernel
theorem fk_12_73 : fk 12 73 = 2 := by decide +kernel
theorem ar_159 : AR 178 159 0 6 := ⟨by decide, by decide +kernel, by decide +kernel⟩
theorem fa_RX12_136 : FA RX12 136 12 74 (.array .int) true := ⟨RX12, TX12, 104, tyX12, rfl, by decide, tb6 35 (by decide +kernel) (by decide +kernel), wsin_12, tyX12_ok, nmX12, tyX12_ok 74 (by decide), rfl, rfl, rfl⟩
theorem ar_160 : AR 178 160 0 6 := ⟨by decide, by decide +kernel, by decide +kernel⟩
theorem fa_RX12_41 : FA RX12 41 12 18 (.array .int) true := ⟨RX12, TX12, 104, tyX12, rfl, by decide, tb5 219 (by decide +kernel) (by decide +kernel), wsin_12, tyX12_ok, nmX12, tyX12_ok 18 (by decide), rfl, rfl, rfl⟩
theorem fa_RX12_127 : FA RX12 127 12 71 (.array .int) true := ⟨RX12, TX12, 104, tyX12, rfl, by decide, tb6 32 (by decide +kernel) (by decide +kernel), wsin_12, tyX12_ok, nmX12, tyX12_ok 71 (by decide), rfl, rfl, rfl⟩
theorem fa_RX12_130 : FA RX12 130 12 72 (.array .int) true := ⟨RX12, TX12, 104, tyX12, rfl, by decide, tb6 33 (by decide +kernel) (by decide +kernel), wsin_12, tyX12_ok, nmX12, tyX12_ok 72 (by decide), rfl, rfl, rfl⟩
theorem fa_RX12_496 : FA RX12 496 12 75 (.int) false := ⟨RX12, TX12, 104, tyX12, rfl, by decide, tb6 36 (by decide +kernel) (by decide +kernel), wsin_12, tyX12_ok, nmX12, tyX12_ok 75 (by decide), rfl, rfl, rfl⟩
theorem fa_RX12_38 : FA RX12 38 12 17 (.array .int) true := ⟨RX12, TX12, 104, tyX12, rfl, by decide, tb5 218 (by decide +kernel) (by decide +kernel), wsin_12, tyX12_ok, nmX12, tyX12_ok 17 (by decide), rfl, rfl, rfl⟩
theorem ar_129 : AR 178 129 0 90 := ⟨by decide, by decide +kernel, by decide +kernel⟩
theorem rf_120_17 : RF 120 17 = some 129 := by decide +kernel
theorem fk_12_17 : fk 12 17 = 2 := by decide +kernel
theorem rf_120_18 : RF 120 18 = some 130 := by decide +kernel
theorem fk_12_18 : fk 12 18 = 2 := by decide +kernel
theorem ar_130 : AR 178 130 0 12 := ⟨by decide, by decide +kernel, by decide +kernel⟩
theorem rf_120_72 : RF 120 72 = some 158 := by decide +kernel
theorem fk_12_72 : fk 12 72 = 2 := by decide +kernel
theorem ar_158 : AR 178 158 0 10 := ⟨by decide, by decide +kernel, by decide +kernel⟩
theorem fk_12_75 : fk 12 75 = 0 := by decide +kernel
theorem rf_120_71 : RF 120 71 = some 157 := by decide +kernel
theorem fk_12_71 : fk 12 71 = 2 := by decide +kernel
theorem ar_157 : AR 178 157 0 10 := ⟨by decide, by decide +kernel, by decide +kernel⟩
theorem rf_120_74 : RF 120 74 = some 160 := by decide +kernel
theorem fk_12_74 : fk 12 74 = 2 := by decide +kernel
theorem fa_RX12_103 : FA RX12 103 12 58 (.int) false := ⟨RX12, TX12, 104, tyX12, rfl, by decide, tb6 19 (by decide +kernel) (by decide +kernel), wsin_12, tyX12_ok, nmX12, tyX12_ok 58 (by decide), rfl, rfl, rfl⟩
theorem fk_12_58 : fk 12 58 = 0 := by decide +kernel
theorem lc_RX12_482 : Cond.constant RX12 482 (1103515245) ∈ tbg := tb8 24 (by decide +kernel) (by decide +kernel)
theorem fk_12_76 : fk 12 76 = 0 := by decide +kernel
theorem fa_RX12_536 : FA RX12 536 12 77 (.int) false := ⟨RX12, TX12, 104, tyX12, rfl, by decide, tb6 38 (by decide +kernel) (by decide +kernel), wsin_12, tyX12_ok, nmX12, tyX12_ok 77 (by decide), rfl, rfl, rfl⟩
theorem fk_12_77 : fk 12 77 = 0 := by decide +kernel
theorem lc_RX12_574 : Cond.constant RX12 574 (-1000000) ∈ tbg := tb8 118 (by decide +kernel) (by decide +kernel)
theorem fa_RX12_578 : FA RX12 578 12 80 (.boolean) false := ⟨RX12, TX12, 104, tyX12, rfl, by decide, tb6 41 (by decide +kernel) (by decide +kernel), wsin_12, tyX12_ok, nmX12, tyX12_ok 80 (by decide), rfl, rfl, rfl⟩
theorem fa_RX12_584 : FA RX12 584 12 79 (.int) false := ⟨RX12, TX12, 104, tyX12, rfl, by decide, tb6 40 (by decide +kernel) (by decide +kernel), wsin_12, tyX12_ok, nmX12, tyX12_ok 79 (by decide), rfl, rfl, rfl⟩
theorem fk_12_79 : fk 12 79 = 0 := by decide +kernel
theorem fa_RX12_109 : FA RX12 109 12 61 (.array .int) true := ⟨RX12, TX12, 104, tyX12, rfl, by decide, tb6 22 (by decide +kernel) (by decide +kernel), wsin_12, tyX12_ok, nmX12, tyX12_ok 61 (by decide), rfl, rfl, rfl⟩
theorem fa_RX12_112 : FA RX12 112 12 62 (.array .int) true := ⟨RX12, TX12, 104, tyX12, rfl, by decide, tb6 23 (by decide +kernel) (by decide +kernel), wsin_12, tyX12_ok, nmX12, tyX12_ok 62 (by decide), rfl, rfl, rfl⟩
theorem fa_RX12_115 : FA RX12 115 12 63 (.array .int) true := ⟨RX12, TX12, 104, tyX12, rfl, by decide, tb6 24 (by decide +kernel) (by decide +kernel), wsin_12, tyX12_ok, nmX12, tyX12_ok 63 (by decide), rfl, rfl, rfl⟩
theorem fa_RX12_124 : FA RX12 124 12 66 (.array .boolean) true := ⟨RX12, TX12, 104, tyX12, rfl, by decide, tb6 27 (by decide +kernel) (by decide +kernel), wsin_12, tyX12_ok, nmX12, tyX12_ok 66 (by decide), rfl, rfl, rfl⟩
theorem fa_RX12_118 : FA RX12 118 12 64 (.array .int) true := ⟨RX12, TX12, 104, tyX12, rfl, by decide, tb6 25 (by decide +kernel) (by decide +kernel), wsin_12, tyX12_ok, nmX12, tyX12_ok 64 (by decide), rfl, rfl, rfl⟩
theorem fa_RX12_121 : FA RX12 121 12 65 (.array .int) true := ⟨RX12, TX12, 104, tyX12, rfl, by decide, tb6 26 (by decide +kernel) (by decide +kernel), wsin_12, tyX12_ok, nmX12, tyX12_ok 65 (by decide), rfl, rfl, rfl⟩
theorem fa_RX12_470 : FA RX12 470 12 67 (.int) false := ⟨RX12, TX12, 104, tyX12, rfl, by decide, tb6 28 (by decide +kernel) (by decide +kernel), wsin_12, tyX12_ok, nmX12, tyX12_ok 67 (by decide), rfl, rfl, rfl⟩
theorem fa_RX12_473 : FA RX12 473 12 68 (.int) false := ⟨RX12, TX12, 104, tyX12, rfl, by decide, tb6 29 (by decide +kernel) (by decide +kernel), wsin_12, tyX12_ok, nmX12, tyX12_ok 68 (by decide), rfl, rfl, rfl⟩
theorem fa_RX12_476 : FA RX12 476 12 69 (.int) false := ⟨RX12, TX12, 104, tyX12, rfl, by decide, tb6 30 (by decide +kernel) (by decide +kernel), wsin_12, tyX12_ok, nmX12, tyX12_ok 69 (by decide), rfl, rfl, rfl⟩
theorem fk_12_67 : fk 12 67 = 0 := by decide +kernel
theorem fk_12_68 : fk 12 68 = 0 := by decide +kernel
theorem fk_12_69 : fk 12 69 = 0 := by decide +kernel
theorem rf_120_64 : RF 120 64 = some 154 := by decide +kernel
theorem fk_12_64 : fk 12 64 = 2 := by decide +kernel
theorem ar_154 : AR 178 154 0 6 := ⟨by decide, by decide +kernel, by decide +kernel⟩
theorem rf_120_65 : RF 120 65 = some 155 := by decide +kernel
theorem fk_12_65 : fk 12 65 = 2 := by decide +kernel
theorem ar_155 : AR 178 155 0 6 := ⟨by decide, by decide +kernel, by decide +kernel⟩
theorem rf_120_61 : RF 120 61 = some 151 := by decide +kernel
theorem fk_12_61 : fk 12 61 = 2 := by decide +kernel
theorem ar_151 : AR 178 151 0 10 := ⟨by decide, by decide +kernel, by decide +kernel⟩
theorem rf_120_62 : RF 120 62 = some 152 := by decide +kernel
theorem fk_12_62 : fk 12 62 = 2 := by decide +kernel
theorem ar_152 : AR 178 152 0 10 := ⟨by decide, by decide +kernel, by decide +kernel⟩
theorem rf_120_63 : RF 120 63 = some 153 := by decide +kernel
theorem fk_12_63 : fk 12 63 = 2 := by decide +kernel
theorem ar_153 : AR 178 153 0 10 := ⟨by decide, by decide +kernel, by decide +kernel⟩
theorem rf_120_66 : RF 120 66 = some 156 := by decide +kernel
theorem fk_12_66 : fk 12 66 = 2 := by decide +kernel
theorem ar_156 : AR 178 156 2 10 := ⟨by decide, by decide +kernel, by decide +kernel⟩
theorem fk_12_80 : fk 12 80 = 0 := by decide +kernel
theorem fa_RX12_581 : FA RX12 581 12 78 (.int) false := ⟨RX12, TX12, 104, tyX12, rfl, by decide, tb6 39 (by decide +kernel) (by decide +kernel), wsin_12, tyX12_ok, nmX12, tyX12_ok 78 (by decide), rfl, rfl, rfl⟩
theorem fk_12_78 : fk 12 78 = 0 := by decide +kernel
theorem ll_RX12_599 : Cond.constantLong RX12 599 (6000) ∈ tbg := tb8 143 (by decide +kernel) (by decide +kernel)
theorem ks_6000 : (Int16.ofInt 6000).toInt32 = 6000 := by decide +kernel
theorem fa_RX12_615 : FA RX12 615 12 81 (.int) false := ⟨RX12, TX12, 104, tyX12, rfl, by decide, tb6 42 (by decide +kernel) (by decide +kernel), wsin_12, tyX12_ok, nmX12, tyX12_ok 81 (by decide), rfl, rfl, rfl⟩
theorem fa_RX12_618 : FA RX12 618 12 82 (.int) false := ⟨RX12, TX12, 104, tyX12, rfl, by decide, tb6 43 (by decide +kernel) (by decide +kernel), wsin_12, tyX12_ok, nmX12, tyX12_ok 82 (by decide), rfl, rfl, rfl⟩
theorem fa_RX12_621 : FA RX12 621 12 83 (.int) false := ⟨RX12, TX12, 104, tyX12, rfl, by decide, tb6 44 (by decide +kernel) (by decide +kernel), wsin_12, tyX12_ok, nmX12, tyX12_ok 83 (by decide), rfl, rfl, rfl⟩
theorem fk_12_83 : fk 12 83 = 0 := by decide +kernel
theorem fk_12_82 : fk 12 82 = 0 := by decide +kernel
theorem fk_12_81 : fk 12 81 = 0 := by decide +kernel
theorem fa_RX12_145 : FA RX12 145 12 85 (.array .long) true := ⟨RX12, TX12, 104, tyX12, rfl, by decide, tb6 46 (by decide +kernel) (by decide +kernel), wsin_12, tyX12_ok, nmX12, tyX12_ok 85 (by decide), rfl, rfl, rfl⟩
theorem fa_RX12_142 : FA RX12 142 12 84 (.array .long) true := ⟨RX12, TX12, 104, tyX12, rfl, by decide, tb6 45 (by decide +kernel) (by decide +kernel), wsin_12, tyX12_ok, nmX12, tyX12_ok 84 (by decide), rfl, rfl, rfl⟩
theorem fa_RX12_655 : FA RX12 655 12 86 (.int) false := ⟨RX12, TX12, 104, tyX12, rfl, by decide, tb6 47 (by decide +kernel) (by decide +kernel), wsin_12, tyX12_ok, nmX12, tyX12_ok 86 (by decide), rfl, rfl, rfl⟩
theorem rf_120_85 : RF 120 85 = some 162 := by decide +kernel
theorem fk_12_85 : fk 12 85 = 2 := by decide +kernel
theorem rf_120_84 : RF 120 84 = some 161 := by decide +kernel
theorem fk_12_84 : fk 12 84 = 2 := by decide +kernel
theorem ar_161 : AR 178 161 1 101 := ⟨by decide, by decide +kernel, by decide +kernel⟩
theorem ar_162 : AR 178 162 1 101 := ⟨by decide, by decide +kernel, by decide +kernel⟩
theorem ll_RX12_647 : Cond.constantLong RX12 647 (100) ∈ tbg := tb8 220 (by decide +kernel) (by decide +kernel)
theorem ll_RX12_645 : Cond.constantLong RX12 645 (10) ∈ tbg := tb8 219 (by decide +kernel) (by decide +kernel)
theorem fk_12_86 : fk 12 86 = 0 := by decide +kernel
theorem ll_RX12_649 : Cond.constantLong RX12 649 (-1) ∈ tbg := tb8 214 (by decide +kernel) (by decide +kernel)
theorem fa_RX12_148 : FA RX12 148 12 87 (.array .int) true := ⟨RX12, TX12, 104, tyX12, rfl, by decide, tb6 48 (by decide +kernel) (by decide +kernel), wsin_12, tyX12_ok, nmX12, tyX12_ok 87 (by decide), rfl, rfl, rfl⟩
theorem rf_120_87 : RF 120 87 = some 163 := by decide +kernel
theorem fk_12_87 : fk 12 87 = 2 := by decide +kernel
theorem ar_163 : AR 178 163 0 8 := ⟨by decide, by decide +kernel, by decide +kernel⟩
theorem fa_RX12_151 : FA RX12 151 12 88 (.array .int) true := ⟨RX12, TX12, 104, tyX12, rfl, by decide, tb6 49 (by decide +kernel) (by decide +kernel), wsin_12, tyX12_ok, nmX12, tyX12_ok 88 (by decide), rfl, rfl, rfl⟩
theorem fa_RX12_154 : FA RX12 154 12 89 (.array .int) true := ⟨RX12, TX12, 104, tyX12, rfl, by decide, tb6 50 (by decide +kernel) (by decide +kernel), wsin_12, tyX12_ok, nmX12, tyX12_ok 89 (by decide), rfl, rfl, rfl⟩
theorem fa_RX12_157 : FA RX12 157 12 90 (.array .int) true := ⟨RX12, TX12, 104, tyX12, rfl, by decide, tb6 51 (by decide +kernel) (by decide +kernel), wsin_12, tyX12_ok, nmX12, tyX12_ok 90 (by decide), rfl, rfl, rfl⟩
theorem fa_RX12_160 : FA RX12 160 12 91 (.array .int) true := ⟨RX12, TX12, 104, tyX12, rfl, by decide, tb6 52 (by decide +kernel) (by decide +kernel), wsin_12, tyX12_ok, nmX12, tyX12_ok 91 (by decide), rfl, rfl, rfl⟩
theorem fa_RX12_665 : FA RX12 665 12 94 (.int) false := ⟨RX12, TX12, 104, tyX12, rfl, by decide, tb6 55 (by decide +kernel) (by decide +kernel), wsin_12, tyX12_ok, nmX12, tyX12_ok 94 (by decide), rfl, rfl, rfl⟩
theorem fa_RX12_163 : FA RX12 163 12 92 (.array .int) true := ⟨RX12, TX12, 104, tyX12, rfl, by decide, tb6 53 (by decide +kernel) (by decide +kernel), wsin_12, tyX12_ok, nmX12, tyX12_ok 92 (by decide), rfl, rfl, rfl⟩
theorem rf_120_88 : RF 120 88 = some 164 := by decide +kernel
theorem fk_12_88 : fk 12 88 = 2 := by decide +kernel
theorem ar_164 : AR 178 164 0 40 := ⟨by decide, by decide +kernel, by decide +kernel⟩
theorem rf_120_89 : RF 120 89 = some 165 := by decide +kernel
theorem fk_12_89 : fk 12 89 = 2 := by decide +kernel
theorem ar_165 : AR 178 165 0 40 := ⟨by decide, by decide +kernel, by decide +kernel⟩
theorem rf_120_90 : RF 120 90 = some 166 := by decide +kernel
theorem fk_12_90 : fk 12 90 = 2 := by decide +kernel
theorem ar_166 : AR 178 166 0 40 := ⟨by decide, by decide +kernel, by decide +kernel⟩
theorem rf_120_91 : RF 120 91 = some 167 := by decide +kernel
theorem fk_12_91 : fk 12 91 = 2 := by decide +kernel
theorem fk_12_94 : fk 12 94 = 0 := by decide +kernel
theorem ar_167 : AR 178 167 0 40 := ⟨by decide, by decide +kernel, by decide +kernel⟩
theorem rf_120_92 : RF 120 92 = some 168 := by decide +kernel
theorem fk_12_92 : fk 12 92 = 2 := by decide +kernel
theorem ar_168 : AR 178 168 0 40 := ⟨by decide, by decide +kernel, by decide +kernel⟩
theorem lc_RX12_668 : Cond.constant RX12 668 (100000) ∈ tbg := tb9 9 (by decide +kernel) (by decide +kernel)
theorem fa_RX12_172 : FA RX12 172 12 97 (.array .int) true := ⟨RX12, TX12, 104, tyX12, rfl, by decide, tb6 58 (by decide +kernel) (by decide +kernel), wsin_12, tyX12_ok, nmX12, tyX12_ok 97 (by decide), rfl, rfl, rfl⟩
theorem fa_RX12_169 : FA RX12 169 12 96 (.array .boolean) true := ⟨RX12, TX12, 104, tyX12, rfl, by decide, tb6 57 (by decide +kernel) (by decide +kernel), wsin_12, tyX12_ok, nmX12, tyX12_ok 96 (by decide), rfl, rfl, rfl⟩
theorem fa_RX12_175 : FA RX12 175 12 98 (.array .int) true := ⟨RX12, TX12, 104, tyX12, rfl, by decide, tb6 59 (by decide +kernel) (by decide +kernel), wsin_12, tyX12_ok, nmX12, tyX12_ok 98 (by decide), rfl, rfl, rfl⟩
theorem fa_RX12_178 : FA RX12 178 12 99 (.array .int) true := ⟨RX12, TX12, 104, tyX12, rfl, by decide, tb6 60 (by decide +kernel) (by decide +kernel), wsin_12, tyX12_ok, nmX12, tyX12_ok 99 (by decide), rfl, rfl, rfl⟩
theorem fa_RX12_181 : FA RX12 181 12 100 (.array .int) true := ⟨RX12, TX12, 104, tyX12, rfl, by decide, tb6 61 (by decide +kernel) (by decide +kernel), wsin_12, tyX12_ok, nmX12, tyX12_ok 100 (by decide), rfl, rfl, rfl⟩
theorem fa_RX12_184 : FA RX12 184 12 101 (.array .int) true := ⟨RX12, TX12, 104, tyX12, rfl, by decide, tb6 62 (by decide +kernel) (by decide +kernel), wsin_12, tyX12_ok, nmX12, tyX12_ok 101 (by decide), rfl, rfl, rfl⟩
theorem fa_RX12_187 : FA RX12 187 12 102 (.array .int) true := ⟨RX12, TX12, 104, tyX12, rfl, by decide, tb6 63 (by decide +kernel) (by decide +kernel), wsin_12, tyX12_ok, nmX12, tyX12_ok 102 (by decide), rfl, rfl, rfl⟩
theorem fa_RX12_190 : FA RX12 190 12 103 (.array .int) true := ⟨RX12, TX12, 104, tyX12, rfl, by decide, tb6 64 (by decide +kernel) (by decide +kernel), wsin_12, tyX12_ok, nmX12, tyX12_ok 103 (by decide), rfl, rfl, rfl⟩
theorem ks_610 : (Int16.ofInt 610).toInt32 = 610 := by decide +kernel
theorem rf_120_101 : RF 120 101 = some 175 := by decide +kernel
theorem fk_12_101 : fk 12 101 = 2 := by decide +kernel
theorem ar_175 : AR 178 175 0 3 := ⟨by decide, by decide +kernel, by decide +kernel⟩
theorem rf_120_102 : RF 120 102 = some 176 := by decide +kernel
theorem fk_12_102 : fk 12 102 = 2 := by decide +kernel
theorem ar_176 : AR 178 176 0 3 := ⟨by decide, by decide +kernel, by decide +kernel⟩
theorem rf_120_103 : RF 120 103 = some 177 := by decide +kernel
theorem fk_12_103 : fk 12 103 = 2 := by decide +kernel
theorem ar_177 : AR 178 177 0 3 := ⟨by decide, by decide +kernel, by decide +kernel⟩
theorem rf_120_100 : RF 120 100 = some 174 := by decide +kernel
theorem fk_12_100 : fk 12 100 = 2 := by decide +kernel
theorem ar_174 : AR 178 174 0 1830 := ⟨by decide, by decide +kernel, by decide +kernel⟩
theorem rf_120_98 : RF 120 98 = some 172 := by decide +kernel
theorem fk_12_98 : fk 12 98 = 2 := by decide +kernel
theorem ar_172 : AR 178 172 0 18 := ⟨by decide, by decide +kernel, by decide +kernel⟩
theorem rf_120_99 : RF 120 99 = some 173 := by decide +kernel
theorem fk_12_99 : fk 12 99 = 2 := by decide +kernel
theorem ar_173 : AR 178 173 0 18 := ⟨by decide, by decide +kernel, by decide +kernel⟩
theorem rf_120_97 : RF 120 97 = some 171 := by decide +kernel
theorem fk_12_97 : fk 12 97 = 2 := by decide +kernel
theorem ar_171 : AR 178 171 0 120 := ⟨by decide, by decide +kernel, by decide +kernel⟩
theorem rf_120_96 : RF 120 96 = some 170 := by decide +kernel
theorem fk_12_96 : fk 12 96 = 2 := by decide +kernel
theorem ar_170 : AR 178 170 2 30 := ⟨by decide, by decide +kernel, by decide +kernel⟩
theorem cv_RX11_88_X7_add : CV RX11 88 MX7_add 1 := ⟨tb3 96 (by decide +kernel) (by decide +kernel), tb3 97 (by decide +kernel) (by decide +kernel), tb3 98 (by decide +kernel) (by decide +kernel), tb1 2 (by decide +kernel) (by decide +kernel), tb3 99 (by decide +kernel) (by decide +kernel), ⟨by decide, by decide, by decide +kernel⟩⟩
theorem cv_RX1_45_X1_turnOf_27 : CV RX1 45 MX1_turnOf_27 1 := ⟨tb4 31 (by decide +kernel) (by decide +kernel), tb4 33 (by decide +kernel) (by decide +kernel), tbs2 9 (by decide +kernel), tb1 4 (by decide +kernel) (by decide +kernel), tb4 34 (by decide +kernel) (by decide +kernel), ⟨by decide, by decide, by decide +kernel⟩⟩
theorem cv_RX1_41_X1_minutes_27 : CV RX1 41 MX1_minutes_27 2 := ⟨tb4 27 (by decide +kernel) (by decide +kernel), tb4 28 (by decide +kernel) (by decide +kernel), tb4 29 (by decide +kernel) (by decide +kernel), tb1 4 (by decide +kernel) (by decide +kernel), tb4 30 (by decide +kernel) (by decide +kernel), ⟨by decide, by decide, by decide +kernel⟩⟩
theorem cv_RX3_67_X1_measure_27 : CV RX3 67 MX1_measure_27 0 := ⟨tb4 23 (by decide +kernel) (by decide +kernel), tb4 24 (by decide +kernel) (by decide +kernel), tb4 25 (by decide +kernel) (by decide +kernel), tb1 4 (by decide +kernel) (by decide +kernel), tb4 26 (by decide +kernel) (by decide +kernel), ⟨by decide, by decide, by decide +kernel⟩⟩
theorem cv_RX8_48_X7_byteAt : CV RX8 48 MX7_byteAt 1 := ⟨tb3 136 (by decide +kernel) (by decide +kernel), tb3 137 (by decide +kernel) (by decide +kernel), tb3 138 (by decide +kernel) (by decide +kernel), tb1 2 (by decide +kernel) (by decide +kernel), tb3 139 (by decide +kernel) (by decide +kernel), ⟨by decide, by decide, by decide +kernel⟩⟩
theorem cv_RX8_66_X8_isSignByte : CS RX8 66 MX8_isSignByte 1 := ⟨tb3 151 (by decide +kernel) (by decide +kernel), tb3 152 (by decide +kernel) (by decide +kernel), tb1 7 (by decide +kernel) (by decide +kernel), tb3 153 (by decide +kernel) (by decide +kernel), ⟨by decide, by decide, by decide +kernel⟩⟩
theorem cv_RX8_27_X8_isLetter : CS RX8 27 MX8_isLetter 1 := ⟨tb2 36 (by decide +kernel) (by decide +kernel), tb2 37 (by decide +kernel) (by decide +kernel), tb1 7 (by decide +kernel) (by decide +kernel), tb2 38 (by decide +kernel) (by decide +kernel), ⟨by decide, by decide, by decide +kernel⟩⟩
theorem cv_RX8_60_X8_isDigit : CS RX8 60 MX8_isDigit 1 := ⟨tb3 144 (by decide +kernel) (by decide +kernel), tb3 145 (by decide +kernel) (by decide +kernel), tb1 7 (by decide +kernel) (by decide +kernel), tb3 146 (by decide +kernel) (by decide +kernel), ⟨by decide, by decide, by decide +kernel⟩⟩
theorem cv_RX8_63_X8_readNumber : CV RX8 63 MX8_readNumber 0 := ⟨tb3 147 (by decide +kernel) (by decide +kernel), tb3 149 (by decide +kernel) (by decide +kernel), tbs1 2 (by decide +kernel), tb1 7 (by decide +kernel) (by decide +kernel), tb3 150 (by decide +kernel) (by decide +kernel), ⟨by decide, by decide, by decide +kernel⟩⟩
theorem cv_RX8_31_X8_withLetter : CS RX8 31 MX8_withLetter 2 := ⟨tb2 39 (by decide +kernel) (by decide +kernel), tb2 40 (by decide +kernel) (by decide +kernel), tb1 7 (by decide +kernel) (by decide +kernel), tb2 41 (by decide +kernel) (by decide +kernel), ⟨by decide, by decide, by decide +kernel⟩⟩
theorem cv_RX8_57_X8_readWord : CV RX8 57 MX8_readWord 0 := ⟨tb3 140 (by decide +kernel) (by decide +kernel), tb3 142 (by decide +kernel) (by decide +kernel), tbs1 1 (by decide +kernel), tb1 7 (by decide +kernel) (by decide +kernel), tb3 143 (by decide +kernel) (by decide +kernel), ⟨by decide, by decide, by decide +kernel⟩⟩
theorem cv_RX8_42_X8_skipBlanks : CV RX8 42 MX8_skipBlanks 0 := ⟨tb3 132 (by decide +kernel) (by decide +kernel), tb3 134 (by decide +kernel) (by decide +kernel), tbs1 0 (by decide +kernel), tb1 7 (by decide +kernel) (by decide +kernel), tb3 135 (by decide +kernel) (by decide +kernel), ⟨by decide, by decide, by decide +kernel⟩⟩
theorem cv_RX3_103_X8_step : CV RX3 103 MX8_step 0 := ⟨tb3 166 (by decide +kernel) (by decide +kernel), tb3 129 (by decide +kernel) (by decide +kernel), tb3 130 (by decide +kernel) (by decide +kernel), tb1 7 (by decide +kernel) (by decide +kernel), tb3 131 (by decide +kernel) (by decide +kernel), ⟨by decide, by decide, by decide +kernel⟩⟩
theorem cv_RX3_75_X3_refuse : CV RX3 75 MX3_refuse 1 := ⟨tb3 158 (by decide +kernel) (by decide +kernel), tb3 160 (by decide +kernel) (by decide +kernel), tbs1 4 (by decide +kernel), tb1 6 (by decide +kernel) (by decide +kernel), tb3 161 (by decide +kernel) (by decide +kernel), ⟨by decide, by decide, by decide +kernel⟩⟩
theorem cv_RX3_165_X8_isWord : CV RX3 165 MX8_isWord 1 := ⟨tb3 175 (by decide +kernel) (by decide +kernel), tb3 176 (by decide +kernel) (by decide +kernel), tb3 177 (by decide +kernel) (by decide +kernel), tb1 7 (by decide +kernel) (by decide +kernel), tb3 178 (by decide +kernel) (by decide +kernel), ⟨by decide, by decide, by decide +kernel⟩⟩
theorem cv_RX3_209_X8_isSign : CV RX3 209 MX8_isSign 1 := ⟨tb3 183 (by decide +kernel) (by decide +kernel), tb3 184 (by decide +kernel) (by decide +kernel), tb3 185 (by decide +kernel) (by decide +kernel), tb1 7 (by decide +kernel) (by decide +kernel), tb3 186 (by decide +kernel) (by decide +kernel), ⟨by decide, by decide, by decide +kernel⟩⟩
theorem cv_RX3_121_X3_sign : CV RX3 121 MX3_sign 1 := ⟨tb3 179 (by decide +kernel) (by decide +kernel), tb3 181 (by decide +kernel) (by decide +kernel), tbs1 8 (by decide +kernel), tb1 6 (by decide +kernel) (by decide +kernel), tb3 182 (by decide +kernel) (by decide +kernel), ⟨by decide, by decide, by decide +kernel⟩⟩
theorem cv_RX3_117_X3_number : CV RX3 117 MX3_number 5 := ⟨tb3 171 (by decide +kernel) (by decide +kernel), tb3 173 (by decide +kernel) (by decide +kernel), tbs1 7 (by decide +kernel), tb1 6 (by decide +kernel) (by decide +kernel), tb3 174 (by decide +kernel) (by decide +kernel), ⟨by decide, by decide, by decide +kernel⟩⟩
theorem cv_RX3_110_X3_newName : CV RX3 110 MX3_newName 2 := ⟨tb3 167 (by decide +kernel) (by decide +kernel), tb3 169 (by decide +kernel) (by decide +kernel), tbs1 6 (by decide +kernel), tb1 6 (by decide +kernel) (by decide +kernel), tb3 170 (by decide +kernel) (by decide +kernel), ⟨by decide, by decide, by decide +kernel⟩⟩
theorem cv_RX3_82_X3_placeLine : CV RX3 82 MX3_placeLine 0 := ⟨tb3 162 (by decide +kernel) (by decide +kernel), tb3 164 (by decide +kernel) (by decide +kernel), tbs1 5 (by decide +kernel), tb1 6 (by decide +kernel) (by decide +kernel), tb3 165 (by decide +kernel) (by decide +kernel), ⟨by decide, by decide, by decide +kernel⟩⟩
theorem cv_RX3_135_X1_join_27 : CV RX3 135 MX1_join_27 3 := ⟨tb3 199 (by decide +kernel) (by decide +kernel), tb3 200 (by decide +kernel) (by decide +kernel), tb3 201 (by decide +kernel) (by decide +kernel), tb1 4 (by decide +kernel) (by decide +kernel), tb3 202 (by decide +kernel) (by decide +kernel), ⟨by decide, by decide, by decide +kernel⟩⟩
theorem cv_RX3_131_X1_isJoined_27 : CV RX3 131 MX1_isJoined_27 2 := ⟨tb3 195 (by decide +kernel) (by decide +kernel), tb3 196 (by decide +kernel) (by decide +kernel), tb3 197 (by decide +kernel) (by decide +kernel), tb1 4 (by decide +kernel) (by decide +kernel), tb3 198 (by decide +kernel) (by decide +kernel), ⟨by decide, by decide, by decide +kernel⟩⟩
theorem cv_RX3_127_X3_placeHere : CV RX3 127 MX3_placeHere 0 := ⟨tb3 191 (by decide +kernel) (by decide +kernel), tb3 193 (by decide +kernel) (by decide +kernel), tbs1 10 (by decide +kernel), tb1 6 (by decide +kernel) (by decide +kernel), tb3 194 (by decide +kernel) (by decide +kernel), ⟨by decide, by decide, by decide +kernel⟩⟩
theorem cv_RX3_85_X3_roadLine : CV RX3 85 MX3_roadLine 0 := ⟨tb3 187 (by decide +kernel) (by decide +kernel), tb3 189 (by decide +kernel) (by decide +kernel), tbs1 9 (by decide +kernel), tb1 6 (by decide +kernel) (by decide +kernel), tb3 190 (by decide +kernel) (by decide +kernel), ⟨by decide, by decide, by decide +kernel⟩⟩
theorem cv_RX3_148_X3_atPlace : CV RX3 148 MX3_atPlace 2 := ⟨tb3 207 (by decide +kernel) (by decide +kernel), tb3 209 (by decide +kernel) (by decide +kernel), tbs1 12 (by decide +kernel), tb1 6 (by decide +kernel) (by decide +kernel), tb3 210 (by decide +kernel) (by decide +kernel), ⟨by decide, by decide, by decide +kernel⟩⟩
theorem cv_RX3_88_X3_thingLine : CV RX3 88 MX3_thingLine 0 := ⟨tb3 203 (by decide +kernel) (by decide +kernel), tb3 205 (by decide +kernel) (by decide +kernel), tbs1 11 (by decide +kernel), tb1 6 (by decide +kernel) (by decide +kernel), tb3 206 (by decide +kernel) (by decide +kernel), ⟨by decide, by decide, by decide +kernel⟩⟩
theorem cv_RX3_197_X3_either0 : CV RX3 197 (MX3_either 0) 1 := ⟨tb3 219 (by decide +kernel) (by decide +kernel), tb3 221 (by decide +kernel) (by decide +kernel), tbs1 15 (by decide +kernel), tb1 6 (by decide +kernel) (by decide +kernel), tb3 222 (by decide +kernel) (by decide +kernel), ⟨by decide, by decide, by decide +kernel⟩⟩
theorem cv_RX3_197_X3_either {d : Nat} : CV RX3 197 (MX3_either d) 1 := cv_RX3_197_X3_either0
theorem cv_RX3_241_X3_enclosed0 : CV RX3 241 (MX3_enclosed 0) 1 := ⟨tb4 11 (by decide +kernel) (by decide +kernel), tb4 13 (by decide +kernel) (by decide +kernel), tbs2 6 (by decide +kernel), tb1 6 (by decide +kernel) (by decide +kernel), tb4 14 (by decide +kernel) (by decide +kernel), ⟨by decide, by decide, by decide +kernel⟩⟩
theorem cv_RX3_241_X3_enclosed {d : Nat} : CV RX3 241 (MX3_enclosed d) 1 := cv_RX3_241_X3_enclosed0
theorem cv_RX3_219_X4_add_33 : CV RX3 219 MX4_add_33 1 := ⟨tb3 235 (by decide +kernel) (by decide +kernel), tb3 236 (by decide +kernel) (by decide +kernel), tb3 237 (by decide +kernel) (by decide +kernel), tb1 5 (by decide +kernel) (by decide +kernel), tb3 238 (by decide +kernel) (by decide +kernel), ⟨by decide, by decide, by decide +kernel⟩⟩
theorem cv_RX3_235_X3_unit0 : CV RX3 235 (MX3_unit 0) 1 := ⟨tb4 7 (by decide +kernel) (by decide +kernel), tb4 9 (by decide +kernel) (by decide +kernel), tbs2 5 (by decide +kernel), tb1 6 (by decide +kernel) (by decide +kernel), tb4 10 (by decide +kernel) (by decide +kernel), ⟨by decide, by decide, by decide +kernel⟩⟩
theorem cv_RX3_235_X3_unit {d : Nat} : CV RX3 235 (MX3_unit d) 1 := cv_RX3_235_X3_unit0
theorem cv_RX3_232_X3_term0 : CV RX3 232 (MX3_term 0) 1 := ⟨tb4 3 (by decide +kernel) (by decide +kernel), tb4 5 (by decide +kernel) (by decide +kernel), tbs2 4 (by decide +kernel), tb1 6 (by decide +kernel) (by decide +kernel), tb4 6 (by decide +kernel) (by decide +kernel), ⟨by decide, by decide, by decide +kernel⟩⟩
theorem cv_RX3_232_X3_term {d : Nat} : CV RX3 232 (MX3_term d) 1 := cv_RX3_232_X3_term0
theorem cv_RX3_229_X3_sum0 : CV RX3 229 (MX3_sum 0) 1 := ⟨tb3 239 (by decide +kernel) (by decide +kernel), tb4 1 (by decide +kernel) (by decide +kernel), tbs2 3 (by decide +kernel), tb1 6 (by decide +kernel) (by decide +kernel), tb4 2 (by decide +kernel) (by decide +kernel), ⟨by decide, by decide, by decide +kernel⟩⟩
theorem cv_RX3_229_X3_sum {d : Nat} : CV RX3 229 (MX3_sum d) 1 := cv_RX3_229_X3_sum0
theorem cv_RX3_223_X3_one0 : CV RX3 223 (MX3_one 0) 1 := ⟨tb3 227 (by decide +kernel) (by decide +kernel), tb3 229 (by decide +kernel) (by decide +kernel), tbs2 1 (by decide +kernel), tb1 6 (by decide +kernel) (by decide +kernel), tb3 230 (by decide +kernel) (by decide +kernel), ⟨by decide, by decide, by decide +kernel⟩⟩
theorem cv_RX3_223_X3_one {d : Nat} : CV RX3 223 (MX3_one d) 1 := cv_RX3_223_X3_one0
theorem cv_RX3_226_X3_negated0 : CV RX3 226 (MX3_negated 0) 1 := ⟨tb3 231 (by decide +kernel) (by decide +kernel), tb3 233 (by decide +kernel) (by decide +kernel), tbs2 2 (by decide +kernel), tb1 6 (by decide +kernel) (by decide +kernel), tb3 234 (by decide +kernel) (by decide +kernel), ⟨by decide, by decide, by decide +kernel⟩⟩
theorem cv_RX3_226_X3_negated {d : Nat} : CV RX3 226 (MX3_negated d) 1 := cv_RX3_226_X3_negated0
theorem cv_RX3_216_X3_both0 : CV RX3 216 (MX3_both 0) 1 := ⟨tb3 223 (by decide +kernel) (by decide +kernel), tb3 225 (by decide +kernel) (by decide +kernel), tbs2 0 (by decide +kernel), tb1 6 (by decide +kernel) (by decide +kernel), tb3 226 (by decide +kernel) (by decide +kernel), ⟨by decide, by decide, by decide +kernel⟩⟩
theorem cv_RX3_216_X3_both {d : Nat} : CV RX3 216 (MX3_both d) 1 := cv_RX3_216_X3_both0
theorem cv_RX3_186_X3_word : CV RX3 186 MX3_word 1 := ⟨tb3 215 (by decide +kernel) (by decide +kernel), tb3 217 (by decide +kernel) (by decide +kernel), tbs1 14 (by decide +kernel), tb1 6 (by decide +kernel) (by decide +kernel), tb3 218 (by decide +kernel) (by decide +kernel), ⟨by decide, by decide, by decide +kernel⟩⟩
theorem cv_RX3_91_X3_personLine : CV RX3 91 MX3_personLine 0 := ⟨tb3 211 (by decide +kernel) (by decide +kernel), tb3 213 (by decide +kernel) (by decide +kernel), tbs1 13 (by decide +kernel), tb1 6 (by decide +kernel) (by decide +kernel), tb3 214 (by decide +kernel) (by decide +kernel), ⟨by decide, by decide, by decide +kernel⟩⟩
theorem cv_RX3_94_X3_lawLine : CV RX3 94 MX3_lawLine 0 := ⟨tb4 15 (by decide +kernel) (by decide +kernel), tb4 17 (by decide +kernel) (by decide +kernel), tbs2 7 (by decide +kernel), tb1 6 (by decide +kernel) (by decide +kernel), tb4 18 (by decide +kernel) (by decide +kernel), ⟨by decide, by decide, by decide +kernel⟩⟩
theorem cv_RX3_97_X3_lateLine : CV RX3 97 MX3_lateLine 0 := ⟨tb4 19 (by decide +kernel) (by decide +kernel), tb4 21 (by decide +kernel) (by decide +kernel), tbs2 8 (by decide +kernel), tb1 6 (by decide +kernel) (by decide +kernel), tb4 22 (by decide +kernel) (by decide +kernel), ⟨by decide, by decide, by decide +kernel⟩⟩
theorem cv_RX3_63_X3_line : CV RX3 63 MX3_line 0 := ⟨tb3 154 (by decide +kernel) (by decide +kernel), tb3 156 (by decide +kernel) (by decide +kernel), tbs1 3 (by decide +kernel), tb1 6 (by decide +kernel) (by decide +kernel), tb3 157 (by decide +kernel) (by decide +kernel), ⟨by decide, by decide, by decide +kernel⟩⟩
theorem cv_RX10_64_X4_clear_33 : CV RX10 64 MX4_clear_33 0 := ⟨tb3 120 (by decide +kernel) (by decide +kernel), tb3 121 (by decide +kernel) (by decide +kernel), tb3 122 (by decide +kernel) (by decide +kernel), tb1 5 (by decide +kernel) (by decide +kernel), tb3 123 (by decide +kernel) (by decide +kernel), ⟨by decide, by decide, by decide +kernel⟩⟩
theorem cv_RX10_61_X1_clear_27 : CV RX10 61 MX1_clear_27 0 := ⟨tb3 116 (by decide +kernel) (by decide +kernel), tb3 117 (by decide +kernel) (by decide +kernel), tb3 118 (by decide +kernel) (by decide +kernel), tb1 4 (by decide +kernel) (by decide +kernel), tb3 119 (by decide +kernel) (by decide +kernel), ⟨by decide, by decide, by decide +kernel⟩⟩
theorem cv_RX8_39_X8_step : CV RX8 39 MX8_step 0 := ⟨tb3 128 (by decide +kernel) (by decide +kernel), tb3 129 (by decide +kernel) (by decide +kernel), tb3 130 (by decide +kernel) (by decide +kernel), tb1 7 (by decide +kernel) (by decide +kernel), tb3 131 (by decide +kernel) (by decide +kernel), ⟨by decide, by decide, by decide +kernel⟩⟩
theorem cv_RX3_57_X8_begin : CV RX3 57 MX8_begin 0 := ⟨tb3 124 (by decide +kernel) (by decide +kernel), tb3 125 (by decide +kernel) (by decide +kernel), tb3 126 (by decide +kernel) (by decide +kernel), tb1 7 (by decide +kernel) (by decide +kernel), tb3 127 (by decide +kernel) (by decide +kernel), ⟨by decide, by decide, by decide +kernel⟩⟩
theorem cv_RX3_44_X10_clear_26 : CV RX3 44 MX10_clear_26 0 := ⟨tb3 112 (by decide +kernel) (by decide +kernel), tb3 113 (by decide +kernel) (by decide +kernel), tb3 114 (by decide +kernel) (by decide +kernel), tb1 3 (by decide +kernel) (by decide +kernel), tb3 115 (by decide +kernel) (by decide +kernel), ⟨by decide, by decide, by decide +kernel⟩⟩
theorem cv_RX10_82_X4_copyFrom_10 : CV RX10 82 MX4_copyFrom_10 1 := ⟨tb4 46 (by decide +kernel) (by decide +kernel), tb4 47 (by decide +kernel) (by decide +kernel), tb4 48 (by decide +kernel) (by decide +kernel), tb1 5 (by decide +kernel) (by decide +kernel), tb4 49 (by decide +kernel) (by decide +kernel), ⟨by decide, by decide, by decide +kernel⟩⟩
theorem cv_RX10_78_X1_copyFrom_4 : CV RX10 78 MX1_copyFrom_4 1 := ⟨tb4 39 (by decide +kernel) (by decide +kernel), tb4 40 (by decide +kernel) (by decide +kernel), tb4 41 (by decide +kernel) (by decide +kernel), tb1 4 (by decide +kernel) (by decide +kernel), tb4 42 (by decide +kernel) (by decide +kernel), ⟨by decide, by decide, by decide +kernel⟩⟩
theorem cv_RX11_99_X2_beginIn : CV RX11 99 MX2_beginIn 1 := ⟨tb4 52 (by decide +kernel) (by decide +kernel), tb4 53 (by decide +kernel) (by decide +kernel), tb4 54 (by decide +kernel) (by decide +kernel), tb1 12 (by decide +kernel) (by decide +kernel), tb4 55 (by decide +kernel) (by decide +kernel), ⟨by decide, by decide, by decide +kernel⟩⟩
theorem cv_RX11_96_X10_copyFrom_3 : CV RX11 96 MX10_copyFrom_3 1 := ⟨tb4 35 (by decide +kernel) (by decide +kernel), tb4 36 (by decide +kernel) (by decide +kernel), tb4 37 (by decide +kernel) (by decide +kernel), tb1 3 (by decide +kernel) (by decide +kernel), tb4 38 (by decide +kernel) (by decide +kernel), ⟨by decide, by decide, by decide +kernel⟩⟩
theorem cv_RX11_92_X3_readTape : CV RX11 92 MX3_readTape 0 := ⟨tb3 108 (by decide +kernel) (by decide +kernel), tb3 109 (by decide +kernel) (by decide +kernel), tb3 110 (by decide +kernel) (by decide +kernel), tb1 6 (by decide +kernel) (by decide +kernel), tb3 111 (by decide +kernel) (by decide +kernel), ⟨by decide, by decide, by decide +kernel⟩⟩
theorem cv_RX0_151_X1_minutes_4 : CV RX0 151 MX1_minutes_4 2 := ⟨tb4 111 (by decide +kernel) (by decide +kernel), tb4 28 (by decide +kernel) (by decide +kernel), tb4 29 (by decide +kernel) (by decide +kernel), tb1 4 (by decide +kernel) (by decide +kernel), tb4 30 (by decide +kernel) (by decide +kernel), ⟨by decide, by decide, by decide +kernel⟩⟩
theorem cv_RX0_164_X4_value_10 : CV RX0 164 MX4_value_10 2 := ⟨tb4 116 (by decide +kernel) (by decide +kernel), tb4 117 (by decide +kernel) (by decide +kernel), tb4 118 (by decide +kernel) (by decide +kernel), tb1 5 (by decide +kernel) (by decide +kernel), tb4 119 (by decide +kernel) (by decide +kernel), ⟨by decide, by decide, by decide +kernel⟩⟩
theorem cv_RX0_174_X0_ask : CV RX0 174 MX0_ask 3 := ⟨tb4 112 (by decide +kernel) (by decide +kernel), tb4 113 (by decide +kernel) (by decide +kernel), tb4 114 (by decide +kernel) (by decide +kernel), tb1 13 (by decide +kernel) (by decide +kernel), tb4 115 (by decide +kernel) (by decide +kernel), ⟨by decide, by decide, by decide +kernel⟩⟩
theorem cv_RX0_170_X0_isInTime : CV RX0 170 MX0_isInTime 4 := ⟨tb4 107 (by decide +kernel) (by decide +kernel), tb4 109 (by decide +kernel) (by decide +kernel), tbs2 12 (by decide +kernel), tb1 13 (by decide +kernel) (by decide +kernel), tb4 110 (by decide +kernel) (by decide +kernel), ⟨by decide, by decide, by decide +kernel⟩⟩
theorem cv_RX0_178_X0_aim : CV RX0 178 MX0_aim 3 := ⟨tb4 103 (by decide +kernel) (by decide +kernel), tb4 104 (by decide +kernel) (by decide +kernel), tb4 105 (by decide +kernel) (by decide +kernel), tb1 13 (by decide +kernel) (by decide +kernel), tb4 106 (by decide +kernel) (by decide +kernel), ⟨by decide, by decide, by decide +kernel⟩⟩
theorem cv_RX0_114_X0_setOut : CV RX0 114 MX0_setOut 3 := ⟨tb4 99 (by decide +kernel) (by decide +kernel), tb4 101 (by decide +kernel) (by decide +kernel), tbs2 11 (by decide +kernel), tb1 13 (by decide +kernel) (by decide +kernel), tb4 102 (by decide +kernel) (by decide +kernel), ⟨by decide, by decide, by decide +kernel⟩⟩
theorem cv_RX0_135_X0_stoodAt : CV RX0 135 MX0_stoodAt 2 := ⟨tb4 146 (by decide +kernel) (by decide +kernel), tb4 148 (by decide +kernel) (by decide +kernel), tbs3 1 (by decide +kernel), tb1 13 (by decide +kernel) (by decide +kernel), tb4 149 (by decide +kernel) (by decide +kernel), ⟨by decide, by decide, by decide +kernel⟩⟩
theorem cv_RX0_191_X0_isAhead : CV RX0 191 MX0_isAhead 3 := ⟨tb4 142 (by decide +kernel) (by decide +kernel), tb4 144 (by decide +kernel) (by decide +kernel), tbs3 0 (by decide +kernel), tb1 13 (by decide +kernel) (by decide +kernel), tb4 145 (by decide +kernel) (by decide +kernel), ⟨by decide, by decide, by decide +kernel⟩⟩
theorem cv_RX0_48_X2_draw : CV RX0 48 MX2_draw 1 := ⟨tb4 86 (by decide +kernel) (by decide +kernel), tb4 87 (by decide +kernel) (by decide +kernel), tb4 88 (by decide +kernel) (by decide +kernel), tb1 12 (by decide +kernel) (by decide +kernel), tb4 89 (by decide +kernel) (by decide +kernel), ⟨by decide, by decide, by decide +kernel⟩⟩
theorem cv_RX0_195_J6_bitCount_0f7a4 : CS RX0 195 MJ6_bitCount_0f7a4 1 := ⟨tb4 136 (by decide +kernel) (by decide +kernel), tb4 137 (by decide +kernel) (by decide +kernel), tb1 20 (by decide +kernel) (by decide +kernel), tb4 138 (by decide +kernel) (by decide +kernel), ⟨by decide, by decide, by decide +kernel⟩⟩
theorem cv_RX0_187_X0_drawnOf : CV RX0 187 MX0_drawnOf 2 := ⟨tb4 132 (by decide +kernel) (by decide +kernel), tb4 134 (by decide +kernel) (by decide +kernel), tbs2 15 (by decide +kernel), tb1 13 (by decide +kernel) (by decide +kernel), tb4 135 (by decide +kernel) (by decide +kernel), ⟨by decide, by decide, by decide +kernel⟩⟩
theorem cv_RX0_184_X0_winner : CV RX0 184 MX0_winner 3 := ⟨tb4 128 (by decide +kernel) (by decide +kernel), tb4 130 (by decide +kernel) (by decide +kernel), tbs2 14 (by decide +kernel), tb1 13 (by decide +kernel) (by decide +kernel), tb4 131 (by decide +kernel) (by decide +kernel), ⟨by decide, by decide, by decide +kernel⟩⟩
theorem cv_RX0_181_X10_isTaker_3 : CV RX0 181 MX10_isTaker_3 2 := ⟨tb4 124 (by decide +kernel) (by decide +kernel), tb4 125 (by decide +kernel) (by decide +kernel), tb4 126 (by decide +kernel) (by decide +kernel), tb1 3 (by decide +kernel) (by decide +kernel), tb4 127 (by decide +kernel) (by decide +kernel), ⟨by decide, by decide, by decide +kernel⟩⟩
theorem cv_RX0_132_X0_settle : CV RX0 132 MX0_settle 3 := ⟨tb4 120 (by decide +kernel) (by decide +kernel), tb4 122 (by decide +kernel) (by decide +kernel), tbs2 13 (by decide +kernel), tb1 13 (by decide +kernel) (by decide +kernel), tb4 123 (by decide +kernel) (by decide +kernel), ⟨by decide, by decide, by decide +kernel⟩⟩
theorem cv_RX0_111_X0_remember : CV RX0 111 MX0_remember 1 := ⟨tb4 95 (by decide +kernel) (by decide +kernel), tb4 96 (by decide +kernel) (by decide +kernel), tb4 97 (by decide +kernel) (by decide +kernel), tb1 13 (by decide +kernel) (by decide +kernel), tb4 98 (by decide +kernel) (by decide +kernel), ⟨by decide, by decide, by decide +kernel⟩⟩
theorem cv_RX0_61_X2_endDay : CV RX0 61 MX2_endDay 0 := ⟨tb4 150 (by decide +kernel) (by decide +kernel), tb4 151 (by decide +kernel) (by decide +kernel), tb4 152 (by decide +kernel) (by decide +kernel), tb1 12 (by decide +kernel) (by decide +kernel), tb4 153 (by decide +kernel) (by decide +kernel), ⟨by decide, by decide, by decide +kernel⟩⟩
theorem cv_RX0_57_X0_noons : CV RX0 57 MX0_noons 3 := ⟨tb4 91 (by decide +kernel) (by decide +kernel), tb4 92 (by decide +kernel) (by decide +kernel), tb4 93 (by decide +kernel) (by decide +kernel), tb1 13 (by decide +kernel) (by decide +kernel), tb4 94 (by decide +kernel) (by decide +kernel), ⟨by decide, by decide, by decide +kernel⟩⟩
theorem cv_RX0_85_X0_wearDown : CV RX0 85 MX0_wearDown 3 := ⟨tb4 72 (by decide +kernel) (by decide +kernel), tb4 74 (by decide +kernel) (by decide +kernel), tbs2 10 (by decide +kernel), tb1 13 (by decide +kernel) (by decide +kernel), tb4 75 (by decide +kernel) (by decide +kernel), ⟨by decide, by decide, by decide +kernel⟩⟩
theorem cv_RX0_38_X0_mend : CV RX0 38 MX0_mend 1 := ⟨tb4 79 (by decide +kernel) (by decide +kernel), tb4 80 (by decide +kernel) (by decide +kernel), tb4 81 (by decide +kernel) (by decide +kernel), tb1 13 (by decide +kernel) (by decide +kernel), tb4 82 (by decide +kernel) (by decide +kernel), ⟨by decide, by decide, by decide +kernel⟩⟩
theorem cv_RX0_34_X0_use : CV RX0 34 MX0_use 1 := ⟨tb4 68 (by decide +kernel) (by decide +kernel), tb4 69 (by decide +kernel) (by decide +kernel), tb4 70 (by decide +kernel) (by decide +kernel), tb1 13 (by decide +kernel) (by decide +kernel), tb4 71 (by decide +kernel) (by decide +kernel), ⟨by decide, by decide, by decide +kernel⟩⟩
theorem cv_RX11_120_X0_live : CV RX11 120 MX0_live 2 := ⟨tb4 64 (by decide +kernel) (by decide +kernel), tb4 65 (by decide +kernel) (by decide +kernel), tb4 66 (by decide +kernel) (by decide +kernel), tb1 13 (by decide +kernel) (by decide +kernel), tb4 67 (by decide +kernel) (by decide +kernel), ⟨by decide, by decide, by decide +kernel⟩⟩
theorem cv_RX11_124_X11_isThing : CV RX11 124 MX11_isThing 1 := ⟨tb4 159 (by decide +kernel) (by decide +kernel), tb4 161 (by decide +kernel) (by decide +kernel), tbs3 2 (by decide +kernel), tb1 1 (by decide +kernel) (by decide +kernel), tb4 162 (by decide +kernel) (by decide +kernel), ⟨by decide, by decide, by decide +kernel⟩⟩
theorem cv_RX11_156_X11_thingsOf : CV RX11 156 MX11_thingsOf 1 := ⟨tb4 171 (by decide +kernel) (by decide +kernel), tb4 173 (by decide +kernel) (by decide +kernel), tbs3 4 (by decide +kernel), tb1 1 (by decide +kernel) (by decide +kernel), tb4 174 (by decide +kernel) (by decide +kernel), ⟨by decide, by decide, by decide +kernel⟩⟩
theorem cv_RX11_164_X0_aim : CV RX11 164 MX0_aim 3 := ⟨tb4 176 (by decide +kernel) (by decide +kernel), tb4 104 (by decide +kernel) (by decide +kernel), tb4 105 (by decide +kernel) (by decide +kernel), tb1 13 (by decide +kernel) (by decide +kernel), tb4 106 (by decide +kernel) (by decide +kernel), ⟨by decide, by decide, by decide +kernel⟩⟩
theorem cv_RX11_160_X0_remember : CV RX11 160 MX0_remember 1 := ⟨tb4 175 (by decide +kernel) (by decide +kernel), tb4 96 (by decide +kernel) (by decide +kernel), tb4 97 (by decide +kernel) (by decide +kernel), tb1 13 (by decide +kernel) (by decide +kernel), tb4 98 (by decide +kernel) (by decide +kernel), ⟨by decide, by decide, by decide +kernel⟩⟩
theorem cv_RX11_147_X11_isPerson : CV RX11 147 MX11_isPerson 1 := ⟨tb4 167 (by decide +kernel) (by decide +kernel), tb4 169 (by decide +kernel) (by decide +kernel), tbs3 3 (by decide +kernel), tb1 1 (by decide +kernel) (by decide +kernel), tb4 170 (by decide +kernel) (by decide +kernel), ⟨by decide, by decide, by decide +kernel⟩⟩
theorem cv_RX11_175_X1_minutes_4 : CV RX11 175 MX1_minutes_4 2 := ⟨tb4 185 (by decide +kernel) (by decide +kernel), tb4 28 (by decide +kernel) (by decide +kernel), tb4 29 (by decide +kernel) (by decide +kernel), tb1 4 (by decide +kernel) (by decide +kernel), tb4 30 (by decide +kernel) (by decide +kernel), ⟨by decide, by decide, by decide +kernel⟩⟩
theorem cv_RX11_168_X11_isPlace : CV RX11 168 MX11_isPlace 1 := ⟨tb4 181 (by decide +kernel) (by decide +kernel), tb4 183 (by decide +kernel) (by decide +kernel), tbs3 5 (by decide +kernel), tb1 1 (by decide +kernel) (by decide +kernel), tb4 184 (by decide +kernel) (by decide +kernel), ⟨by decide, by decide, by decide +kernel⟩⟩
theorem cv_RX11_181_X11_isPersonOrNobody : CV RX11 181 MX11_isPersonOrNobody 1 := ⟨tb4 190 (by decide +kernel) (by decide +kernel), tb4 192 (by decide +kernel) (by decide +kernel), tbs3 6 (by decide +kernel), tb1 1 (by decide +kernel) (by decide +kernel), tb4 193 (by decide +kernel) (by decide +kernel), ⟨by decide, by decide, by decide +kernel⟩⟩
theorem cv_RX11_185_X0_ask : CV RX11 185 MX0_ask 3 := ⟨tb4 203 (by decide +kernel) (by decide +kernel), tb4 113 (by decide +kernel) (by decide +kernel), tb4 114 (by decide +kernel) (by decide +kernel), tb1 13 (by decide +kernel) (by decide +kernel), tb4 115 (by decide +kernel) (by decide +kernel), ⟨by decide, by decide, by decide +kernel⟩⟩
theorem cv_RX9_97_J6_bitCount_0f7a4 : CS RX9 97 MJ6_bitCount_0f7a4 1 := ⟨tb4 235 (by decide +kernel) (by decide +kernel), tb4 137 (by decide +kernel) (by decide +kernel), tb1 20 (by decide +kernel) (by decide +kernel), tb4 138 (by decide +kernel) (by decide +kernel), ⟨by decide, by decide, by decide +kernel⟩⟩
theorem cv_RX9_93_X9_isDrawn : CV RX9 93 MX9_isDrawn 1 := ⟨tb4 227 (by decide +kernel) (by decide +kernel), tb4 229 (by decide +kernel) (by decide +kernel), tbs3 9 (by decide +kernel), tb1 14 (by decide +kernel) (by decide +kernel), tb4 230 (by decide +kernel) (by decide +kernel), ⟨by decide, by decide, by decide +kernel⟩⟩
theorem cv_RX9_82_X9_commonDivisor : CS RX9 82 MX9_commonDivisor 2 := ⟨tb4 236 (by decide +kernel) (by decide +kernel), tb4 237 (by decide +kernel) (by decide +kernel), tb1 14 (by decide +kernel) (by decide +kernel), tb4 238 (by decide +kernel) (by decide +kernel), ⟨by decide, by decide, by decide +kernel⟩⟩
theorem cv_RX9_69_X9_lotsFor : CV RX9 69 MX9_lotsFor 1 := ⟨tb4 231 (by decide +kernel) (by decide +kernel), tb4 233 (by decide +kernel) (by decide +kernel), tbs3 10 (by decide +kernel), tb1 14 (by decide +kernel) (by decide +kernel), tb4 234 (by decide +kernel) (by decide +kernel), ⟨by decide, by decide, by decide +kernel⟩⟩
theorem cv_RX9_44_X0_mend : CV RX9 44 MX0_mend 1 := ⟨tb4 221 (by decide +kernel) (by decide +kernel), tb4 80 (by decide +kernel) (by decide +kernel), tb4 81 (by decide +kernel) (by decide +kernel), tb1 13 (by decide +kernel) (by decide +kernel), tb4 82 (by decide +kernel) (by decide +kernel), ⟨by decide, by decide, by decide +kernel⟩⟩
theorem cv_RX9_40_X0_use : CV RX9 40 MX0_use 1 := ⟨tb4 220 (by decide +kernel) (by decide +kernel), tb4 69 (by decide +kernel) (by decide +kernel), tb4 70 (by decide +kernel) (by decide +kernel), tb1 13 (by decide +kernel) (by decide +kernel), tb4 71 (by decide +kernel) (by decide +kernel), ⟨by decide, by decide, by decide +kernel⟩⟩
theorem cv_RX9_30_X2_copyFrom : CV RX9 30 MX2_copyFrom 1 := ⟨tb4 216 (by decide +kernel) (by decide +kernel), tb4 217 (by decide +kernel) (by decide +kernel), tb4 218 (by decide +kernel) (by decide +kernel), tb1 12 (by decide +kernel) (by decide +kernel), tb4 219 (by decide +kernel) (by decide +kernel), ⟨by decide, by decide, by decide +kernel⟩⟩
theorem cv_RX9_65_X9_isHis : CV RX9 65 MX9_isHis 2 := ⟨tb4 223 (by decide +kernel) (by decide +kernel), tb4 225 (by decide +kernel) (by decide +kernel), tbs3 8 (by decide +kernel), tb1 14 (by decide +kernel) (by decide +kernel), tb4 226 (by decide +kernel) (by decide +kernel), ⟨by decide, by decide, by decide +kernel⟩⟩
theorem cv_RX9_61_X0_noons : CV RX9 61 MX0_noons 3 := ⟨tb4 222 (by decide +kernel) (by decide +kernel), tb4 92 (by decide +kernel) (by decide +kernel), tb4 93 (by decide +kernel) (by decide +kernel), tb1 13 (by decide +kernel) (by decide +kernel), tb4 94 (by decide +kernel) (by decide +kernel), ⟨by decide, by decide, by decide +kernel⟩⟩
theorem cv_RX9_47_X9_beginDay : CV RX9 47 MX9_beginDay 3 := ⟨tb4 212 (by decide +kernel) (by decide +kernel), tb4 214 (by decide +kernel) (by decide +kernel), tbs3 7 (by decide +kernel), tb1 14 (by decide +kernel) (by decide +kernel), tb4 215 (by decide +kernel) (by decide +kernel), ⟨by decide, by decide, by decide +kernel⟩⟩
theorem cv_RX11_188_X9_weigh : CV RX11 188 MX9_weigh 4 := ⟨tb4 208 (by decide +kernel) (by decide +kernel), tb4 209 (by decide +kernel) (by decide +kernel), tb4 210 (by decide +kernel) (by decide +kernel), tb1 14 (by decide +kernel) (by decide +kernel), tb4 211 (by decide +kernel) (by decide +kernel), ⟨by decide, by decide, by decide +kernel⟩⟩
theorem cv_RX5_104_X5_choiceOf : CV RX5 104 MX5_choiceOf 2 := ⟨tb5 28 (by decide +kernel) (by decide +kernel), tb5 30 (by decide +kernel) (by decide +kernel), tbs3 15 (by decide +kernel), tb1 15 (by decide +kernel) (by decide +kernel), tb5 31 (by decide +kernel) (by decide +kernel), ⟨by decide, by decide, by decide +kernel⟩⟩
theorem cv_RX5_101_X5_choose : CV RX5 101 MX5_choose 2 := ⟨tb5 24 (by decide +kernel) (by decide +kernel), tb5 26 (by decide +kernel) (by decide +kernel), tbs3 14 (by decide +kernel), tb1 15 (by decide +kernel) (by decide +kernel), tb5 27 (by decide +kernel) (by decide +kernel), ⟨by decide, by decide, by decide +kernel⟩⟩
theorem cv_RX5_73_X5_goOn : CV RX5 73 MX5_goOn 0 := ⟨tb5 55 (by decide +kernel) (by decide +kernel), tb5 57 (by decide +kernel) (by decide +kernel), tbs4 5 (by decide +kernel), tb1 15 (by decide +kernel) (by decide +kernel), tb5 58 (by decide +kernel) (by decide +kernel), ⟨by decide, by decide, by decide +kernel⟩⟩
theorem cv_RX5_133_X1_minutes_4 : CV RX5 133 MX1_minutes_4 2 := ⟨tb5 19 (by decide +kernel) (by decide +kernel), tb4 28 (by decide +kernel) (by decide +kernel), tb4 29 (by decide +kernel) (by decide +kernel), tb1 4 (by decide +kernel) (by decide +kernel), tb4 30 (by decide +kernel) (by decide +kernel), ⟨by decide, by decide, by decide +kernel⟩⟩
theorem cv_RX5_79_X5_walk : CV RX5 79 MX5_walk 2 := ⟨tb5 15 (by decide +kernel) (by decide +kernel), tb5 17 (by decide +kernel) (by decide +kernel), tbs3 12 (by decide +kernel), tb1 15 (by decide +kernel) (by decide +kernel), tb5 18 (by decide +kernel) (by decide +kernel), ⟨by decide, by decide, by decide +kernel⟩⟩
theorem cv_RX5_123_X5_isAhead : CV RX5 123 MX5_isAhead 3 := ⟨tb5 41 (by decide +kernel) (by decide +kernel), tb5 43 (by decide +kernel) (by decide +kernel), tbs4 2 (by decide +kernel), tb1 15 (by decide +kernel) (by decide +kernel), tb5 44 (by decide +kernel) (by decide +kernel), ⟨by decide, by decide, by decide +kernel⟩⟩
theorem cv_RX5_110_X10_isTaker_3 : CV RX5 110 MX10_isTaker_3 2 := ⟨tb5 40 (by decide +kernel) (by decide +kernel), tb4 125 (by decide +kernel) (by decide +kernel), tb4 126 (by decide +kernel) (by decide +kernel), tb1 3 (by decide +kernel) (by decide +kernel), tb4 127 (by decide +kernel) (by decide +kernel), ⟨by decide, by decide, by decide +kernel⟩⟩
theorem cv_RX5_107_X5_payFor : CV RX5 107 MX5_payFor 2 := ⟨tb5 36 (by decide +kernel) (by decide +kernel), tb5 38 (by decide +kernel) (by decide +kernel), tbs4 1 (by decide +kernel), tb1 15 (by decide +kernel) (by decide +kernel), tb5 39 (by decide +kernel) (by decide +kernel), ⟨by decide, by decide, by decide +kernel⟩⟩
theorem cv_RX5_67_X5_lost : CV RX5 67 MX5_lost 0 := ⟨tb5 50 (by decide +kernel) (by decide +kernel), tb5 52 (by decide +kernel) (by decide +kernel), tbs4 4 (by decide +kernel), tb1 15 (by decide +kernel) (by decide +kernel), tb5 53 (by decide +kernel) (by decide +kernel), ⟨by decide, by decide, by decide +kernel⟩⟩
theorem cv_RX5_57_X5_payOfAll : CV RX5 57 MX5_payOfAll 0 := ⟨tb5 45 (by decide +kernel) (by decide +kernel), tb5 47 (by decide +kernel) (by decide +kernel), tbs4 3 (by decide +kernel), tb1 15 (by decide +kernel) (by decide +kernel), tb5 48 (by decide +kernel) (by decide +kernel), ⟨by decide, by decide, by decide +kernel⟩⟩
theorem cv_RX5_53_X5_isAtRest : CV RX5 53 MX5_isAtRest 0 := ⟨tb5 32 (by decide +kernel) (by decide +kernel), tb5 34 (by decide +kernel) (by decide +kernel), tbs4 0 (by decide +kernel), tb1 15 (by decide +kernel) (by decide +kernel), tb5 35 (by decide +kernel) (by decide +kernel), ⟨by decide, by decide, by decide +kernel⟩⟩
theorem cv_RX5_97_X5_addChoice : CV RX5 97 MX5_addChoice 2 := ⟨tb5 20 (by decide +kernel) (by decide +kernel), tb5 22 (by decide +kernel) (by decide +kernel), tbs3 13 (by decide +kernel), tb1 15 (by decide +kernel) (by decide +kernel), tb5 23 (by decide +kernel) (by decide +kernel), ⟨by decide, by decide, by decide +kernel⟩⟩
theorem cv_RX5_50_X5_listChoices : CV RX5 50 MX5_listChoices 0 := ⟨tb5 11 (by decide +kernel) (by decide +kernel), tb5 13 (by decide +kernel) (by decide +kernel), tbs3 11 (by decide +kernel), tb1 15 (by decide +kernel) (by decide +kernel), tb5 14 (by decide +kernel) (by decide +kernel), ⟨by decide, by decide, by decide +kernel⟩⟩
theorem cv_RX11_201_X5_seek : CV RX11 201 MX5_seek 1 := ⟨tb5 7 (by decide +kernel) (by decide +kernel), tb5 8 (by decide +kernel) (by decide +kernel), tb5 9 (by decide +kernel) (by decide +kernel), tb1 15 (by decide +kernel) (by decide +kernel), tb5 10 (by decide +kernel) (by decide +kernel), ⟨by decide, by decide, by decide +kernel⟩⟩
theorem cv_RX11_198_X5_isSpent : CV RX11 198 MX5_isSpent 0 := ⟨tb5 3 (by decide +kernel) (by decide +kernel), tb5 4 (by decide +kernel) (by decide +kernel), tb5 5 (by decide +kernel) (by decide +kernel), tb1 15 (by decide +kernel) (by decide +kernel), tb5 6 (by decide +kernel) (by decide +kernel), ⟨by decide, by decide, by decide +kernel⟩⟩
theorem cv_RX9_34_X0_live : CV RX9 34 MX0_live 2 := ⟨tb5 75 (by decide +kernel) (by decide +kernel), tb4 65 (by decide +kernel) (by decide +kernel), tb4 66 (by decide +kernel) (by decide +kernel), tb1 13 (by decide +kernel) (by decide +kernel), tb4 67 (by decide +kernel) (by decide +kernel), ⟨by decide, by decide, by decide +kernel⟩⟩
theorem cv_RX11_217_X9_madeBy : CV RX11 217 MX9_madeBy 3 := ⟨tb5 71 (by decide +kernel) (by decide +kernel), tb5 72 (by decide +kernel) (by decide +kernel), tb5 73 (by decide +kernel) (by decide +kernel), tb1 14 (by decide +kernel) (by decide +kernel), tb5 74 (by decide +kernel) (by decide +kernel), ⟨by decide, by decide, by decide +kernel⟩⟩
theorem cv_RX11_214_X9_madeKept : CV RX11 214 MX9_madeKept 2 := ⟨tb5 67 (by decide +kernel) (by decide +kernel), tb5 68 (by decide +kernel) (by decide +kernel), tb5 69 (by decide +kernel) (by decide +kernel), tb1 14 (by decide +kernel) (by decide +kernel), tb5 70 (by decide +kernel) (by decide +kernel), ⟨by decide, by decide, by decide +kernel⟩⟩
theorem cv_RX9_108_X9_mostOfDay : CV RX9 108 MX9_mostOfDay 4 := ⟨tb5 88 (by decide +kernel) (by decide +kernel), tb5 90 (by decide +kernel) (by decide +kernel), tbs4 6 (by decide +kernel), tb1 14 (by decide +kernel) (by decide +kernel), tb5 91 (by decide +kernel) (by decide +kernel), ⟨by decide, by decide, by decide +kernel⟩⟩
theorem cv_RX11_220_X9_useWell : CV RX11 220 MX9_useWell 4 := ⟨tb5 84 (by decide +kernel) (by decide +kernel), tb5 85 (by decide +kernel) (by decide +kernel), tb5 86 (by decide +kernel) (by decide +kernel), tb1 14 (by decide +kernel) (by decide +kernel), tb5 87 (by decide +kernel) (by decide +kernel), ⟨by decide, by decide, by decide +kernel⟩⟩
theorem cv_RX1_41_X1_minutes_4 : CV RX1 41 MX1_minutes_4 2 := ⟨tb4 27 (by decide +kernel) (by decide +kernel), tb4 28 (by decide +kernel) (by decide +kernel), tb4 29 (by decide +kernel) (by decide +kernel), tb1 4 (by decide +kernel) (by decide +kernel), tb4 30 (by decide +kernel) (by decide +kernel), ⟨by decide, by decide, by decide +kernel⟩⟩
theorem cv_RX11_236_X1_mostNoons_4 : CV RX11 236 MX1_mostNoons_4 2 := ⟨tb5 107 (by decide +kernel) (by decide +kernel), tb5 108 (by decide +kernel) (by decide +kernel), tb5 109 (by decide +kernel) (by decide +kernel), tb1 4 (by decide +kernel) (by decide +kernel), tb5 110 (by decide +kernel) (by decide +kernel), ⟨by decide, by decide, by decide +kernel⟩⟩
theorem cv_RX11_239_X2_ownerBehind : CV RX11 239 MX2_ownerBehind 2 := ⟨tb5 116 (by decide +kernel) (by decide +kernel), tb5 117 (by decide +kernel) (by decide +kernel), tb5 118 (by decide +kernel) (by decide +kernel), tb1 12 (by decide +kernel) (by decide +kernel), tb5 119 (by decide +kernel) (by decide +kernel), ⟨by decide, by decide, by decide +kernel⟩⟩
theorem cv_RX11_245_X6_add : CV RX11 245 MX6_add 4 := ⟨tb5 124 (by decide +kernel) (by decide +kernel), tb5 125 (by decide +kernel) (by decide +kernel), tb5 126 (by decide +kernel) (by decide +kernel), tb1 16 (by decide +kernel) (by decide +kernel), tb5 127 (by decide +kernel) (by decide +kernel), ⟨by decide, by decide, by decide +kernel⟩⟩
theorem cv_RX11_248_X6_takeBack : CV RX11 248 MX6_takeBack 2 := ⟨tb5 132 (by decide +kernel) (by decide +kernel), tb5 133 (by decide +kernel) (by decide +kernel), tb5 134 (by decide +kernel) (by decide +kernel), tb1 16 (by decide +kernel) (by decide +kernel), tb5 135 (by decide +kernel) (by decide +kernel), ⟨by decide, by decide, by decide +kernel⟩⟩
theorem cv_RX6_36_X2_ownerBehind : CV RX6 36 MX2_ownerBehind 2 := ⟨tb5 157 (by decide +kernel) (by decide +kernel), tb5 117 (by decide +kernel) (by decide +kernel), tb5 118 (by decide +kernel) (by decide +kernel), tb1 12 (by decide +kernel) (by decide +kernel), tb5 119 (by decide +kernel) (by decide +kernel), ⟨by decide, by decide, by decide +kernel⟩⟩
theorem cv_RX6_44_X6_isFalse : CV RX6 44 MX6_isFalse 2 := ⟨tb5 153 (by decide +kernel) (by decide +kernel), tb5 155 (by decide +kernel) (by decide +kernel), tbs4 8 (by decide +kernel), tb1 16 (by decide +kernel) (by decide +kernel), tb5 156 (by decide +kernel) (by decide +kernel), ⟨by decide, by decide, by decide +kernel⟩⟩
theorem cv_RX6_40_X6_counts : CV RX6 40 MX6_counts 2 := ⟨tb5 149 (by decide +kernel) (by decide +kernel), tb5 151 (by decide +kernel) (by decide +kernel), tbs4 7 (by decide +kernel), tb1 16 (by decide +kernel) (by decide +kernel), tb5 152 (by decide +kernel) (by decide +kernel), ⟨by decide, by decide, by decide +kernel⟩⟩
theorem cv_RX11_253_X6_countFalse : CV RX11 253 MX6_countFalse 2 := ⟨tb5 145 (by decide +kernel) (by decide +kernel), tb5 146 (by decide +kernel) (by decide +kernel), tb5 147 (by decide +kernel) (by decide +kernel), tb1 16 (by decide +kernel) (by decide +kernel), tb5 148 (by decide +kernel) (by decide +kernel), ⟨by decide, by decide, by decide +kernel⟩⟩
theorem cv_RX11_256_X6_countOpen : CV RX11 256 MX6_countOpen 2 := ⟨tb5 158 (by decide +kernel) (by decide +kernel), tb5 159 (by decide +kernel) (by decide +kernel), tb5 160 (by decide +kernel) (by decide +kernel), tb1 16 (by decide +kernel) (by decide +kernel), tb5 161 (by decide +kernel) (by decide +kernel), ⟨by decide, by decide, by decide +kernel⟩⟩
theorem cv_RX11_259_X6_firstFalse : CV RX11 259 MX6_firstFalse 2 := ⟨tb5 162 (by decide +kernel) (by decide +kernel), tb5 163 (by decide +kernel) (by decide +kernel), tb5 164 (by decide +kernel) (by decide +kernel), tb1 16 (by decide +kernel) (by decide +kernel), tb5 165 (by decide +kernel) (by decide +kernel), ⟨by decide, by decide, by decide +kernel⟩⟩
theorem cv_RX6_48_X6_contradictsEarlier : CV RX6 48 MX6_contradictsEarlier 2 := ⟨tb5 170 (by decide +kernel) (by decide +kernel), tb5 172 (by decide +kernel) (by decide +kernel), tbs4 9 (by decide +kernel), tb1 16 (by decide +kernel) (by decide +kernel), tb5 173 (by decide +kernel) (by decide +kernel), ⟨by decide, by decide, by decide +kernel⟩⟩
theorem cv_RX11_262_X6_firstDouble : CV RX11 262 MX6_firstDouble 1 := ⟨tb5 166 (by decide +kernel) (by decide +kernel), tb5 167 (by decide +kernel) (by decide +kernel), tb5 168 (by decide +kernel) (by decide +kernel), tb1 16 (by decide +kernel) (by decide +kernel), tb5 169 (by decide +kernel) (by decide +kernel), ⟨by decide, by decide, by decide +kernel⟩⟩
theorem cv_RX11_268_X2_copyFrom : CV RX11 268 MX2_copyFrom 1 := ⟨tb5 182 (by decide +kernel) (by decide +kernel), tb4 217 (by decide +kernel) (by decide +kernel), tb4 218 (by decide +kernel) (by decide +kernel), tb1 12 (by decide +kernel) (by decide +kernel), tb4 219 (by decide +kernel) (by decide +kernel), ⟨by decide, by decide, by decide +kernel⟩⟩
theorem cv_RX12_199_X12_four : CV RX12 199 MX12_four 1 := ⟨tb7 38 (by decide +kernel) (by decide +kernel), tb7 40 (by decide +kernel) (by decide +kernel), tbs4 11 (by decide +kernel), tb1 17 (by decide +kernel) (by decide +kernel), tb7 41 (by decide +kernel) (by decide +kernel), ⟨by decide, by decide, by decide +kernel⟩⟩
theorem cv_RX12_452_X12_fresh : CV RX12 452 MX12_fresh 0 := ⟨tb7 209 (by decide +kernel) (by decide +kernel), tb7 211 (by decide +kernel) (by decide +kernel), tbs6 9 (by decide +kernel), tb1 17 (by decide +kernel) (by decide +kernel), tb7 212 (by decide +kernel) (by decide +kernel), ⟨by decide, by decide, by decide +kernel⟩⟩
theorem cv_RX12_193_X12_layFar : CV RX12 193 MX12_layFar 0 := ⟨tb5 197 (by decide +kernel) (by decide +kernel), tb5 199 (by decide +kernel) (by decide +kernel), tbs4 10 (by decide +kernel), tb1 17 (by decide +kernel) (by decide +kernel), tb5 200 (by decide +kernel) (by decide +kernel), ⟨by decide, by decide, by decide +kernel⟩⟩
theorem cv_RX12_226_X12_isLetter : CS RX12 226 MX12_isLetter 1 := ⟨tb7 58 (by decide +kernel) (by decide +kernel), tb7 59 (by decide +kernel) (by decide +kernel), tb1 17 (by decide +kernel) (by decide +kernel), tb7 60 (by decide +kernel) (by decide +kernel), ⟨by decide, by decide, by decide +kernel⟩⟩
theorem cv_RX12_209_X12_here : CV RX12 209 MX12_here 1 := ⟨tb7 54 (by decide +kernel) (by decide +kernel), tb7 56 (by decide +kernel) (by decide +kernel), tbs4 13 (by decide +kernel), tb1 17 (by decide +kernel) (by decide +kernel), tb7 57 (by decide +kernel) (by decide +kernel), ⟨by decide, by decide, by decide +kernel⟩⟩
theorem cv_RX12_230_X12_isDigit : CS RX12 230 MX12_isDigit 1 := ⟨tb7 61 (by decide +kernel) (by decide +kernel), tb7 62 (by decide +kernel) (by decide +kernel), tb1 17 (by decide +kernel) (by decide +kernel), tb7 63 (by decide +kernel) (by decide +kernel), ⟨by decide, by decide, by decide +kernel⟩⟩
theorem cv_RX12_233_X12_isSign : CS RX12 233 MX12_isSign 1 := ⟨tb7 64 (by decide +kernel) (by decide +kernel), tb7 65 (by decide +kernel) (by decide +kernel), tb1 17 (by decide +kernel) (by decide +kernel), tb7 66 (by decide +kernel) (by decide +kernel), ⟨by decide, by decide, by decide +kernel⟩⟩
theorem cv_RX12_302_X12_token : CV RX12 302 MX12_token 0 := ⟨tb7 50 (by decide +kernel) (by decide +kernel), tb7 52 (by decide +kernel) (by decide +kernel), tbs4 12 (by decide +kernel), tb1 17 (by decide +kernel) (by decide +kernel), tb7 53 (by decide +kernel) (by decide +kernel), ⟨by decide, by decide, by decide +kernel⟩⟩
theorem cv_RX12_299_X12_wrong : CV RX12 299 MX12_wrong 1 := ⟨tb7 115 (by decide +kernel) (by decide +kernel), tb7 117 (by decide +kernel) (by decide +kernel), tbs5 3 (by decide +kernel), tb1 17 (by decide +kernel) (by decide +kernel), tb7 118 (by decide +kernel) (by decide +kernel), ⟨by decide, by decide, by decide +kernel⟩⟩
theorem cv_RX12_309_X12_toldNumber : CV RX12 309 MX12_toldNumber 2 := ⟨tb7 130 (by decide +kernel) (by decide +kernel), tb7 132 (by decide +kernel) (by decide +kernel), tbs5 6 (by decide +kernel), tb1 17 (by decide +kernel) (by decide +kernel), tb7 133 (by decide +kernel) (by decide +kernel), ⟨by decide, by decide, by decide +kernel⟩⟩
theorem cv_RX12_425_X12_readLate : CV RX12 425 MX12_readLate 0 := ⟨tb7 205 (by decide +kernel) (by decide +kernel), tb7 207 (by decide +kernel) (by decide +kernel), tbs6 8 (by decide +kernel), tb1 17 (by decide +kernel) (by decide +kernel), tb7 208 (by decide +kernel) (by decide +kernel), ⟨by decide, by decide, by decide +kernel⟩⟩
theorem cv_RX12_295_X12_isWord : CV RX12 295 MX12_isWord 1 := ⟨tb7 72 (by decide +kernel) (by decide +kernel), tb7 74 (by decide +kernel) (by decide +kernel), tbs4 15 (by decide +kernel), tb1 17 (by decide +kernel) (by decide +kernel), tb7 75 (by decide +kernel) (by decide +kernel), ⟨by decide, by decide, by decide +kernel⟩⟩
theorem cv_RX12_422_X12_readLaw : CV RX12 422 MX12_readLaw 0 := ⟨tb7 201 (by decide +kernel) (by decide +kernel), tb7 203 (by decide +kernel) (by decide +kernel), tbs6 7 (by decide +kernel), tb1 17 (by decide +kernel) (by decide +kernel), tb7 204 (by decide +kernel) (by decide +kernel), ⟨by decide, by decide, by decide +kernel⟩⟩
theorem cv_RX12_367_X12_find : CS RX12 367 MX12_find 3 := ⟨tb7 119 (by decide +kernel) (by decide +kernel), tb7 120 (by decide +kernel) (by decide +kernel), tb1 17 (by decide +kernel) (by decide +kernel), tb7 121 (by decide +kernel) (by decide +kernel), ⟨by decide, by decide, by decide +kernel⟩⟩
theorem cv_RX12_364_X12_isName : CV RX12 364 MX12_isName 0 := ⟨tb7 84 (by decide +kernel) (by decide +kernel), tb7 86 (by decide +kernel) (by decide +kernel), tbs5 2 (by decide +kernel), tb1 17 (by decide +kernel) (by decide +kernel), tb7 87 (by decide +kernel) (by decide +kernel), ⟨by decide, by decide, by decide +kernel⟩⟩
theorem cv_RX12_374_X12_oldPlace : CV RX12 374 MX12_oldPlace 0 := ⟨tb7 138 (by decide +kernel) (by decide +kernel), tb7 140 (by decide +kernel) (by decide +kernel), tbs5 8 (by decide +kernel), tb1 17 (by decide +kernel) (by decide +kernel), tb7 141 (by decide +kernel) (by decide +kernel), ⟨by decide, by decide, by decide +kernel⟩⟩
theorem cv_RX12_305_X12_want : CV RX12 305 MX12_want 1 := ⟨tb7 126 (by decide +kernel) (by decide +kernel), tb7 128 (by decide +kernel) (by decide +kernel), tbs5 5 (by decide +kernel), tb1 17 (by decide +kernel) (by decide +kernel), tb7 129 (by decide +kernel) (by decide +kernel), ⟨by decide, by decide, by decide +kernel⟩⟩
theorem cv_RX12_322_X12_note : CV RX12 322 MX12_note 2 := ⟨tb7 185 (by decide +kernel) (by decide +kernel), tb7 187 (by decide +kernel) (by decide +kernel), tbs6 3 (by decide +kernel), tb1 17 (by decide +kernel) (by decide +kernel), tb7 188 (by decide +kernel) (by decide +kernel), ⟨by decide, by decide, by decide +kernel⟩⟩
theorem cv_RX12_333_X12_pop : CV RX12 333 MX12_pop 0 := ⟨tb7 181 (by decide +kernel) (by decide +kernel), tb7 183 (by decide +kernel) (by decide +kernel), tbs6 2 (by decide +kernel), tb1 17 (by decide +kernel) (by decide +kernel), tb7 184 (by decide +kernel) (by decide +kernel), ⟨by decide, by decide, by decide +kernel⟩⟩
theorem cv_RX12_330_X12_rank : CS RX12 330 MX12_rank 1 := ⟨tb7 178 (by decide +kernel) (by decide +kernel), tb7 179 (by decide +kernel) (by decide +kernel), tb1 17 (by decide +kernel) (by decide +kernel), tb7 180 (by decide +kernel) (by decide +kernel), ⟨by decide, by decide, by decide +kernel⟩⟩
theorem cv_RX12_326_X12_upper : CV RX12 326 MX12_upper 0 := ⟨tb7 174 (by decide +kernel) (by decide +kernel), tb7 176 (by decide +kernel) (by decide +kernel), tbs6 1 (by decide +kernel), tb1 17 (by decide +kernel) (by decide +kernel), tb7 177 (by decide +kernel) (by decide +kernel), ⟨by decide, by decide, by decide +kernel⟩⟩
theorem cv_RX12_352_X12_settle : CV RX12 352 MX12_settle 1 := ⟨tb7 170 (by decide +kernel) (by decide +kernel), tb7 172 (by decide +kernel) (by decide +kernel), tbs6 0 (by decide +kernel), tb1 17 (by decide +kernel) (by decide +kernel), tb7 173 (by decide +kernel) (by decide +kernel), ⟨by decide, by decide, by decide +kernel⟩⟩
theorem cv_RX12_342_X12_hold : CV RX12 342 MX12_hold 1 := ⟨tb7 189 (by decide +kernel) (by decide +kernel), tb7 191 (by decide +kernel) (by decide +kernel), tbs6 4 (by decide +kernel), tb1 17 (by decide +kernel) (by decide +kernel), tb7 192 (by decide +kernel) (by decide +kernel), ⟨by decide, by decide, by decide +kernel⟩⟩
theorem cv_RX12_336_X12_known : CV RX12 336 MX12_known 0 := ⟨tb7 197 (by decide +kernel) (by decide +kernel), tb7 199 (by decide +kernel) (by decide +kernel), tbs6 6 (by decide +kernel), tb1 17 (by decide +kernel) (by decide +kernel), tb7 200 (by decide +kernel) (by decide +kernel), ⟨by decide, by decide, by decide +kernel⟩⟩
theorem cv_RX12_361_X12_operand : CV RX12 361 MX12_operand 1 := ⟨tb7 193 (by decide +kernel) (by decide +kernel), tb7 195 (by decide +kernel) (by decide +kernel), tbs6 5 (by decide +kernel), tb1 17 (by decide +kernel) (by decide +kernel), tb7 196 (by decide +kernel) (by decide +kernel), ⟨by decide, by decide, by decide +kernel⟩⟩
theorem cv_RX12_348_X12_isOpen : CV RX12 348 MX12_isOpen 0 := ⟨tb7 158 (by decide +kernel) (by decide +kernel), tb7 160 (by decide +kernel) (by decide +kernel), tbs5 13 (by decide +kernel), tb1 17 (by decide +kernel) (by decide +kernel), tb7 161 (by decide +kernel) (by decide +kernel), ⟨by decide, by decide, by decide +kernel⟩⟩
theorem cv_RX12_345_X12_signOf : CV RX12 345 MX12_signOf 0 := ⟨tb7 166 (by decide +kernel) (by decide +kernel), tb7 168 (by decide +kernel) (by decide +kernel), tbs5 15 (by decide +kernel), tb1 17 (by decide +kernel) (by decide +kernel), tb7 169 (by decide +kernel) (by decide +kernel), ⟨by decide, by decide, by decide +kernel⟩⟩
theorem cv_RX12_358_X12_sign : CV RX12 358 MX12_sign 0 := ⟨tb7 162 (by decide +kernel) (by decide +kernel), tb7 164 (by decide +kernel) (by decide +kernel), tbs5 14 (by decide +kernel), tb1 17 (by decide +kernel) (by decide +kernel), tb7 165 (by decide +kernel) (by decide +kernel), ⟨by decide, by decide, by decide +kernel⟩⟩
theorem cv_RX12_394_X12_readStands : CV RX12 394 MX12_readStands 0 := ⟨tb7 154 (by decide +kernel) (by decide +kernel), tb7 156 (by decide +kernel) (by decide +kernel), tbs5 12 (by decide +kernel), tb1 17 (by decide +kernel) (by decide +kernel), tb7 157 (by decide +kernel) (by decide +kernel), ⟨by decide, by decide, by decide +kernel⟩⟩
theorem cv_RX12_381_X12_told : CV RX12 381 MX12_told 3 := ⟨tb7 122 (by decide +kernel) (by decide +kernel), tb7 124 (by decide +kernel) (by decide +kernel), tbs5 4 (by decide +kernel), tb1 17 (by decide +kernel) (by decide +kernel), tb7 125 (by decide +kernel) (by decide +kernel), ⟨by decide, by decide, by decide +kernel⟩⟩
theorem cv_RX12_391_X12_atPlace : CV RX12 391 MX12_atPlace 0 := ⟨tb7 146 (by decide +kernel) (by decide +kernel), tb7 148 (by decide +kernel) (by decide +kernel), tbs5 10 (by decide +kernel), tb1 17 (by decide +kernel) (by decide +kernel), tb7 149 (by decide +kernel) (by decide +kernel), ⟨by decide, by decide, by decide +kernel⟩⟩
theorem cv_RX12_377_X12_newName : CV RX12 377 MX12_newName 2 := ⟨tb7 80 (by decide +kernel) (by decide +kernel), tb7 82 (by decide +kernel) (by decide +kernel), tbs5 1 (by decide +kernel), tb1 17 (by decide +kernel) (by decide +kernel), tb7 83 (by decide +kernel) (by decide +kernel), ⟨by decide, by decide, by decide +kernel⟩⟩
theorem cv_RX12_419_X12_readPerson : CV RX12 419 MX12_readPerson 0 := ⟨tb7 150 (by decide +kernel) (by decide +kernel), tb7 152 (by decide +kernel) (by decide +kernel), tbs5 11 (by decide +kernel), tb1 17 (by decide +kernel) (by decide +kernel), tb7 153 (by decide +kernel) (by decide +kernel), ⟨by decide, by decide, by decide +kernel⟩⟩
theorem cv_RX12_416_X12_readThing : CV RX12 416 MX12_readThing 0 := ⟨tb7 142 (by decide +kernel) (by decide +kernel), tb7 144 (by decide +kernel) (by decide +kernel), tbs5 9 (by decide +kernel), tb1 17 (by decide +kernel) (by decide +kernel), tb7 145 (by decide +kernel) (by decide +kernel), ⟨by decide, by decide, by decide +kernel⟩⟩
theorem cv_RX12_413_X12_readRoad : CV RX12 413 MX12_readRoad 0 := ⟨tb7 134 (by decide +kernel) (by decide +kernel), tb7 136 (by decide +kernel) (by decide +kernel), tbs5 7 (by decide +kernel), tb1 17 (by decide +kernel) (by decide +kernel), tb7 137 (by decide +kernel) (by decide +kernel), ⟨by decide, by decide, by decide +kernel⟩⟩
theorem cv_RX12_410_X12_readPlace : CV RX12 410 MX12_readPlace 0 := ⟨tb7 76 (by decide +kernel) (by decide +kernel), tb7 78 (by decide +kernel) (by decide +kernel), tbs5 0 (by decide +kernel), tb1 17 (by decide +kernel) (by decide +kernel), tb7 79 (by decide +kernel) (by decide +kernel), ⟨by decide, by decide, by decide +kernel⟩⟩
theorem cv_RX12_428_X12_readLine : CV RX12 428 MX12_readLine 0 := ⟨tb7 67 (by decide +kernel) (by decide +kernel), tb7 69 (by decide +kernel) (by decide +kernel), tbs4 14 (by decide +kernel), tb1 17 (by decide +kernel) (by decide +kernel), tb7 70 (by decide +kernel) (by decide +kernel), ⟨by decide, by decide, by decide +kernel⟩⟩
theorem cv_RX12_461_X12_farOf : CV RX12 461 MX12_farOf 2 := ⟨tb7 225 (by decide +kernel) (by decide +kernel), tb7 227 (by decide +kernel) (by decide +kernel), tbs6 11 (by decide +kernel), tb1 17 (by decide +kernel) (by decide +kernel), tb7 228 (by decide +kernel) (by decide +kernel), ⟨by decide, by decide, by decide +kernel⟩⟩
theorem cv_RX12_458_X12_isPlace : CV RX12 458 MX12_isPlace 1 := ⟨tb7 221 (by decide +kernel) (by decide +kernel), tb7 223 (by decide +kernel) (by decide +kernel), tbs6 10 (by decide +kernel), tb1 17 (by decide +kernel) (by decide +kernel), tb7 224 (by decide +kernel) (by decide +kernel), ⟨by decide, by decide, by decide +kernel⟩⟩
theorem cv_RX12_559_X12_allMade : CV RX12 559 MX12_allMade 0 := ⟨tb7 233 (by decide +kernel) (by decide +kernel), tb7 235 (by decide +kernel) (by decide +kernel), tbs6 12 (by decide +kernel), tb1 17 (by decide +kernel) (by decide +kernel), tb7 236 (by decide +kernel) (by decide +kernel), ⟨by decide, by decide, by decide +kernel⟩⟩
theorem cv_RX12_508_X12_worked : CS RX12 508 MX12_worked 3 := ⟨tb8 57 (by decide +kernel) (by decide +kernel), tb8 58 (by decide +kernel) (by decide +kernel), tb1 17 (by decide +kernel) (by decide +kernel), tb8 59 (by decide +kernel) (by decide +kernel), ⟨by decide, by decide, by decide +kernel⟩⟩
theorem cv_RX12_502_X12_placeOf : CV RX12 502 MX12_placeOf 1 := ⟨tb8 41 (by decide +kernel) (by decide +kernel), tb8 43 (by decide +kernel) (by decide +kernel), tbs7 7 (by decide +kernel), tb1 17 (by decide +kernel) (by decide +kernel), tb8 44 (by decide +kernel) (by decide +kernel), ⟨by decide, by decide, by decide +kernel⟩⟩
theorem cv_RX12_505_X12_forceOf : CV RX12 505 MX12_forceOf 1 := ⟨tb8 53 (by decide +kernel) (by decide +kernel), tb8 55 (by decide +kernel) (by decide +kernel), tbs7 10 (by decide +kernel), tb1 17 (by decide +kernel) (by decide +kernel), tb8 56 (by decide +kernel) (by decide +kernel), ⟨by decide, by decide, by decide +kernel⟩⟩
theorem cv_RX12_499_X12_heavyOf : CV RX12 499 MX12_heavyOf 1 := ⟨tb8 49 (by decide +kernel) (by decide +kernel), tb8 51 (by decide +kernel) (by decide +kernel), tbs7 9 (by decide +kernel), tb1 17 (by decide +kernel) (by decide +kernel), tb8 52 (by decide +kernel) (by decide +kernel), ⟨by decide, by decide, by decide +kernel⟩⟩
theorem cv_RX12_511_X12_asksOf : CV RX12 511 MX12_asksOf 3 := ⟨tb8 45 (by decide +kernel) (by decide +kernel), tb8 47 (by decide +kernel) (by decide +kernel), tbs7 8 (by decide +kernel), tb1 17 (by decide +kernel) (by decide +kernel), tb8 48 (by decide +kernel) (by decide +kernel), ⟨by decide, by decide, by decide +kernel⟩⟩
theorem cv_RX12_514_X12_aimOf : CV RX12 514 MX12_aimOf 4 := ⟨tb8 37 (by decide +kernel) (by decide +kernel), tb8 39 (by decide +kernel) (by decide +kernel), tbs7 6 (by decide +kernel), tb1 17 (by decide +kernel) (by decide +kernel), tb8 40 (by decide +kernel) (by decide +kernel), ⟨by decide, by decide, by decide +kernel⟩⟩
theorem cv_RX12_542_X12_goTo : CV RX12 542 MX12_goTo 3 := ⟨tb8 33 (by decide +kernel) (by decide +kernel), tb8 35 (by decide +kernel) (by decide +kernel), tbs7 5 (by decide +kernel), tb1 17 (by decide +kernel) (by decide +kernel), tb8 36 (by decide +kernel) (by decide +kernel), ⟨by decide, by decide, by decide +kernel⟩⟩
theorem cv_RX12_530_X12_nth : CS RX12 530 MX12_nth 2 := ⟨tb8 83 (by decide +kernel) (by decide +kernel), tb8 84 (by decide +kernel) (by decide +kernel), tb1 17 (by decide +kernel) (by decide +kernel), tb8 85 (by decide +kernel) (by decide +kernel), ⟨by decide, by decide, by decide +kernel⟩⟩
theorem cv_RX12_533_X12_draw : CV RX12 533 MX12_draw 1 := ⟨tb8 20 (by decide +kernel) (by decide +kernel), tb8 22 (by decide +kernel) (by decide +kernel), tbs7 2 (by decide +kernel), tb1 17 (by decide +kernel) (by decide +kernel), tb8 23 (by decide +kernel) (by decide +kernel), ⟨by decide, by decide, by decide +kernel⟩⟩
theorem cv_RX12_527_X12_firstBy : CV RX12 527 MX12_firstBy 2 := ⟨tb8 79 (by decide +kernel) (by decide +kernel), tb8 81 (by decide +kernel) (by decide +kernel), tbs7 15 (by decide +kernel), tb1 17 (by decide +kernel) (by decide +kernel), tb8 82 (by decide +kernel) (by decide +kernel), ⟨by decide, by decide, by decide +kernel⟩⟩
theorem cv_RX12_521_X12_ones : CS RX12 521 MX12_ones 1 := ⟨tb8 76 (by decide +kernel) (by decide +kernel), tb8 77 (by decide +kernel) (by decide +kernel), tb1 17 (by decide +kernel) (by decide +kernel), tb8 78 (by decide +kernel) (by decide +kernel), ⟨by decide, by decide, by decide +kernel⟩⟩
theorem cv_RX12_524_X12_takersOf : CV RX12 524 MX12_takersOf 1 := ⟨tb8 64 (by decide +kernel) (by decide +kernel), tb8 66 (by decide +kernel) (by decide +kernel), tbs7 12 (by decide +kernel), tb1 17 (by decide +kernel) (by decide +kernel), tb8 67 (by decide +kernel) (by decide +kernel), ⟨by decide, by decide, by decide +kernel⟩⟩
theorem cv_RX12_518_X12_standersOf : CV RX12 518 MX12_standersOf 1 := ⟨tb8 72 (by decide +kernel) (by decide +kernel), tb8 74 (by decide +kernel) (by decide +kernel), tbs7 14 (by decide +kernel), tb1 17 (by decide +kernel) (by decide +kernel), tb8 75 (by decide +kernel) (by decide +kernel), ⟨by decide, by decide, by decide +kernel⟩⟩
theorem cv_RX12_539_X12_giveBy : CV RX12 539 MX12_giveBy 2 := ⟨tb8 68 (by decide +kernel) (by decide +kernel), tb8 70 (by decide +kernel) (by decide +kernel), tbs7 13 (by decide +kernel), tb1 17 (by decide +kernel) (by decide +kernel), tb8 71 (by decide +kernel) (by decide +kernel), ⟨by decide, by decide, by decide +kernel⟩⟩
theorem cv_RX12_549_X12_noonOf : CV RX12 549 MX12_noonOf 2 := ⟨tb8 60 (by decide +kernel) (by decide +kernel), tb8 62 (by decide +kernel) (by decide +kernel), tbs7 11 (by decide +kernel), tb1 17 (by decide +kernel) (by decide +kernel), tb8 63 (by decide +kernel) (by decide +kernel), ⟨by decide, by decide, by decide +kernel⟩⟩
theorem cv_RX12_546_X12_beginNoons : CV RX12 546 MX12_beginNoons 1 := ⟨tb8 29 (by decide +kernel) (by decide +kernel), tb8 31 (by decide +kernel) (by decide +kernel), tbs7 4 (by decide +kernel), tb1 17 (by decide +kernel) (by decide +kernel), tb8 32 (by decide +kernel) (by decide +kernel), ⟨by decide, by decide, by decide +kernel⟩⟩
theorem cv_RX12_555_X12_doNoons : CV RX12 555 MX12_doNoons 2 := ⟨tb8 25 (by decide +kernel) (by decide +kernel), tb8 27 (by decide +kernel) (by decide +kernel), tbs7 3 (by decide +kernel), tb1 17 (by decide +kernel) (by decide +kernel), tb8 28 (by decide +kernel) (by decide +kernel), ⟨by decide, by decide, by decide +kernel⟩⟩
theorem cv_RX12_493_X12_mend : CV RX12 493 MX12_mend 1 := ⟨tb8 16 (by decide +kernel) (by decide +kernel), tb8 18 (by decide +kernel) (by decide +kernel), tbs7 1 (by decide +kernel), tb1 17 (by decide +kernel) (by decide +kernel), tb8 19 (by decide +kernel) (by decide +kernel), ⟨by decide, by decide, by decide +kernel⟩⟩
theorem cv_RX12_483_X12_hardOf : CV RX12 483 MX12_hardOf 1 := ⟨tb8 9 (by decide +kernel) (by decide +kernel), tb8 11 (by decide +kernel) (by decide +kernel), tbs7 0 (by decide +kernel), tb1 17 (by decide +kernel) (by decide +kernel), tb8 12 (by decide +kernel) (by decide +kernel), ⟨by decide, by decide, by decide +kernel⟩⟩
theorem cv_RX12_486_X12_lower : CS RX12 486 MX12_lower 3 := ⟨tb8 13 (by decide +kernel) (by decide +kernel), tb8 14 (by decide +kernel) (by decide +kernel), tb1 17 (by decide +kernel) (by decide +kernel), tb8 15 (by decide +kernel) (by decide +kernel), ⟨by decide, by decide, by decide +kernel⟩⟩
theorem cv_RX12_490_X12_use : CV RX12 490 MX12_use 1 := ⟨tb8 5 (by decide +kernel) (by decide +kernel), tb8 7 (by decide +kernel) (by decide +kernel), tbs6 15 (by decide +kernel), tb1 17 (by decide +kernel) (by decide +kernel), tb8 8 (by decide +kernel) (by decide +kernel), ⟨by decide, by decide, by decide +kernel⟩⟩
theorem cv_RX12_552_X12_useAndMend : CV RX12 552 MX12_useAndMend 0 := ⟨tb8 1 (by decide +kernel) (by decide +kernel), tb8 3 (by decide +kernel) (by decide +kernel), tbs6 14 (by decide +kernel), tb1 17 (by decide +kernel) (by decide +kernel), tb8 4 (by decide +kernel) (by decide +kernel), ⟨by decide, by decide, by decide +kernel⟩⟩
theorem cv_RX12_562_X12_doDay : CV RX12 562 MX12_doDay 1 := ⟨tb7 237 (by decide +kernel) (by decide +kernel), tb7 239 (by decide +kernel) (by decide +kernel), tbs6 13 (by decide +kernel), tb1 17 (by decide +kernel) (by decide +kernel), tb8 0 (by decide +kernel) (by decide +kernel), ⟨by decide, by decide, by decide +kernel⟩⟩
theorem cv_RX12_565_X12_isThing : CV RX12 565 MX12_isThing 1 := ⟨tb8 90 (by decide +kernel) (by decide +kernel), tb8 92 (by decide +kernel) (by decide +kernel), tbs8 0 (by decide +kernel), tb1 17 (by decide +kernel) (by decide +kernel), tb8 93 (by decide +kernel) (by decide +kernel), ⟨by decide, by decide, by decide +kernel⟩⟩
theorem cv_RX12_571_X12_ownedBy : CV RX12 571 MX12_ownedBy 1 := ⟨tb8 102 (by decide +kernel) (by decide +kernel), tb8 104 (by decide +kernel) (by decide +kernel), tbs8 2 (by decide +kernel), tb1 17 (by decide +kernel) (by decide +kernel), tb8 105 (by decide +kernel) (by decide +kernel), ⟨by decide, by decide, by decide +kernel⟩⟩
theorem cv_RX12_568_X12_isPerson : CV RX12 568 MX12_isPerson 1 := ⟨tb8 98 (by decide +kernel) (by decide +kernel), tb8 100 (by decide +kernel) (by decide +kernel), tbs8 1 (by decide +kernel), tb1 17 (by decide +kernel) (by decide +kernel), tb8 101 (by decide +kernel) (by decide +kernel), ⟨by decide, by decide, by decide +kernel⟩⟩
theorem cv_RX12_587_X12_bring : CV RX12 587 MX12_bring 0 := ⟨tb8 135 (by decide +kernel) (by decide +kernel), tb8 137 (by decide +kernel) (by decide +kernel), tbs8 6 (by decide +kernel), tb1 17 (by decide +kernel) (by decide +kernel), tb8 138 (by decide +kernel) (by decide +kernel), ⟨by decide, by decide, by decide +kernel⟩⟩
theorem cv_RX12_575_X12_put : CV RX12 575 MX12_put 0 := ⟨tb8 131 (by decide +kernel) (by decide +kernel), tb8 133 (by decide +kernel) (by decide +kernel), tbs8 5 (by decide +kernel), tb1 17 (by decide +kernel) (by decide +kernel), tb8 134 (by decide +kernel) (by decide +kernel), ⟨by decide, by decide, by decide +kernel⟩⟩
theorem cv_RX12_593_X12_sixtieths : CV RX12 593 MX12_sixtieths 1 := ⟨tb8 139 (by decide +kernel) (by decide +kernel), tb8 141 (by decide +kernel) (by decide +kernel), tbs8 7 (by decide +kernel), tb1 17 (by decide +kernel) (by decide +kernel), tb8 142 (by decide +kernel) (by decide +kernel), ⟨by decide, by decide, by decide +kernel⟩⟩
theorem cv_RX12_590_X12_seekThen : CV RX12 590 MX12_seekThen 2 := ⟨tb8 127 (by decide +kernel) (by decide +kernel), tb8 129 (by decide +kernel) (by decide +kernel), tbs8 4 (by decide +kernel), tb1 17 (by decide +kernel) (by decide +kernel), tb8 130 (by decide +kernel) (by decide +kernel), ⟨by decide, by decide, by decide +kernel⟩⟩
theorem cv_RX12_601_X12_common : CS RX12 601 MX12_common 2 := ⟨tb8 144 (by decide +kernel) (by decide +kernel), tb8 145 (by decide +kernel) (by decide +kernel), tb1 17 (by decide +kernel) (by decide +kernel), tb8 146 (by decide +kernel) (by decide +kernel), ⟨by decide, by decide, by decide +kernel⟩⟩
theorem cv_RX12_596_X12_chanceIn : CV RX12 596 MX12_chanceIn 2 := ⟨tb8 123 (by decide +kernel) (by decide +kernel), tb8 125 (by decide +kernel) (by decide +kernel), tbs8 3 (by decide +kernel), tb1 17 (by decide +kernel) (by decide +kernel), tb8 126 (by decide +kernel) (by decide +kernel), ⟨by decide, by decide, by decide +kernel⟩⟩
theorem cv_RX12_630_X12_lostOf : CV RX12 630 MX12_lostOf 1 := ⟨tb8 183 (by decide +kernel) (by decide +kernel), tb8 185 (by decide +kernel) (by decide +kernel), tbs8 15 (by decide +kernel), tb1 17 (by decide +kernel) (by decide +kernel), tb8 186 (by decide +kernel) (by decide +kernel), ⟨by decide, by decide, by decide +kernel⟩⟩
theorem cv_RX12_605_X12_payOf : CV RX12 605 MX12_payOf 1 := ⟨tb8 179 (by decide +kernel) (by decide +kernel), tb8 181 (by decide +kernel) (by decide +kernel), tbs8 14 (by decide +kernel), tb1 17 (by decide +kernel) (by decide +kernel), tb8 182 (by decide +kernel) (by decide +kernel), ⟨by decide, by decide, by decide +kernel⟩⟩
theorem cv_RX12_608_X12_mayStand : CV RX12 608 MX12_mayStand 2 := ⟨tb8 171 (by decide +kernel) (by decide +kernel), tb8 173 (by decide +kernel) (by decide +kernel), tbs8 12 (by decide +kernel), tb1 17 (by decide +kernel) (by decide +kernel), tb8 174 (by decide +kernel) (by decide +kernel), ⟨by decide, by decide, by decide +kernel⟩⟩
theorem cv_RX12_612_X12_choose : CV RX12 612 MX12_choose 2 := ⟨tb8 167 (by decide +kernel) (by decide +kernel), tb8 169 (by decide +kernel) (by decide +kernel), tbs8 11 (by decide +kernel), tb1 17 (by decide +kernel) (by decide +kernel), tb8 170 (by decide +kernel) (by decide +kernel), ⟨by decide, by decide, by decide +kernel⟩⟩
theorem cv_RX12_627_X12_isAtRest : CV RX12 627 MX12_isAtRest 0 := ⟨tb8 175 (by decide +kernel) (by decide +kernel), tb8 177 (by decide +kernel) (by decide +kernel), tbs8 13 (by decide +kernel), tb1 17 (by decide +kernel) (by decide +kernel), tb8 178 (by decide +kernel) (by decide +kernel), ⟨by decide, by decide, by decide +kernel⟩⟩
theorem cv_RX12_624_X12_layRow : CV RX12 624 MX12_layRow 1 := ⟨tb8 163 (by decide +kernel) (by decide +kernel), tb8 165 (by decide +kernel) (by decide +kernel), tbs8 10 (by decide +kernel), tb1 17 (by decide +kernel) (by decide +kernel), tb8 166 (by decide +kernel) (by decide +kernel), ⟨by decide, by decide, by decide +kernel⟩⟩
theorem cv_RX12_636_X12_seekRest : CV RX12 636 MX12_seekRest 1 := ⟨tb8 159 (by decide +kernel) (by decide +kernel), tb8 161 (by decide +kernel) (by decide +kernel), tbs8 9 (by decide +kernel), tb1 17 (by decide +kernel) (by decide +kernel), tb8 162 (by decide +kernel) (by decide +kernel), ⟨by decide, by decide, by decide +kernel⟩⟩
theorem cv_RX12_633_X12_isTooMany : CV RX12 633 MX12_isTooMany 0 := ⟨tb8 155 (by decide +kernel) (by decide +kernel), tb8 157 (by decide +kernel) (by decide +kernel), tbs8 8 (by decide +kernel), tb1 17 (by decide +kernel) (by decide +kernel), tb8 158 (by decide +kernel) (by decide +kernel), ⟨by decide, by decide, by decide +kernel⟩⟩
theorem cv_RX12_642_X12_madeBy : CV RX12 642 MX12_madeBy 2 := ⟨tb8 198 (by decide +kernel) (by decide +kernel), tb8 200 (by decide +kernel) (by decide +kernel), tbs9 0 (by decide +kernel), tb1 17 (by decide +kernel) (by decide +kernel), tb8 201 (by decide +kernel) (by decide +kernel), ⟨by decide, by decide, by decide +kernel⟩⟩
theorem cv_RX12_639_X12_isTerm : CS RX12 639 MX12_isTerm 1 := ⟨tb8 195 (by decide +kernel) (by decide +kernel), tb8 196 (by decide +kernel) (by decide +kernel), tb1 17 (by decide +kernel) (by decide +kernel), tb8 197 (by decide +kernel) (by decide +kernel), ⟨by decide, by decide, by decide +kernel⟩⟩
theorem cv_RX12_651_X12_usedOf : CV RX12 651 MX12_usedOf 4 := ⟨tb8 215 (by decide +kernel) (by decide +kernel), tb8 217 (by decide +kernel) (by decide +kernel), tbs9 2 (by decide +kernel), tb1 17 (by decide +kernel) (by decide +kernel), tb8 218 (by decide +kernel) (by decide +kernel), ⟨by decide, by decide, by decide +kernel⟩⟩
theorem cv_RX12_658_X12_bestUse : CV RX12 658 MX12_bestUse 3 := ⟨tb8 210 (by decide +kernel) (by decide +kernel), tb8 212 (by decide +kernel) (by decide +kernel), tbs9 1 (by decide +kernel), tb1 17 (by decide +kernel) (by decide +kernel), tb8 213 (by decide +kernel) (by decide +kernel), ⟨by decide, by decide, by decide +kernel⟩⟩
theorem cv_RX12_662_X12_hasThing : CV RX12 662 MX12_hasThing 1 := ⟨tb8 229 (by decide +kernel) (by decide +kernel), tb8 231 (by decide +kernel) (by decide +kernel), tbs9 3 (by decide +kernel), tb1 17 (by decide +kernel) (by decide +kernel), tb8 232 (by decide +kernel) (by decide +kernel), ⟨by decide, by decide, by decide +kernel⟩⟩
theorem cv_RX12_675_X12_isFalse : CV RX12 675 MX12_isFalse 1 := ⟨tb9 22 (by decide +kernel) (by decide +kernel), tb9 24 (by decide +kernel) (by decide +kernel), tbs9 6 (by decide +kernel), tb1 17 (by decide +kernel) (by decide +kernel), tb9 25 (by decide +kernel) (by decide +kernel), ⟨by decide, by decide, by decide +kernel⟩⟩
theorem cv_RX12_669_X12_counts : CV RX12 669 MX12_counts 2 := ⟨tb9 14 (by decide +kernel) (by decide +kernel), tb9 16 (by decide +kernel) (by decide +kernel), tbs9 4 (by decide +kernel), tb1 17 (by decide +kernel) (by decide +kernel), tb9 17 (by decide +kernel) (by decide +kernel), ⟨by decide, by decide, by decide +kernel⟩⟩
theorem cv_RX12_672_X12_isDouble : CV RX12 672 MX12_isDouble 2 := ⟨tb9 18 (by decide +kernel) (by decide +kernel), tb9 20 (by decide +kernel) (by decide +kernel), tbs9 5 (by decide +kernel), tb1 17 (by decide +kernel) (by decide +kernel), tb9 21 (by decide +kernel) (by decide +kernel), ⟨by decide, by decide, by decide +kernel⟩⟩
theorem cv_RX12_678_X12_isBox : CS RX12 678 MX12_isBox 1 := ⟨tb9 34 (by decide +kernel) (by decide +kernel), tb9 35 (by decide +kernel) (by decide +kernel), tb1 17 (by decide +kernel) (by decide +kernel), tb9 36 (by decide +kernel) (by decide +kernel), ⟨by decide, by decide, by decide +kernel⟩⟩
