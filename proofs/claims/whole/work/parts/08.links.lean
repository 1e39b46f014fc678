def e_X0_init : ME := (yX0_init, cX0_init, 1, none, 0, 1)
def e_X0_prepare : ME := (yX0_prepare, cX0_prepare, 3, none, 0, 3)
def e_X0_startAt : ME := (yX0_startAt, cX0_startAt, 8, some .int, 1, 7)
def e_X0_fallingBits : ME := (yX0_fallingBits, cX0_fallingBits, 9, some .int, 1, 6)
def e_X0_enter : ME := (yX0_enter, cX0_enter, 4, none, 0, 1)
def e_X1_init : ME := (yX1_init, cX1_init, 1, none, 0, 1)
def e_X1_empty : ME := (yX1_empty, cX1_empty, 1, none, 0, 1)
def e_X1_addNumber : ME := (yX1_addNumber, cX1_addNumber, 2, none, 0, 1)
def e_X1_addKind : ME := (yX1_addKind, cX1_addKind, 2, none, 0, 1)
def e_X1_tell : ME := (yX1_tell, cX1_tell, 3, none, 0, 1)
def e_X1_wipeVars : ME := (yX1_wipeVars, cX1_wipeVars, 2, none, 0, 1)
def e_X1_put : ME := (yX1_put, cX1_put, 3, none, 0, 2)
def e_X1_someHolds : ME := (yX1_someHolds, cX1_someHolds, 4, some .boolean, 1, 4)
def e_X1_value : ME := (yX1_value, cX1_value, 4, some .int, 1, 3)
def e_X1_push : ME := (yX1_push, cX1_push, 2, none, 0, 1)
def e_X1_turnRound : ME := (yX1_turnRound, cX1_turnRound, 1, none, 0, 1)
def e_X1_join : ME := (yX1_join, cX1_join, 4, none, 0, 2)
def e_X1_holds : ME := (yX1_holds, cX1_holds, 3, some .boolean, 1, 1)
def e_X1_reckon : ME := (yX1_reckon, cX1_reckon, 4, some .int, 1, 1)
def e_X2_init : ME := (yX2_init, cX2_init, 1, none, 0, 1)
def e_X2_copyFrom : ME := (yX2_copyFrom, cX2_copyFrom, 2, none, 0, 1)
def e_X2_add : ME := (yX2_add, cX2_add, 5, some .int, 1, 1)
def e_X2_canBeVoid : ME := (yX2_canBeVoid, cX2_canBeVoid, 2, some .boolean, 1, 1)
def e_X2_strike : ME := (yX2_strike, cX2_strike, 3, none, 0, 1)
def e_X2_tally : ME := (yX2_tally, cX2_tally, 5, none, 0, 2)
def e_X2_lastChoice : ME := (yX2_lastChoice, cX2_lastChoice, 6, some .int, 1, 1)
def e_X2_endsOf : ME := (yX2_endsOf, cX2_endsOf, 9, some .int, 1, 3)
def e_X2_isMarkOf : ME := (yX2_isMarkOf, cX2_isMarkOf, 3, some .boolean, 1, 1)
def e_X2_contradicted : ME := (yX2_contradicted, cX2_contradicted, 4, some .boolean, 1, 2)
def e_X3_init : ME := (yX3_init, cX3_init, 1, none, 0, 1)
def e_X3_search : ME := (yX3_search, cX3_search, 9, none, 0, 5)
def e_X3_bring : ME := (yX3_bring, cX3_bring, 4, none, 0, 1)
def e_X3_fewestFrom : ME := (yX3_fewestFrom, cX3_fewestFrom, 7, some .int, 1, 2)
def e_X3_fewest : ME := (yX3_fewest, cX3_fewest, 1, some .int, 1, 1)
def e_X3_firstNight : ME := (yX3_firstNight, cX3_firstNight, 6, some .int, 1, 2)
def e_X3_houseBits : ME := (yX3_houseBits, cX3_houseBits, 4, some .int, 1, 1)
def e_X4_init : ME := (yX4_init, cX4_init, 1, none, 0, 3)
def e_X4_begin : ME := (yX4_begin, cX4_begin, 1, none, 0, 3)
def e_X4_readText : ME := (yX4_readText, cX4_readText, 3, some .int, 1, 7)
def e_X4_readLone : ME := (yX4_readLone, cX4_readLone, 4, some .int, 1, 4)
def e_X4_readHouse : ME := (yX4_readHouse, cX4_readHouse, 2, none, 0, 4)
def e_X4_readOffice : ME := (yX4_readOffice, cX4_readOffice, 2, none, 0, 4)
def e_X4_readIn : ME := (yX4_readIn, cX4_readIn, 3, none, 0, 4)
def e_X4_readStair : ME := (yX4_readStair, cX4_readStair, 5, none, 0, 4)
def e_X4_readQuay : ME := (yX4_readQuay, cX4_readQuay, 2, none, 0, 4)
def e_X4_readWood : ME := (yX4_readWood, cX4_readWood, 2, none, 0, 4)
def e_X4_readLaw : ME := (yX4_readLaw, cX4_readLaw, 3, none, 0, 6)
def e_X4_readRule : ME := (yX4_readRule, cX4_readRule, 4, none, 0, 6)
def e_X4_readFormula : ME := (yX4_readFormula, cX4_readFormula, 3, none, 0, 5)
def e_X4_readUnit : ME := (yX4_readUnit, cX4_readUnit, 3, none, 0, 4)
def e_X4_readOpen : ME := (yX4_readOpen, cX4_readOpen, 1, none, 0, 3)
def e_X4_readBetween : ME := (yX4_readBetween, cX4_readBetween, 2, none, 0, 4)
def e_X4_readJoint : ME := (yX4_readJoint, cX4_readJoint, 3, none, 0, 3)
def e_X4_readClose : ME := (yX4_readClose, cX4_readClose, 1, none, 0, 3)
def e_X4_keepWaiting : ME := (yX4_keepWaiting, cX4_keepWaiting, 2, none, 0, 1)
def e_X4_release : ME := (yX4_release, cX4_release, 3, none, 0, 2)
def e_X4_bond : ME := (yX4_bond, cX4_bond, 1, some .int, 1, 1)
def e_X4_readNewName : ME := (yX4_readNewName, cX4_readNewName, 5, none, 0, 3)
def e_X4_readHouseName : ME := (yX4_readHouseName, cX4_readHouseName, 5, some .int, 1, 3)
def e_X4_readOfficeName : ME := (yX4_readOfficeName, cX4_readOfficeName, 5, some .int, 1, 3)
def e_X4_ownerOf : ME := (yX4_ownerOf, cX4_ownerOf, 4, some .int, 1, 1)
def e_X4_readInt : ME := (yX4_readInt, cX4_readInt, 5, some .int, 1, 3)
def e_X4_takeFirst : ME := (yX4_takeFirst, cX4_takeFirst, 4, some .boolean, 1, 3)
def e_X4_take : ME := (yX4_take, cX4_take, 2, some .boolean, 1, 2)
def e_X4_fail : ME := (yX4_fail, cX4_fail, 2, none, 0, 1)
def e_X4_failLate : ME := (yX4_failLate, cX4_failLate, 3, none, 0, 1)
def e_X4_kind : ME := (yX4_kind, cX4_kind, 1, some .int, 1, 1)
def e_X4_start : ME := (yX4_start, cX4_start, 1, some .int, 1, 1)
def e_X4_value : ME := (yX4_value, cX4_value, 1, some .long, 2, 1)
def e_X4_intValue : ME := (yX4_intValue, cX4_intValue, 1, some .int, 1, 2)
def e_X5_init : ME := (yX5_init, cX5_init, 1, none, 0, 1)
def e_X5_add : ME := (yX5_add, cX5_add, 2, some .int, 1, 1)
def e_X5_prices : ME := (yX5_prices, cX5_prices, 5, none, 0, 1)
def e_X5_fill : ME := (yX5_fill, cX5_fill, 3, some .int, 1, 5)
def e_X5_canBe : ME := (yX5_canBe, cX5_canBe, 3, some .boolean, 1, 2)
def e_X5_behind : ME := (yX5_behind, cX5_behind, 3, some .int, 1, 3)
def e_X5_fillLevel : ME := (yX5_fillLevel, cX5_fillLevel, 3, none, 0, 4)
def e_X5_fillUp : ME := (yX5_fillUp, cX5_fillUp, 4, none, 0, 4)
def e_X5_fillDown : ME := (yX5_fillDown, cX5_fillDown, 4, none, 0, 4)
def e_X5_heightIn : ME := (yX5_heightIn, cX5_heightIn, 5, some .int, 1, 5)
def e_X5_nextHeight : ME := (yX5_nextHeight, cX5_nextHeight, 4, some .int, 1, 4)
def e_X5_stepCost : ME := (yX5_stepCost, cX5_stepCost, 3, some .int, 1, 1)
def e_X6_init : ME := (yX6_init, cX6_init, 1, none, 0, 2)
def e_X6_empty : ME := (yX6_empty, cX6_empty, 2, none, 0, 1)
def e_X6_copyFrom : ME := (yX6_copyFrom, cX6_copyFrom, 2, none, 0, 2)
def e_X6_settle : ME := (yX6_settle, cX6_settle, 4, none, 0, 1)
def e_X6_whoIsIn : ME := (yX6_whoIsIn, cX6_whoIsIn, 3, some .int, 1, 1)
def e_X6_tellWork : ME := (yX6_tellWork, cX6_tellWork, 4, some .int, 1, 1)
def e_X7_init : ME := (yX7_init, cX7_init, 1, none, 0, 1)
def e_X7_append : ME := (yX7_append, cX7_append, 3, none, 0, 1)
def e_X7_byteAt : ME := (yX7_byteAt, cX7_byteAt, 2, some .int, 1, 1)
def e_X7_scan : ME := (yX7_scan, cX7_scan, 3, none, 0, 9)
def e_X7_pastBlanks : ME := (yX7_pastBlanks, cX7_pastBlanks, 3, some .int, 1, 2)
def e_X7_isBlank : ME := (yX7_isBlank, cX7_isBlank, 1, some .boolean, 1, 1)
def e_X7_scanToken : ME := (yX7_scanToken, cX7_scanToken, 5, some .int, 1, 8)
def e_X7_pastRun : ME := (yX7_pastRun, cX7_pastRun, 5, some .int, 1, 2)
def e_X7_packed : ME := (yX7_packed, cX7_packed, 6, some .long, 2, 2)
def e_X7_number : ME := (yX7_number, cX7_number, 5, some .int, 1, 2)
def e_X7_wordKind : ME := (yX7_wordKind, cX7_wordKind, 4, some .int, 1, 7)
def e_X7_spells : ME := (yX7_spells, cX7_spells, 5, some .boolean, 1, 6)
def e_X7_spelling : ME := (yX7_spelling, cX7_spelling, 1, some (.object "java/lang/String"), 3, 1)
def e_X7_signKind : ME := (yX7_signKind, cX7_signKind, 2, some .int, 1, 1)
def e_X8_init : ME := (yX8_init, cX8_init, 1, none, 0, 2)
def e_X8_empty : ME := (yX8_empty, cX8_empty, 1, none, 0, 2)
def e_X8_rankOf : ME := (yX8_rankOf, cX8_rankOf, 4, some .int, 1, 1)
def e_X8_tideAt : ME := (yX8_tideAt, cX8_tideAt, 3, some .int, 1, 4)
def e_X8_dueOf : ME := (yX8_dueOf, cX8_dueOf, 3, some .int, 1, 4)
def e_X8_swayOf : ME := (yX8_swayOf, cX8_swayOf, 4, some .int, 1, 4)
def e_X8_isBad : ME := (yX8_isBad, cX8_isBad, 4, some .boolean, 1, 5)
def e_X8_hasToFall : ME := (yX8_hasToFall, cX8_hasToFall, 6, some .boolean, 1, 5)
def e_X8_putVars : ME := (yX8_putVars, cX8_putVars, 3, none, 0, 3)
def e_X8_untrueBits : ME := (yX8_untrueBits, cX8_untrueBits, 4, some .int, 1, 5)
def e_X8_badBits : ME := (yX8_badBits, cX8_badBits, 4, some .int, 1, 6)
def e_X8_turnedPairs : ME := (yX8_turnedPairs, cX8_turnedPairs, 5, some .int, 1, 2)
def e_X8_wetBits : ME := (yX8_wetBits, cX8_wetBits, 5, some .int, 1, 1)
def e_X8_stairMeets : ME := (yX8_stairMeets, cX8_stairMeets, 3, some .boolean, 1, 2)
def e_X8_endHeight : ME := (yX8_endHeight, cX8_endHeight, 2, some .int, 1, 1)
def e_X8_reachedBits : ME := (yX8_reachedBits, cX8_reachedBits, 3, some .int, 1, 4)
def e_X8_reachedWithout : ME := (yX8_reachedWithout, cX8_reachedWithout, 10, some .int, 1, 3)
def e_X8_behindStair : ME := (yX8_behindStair, cX8_behindStair, 6, some .int, 1, 2)
def e_X8_bitOf : ME := (yX8_bitOf, cX8_bitOf, 1, some .int, 1, 1)
def e_X8_cutBy : ME := (yX8_cutBy, cX8_cutBy, 7, some .int, 1, 5)
def e_X8_seesInto : ME := (yX8_seesInto, cX8_seesInto, 10, some .boolean, 1, 1)
def e_X8_lightOf : ME := (yX8_lightOf, cX8_lightOf, 6, some .int, 1, 1)
def e_X8_neighbours : ME := (yX8_neighbours, cX8_neighbours, 4, some .int, 1, 2)
def e_X9_init : ME := (yX9_init, cX9_init, 1, none, 0, 1)
def e_X9_dropLots : ME := (yX9_dropLots, cX9_dropLots, 1, none, 0, 1)
def e_X9_verdict : ME := (yX9_verdict, cX9_verdict, 8, some .int, 1, 6)
def e_X9_nightAfter : ME := (yX9_nightAfter, cX9_nightAfter, 5, some .int, 1, 1)
def e_X9_nightVerdict : ME := (yX9_nightVerdict, cX9_nightVerdict, 11, some .int, 1, 5)
def e_X9_workReason : ME := (yX9_workReason, cX9_workReason, 6, some .int, 1, 3)
def e_X9_keepPiece : ME := (yX9_keepPiece, cX9_keepPiece, 4, none, 0, 1)
def e_X9_takePieces : ME := (yX9_takePieces, cX9_takePieces, 4, none, 0, 1)
def e_X9_carryOut : ME := (yX9_carryOut, cX9_carryOut, 2, none, 0, 1)
def e_X9_takeBack : ME := (yX9_takeBack, cX9_takeBack, 2, some .boolean, 1, 1)
def e_X10_init : ME := (yX10_init, cX10_init, 1, none, 0, 1)
def e_X10_choose : ME := (yX10_choose, cX10_choose, 6, some .boolean, 1, 2)
def e_X10_fewestFrom : ME := (yX10_fewestFrom, cX10_fewestFrom, 7, some .int, 1, 1)
def e_X10_mostOf : ME := (yX10_mostOf, cX10_mostOf, 7, some .int, 1, 1)
def e_X11_init : ME := (yX11_init, cX11_init, 2, none, 0, 4)
def e_X11_feed : ME := (yX11_feed, cX11_feed, 6, some .int, 1, 2)
def e_X11_back : ME := (yX11_back, cX11_back, 2, some .int, 1, 1)
def e_X11_read : ME := (yX11_read, cX11_read, 2, some .int, 1, 10)
def e_X11_moveIn : ME := (yX11_moveIn, cX11_moveIn, 4, none, 0, 2)
def e_X11_place : ME := (yX11_place, cX11_place, 1, some .int, 1, 1)
def e_X11_house : ME := (yX11_house, cX11_house, 3, some .int, 1, 5)
def e_X11_give : ME := (yX11_give, cX11_give, 3, some .boolean, 1, 2)
def e_X11_holder : ME := (yX11_holder, cX11_holder, 2, some .int, 1, 2)
def e_X11_months : ME := (yX11_months, cX11_months, 2, some .int, 1, 2)
def e_X11_tide : ME := (yX11_tide, cX11_tide, 2, some .int, 1, 5)
def e_X11_wet : ME := (yX11_wet, cX11_wet, 2, some .int, 1, 5)
def e_X11_reached : ME := (yX11_reached, cX11_reached, 2, some .int, 1, 5)
def e_X11_hours : ME := (yX11_hours, cX11_hours, 4, some .int, 1, 5)
def e_X11_meets : ME := (yX11_meets, cX11_meets, 2, some .int, 1, 3)
def e_X11_cut : ME := (yX11_cut, cX11_cut, 4, some .int, 1, 6)
def e_X11_worst : ME := (yX11_worst, cX11_worst, 9, some .int, 1, 6)
def e_X11_law : ME := (yX11_law, cX11_law, 2, some .int, 1, 7)
def e_X11_wood : ME := (yX11_wood, cX11_wood, 2, some .int, 1, 2)
def e_X11_jack : ME := (yX11_jack, cX11_jack, 3, some .int, 1, 3)
def e_X11_work : ME := (yX11_work, cX11_work, 4, some .int, 1, 2)
def e_X11_forget : ME := (yX11_forget, cX11_forget, 2, some .int, 1, 1)
def e_X11_judge : ME := (yX11_judge, cX11_judge, 1, some .int, 1, 7)
def e_X11_done : ME := (yX11_done, cX11_done, 1, some .int, 1, 7)
def e_X11_undo : ME := (yX11_undo, cX11_undo, 1, some .boolean, 1, 2)
def e_X11_nights : ME := (yX11_nights, cX11_nights, 3, some .int, 1, 6)
def e_X11_looks : ME := (yX11_looks, cX11_looks, 3, some .int, 1, 2)
def e_X11_light : ME := (yX11_light, cX11_light, 2, some .int, 1, 2)
def e_X11_sway : ME := (yX11_sway, cX11_sway, 3, some .int, 1, 5)
def e_X11_chain : ME := (yX11_chain, cX11_chain, 6, some .int, 1, 8)
def e_X11_dread : ME := (yX11_dread, cX11_dread, 6, some .int, 1, 8)
def e_X11_year : ME := (yX11_year, cX11_year, 2, some .int, 1, 2)
def e_X11_clear : ME := (yX11_clear, cX11_clear, 2, some .int, 1, 1)
def e_X11_posts : ME := (yX11_posts, cX11_posts, 6, some .int, 1, 6)
def e_X11_postAt : ME := (yX11_postAt, cX11_postAt, 7, some .int, 1, 6)
def e_X11_vote : ME := (yX11_vote, cX11_vote, 4, some .int, 1, 2)
def e_X11_mark : ME := (yX11_mark, cX11_mark, 4, some .int, 1, 2)
def e_X11_annul : ME := (yX11_annul, cX11_annul, 2, some .int, 1, 2)
def e_X11_votes : ME := (yX11_votes, cX11_votes, 4, some .int, 1, 3)
def e_X11_winner : ME := (yX11_winner, cX11_winner, 7, some .int, 1, 3)
def e_X11_beats : ME := (yX11_beats, cX11_beats, 4, some .boolean, 1, 1)
def e_X11_ends : ME := (yX11_ends, cX11_ends, 5, some .int, 1, 4)
def e_X11_years : ME := (yX11_years, cX11_years, 5, some .int, 1, 6)
def e_X11_castLots : ME := (yX11_castLots, cX11_castLots, 5, none, 0, 3)
def e_X11_straighten : ME := (yX11_straighten, cX11_straighten, 5, some .int, 1, 5)
def e_X11_lot : ME := (yX11_lot, cX11_lot, 4, some .int, 1, 2)
def e_X11_stir : ME := (yX11_stir, cX11_stir, 3, some .int, 1, 1)
def e_X11_hold : ME := (yX11_hold, cX11_hold, 2, some .boolean, 1, 3)
def e_X11_restore : ME := (yX11_restore, cX11_restore, 2, some .boolean, 1, 3)
def e_X11_count : ME := (yX11_count, cX11_count, 2, some .int, 1, 1)
def e_X11_isHouse : ME := (yX11_isHouse, cX11_isHouse, 2, some .boolean, 1, 1)
def e_X11_isOffice : ME := (yX11_isOffice, cX11_isOffice, 2, some .boolean, 1, 1)
def e_X11_isStair : ME := (yX11_isStair, cX11_isStair, 2, some .boolean, 1, 1)
def e_X11_isWood : ME := (yX11_isWood, cX11_isWood, 2, some .boolean, 1, 1)
def e_X11_isKnown : ME := (yX11_isKnown, cX11_isKnown, 2, some .boolean, 1, 1)
def e_X11_isHour : ME := (yX11_isHour, cX11_isHour, 1, some .boolean, 1, 1)
def e_X11_isWind : ME := (yX11_isWind, cX11_isWind, 1, some .boolean, 1, 2)
def e_X11_arePosts : ME := (yX11_arePosts, cX11_arePosts, 5, some .boolean, 1, 2)
def e_X11_within : ME := (yX11_within, cX11_within, 3, some .boolean, 1, 1)
def e_X11_heldTo99 : ME := (yX11_heldTo99, cX11_heldTo99, 1, some .int, 1, 1)
def e_X11_isVar : ME := (yX11_isVar, cX11_isVar, 1, some .boolean, 1, 1)
def e_X11_compares : ME := (yX11_compares, cX11_compares, 1, some .boolean, 1, 1)
def e_X11_reckons : ME := (yX11_reckons, cX11_reckons, 1, some .boolean, 1, 1)
def e_X12_init : ME := (yX12_init, cX12_init, 1, none, 0, 4)
def e_X12_feed : ME := (yX12_feed, cX12_feed, 6, some .int, 1, 2)
def e_X12_typed : ME := (yX12_typed, cX12_typed, 3, none, 0, 1)
def e_X12_back : ME := (yX12_back, cX12_back, 2, some .int, 1, 1)
def e_X12_byteAt : ME := (yX12_byteAt, cX12_byteAt, 2, some .int, 1, 1)
def e_X12_isLetter : ME := (yX12_isLetter, cX12_isLetter, 2, some .boolean, 1, 2)
def e_X12_isDigit : ME := (yX12_isDigit, cX12_isDigit, 2, some .boolean, 1, 2)
def e_X12_token : ME := (yX12_token, cX12_token, 4, none, 0, 1)
def e_X12_wordOf : ME := (yX12_wordOf, cX12_wordOf, 2, some .int, 1, 1)
def e_X12_signAt : ME := (yX12_signAt, cX12_signAt, 4, some .int, 1, 2)
def e_X12_scan : ME := (yX12_scan, cX12_scan, 6, some .int, 1, 3)
def e_X12_scanAll : ME := (yX12_scanAll, cX12_scanAll, 4, none, 0, 4)
def e_X12_wrong : ME := (yX12_wrong, cX12_wrong, 2, some .boolean, 1, 1)
def e_X12_tells : ME := (yX12_tells, cX12_tells, 4, none, 0, 1)
def e_X12_pass : ME := (yX12_pass, cX12_pass, 1, some .boolean, 1, 2)
def e_X12_isSign : ME := (yX12_isSign, cX12_isSign, 2, some .boolean, 1, 1)
def e_X12_isWord : ME := (yX12_isWord, cX12_isWord, 2, some .boolean, 1, 1)
def e_X12_takes : ME := (yX12_takes, cX12_takes, 2, some .boolean, 1, 3)
def e_X12_takesInt : ME := (yX12_takesInt, cX12_takesInt, 4, some .boolean, 1, 4)
def e_X12_emit : ME := (yX12_emit, cX12_emit, 3, none, 0, 1)
def e_X12_rank : ME := (yX12_rank, cX12_rank, 1, some .int, 1, 1)
def e_X12_reduce : ME := (yX12_reduce, cX12_reduce, 3, none, 0, 2)
def e_X12_await : ME := (yX12_await, cX12_await, 2, none, 0, 1)
def e_X12_variableOf : ME := (yX12_variableOf, cX12_variableOf, 1, some .int, 1, 1)
def e_X12_expr : ME := (yX12_expr, cX12_expr, 5, some .boolean, 1, 3)
def e_X12_cond : ME := (yX12_cond, cX12_cond, 6, some .boolean, 1, 4)
def e_X12_told : ME := (yX12_told, cX12_told, 2, some .int, 1, 1)
def e_X12_tell : ME := (yX12_tell, cX12_tell, 3, none, 0, 1)
def e_X12_begin : ME := (yX12_begin, cX12_begin, 3, none, 0, 1)
def e_X12_takesHold : ME := (yX12_takesHold, cX12_takesHold, 2, none, 0, 4)
def e_X12_settle : ME := (yX12_settle, cX12_settle, 2, none, 0, 3)
def e_X12_names : ME := (yX12_names, cX12_names, 5, some .boolean, 1, 4)
def e_X12_takesName : ME := (yX12_takesName, cX12_takesName, 4, some .boolean, 1, 4)
def e_X12_next : ME := (yX12_next, cX12_next, 6, some .int, 1, 2)
def e_X12_tellHouse : ME := (yX12_tellHouse, cX12_tellHouse, 3, some .boolean, 1, 5)
def e_X12_tellOffice : ME := (yX12_tellOffice, cX12_tellOffice, 3, some .boolean, 1, 5)
def e_X12_tellIn : ME := (yX12_tellIn, cX12_tellIn, 2, some .boolean, 1, 5)
def e_X12_tellStair : ME := (yX12_tellStair, cX12_tellStair, 3, some .boolean, 1, 5)
def e_X12_tellQuay : ME := (yX12_tellQuay, cX12_tellQuay, 2, some .boolean, 1, 5)
def e_X12_tellWood : ME := (yX12_tellWood, cX12_tellWood, 2, some .boolean, 1, 5)
def e_X12_tellNumber : ME := (yX12_tellNumber, cX12_tellNumber, 3, some .boolean, 1, 5)
def e_X12_tellLaw : ME := (yX12_tellLaw, cX12_tellLaw, 2, some .boolean, 1, 4)
def e_X12_tellRule : ME := (yX12_tellRule, cX12_tellRule, 4, some .boolean, 1, 5)
def e_X12_tellOne : ME := (yX12_tellOne, cX12_tellOne, 2, some .boolean, 1, 6)
def e_X12_parses : ME := (yX12_parses, cX12_parses, 1, some .boolean, 1, 7)
def e_X12_read : ME := (yX12_read, cX12_read, 1, some .int, 1, 8)
def e_X12_place : ME := (yX12_place, cX12_place, 1, some .int, 1, 1)
def e_X12_sum : ME := (yX12_sum, cX12_sum, 8, some .int, 1, 1)
def e_X12_isLit : ME := (yX12_isLit, cX12_isLit, 5, some .boolean, 1, 2)
def e_X12_isHeld : ME := (yX12_isHeld, cX12_isHeld, 6, some .boolean, 1, 3)
def e_X12_within : ME := (yX12_within, cX12_within, 3, some .int, 1, 1)
def e_X12_says : ME := (yX12_says, cX12_says, 3, some .int, 1, 2)
def e_X12_askNone : ME := (yX12_askNone, cX12_askNone, 2, none, 0, 1)
def e_X12_isIn : ME := (yX12_isIn, cX12_isIn, 3, some .boolean, 1, 1)
def e_X12_isHouse : ME := (yX12_isHouse, cX12_isHouse, 2, some .boolean, 1, 1)
def e_X12_isOffice : ME := (yX12_isOffice, cX12_isOffice, 2, some .boolean, 1, 1)
def e_X12_xOf : ME := (yX12_xOf, cX12_xOf, 2, some .int, 1, 1)
def e_X12_heightOf : ME := (yX12_heightOf, cX12_heightOf, 2, some .int, 1, 1)
def e_X12_rankOf : ME := (yX12_rankOf, cX12_rankOf, 3, some .int, 1, 1)
def e_X12_dueOf : ME := (yX12_dueOf, cX12_dueOf, 2, some .int, 1, 3)
def e_X12_house : ME := (yX12_house, cX12_house, 3, some .int, 1, 4)
def e_X12_holderOf : ME := (yX12_holderOf, cX12_holderOf, 3, some .int, 1, 1)
def e_X12_gives : ME := (yX12_gives, cX12_gives, 4, none, 0, 2)
def e_X12_give : ME := (yX12_give, cX12_give, 3, some .boolean, 1, 3)
def e_X12_holder : ME := (yX12_holder, cX12_holder, 2, some .int, 1, 2)
def e_X12_months : ME := (yX12_months, cX12_months, 2, some .int, 1, 2)
def e_X12_tideOf : ME := (yX12_tideOf, cX12_tideOf, 2, some .int, 1, 3)
def e_X12_isHour : ME := (yX12_isHour, cX12_isHour, 1, some .boolean, 1, 1)
def e_X12_tide : ME := (yX12_tide, cX12_tide, 2, some .int, 1, 4)
def e_X12_wet : ME := (yX12_wet, cX12_wet, 5, some .int, 1, 4)
def e_X12_isMeeting : ME := (yX12_isMeeting, cX12_isMeeting, 5, some .boolean, 1, 2)
def e_X12_reachedAt : ME := (yX12_reachedAt, cX12_reachedAt, 13, some .int, 1, 4)
def e_X12_bitsOf : ME := (yX12_bitsOf, cX12_bitsOf, 3, some .int, 1, 1)
def e_X12_reached : ME := (yX12_reached, cX12_reached, 2, some .int, 1, 5)
def e_X12_hours : ME := (yX12_hours, cX12_hours, 4, some .int, 1, 5)
def e_X12_meets : ME := (yX12_meets, cX12_meets, 2, some .int, 1, 3)
def e_X12_cutOf : ME := (yX12_cutOf, cX12_cutOf, 6, some .int, 1, 5)
def e_X12_manyOf : ME := (yX12_manyOf, cX12_manyOf, 2, some .int, 1, 1)
def e_X12_cut : ME := (yX12_cut, cX12_cut, 4, some .int, 1, 6)
def e_X12_worst : ME := (yX12_worst, cX12_worst, 7, some .int, 1, 6)
def e_X12_look : ME := (yX12_look, cX12_look, 3, none, 0, 2)
def e_X12_swayOf : ME := (yX12_swayOf, cX12_swayOf, 3, some .int, 1, 3)
def e_X12_isRule : ME := (yX12_isRule, cX12_isRule, 4, some .boolean, 1, 4)
def e_X12_isBad : ME := (yX12_isBad, cX12_isBad, 3, some .boolean, 1, 5)
def e_X12_untrue : ME := (yX12_untrue, cX12_untrue, 3, some .int, 1, 4)
def e_X12_turned : ME := (yX12_turned, cX12_turned, 4, some .int, 1, 2)
def e_X12_law : ME := (yX12_law, cX12_law, 4, some .int, 1, 6)
def e_X12_wood : ME := (yX12_wood, cX12_wood, 2, some .int, 1, 1)
def e_X12_least : ME := (yX12_least, cX12_least, 2, some .int, 1, 1)
def e_X12_jacks : ME := (yX12_jacks, cX12_jacks, 8, some .int, 1, 2)
def e_X12_jack : ME := (yX12_jack, cX12_jack, 4, some .int, 1, 3)
def e_X12_work : ME := (yX12_work, cX12_work, 5, some .int, 1, 2)
def e_X12_forget : ME := (yX12_forget, cX12_forget, 2, some .int, 1, 1)
def e_X12_keep : ME := (yX12_keep, cX12_keep, 3, none, 0, 1)
def e_X12_putBack : ME := (yX12_putBack, cX12_putBack, 3, none, 0, 1)
def e_X12_makes : ME := (yX12_makes, cX12_makes, 7, some .int, 1, 3)
def e_X12_makesAll : ME := (yX12_makesAll, cX12_makesAll, 7, some .int, 1, 5)
def e_X12_judge : ME := (yX12_judge, cX12_judge, 2, some .int, 1, 6)
def e_X12_done : ME := (yX12_done, cX12_done, 2, some .int, 1, 6)
def e_X12_undo : ME := (yX12_undo, cX12_undo, 1, some .boolean, 1, 2)
def e_X12_brings : ME := (yX12_brings, cX12_brings, 3, none, 0, 2)
def e_X12_layNights : ME := (yX12_layNights, cX12_layNights, 5, none, 0, 5)
def e_X12_firstNight : ME := (yX12_firstNight, cX12_firstNight, 4, some .int, 1, 2)
def e_X12_nights : ME := (yX12_nights, cX12_nights, 4, some .int, 1, 6)
def e_X12_isBelow : ME := (yX12_isBelow, cX12_isBelow, 6, some .boolean, 1, 2)
def e_X12_isBetween : ME := (yX12_isBetween, cX12_isBetween, 4, some .boolean, 1, 1)
def e_X12_looks : ME := (yX12_looks, cX12_looks, 4, some .int, 1, 3)
def e_X12_light : ME := (yX12_light, cX12_light, 7, some .int, 1, 2)
def e_X12_isWind : ME := (yX12_isWind, cX12_isWind, 1, some .boolean, 1, 1)
def e_X12_sway : ME := (yX12_sway, cX12_sway, 3, some .int, 1, 4)
def e_X12_goneBeside : ME := (yX12_goneBeside, cX12_goneBeside, 7, some .int, 1, 2)
def e_X12_isFalling : ME := (yX12_isFalling, cX12_isFalling, 5, some .boolean, 1, 5)
def e_X12_chains : ME := (yX12_chains, cX12_chains, 7, none, 0, 6)
def e_X12_chain : ME := (yX12_chain, cX12_chain, 4, some .int, 1, 7)
def e_X12_dread : ME := (yX12_dread, cX12_dread, 5, some .int, 1, 7)
def e_X12_year : ME := (yX12_year, cX12_year, 2, some .int, 1, 2)
def e_X12_clear : ME := (yX12_clear, cX12_clear, 2, some .int, 1, 1)
def e_X12_stepCost : ME := (yX12_stepCost, cX12_stepCost, 5, some .int, 1, 1)
def e_X12_mostOf : ME := (yX12_mostOf, cX12_mostOf, 3, some .int, 1, 2)
def e_X12_layPosts : ME := (yX12_layPosts, cX12_layPosts, 9, none, 0, 3)
def e_X12_isPosts : ME := (yX12_isPosts, cX12_isPosts, 5, some .boolean, 1, 2)
def e_X12_posts : ME := (yX12_posts, cX12_posts, 6, some .int, 1, 4)
def e_X12_postAt : ME := (yX12_postAt, cX12_postAt, 10, some .int, 1, 4)
def e_X12_log : ME := (yX12_log, cX12_log, 6, some .int, 1, 1)
def e_X12_vote : ME := (yX12_vote, cX12_vote, 4, some .int, 1, 2)
def e_X12_mark : ME := (yX12_mark, cX12_mark, 4, some .int, 1, 2)
def e_X12_annul : ME := (yX12_annul, cX12_annul, 2, some .int, 1, 2)
def e_X12_isKnown : ME := (yX12_isKnown, cX12_isKnown, 2, some .boolean, 1, 1)
def e_X12_isLive : ME := (yX12_isLive, cX12_isLive, 4, some .boolean, 1, 1)
def e_X12_voteOf : ME := (yX12_voteOf, cX12_voteOf, 6, some .int, 1, 2)
def e_X12_votesOf : ME := (yX12_votesOf, cX12_votesOf, 6, some .int, 1, 3)
def e_X12_votes : ME := (yX12_votes, cX12_votes, 4, some .int, 1, 4)
def e_X12_winner : ME := (yX12_winner, cX12_winner, 7, some .int, 1, 4)
def e_X12_apart : ME := (yX12_apart, cX12_apart, 2, some .int, 1, 1)
def e_X12_ends : ME := (yX12_ends, cX12_ends, 12, some .int, 1, 2)
def e_X12_mixed : ME := (yX12_mixed, cX12_mixed, 3, some .int, 1, 1)
def e_X12_lot : ME := (yX12_lot, cX12_lot, 3, some .int, 1, 2)
def e_X12_lives : ME := (yX12_lives, cX12_lives, 9, some .int, 1, 4)
def e_X12_years : ME := (yX12_years, cX12_years, 5, some .int, 1, 5)
def e_X12_copy : ME := (yX12_copy, cX12_copy, 4, none, 0, 1)
def e_X12_hold : ME := (yX12_hold, cX12_hold, 2, some .boolean, 1, 2)
def e_X12_restore : ME := (yX12_restore, cX12_restore, 2, some .boolean, 1, 2)
def e_X12_count : ME := (yX12_count, cX12_count, 2, some .int, 1, 1)
def e_J6_bitCount_0f7a4 : ME := (yJ6_bitCount_0f7a4, cJ6_bitCount_0f7a4, 1, some .int, 1, 1)
theorem mem_pos {ws big : List Cond} (ps : List Nat) (hp : ws = ps.filterMap (fun i => big[i]?)) : ∀ w ∈ ws, w ∈ big := by
  intro w hw
  rw [hp] at hw
  obtain ⟨i, -, hi⟩ := List.mem_filterMap.mp hw
  exact List.mem_of_getElem? hi
theorem all_big {ws : List Cond} (h : ∀ w ∈ ws, w ∈ tables_1) (g : ws.all goodWord = true) : ∀ w ∈ ws, w ∈ bigW := fun w hw => bt (h w hw) (List.all_eq_true.mp g w hw)
theorem tp_1 {w : Cond} (h : w ∈ tables_1_1) (g : goodWord w = true) : w ∈ bigW := bt (List.mem_append_left _ h) g
theorem tp_2 {w : Cond} (h : w ∈ tables_1_2) (g : goodWord w = true) : w ∈ bigW := bt (List.mem_append_right _ (List.mem_append_left _ h)) g
theorem tp_3 {w : Cond} (h : w ∈ tables_1_3) (g : goodWord w = true) : w ∈ bigW := bt (List.mem_append_right _ (List.mem_append_right _ (List.mem_append_left _ h))) g
theorem tp_4 {w : Cond} (h : w ∈ tables_1_4) (g : goodWord w = true) : w ∈ bigW := bt (List.mem_append_right _ (List.mem_append_right _ (List.mem_append_right _ (List.mem_append_left _ h)))) g
theorem tp_5 {w : Cond} (h : w ∈ tables_1_5) (g : goodWord w = true) : w ∈ bigW := bt (List.mem_append_right _ (List.mem_append_right _ (List.mem_append_right _ (List.mem_append_right _ (List.mem_append_left _ h))))) g
theorem tp_6 {w : Cond} (h : w ∈ tables_1_6) (g : goodWord w = true) : w ∈ bigW := bt (List.mem_append_right _ (List.mem_append_right _ (List.mem_append_right _ (List.mem_append_right _ (List.mem_append_right _ (List.mem_append_left _ h)))))) g
theorem tp_7 {w : Cond} (h : w ∈ tables_1_7) (g : goodWord w = true) : w ∈ bigW := bt (List.mem_append_right _ (List.mem_append_right _ (List.mem_append_right _ (List.mem_append_right _ (List.mem_append_right _ (List.mem_append_right _ (List.mem_append_left _ h))))))) g
theorem tp_8 {w : Cond} (h : w ∈ tables_1_8) (g : goodWord w = true) : w ∈ bigW := bt (List.mem_append_right _ (List.mem_append_right _ (List.mem_append_right _ (List.mem_append_right _ (List.mem_append_right _ (List.mem_append_right _ (List.mem_append_right _ (List.mem_append_left _ h)))))))) g
theorem tp_9 {w : Cond} (h : w ∈ tables_1_9) (g : goodWord w = true) : w ∈ bigW := bt (List.mem_append_right _ (List.mem_append_right _ (List.mem_append_right _ (List.mem_append_right _ (List.mem_append_right _ (List.mem_append_right _ (List.mem_append_right _ (List.mem_append_right _ (h))))))))) g
theorem w_1 : (Jvm.Cond.initialized "StiltTown") ∈ bigW := tp_1 (List.mem_of_getElem? (i := 1) rfl) rfl
theorem w_2 : (Jvm.Cond.initialized "StiltTown$Reader") ∈ bigW := tp_1 (List.mem_of_getElem? (i := 2) rfl) rfl
theorem w_3 : (Jvm.Cond.initialized "StiltTown$Tokens") ∈ bigW := tp_1 (List.mem_of_getElem? (i := 3) rfl) rfl
theorem w_4 : (Jvm.Cond.initialized "StiltTown$Town") ∈ bigW := tp_1 (List.mem_of_getElem? (i := 4) rfl) rfl
theorem w_5 : (Jvm.Cond.initialized "StiltTown$Laws") ∈ bigW := tp_1 (List.mem_of_getElem? (i := 5) rfl) rfl
theorem w_6 : (Jvm.Cond.initialized "StiltTown$State") ∈ bigW := tp_1 (List.mem_of_getElem? (i := 6) rfl) rfl
theorem w_7 : (Jvm.Cond.initialized "StiltTown$Logs") ∈ bigW := tp_1 (List.mem_of_getElem? (i := 7) rfl) rfl
theorem w_8 : (Jvm.Cond.initialized "StiltTown$Yard") ∈ bigW := tp_1 (List.mem_of_getElem? (i := 8) rfl) rfl
theorem w_9 : (Jvm.Cond.initialized "StiltTown$Works") ∈ bigW := tp_1 (List.mem_of_getElem? (i := 9) rfl) rfl
theorem w_10 : (Jvm.Cond.initialized "StiltTown$Nights") ∈ bigW := tp_1 (List.mem_of_getElem? (i := 10) rfl) rfl
theorem w_11 : (Jvm.Cond.initialized "StiltTown$Falls") ∈ bigW := tp_1 (List.mem_of_getElem? (i := 11) rfl) rfl
theorem w_12 : (Jvm.Cond.initialized "StiltTown$Row") ∈ bigW := tp_1 (List.mem_of_getElem? (i := 12) rfl) rfl
theorem w_13 : (Jvm.Cond.initialized "StiltTownModel") ∈ bigW := tp_1 (List.mem_of_getElem? (i := 13) rfl) rfl
theorem w_18 : (Jvm.Cond.initialized "java/lang/Math") ∈ bigW := tp_1 (List.mem_of_getElem? (i := 18) rfl) rfl
theorem w_19 : (Jvm.Cond.initialized "java/lang/Integer") ∈ bigW := tp_1 (List.mem_of_getElem? (i := 19) rfl) rfl
theorem w_20 : (Jvm.Cond.initialized "java/lang/System") ∈ bigW := tp_1 (List.mem_of_getElem? (i := 20) rfl) rfl
theorem w_41 : (Jvm.Cond.fieldLink "StiltTown$Tokens" (9 : Nat) "StiltTown$Tokens" "tape" "[B") ∈ bigW := tp_1 (List.mem_of_getElem? (i := 41) rfl) rfl
theorem w_42 : (Jvm.Cond.fieldLink "StiltTown$Tokens" (15 : Nat) "StiltTown$Tokens" "kinds" "[I") ∈ bigW := tp_1 (List.mem_of_getElem? (i := 42) rfl) rfl
theorem w_43 : (Jvm.Cond.fieldLink "StiltTown$Reader" (289 : Nat) "StiltTown$Tokens" "kinds" "[I") ∈ bigW := tp_1 (List.mem_of_getElem? (i := 43) rfl) rfl
theorem w_44 : (Jvm.Cond.fieldLink "StiltTown$Tokens" (19 : Nat) "StiltTown$Tokens" "starts" "[I") ∈ bigW := tp_1 (List.mem_of_getElem? (i := 44) rfl) rfl
theorem w_45 : (Jvm.Cond.fieldLink "StiltTown$Reader" (286 : Nat) "StiltTown$Tokens" "starts" "[I") ∈ bigW := tp_1 (List.mem_of_getElem? (i := 45) rfl) rfl
theorem w_46 : (Jvm.Cond.fieldLink "StiltTown$Tokens" (22 : Nat) "StiltTown$Tokens" "values" "[J") ∈ bigW := tp_1 (List.mem_of_getElem? (i := 46) rfl) rfl
theorem w_47 : (Jvm.Cond.fieldLink "StiltTown$Reader" (292 : Nat) "StiltTown$Tokens" "values" "[J") ∈ bigW := tp_1 (List.mem_of_getElem? (i := 47) rfl) rfl
theorem w_48 : (Jvm.Cond.fieldLink "StiltTown$Tokens" (26 : Nat) "StiltTown$Tokens" "size" "I") ∈ bigW := tp_1 (List.mem_of_getElem? (i := 48) rfl) rfl
theorem w_49 : (Jvm.Cond.fieldLink "StiltTown" (78 : Nat) "StiltTown$Tokens" "size" "I") ∈ bigW := tp_1 (List.mem_of_getElem? (i := 49) rfl) rfl
theorem w_50 : (Jvm.Cond.fieldLink "StiltTown$Tokens" (30 : Nat) "StiltTown$Tokens" "many" "I") ∈ bigW := tp_1 (List.mem_of_getElem? (i := 50) rfl) rfl
theorem w_51 : (Jvm.Cond.fieldLink "StiltTown$Reader" (283 : Nat) "StiltTown$Tokens" "many" "I") ∈ bigW := tp_1 (List.mem_of_getElem? (i := 51) rfl) rfl
theorem w_52 : (Jvm.Cond.laysFinal "StiltTown$Tokens" "StiltTown$Tokens" "tape" "[B") ∈ bigW := tp_1 (List.mem_of_getElem? (i := 52) rfl) rfl
theorem w_54 : (Jvm.Cond.laysFinal "StiltTown$Tokens" "StiltTown$Tokens" "kinds" "[I") ∈ bigW := tp_1 (List.mem_of_getElem? (i := 54) rfl) rfl
theorem w_56 : (Jvm.Cond.laysFinal "StiltTown$Tokens" "StiltTown$Tokens" "starts" "[I") ∈ bigW := tp_1 (List.mem_of_getElem? (i := 56) rfl) rfl
theorem w_58 : (Jvm.Cond.laysFinal "StiltTown$Tokens" "StiltTown$Tokens" "values" "[J") ∈ bigW := tp_1 (List.mem_of_getElem? (i := 58) rfl) rfl
theorem w_60 : (Jvm.Cond.lays "StiltTown$Tokens" "StiltTown$Tokens" "size" "I") ∈ bigW := tp_1 (List.mem_of_getElem? (i := 60) rfl) rfl
theorem w_62 : (Jvm.Cond.lays "StiltTown$Tokens" "StiltTown$Tokens" "many" "I") ∈ bigW := tp_1 (List.mem_of_getElem? (i := 62) rfl) rfl
theorem w_80 : (Jvm.Cond.fieldLink "StiltTown$Laws" (9 : Nat) "StiltTown$Laws" "code" "[I") ∈ bigW := tp_1 (List.mem_of_getElem? (i := 80) rfl) rfl
theorem w_81 : (Jvm.Cond.fieldLink "StiltTown$Laws" (15 : Nat) "StiltTown$Laws" "fall" "[I") ∈ bigW := tp_1 (List.mem_of_getElem? (i := 81) rfl) rfl
theorem w_82 : (Jvm.Cond.fieldLink "StiltTown$Town" (121 : Nat) "StiltTown$Laws" "fall" "[I") ∈ bigW := tp_1 (List.mem_of_getElem? (i := 82) rfl) rfl
theorem w_83 : (Jvm.Cond.fieldLink "StiltTown$Laws" (18 : Nat) "StiltTown$Laws" "bad" "[I") ∈ bigW := tp_1 (List.mem_of_getElem? (i := 83) rfl) rfl
theorem w_84 : (Jvm.Cond.fieldLink "StiltTown$Town" (111 : Nat) "StiltTown$Laws" "bad" "[I") ∈ bigW := tp_1 (List.mem_of_getElem? (i := 84) rfl) rfl
theorem w_85 : (Jvm.Cond.fieldLink "StiltTown$Laws" (21 : Nat) "StiltTown$Laws" "vars" "[I") ∈ bigW := tp_1 (List.mem_of_getElem? (i := 85) rfl) rfl
theorem w_86 : (Jvm.Cond.fieldLink "StiltTown$Laws" (24 : Nat) "StiltTown$Laws" "stack" "[I") ∈ bigW := tp_1 (List.mem_of_getElem? (i := 86) rfl) rfl
theorem w_87 : (Jvm.Cond.fieldLink "StiltTown$Laws" (27 : Nat) "StiltTown$Laws" "size" "I") ∈ bigW := tp_1 (List.mem_of_getElem? (i := 87) rfl) rfl
theorem w_88 : (Jvm.Cond.fieldLink "StiltTown$Reader" (221 : Nat) "StiltTown$Laws" "size" "I") ∈ bigW := tp_1 (List.mem_of_getElem? (i := 88) rfl) rfl
theorem w_89 : (Jvm.Cond.fieldLink "StiltTown$Laws" (31 : Nat) "StiltTown$Laws" "top" "I") ∈ bigW := tp_1 (List.mem_of_getElem? (i := 89) rfl) rfl
theorem w_90 : (Jvm.Cond.fieldLink "StiltTown$Laws" (34 : Nat) "StiltTown$Laws" "broken" "Z") ∈ bigW := tp_1 (List.mem_of_getElem? (i := 90) rfl) rfl
theorem w_91 : (Jvm.Cond.fieldLink "StiltTown$Laws" (38 : Nat) "StiltTown$Laws" "tide" "I") ∈ bigW := tp_1 (List.mem_of_getElem? (i := 91) rfl) rfl
theorem w_92 : (Jvm.Cond.fieldLink "StiltTown$Town" (83 : Nat) "StiltTown$Laws" "tide" "I") ∈ bigW := tp_1 (List.mem_of_getElem? (i := 92) rfl) rfl
theorem w_93 : (Jvm.Cond.fieldLink "StiltTown$Laws" (41 : Nat) "StiltTown$Laws" "due" "I") ∈ bigW := tp_1 (List.mem_of_getElem? (i := 93) rfl) rfl
theorem w_94 : (Jvm.Cond.fieldLink "StiltTown$Town" (93 : Nat) "StiltTown$Laws" "due" "I") ∈ bigW := tp_1 (List.mem_of_getElem? (i := 94) rfl) rfl
theorem w_95 : (Jvm.Cond.fieldLink "StiltTown$Laws" (44 : Nat) "StiltTown$Laws" "sway" "I") ∈ bigW := tp_1 (List.mem_of_getElem? (i := 95) rfl) rfl
theorem w_96 : (Jvm.Cond.fieldLink "StiltTown$Town" (104 : Nat) "StiltTown$Laws" "sway" "I") ∈ bigW := tp_1 (List.mem_of_getElem? (i := 96) rfl) rfl
theorem w_97 : (Jvm.Cond.fieldLink "StiltTown$Laws" (47 : Nat) "StiltTown$Laws" "falls" "I") ∈ bigW := tp_1 (List.mem_of_getElem? (i := 97) rfl) rfl
theorem w_98 : (Jvm.Cond.fieldLink "StiltTown$Reader" (128 : Nat) "StiltTown$Laws" "falls" "I") ∈ bigW := tp_1 (List.mem_of_getElem? (i := 98) rfl) rfl
theorem w_99 : (Jvm.Cond.fieldLink "StiltTown$Town" (124 : Nat) "StiltTown$Laws" "falls" "I") ∈ bigW := tp_1 (List.mem_of_getElem? (i := 99) rfl) rfl
theorem w_100 : (Jvm.Cond.fieldLink "StiltTown" (366 : Nat) "StiltTown$Laws" "falls" "I") ∈ bigW := tp_1 (List.mem_of_getElem? (i := 100) rfl) rfl
theorem w_101 : (Jvm.Cond.fieldLink "StiltTown$Laws" (50 : Nat) "StiltTown$Laws" "bads" "I") ∈ bigW := tp_1 (List.mem_of_getElem? (i := 101) rfl) rfl
theorem w_102 : (Jvm.Cond.fieldLink "StiltTown$Reader" (137 : Nat) "StiltTown$Laws" "bads" "I") ∈ bigW := tp_1 (List.mem_of_getElem? (i := 102) rfl) rfl
theorem w_103 : (Jvm.Cond.fieldLink "StiltTown$Town" (114 : Nat) "StiltTown$Laws" "bads" "I") ∈ bigW := tp_1 (List.mem_of_getElem? (i := 103) rfl) rfl
theorem w_104 : (Jvm.Cond.fieldLink "StiltTown" (370 : Nat) "StiltTown$Laws" "bads" "I") ∈ bigW := tp_1 (List.mem_of_getElem? (i := 104) rfl) rfl
theorem w_105 : (Jvm.Cond.laysFinal "StiltTown$Laws" "StiltTown$Laws" "code" "[I") ∈ bigW := tp_1 (List.mem_of_getElem? (i := 105) rfl) rfl
theorem w_107 : (Jvm.Cond.laysFinal "StiltTown$Laws" "StiltTown$Laws" "fall" "[I") ∈ bigW := tp_1 (List.mem_of_getElem? (i := 107) rfl) rfl
theorem w_109 : (Jvm.Cond.laysFinal "StiltTown$Laws" "StiltTown$Laws" "bad" "[I") ∈ bigW := tp_1 (List.mem_of_getElem? (i := 109) rfl) rfl
theorem w_111 : (Jvm.Cond.laysFinal "StiltTown$Laws" "StiltTown$Laws" "vars" "[I") ∈ bigW := tp_1 (List.mem_of_getElem? (i := 111) rfl) rfl
theorem w_113 : (Jvm.Cond.laysFinal "StiltTown$Laws" "StiltTown$Laws" "stack" "[I") ∈ bigW := tp_1 (List.mem_of_getElem? (i := 113) rfl) rfl
theorem w_115 : (Jvm.Cond.lays "StiltTown$Laws" "StiltTown$Laws" "size" "I") ∈ bigW := tp_1 (List.mem_of_getElem? (i := 115) rfl) rfl
theorem w_117 : (Jvm.Cond.lays "StiltTown$Laws" "StiltTown$Laws" "top" "I") ∈ bigW := tp_1 (List.mem_of_getElem? (i := 117) rfl) rfl
theorem w_119 : (Jvm.Cond.lays "StiltTown$Laws" "StiltTown$Laws" "broken" "Z") ∈ bigW := tp_1 (List.mem_of_getElem? (i := 119) rfl) rfl
theorem w_121 : (Jvm.Cond.lays "StiltTown$Laws" "StiltTown$Laws" "tide" "I") ∈ bigW := tp_1 (List.mem_of_getElem? (i := 121) rfl) rfl
theorem w_123 : (Jvm.Cond.lays "StiltTown$Laws" "StiltTown$Laws" "due" "I") ∈ bigW := tp_1 (List.mem_of_getElem? (i := 123) rfl) rfl
theorem w_125 : (Jvm.Cond.lays "StiltTown$Laws" "StiltTown$Laws" "sway" "I") ∈ bigW := tp_1 (List.mem_of_getElem? (i := 125) rfl) rfl
theorem w_127 : (Jvm.Cond.lays "StiltTown$Laws" "StiltTown$Laws" "falls" "I") ∈ bigW := tp_1 (List.mem_of_getElem? (i := 127) rfl) rfl
theorem w_129 : (Jvm.Cond.lays "StiltTown$Laws" "StiltTown$Laws" "bads" "I") ∈ bigW := tp_1 (List.mem_of_getElem? (i := 129) rfl) rfl
theorem w_132 : (Jvm.Cond.fieldLink "StiltTown$Town" (9 : Nat) "StiltTown$Town" "x" "[I") ∈ bigW := tp_1 (List.mem_of_getElem? (i := 132) rfl) rfl
theorem w_133 : (Jvm.Cond.fieldLink "StiltTown$Reader" (160 : Nat) "StiltTown$Town" "x" "[I") ∈ bigW := tp_1 (List.mem_of_getElem? (i := 133) rfl) rfl
theorem w_134 : (Jvm.Cond.fieldLink "StiltTown" (113 : Nat) "StiltTown$Town" "x" "[I") ∈ bigW := tp_1 (List.mem_of_getElem? (i := 134) rfl) rfl
theorem w_135 : (Jvm.Cond.fieldLink "StiltTown$Town" (15 : Nat) "StiltTown$Town" "load" "[I") ∈ bigW := tp_1 (List.mem_of_getElem? (i := 135) rfl) rfl
theorem w_136 : (Jvm.Cond.fieldLink "StiltTown$Reader" (166 : Nat) "StiltTown$Town" "load" "[I") ∈ bigW := tp_1 (List.mem_of_getElem? (i := 136) rfl) rfl
theorem w_137 : (Jvm.Cond.fieldLink "StiltTown" (120 : Nat) "StiltTown$Town" "load" "[I") ∈ bigW := tp_1 (List.mem_of_getElem? (i := 137) rfl) rfl
theorem w_138 : (Jvm.Cond.fieldLink "StiltTown$Town" (18 : Nat) "StiltTown$Town" "rank" "[I") ∈ bigW := tp_1 (List.mem_of_getElem? (i := 138) rfl) rfl
theorem w_139 : (Jvm.Cond.fieldLink "StiltTown$Reader" (172 : Nat) "StiltTown$Town" "rank" "[I") ∈ bigW := tp_1 (List.mem_of_getElem? (i := 139) rfl) rfl
theorem w_140 : (Jvm.Cond.fieldLink "StiltTown$Town" (21 : Nat) "StiltTown$Town" "stairFrom" "[I") ∈ bigW := tp_1 (List.mem_of_getElem? (i := 140) rfl) rfl
theorem w_141 : (Jvm.Cond.fieldLink "StiltTown$Reader" (193 : Nat) "StiltTown$Town" "stairFrom" "[I") ∈ bigW := tp_1 (List.mem_of_getElem? (i := 141) rfl) rfl
theorem w_142 : (Jvm.Cond.fieldLink "StiltTown$Town" (24 : Nat) "StiltTown$Town" "stairTo" "[I") ∈ bigW := tp_1 (List.mem_of_getElem? (i := 142) rfl) rfl
theorem w_143 : (Jvm.Cond.fieldLink "StiltTown$Reader" (196 : Nat) "StiltTown$Town" "stairTo" "[I") ∈ bigW := tp_1 (List.mem_of_getElem? (i := 143) rfl) rfl
theorem w_144 : (Jvm.Cond.fieldLink "StiltTown$Town" (27 : Nat) "StiltTown$Town" "reach" "[I") ∈ bigW := tp_1 (List.mem_of_getElem? (i := 144) rfl) rfl
theorem w_145 : (Jvm.Cond.fieldLink "StiltTown$Reader" (199 : Nat) "StiltTown$Town" "reach" "[I") ∈ bigW := tp_1 (List.mem_of_getElem? (i := 145) rfl) rfl
theorem w_146 : (Jvm.Cond.fieldLink "StiltTown$Town" (30 : Nat) "StiltTown$Town" "length" "[I") ∈ bigW := tp_1 (List.mem_of_getElem? (i := 146) rfl) rfl
theorem w_147 : (Jvm.Cond.fieldLink "StiltTown$Yard" (31 : Nat) "StiltTown$Town" "length" "[I") ∈ bigW := tp_1 (List.mem_of_getElem? (i := 147) rfl) rfl
theorem w_148 : (Jvm.Cond.fieldLink "StiltTown$Works" (112 : Nat) "StiltTown$Town" "length" "[I") ∈ bigW := tp_1 (List.mem_of_getElem? (i := 148) rfl) rfl
theorem w_149 : (Jvm.Cond.fieldLink "StiltTown$Reader" (215 : Nat) "StiltTown$Town" "length" "[I") ∈ bigW := tp_1 (List.mem_of_getElem? (i := 149) rfl) rfl
theorem w_150 : (Jvm.Cond.fieldLink "StiltTown$Town" (36 : Nat) "StiltTown$Town" "laws" "LStiltTown$Laws;") ∈ bigW := tp_1 (List.mem_of_getElem? (i := 150) rfl) rfl
theorem w_151 : (Jvm.Cond.fieldLink "StiltTown$Reader" (124 : Nat) "StiltTown$Town" "laws" "LStiltTown$Laws;") ∈ bigW := tp_1 (List.mem_of_getElem? (i := 151) rfl) rfl
theorem w_152 : (Jvm.Cond.fieldLink "StiltTown" (362 : Nat) "StiltTown$Town" "laws" "LStiltTown$Laws;") ∈ bigW := tp_1 (List.mem_of_getElem? (i := 152) rfl) rfl
theorem w_153 : (Jvm.Cond.fieldLink "StiltTown$Town" (40 : Nat) "StiltTown$Town" "houses" "I") ∈ bigW := tp_1 (List.mem_of_getElem? (i := 153) rfl) rfl
theorem w_154 : (Jvm.Cond.fieldLink "StiltTown$Nights" (28 : Nat) "StiltTown$Town" "houses" "I") ∈ bigW := tp_1 (List.mem_of_getElem? (i := 154) rfl) rfl
theorem w_155 : (Jvm.Cond.fieldLink "StiltTown$Falls" (47 : Nat) "StiltTown$Town" "houses" "I") ∈ bigW := tp_1 (List.mem_of_getElem? (i := 155) rfl) rfl
theorem w_156 : (Jvm.Cond.fieldLink "StiltTown$Reader" (150 : Nat) "StiltTown$Town" "houses" "I") ∈ bigW := tp_1 (List.mem_of_getElem? (i := 156) rfl) rfl
theorem w_157 : (Jvm.Cond.fieldLink "StiltTown" (178 : Nat) "StiltTown$Town" "houses" "I") ∈ bigW := tp_1 (List.mem_of_getElem? (i := 157) rfl) rfl
theorem w_158 : (Jvm.Cond.fieldLink "StiltTown$Town" (44 : Nat) "StiltTown$Town" "offices" "I") ∈ bigW := tp_1 (List.mem_of_getElem? (i := 158) rfl) rfl
theorem w_159 : (Jvm.Cond.fieldLink "StiltTown$Reader" (169 : Nat) "StiltTown$Town" "offices" "I") ∈ bigW := tp_1 (List.mem_of_getElem? (i := 159) rfl) rfl
theorem w_160 : (Jvm.Cond.fieldLink "StiltTown" (324 : Nat) "StiltTown$Town" "offices" "I") ∈ bigW := tp_1 (List.mem_of_getElem? (i := 160) rfl) rfl
theorem w_161 : (Jvm.Cond.fieldLink "StiltTown$Town" (47 : Nat) "StiltTown$Town" "stairs" "I") ∈ bigW := tp_1 (List.mem_of_getElem? (i := 161) rfl) rfl
theorem w_162 : (Jvm.Cond.fieldLink "StiltTown$Reader" (184 : Nat) "StiltTown$Town" "stairs" "I") ∈ bigW := tp_1 (List.mem_of_getElem? (i := 162) rfl) rfl
theorem w_163 : (Jvm.Cond.fieldLink "StiltTown" (175 : Nat) "StiltTown$Town" "stairs" "I") ∈ bigW := tp_1 (List.mem_of_getElem? (i := 163) rfl) rfl
theorem w_164 : (Jvm.Cond.fieldLink "StiltTown$Town" (50 : Nat) "StiltTown$Town" "quays" "I") ∈ bigW := tp_1 (List.mem_of_getElem? (i := 164) rfl) rfl
theorem w_165 : (Jvm.Cond.fieldLink "StiltTown$Reader" (202 : Nat) "StiltTown$Town" "quays" "I") ∈ bigW := tp_1 (List.mem_of_getElem? (i := 165) rfl) rfl
theorem w_166 : (Jvm.Cond.fieldLink "StiltTown" (352 : Nat) "StiltTown$Town" "quays" "I") ∈ bigW := tp_1 (List.mem_of_getElem? (i := 166) rfl) rfl
theorem w_167 : (Jvm.Cond.fieldLink "StiltTown$Town" (53 : Nat) "StiltTown$Town" "quayBits" "I") ∈ bigW := tp_1 (List.mem_of_getElem? (i := 167) rfl) rfl
theorem w_168 : (Jvm.Cond.fieldLink "StiltTown$Reader" (205 : Nat) "StiltTown$Town" "quayBits" "I") ∈ bigW := tp_1 (List.mem_of_getElem? (i := 168) rfl) rfl
theorem w_169 : (Jvm.Cond.fieldLink "StiltTown$Town" (56 : Nat) "StiltTown$Town" "woods" "I") ∈ bigW := tp_1 (List.mem_of_getElem? (i := 169) rfl) rfl
theorem w_170 : (Jvm.Cond.fieldLink "StiltTown$Yard" (26 : Nat) "StiltTown$Town" "woods" "I") ∈ bigW := tp_1 (List.mem_of_getElem? (i := 170) rfl) rfl
theorem w_171 : (Jvm.Cond.fieldLink "StiltTown$Works" (109 : Nat) "StiltTown$Town" "woods" "I") ∈ bigW := tp_1 (List.mem_of_getElem? (i := 171) rfl) rfl
theorem w_172 : (Jvm.Cond.fieldLink "StiltTown$Reader" (212 : Nat) "StiltTown$Town" "woods" "I") ∈ bigW := tp_1 (List.mem_of_getElem? (i := 172) rfl) rfl
theorem w_173 : (Jvm.Cond.fieldLink "StiltTown" (355 : Nat) "StiltTown$Town" "woods" "I") ∈ bigW := tp_1 (List.mem_of_getElem? (i := 173) rfl) rfl
theorem w_174 : (Jvm.Cond.fieldLink "StiltTown$Town" (59 : Nat) "StiltTown$Town" "crews" "I") ∈ bigW := tp_1 (List.mem_of_getElem? (i := 174) rfl) rfl
theorem w_175 : (Jvm.Cond.fieldLink "StiltTown$Nights" (51 : Nat) "StiltTown$Town" "crews" "I") ∈ bigW := tp_1 (List.mem_of_getElem? (i := 175) rfl) rfl
theorem w_176 : (Jvm.Cond.fieldLink "StiltTown$Reader" (114 : Nat) "StiltTown$Town" "crews" "I") ∈ bigW := tp_1 (List.mem_of_getElem? (i := 176) rfl) rfl
theorem w_177 : (Jvm.Cond.fieldLink "StiltTown$Works" (69 : Nat) "StiltTown$Town" "crews" "I") ∈ bigW := tp_1 (List.mem_of_getElem? (i := 177) rfl) rfl
theorem w_178 : (Jvm.Cond.fieldLink "StiltTown" (233 : Nat) "StiltTown$Town" "crews" "I") ∈ bigW := tp_1 (List.mem_of_getElem? (i := 178) rfl) rfl
theorem w_179 : (Jvm.Cond.fieldLink "StiltTown$Town" (62 : Nat) "StiltTown$Town" "jack" "I") ∈ bigW := tp_1 (List.mem_of_getElem? (i := 179) rfl) rfl
theorem w_180 : (Jvm.Cond.fieldLink "StiltTown$Reader" (117 : Nat) "StiltTown$Town" "jack" "I") ∈ bigW := tp_1 (List.mem_of_getElem? (i := 180) rfl) rfl
theorem w_181 : (Jvm.Cond.fieldLink "StiltTown$Works" (88 : Nat) "StiltTown$Town" "jack" "I") ∈ bigW := tp_1 (List.mem_of_getElem? (i := 181) rfl) rfl
theorem w_182 : (Jvm.Cond.fieldLink "StiltTown" (336 : Nat) "StiltTown$Town" "jack" "I") ∈ bigW := tp_1 (List.mem_of_getElem? (i := 182) rfl) rfl
theorem w_183 : (Jvm.Cond.laysFinal "StiltTown$Town" "StiltTown$Town" "x" "[I") ∈ bigW := tp_1 (List.mem_of_getElem? (i := 183) rfl) rfl
theorem w_185 : (Jvm.Cond.laysFinal "StiltTown$Town" "StiltTown$Town" "load" "[I") ∈ bigW := tp_1 (List.mem_of_getElem? (i := 185) rfl) rfl
theorem w_187 : (Jvm.Cond.laysFinal "StiltTown$Town" "StiltTown$Town" "rank" "[I") ∈ bigW := tp_1 (List.mem_of_getElem? (i := 187) rfl) rfl
theorem w_189 : (Jvm.Cond.laysFinal "StiltTown$Town" "StiltTown$Town" "stairFrom" "[I") ∈ bigW := tp_1 (List.mem_of_getElem? (i := 189) rfl) rfl
theorem w_191 : (Jvm.Cond.laysFinal "StiltTown$Town" "StiltTown$Town" "stairTo" "[I") ∈ bigW := tp_1 (List.mem_of_getElem? (i := 191) rfl) rfl
theorem w_193 : (Jvm.Cond.laysFinal "StiltTown$Town" "StiltTown$Town" "reach" "[I") ∈ bigW := tp_1 (List.mem_of_getElem? (i := 193) rfl) rfl
theorem w_195 : (Jvm.Cond.laysFinal "StiltTown$Town" "StiltTown$Town" "length" "[I") ∈ bigW := tp_1 (List.mem_of_getElem? (i := 195) rfl) rfl
theorem w_197 : (Jvm.Cond.laysFinal "StiltTown$Town" "StiltTown$Town" "laws" "LStiltTown$Laws;") ∈ bigW := tp_1 (List.mem_of_getElem? (i := 197) rfl) rfl
theorem w_199 : (Jvm.Cond.lays "StiltTown$Town" "StiltTown$Town" "houses" "I") ∈ bigW := tp_1 (List.mem_of_getElem? (i := 199) rfl) rfl
theorem w_201 : (Jvm.Cond.lays "StiltTown$Town" "StiltTown$Town" "offices" "I") ∈ bigW := tp_1 (List.mem_of_getElem? (i := 201) rfl) rfl
theorem w_203 : (Jvm.Cond.lays "StiltTown$Town" "StiltTown$Town" "stairs" "I") ∈ bigW := tp_1 (List.mem_of_getElem? (i := 203) rfl) rfl
theorem w_205 : (Jvm.Cond.lays "StiltTown$Town" "StiltTown$Town" "quays" "I") ∈ bigW := tp_1 (List.mem_of_getElem? (i := 205) rfl) rfl
theorem w_207 : (Jvm.Cond.lays "StiltTown$Town" "StiltTown$Town" "quayBits" "I") ∈ bigW := tp_1 (List.mem_of_getElem? (i := 207) rfl) rfl
theorem w_209 : (Jvm.Cond.lays "StiltTown$Town" "StiltTown$Town" "woods" "I") ∈ bigW := tp_1 (List.mem_of_getElem? (i := 209) rfl) rfl
theorem w_211 : (Jvm.Cond.lays "StiltTown$Town" "StiltTown$Town" "crews" "I") ∈ bigW := tp_1 (List.mem_of_getElem? (i := 211) rfl) rfl
theorem w_213 : (Jvm.Cond.lays "StiltTown$Town" "StiltTown$Town" "jack" "I") ∈ bigW := tp_1 (List.mem_of_getElem? (i := 213) rfl) rfl
theorem w_228 : (Jvm.Cond.fieldLink "StiltTown$Logs" (9 : Nat) "StiltTown$Logs" "kind" "[I") ∈ bigW := tp_1 (List.mem_of_getElem? (i := 228) rfl) rfl
theorem w_229 : (Jvm.Cond.fieldLink "StiltTown$Logs" (15 : Nat) "StiltTown$Logs" "who" "[I") ∈ bigW := tp_1 (List.mem_of_getElem? (i := 229) rfl) rfl
theorem w_230 : (Jvm.Cond.fieldLink "StiltTown$Logs" (18 : Nat) "StiltTown$Logs" "which" "[I") ∈ bigW := tp_1 (List.mem_of_getElem? (i := 230) rfl) rfl
theorem w_231 : (Jvm.Cond.fieldLink "StiltTown$Logs" (21 : Nat) "StiltTown$Logs" "told" "[I") ∈ bigW := tp_1 (List.mem_of_getElem? (i := 231) rfl) rfl
theorem w_232 : (Jvm.Cond.fieldLink "StiltTown$Logs" (24 : Nat) "StiltTown$Logs" "struck" "[Z") ∈ bigW := tp_1 (List.mem_of_getElem? (i := 232) rfl) rfl
theorem w_233 : (Jvm.Cond.fieldLink "StiltTown$Logs" (28 : Nat) "StiltTown$Logs" "got" "[I") ∈ bigW := tp_1 (List.mem_of_getElem? (i := 233) rfl) rfl
theorem w_234 : (Jvm.Cond.fieldLink "StiltTown" (315 : Nat) "StiltTown$Logs" "got" "[I") ∈ bigW := tp_1 (List.mem_of_getElem? (i := 234) rfl) rfl
theorem w_235 : (Jvm.Cond.fieldLink "StiltTown$Logs" (31 : Nat) "StiltTown$Logs" "size" "I") ∈ bigW := tp_1 (List.mem_of_getElem? (i := 235) rfl) rfl
theorem w_236 : (Jvm.Cond.fieldLink "StiltTown$State" (44 : Nat) "StiltTown$Logs" "size" "I") ∈ bigW := tp_1 (List.mem_of_getElem? (i := 236) rfl) rfl
theorem w_237 : (Jvm.Cond.fieldLink "StiltTown" (358 : Nat) "StiltTown$Logs" "size" "I") ∈ bigW := tp_1 (List.mem_of_getElem? (i := 237) rfl) rfl
theorem w_238 : (Jvm.Cond.laysFinal "StiltTown$Logs" "StiltTown$Logs" "kind" "[I") ∈ bigW := tp_1 (List.mem_of_getElem? (i := 238) rfl) rfl
theorem w_240 : (Jvm.Cond.laysFinal "StiltTown$Logs" "StiltTown$Logs" "who" "[I") ∈ bigW := tp_2 (List.mem_of_getElem? (i := 0) rfl) rfl
theorem w_242 : (Jvm.Cond.laysFinal "StiltTown$Logs" "StiltTown$Logs" "which" "[I") ∈ bigW := tp_2 (List.mem_of_getElem? (i := 2) rfl) rfl
theorem w_244 : (Jvm.Cond.laysFinal "StiltTown$Logs" "StiltTown$Logs" "told" "[I") ∈ bigW := tp_2 (List.mem_of_getElem? (i := 4) rfl) rfl
theorem w_246 : (Jvm.Cond.laysFinal "StiltTown$Logs" "StiltTown$Logs" "struck" "[Z") ∈ bigW := tp_2 (List.mem_of_getElem? (i := 6) rfl) rfl
theorem w_248 : (Jvm.Cond.laysFinal "StiltTown$Logs" "StiltTown$Logs" "got" "[I") ∈ bigW := tp_2 (List.mem_of_getElem? (i := 8) rfl) rfl
theorem w_250 : (Jvm.Cond.lays "StiltTown$Logs" "StiltTown$Logs" "size" "I") ∈ bigW := tp_2 (List.mem_of_getElem? (i := 10) rfl) rfl
theorem w_254 : (Jvm.Cond.fieldLink "StiltTown$State" (9 : Nat) "StiltTown$State" "height" "[I") ∈ bigW := tp_2 (List.mem_of_getElem? (i := 14) rfl) rfl
theorem w_255 : (Jvm.Cond.fieldLink "StiltTown$Nights" (40 : Nat) "StiltTown$State" "height" "[I") ∈ bigW := tp_2 (List.mem_of_getElem? (i := 15) rfl) rfl
theorem w_256 : (Jvm.Cond.fieldLink "StiltTown$Works" (36 : Nat) "StiltTown$State" "height" "[I") ∈ bigW := tp_2 (List.mem_of_getElem? (i := 16) rfl) rfl
theorem w_257 : (Jvm.Cond.fieldLink "StiltTown$Reader" (163 : Nat) "StiltTown$State" "height" "[I") ∈ bigW := tp_2 (List.mem_of_getElem? (i := 17) rfl) rfl
theorem w_258 : (Jvm.Cond.fieldLink "StiltTown" (117 : Nat) "StiltTown$State" "height" "[I") ∈ bigW := tp_2 (List.mem_of_getElem? (i := 18) rfl) rfl
theorem w_259 : (Jvm.Cond.fieldLink "StiltTown$Town" (127 : Nat) "StiltTown$State" "height" "[I") ∈ bigW := tp_2 (List.mem_of_getElem? (i := 19) rfl) rfl
theorem w_260 : (Jvm.Cond.fieldLink "StiltTown$State" (15 : Nat) "StiltTown$State" "office" "[I") ∈ bigW := tp_2 (List.mem_of_getElem? (i := 20) rfl) rfl
theorem w_261 : (Jvm.Cond.fieldLink "StiltTown$Town" (68 : Nat) "StiltTown$State" "office" "[I") ∈ bigW := tp_2 (List.mem_of_getElem? (i := 21) rfl) rfl
theorem w_262 : (Jvm.Cond.fieldLink "StiltTown" (123 : Nat) "StiltTown$State" "office" "[I") ∈ bigW := tp_2 (List.mem_of_getElem? (i := 22) rfl) rfl
theorem w_263 : (Jvm.Cond.fieldLink "StiltTown$State" (18 : Nat) "StiltTown$State" "wood" "[I") ∈ bigW := tp_2 (List.mem_of_getElem? (i := 23) rfl) rfl
theorem w_264 : (Jvm.Cond.fieldLink "StiltTown$Works" (45 : Nat) "StiltTown$State" "wood" "[I") ∈ bigW := tp_2 (List.mem_of_getElem? (i := 24) rfl) rfl
theorem w_265 : (Jvm.Cond.fieldLink "StiltTown$Reader" (218 : Nat) "StiltTown$State" "wood" "[I") ∈ bigW := tp_2 (List.mem_of_getElem? (i := 25) rfl) rfl
theorem w_266 : (Jvm.Cond.fieldLink "StiltTown" (199 : Nat) "StiltTown$State" "wood" "[I") ∈ bigW := tp_2 (List.mem_of_getElem? (i := 26) rfl) rfl
theorem w_267 : (Jvm.Cond.fieldLink "StiltTown$State" (21 : Nat) "StiltTown$State" "night" "[I") ∈ bigW := tp_2 (List.mem_of_getElem? (i := 27) rfl) rfl
theorem w_268 : (Jvm.Cond.fieldLink "StiltTown$Works" (62 : Nat) "StiltTown$State" "night" "[I") ∈ bigW := tp_2 (List.mem_of_getElem? (i := 28) rfl) rfl
theorem w_269 : (Jvm.Cond.fieldLink "StiltTown$State" (24 : Nat) "StiltTown$State" "workHouse" "[I") ∈ bigW := tp_2 (List.mem_of_getElem? (i := 29) rfl) rfl
theorem w_270 : (Jvm.Cond.fieldLink "StiltTown$Works" (72 : Nat) "StiltTown$State" "workHouse" "[I") ∈ bigW := tp_2 (List.mem_of_getElem? (i := 30) rfl) rfl
theorem w_271 : (Jvm.Cond.fieldLink "StiltTown$State" (27 : Nat) "StiltTown$State" "inches" "[I") ∈ bigW := tp_2 (List.mem_of_getElem? (i := 31) rfl) rfl
theorem w_272 : (Jvm.Cond.fieldLink "StiltTown$Works" (75 : Nat) "StiltTown$State" "inches" "[I") ∈ bigW := tp_2 (List.mem_of_getElem? (i := 32) rfl) rfl
theorem w_273 : (Jvm.Cond.fieldLink "StiltTown$State" (33 : Nat) "StiltTown$State" "logs" "LStiltTown$Logs;") ∈ bigW := tp_2 (List.mem_of_getElem? (i := 33) rfl) rfl
theorem w_274 : (Jvm.Cond.fieldLink "StiltTown" (297 : Nat) "StiltTown$State" "logs" "LStiltTown$Logs;") ∈ bigW := tp_2 (List.mem_of_getElem? (i := 34) rfl) rfl
theorem w_275 : (Jvm.Cond.fieldLink "StiltTown$State" (37 : Nat) "StiltTown$State" "works" "I") ∈ bigW := tp_2 (List.mem_of_getElem? (i := 35) rfl) rfl
theorem w_276 : (Jvm.Cond.fieldLink "StiltTown$Works" (59 : Nat) "StiltTown$State" "works" "I") ∈ bigW := tp_2 (List.mem_of_getElem? (i := 36) rfl) rfl
theorem w_277 : (Jvm.Cond.fieldLink "StiltTown" (216 : Nat) "StiltTown$State" "works" "I") ∈ bigW := tp_2 (List.mem_of_getElem? (i := 37) rfl) rfl
theorem w_278 : (Jvm.Cond.fieldLink "StiltTown$State" (41 : Nat) "StiltTown$State" "month" "I") ∈ bigW := tp_2 (List.mem_of_getElem? (i := 38) rfl) rfl
theorem w_279 : (Jvm.Cond.fieldLink "StiltTown$Town" (80 : Nat) "StiltTown$State" "month" "I") ∈ bigW := tp_2 (List.mem_of_getElem? (i := 39) rfl) rfl
theorem w_280 : (Jvm.Cond.fieldLink "StiltTown" (148 : Nat) "StiltTown$State" "month" "I") ∈ bigW := tp_2 (List.mem_of_getElem? (i := 40) rfl) rfl
theorem w_281 : (Jvm.Cond.laysFinal "StiltTown$State" "StiltTown$State" "height" "[I") ∈ bigW := tp_2 (List.mem_of_getElem? (i := 41) rfl) rfl
theorem w_283 : (Jvm.Cond.laysFinal "StiltTown$State" "StiltTown$State" "office" "[I") ∈ bigW := tp_2 (List.mem_of_getElem? (i := 43) rfl) rfl
theorem w_285 : (Jvm.Cond.laysFinal "StiltTown$State" "StiltTown$State" "wood" "[I") ∈ bigW := tp_2 (List.mem_of_getElem? (i := 45) rfl) rfl
theorem w_287 : (Jvm.Cond.laysFinal "StiltTown$State" "StiltTown$State" "night" "[I") ∈ bigW := tp_2 (List.mem_of_getElem? (i := 47) rfl) rfl
theorem w_289 : (Jvm.Cond.laysFinal "StiltTown$State" "StiltTown$State" "workHouse" "[I") ∈ bigW := tp_2 (List.mem_of_getElem? (i := 49) rfl) rfl
theorem w_291 : (Jvm.Cond.laysFinal "StiltTown$State" "StiltTown$State" "inches" "[I") ∈ bigW := tp_2 (List.mem_of_getElem? (i := 51) rfl) rfl
theorem w_293 : (Jvm.Cond.laysFinal "StiltTown$State" "StiltTown$State" "logs" "LStiltTown$Logs;") ∈ bigW := tp_2 (List.mem_of_getElem? (i := 53) rfl) rfl
theorem w_295 : (Jvm.Cond.lays "StiltTown$State" "StiltTown$State" "works" "I") ∈ bigW := tp_2 (List.mem_of_getElem? (i := 55) rfl) rfl
theorem w_297 : (Jvm.Cond.lays "StiltTown$State" "StiltTown$State" "month" "I") ∈ bigW := tp_2 (List.mem_of_getElem? (i := 57) rfl) rfl
theorem w_300 : (Jvm.Cond.fieldLink "StiltTown$Reader" (9 : Nat) "StiltTown$Reader" "names" "[J") ∈ bigW := tp_2 (List.mem_of_getElem? (i := 60) rfl) rfl
theorem w_301 : (Jvm.Cond.fieldLink "StiltTown$Reader" (15 : Nat) "StiltTown$Reader" "owners" "[I") ∈ bigW := tp_2 (List.mem_of_getElem? (i := 61) rfl) rfl
theorem w_302 : (Jvm.Cond.fieldLink "StiltTown$Reader" (19 : Nat) "StiltTown$Reader" "waiting" "[I") ∈ bigW := tp_2 (List.mem_of_getElem? (i := 62) rfl) rfl
theorem w_303 : (Jvm.Cond.fieldLink "StiltTown" (16 : Nat) "StiltTown$Reader" "tokens" "LStiltTown$Tokens;") ∈ bigW := tp_2 (List.mem_of_getElem? (i := 63) rfl) rfl
theorem w_304 : (Jvm.Cond.fieldLink "StiltTown$Reader" (25 : Nat) "StiltTown$Reader" "tokens" "LStiltTown$Tokens;") ∈ bigW := tp_2 (List.mem_of_getElem? (i := 64) rfl) rfl
theorem w_305 : (Jvm.Cond.fieldLink "StiltTown$Reader" (32 : Nat) "StiltTown$Reader" "town" "LStiltTown$Town;") ∈ bigW := tp_2 (List.mem_of_getElem? (i := 65) rfl) rfl
theorem w_306 : (Jvm.Cond.fieldLink "StiltTown" (98 : Nat) "StiltTown$Reader" "town" "LStiltTown$Town;") ∈ bigW := tp_2 (List.mem_of_getElem? (i := 66) rfl) rfl
theorem w_307 : (Jvm.Cond.fieldLink "StiltTown$Reader" (39 : Nat) "StiltTown$Reader" "state" "LStiltTown$State;") ∈ bigW := tp_2 (List.mem_of_getElem? (i := 67) rfl) rfl
theorem w_308 : (Jvm.Cond.fieldLink "StiltTown" (99 : Nat) "StiltTown$Reader" "state" "LStiltTown$State;") ∈ bigW := tp_2 (List.mem_of_getElem? (i := 68) rfl) rfl
theorem w_309 : (Jvm.Cond.fieldLink "StiltTown$Reader" (43 : Nat) "StiltTown$Reader" "at" "I") ∈ bigW := tp_2 (List.mem_of_getElem? (i := 69) rfl) rfl
theorem w_310 : (Jvm.Cond.fieldLink "StiltTown$Reader" (47 : Nat) "StiltTown$Reader" "fault" "I") ∈ bigW := tp_2 (List.mem_of_getElem? (i := 70) rfl) rfl
theorem w_311 : (Jvm.Cond.fieldLink "StiltTown$Reader" (50 : Nat) "StiltTown$Reader" "place" "I") ∈ bigW := tp_2 (List.mem_of_getElem? (i := 71) rfl) rfl
theorem w_312 : (Jvm.Cond.fieldLink "StiltTown" (106 : Nat) "StiltTown$Reader" "place" "I") ∈ bigW := tp_2 (List.mem_of_getElem? (i := 72) rfl) rfl
theorem w_313 : (Jvm.Cond.fieldLink "StiltTown$Reader" (53 : Nat) "StiltTown$Reader" "lateFault" "I") ∈ bigW := tp_2 (List.mem_of_getElem? (i := 73) rfl) rfl
theorem w_314 : (Jvm.Cond.fieldLink "StiltTown$Reader" (56 : Nat) "StiltTown$Reader" "latePlace" "I") ∈ bigW := tp_2 (List.mem_of_getElem? (i := 74) rfl) rfl
theorem w_315 : (Jvm.Cond.fieldLink "StiltTown$Reader" (59 : Nat) "StiltTown$Reader" "named" "I") ∈ bigW := tp_2 (List.mem_of_getElem? (i := 75) rfl) rfl
theorem w_316 : (Jvm.Cond.fieldLink "StiltTown$Reader" (62 : Nat) "StiltTown$Reader" "ins" "I") ∈ bigW := tp_2 (List.mem_of_getElem? (i := 76) rfl) rfl
theorem w_317 : (Jvm.Cond.fieldLink "StiltTown$Reader" (65 : Nat) "StiltTown$Reader" "waits" "I") ∈ bigW := tp_2 (List.mem_of_getElem? (i := 77) rfl) rfl
theorem w_318 : (Jvm.Cond.fieldLink "StiltTown$Reader" (68 : Nat) "StiltTown$Reader" "side" "I") ∈ bigW := tp_2 (List.mem_of_getElem? (i := 78) rfl) rfl
theorem w_319 : (Jvm.Cond.fieldLink "StiltTown$Reader" (71 : Nat) "StiltTown$Reader" "open" "I") ∈ bigW := tp_2 (List.mem_of_getElem? (i := 79) rfl) rfl
theorem w_320 : (Jvm.Cond.fieldLink "StiltTown$Reader" (74 : Nat) "StiltTown$Reader" "wantsUnit" "Z") ∈ bigW := tp_2 (List.mem_of_getElem? (i := 80) rfl) rfl
theorem w_321 : (Jvm.Cond.fieldLink "StiltTown$Reader" (78 : Nat) "StiltTown$Reader" "canTurn" "Z") ∈ bigW := tp_2 (List.mem_of_getElem? (i := 81) rfl) rfl
theorem w_322 : (Jvm.Cond.laysFinal "StiltTown$Reader" "StiltTown$Reader" "names" "[J") ∈ bigW := tp_2 (List.mem_of_getElem? (i := 82) rfl) rfl
theorem w_324 : (Jvm.Cond.laysFinal "StiltTown$Reader" "StiltTown$Reader" "owners" "[I") ∈ bigW := tp_2 (List.mem_of_getElem? (i := 84) rfl) rfl
theorem w_326 : (Jvm.Cond.laysFinal "StiltTown$Reader" "StiltTown$Reader" "waiting" "[I") ∈ bigW := tp_2 (List.mem_of_getElem? (i := 86) rfl) rfl
theorem w_328 : (Jvm.Cond.laysFinal "StiltTown$Reader" "StiltTown$Reader" "tokens" "LStiltTown$Tokens;") ∈ bigW := tp_2 (List.mem_of_getElem? (i := 88) rfl) rfl
theorem w_330 : (Jvm.Cond.lays "StiltTown$Reader" "StiltTown$Reader" "town" "LStiltTown$Town;") ∈ bigW := tp_2 (List.mem_of_getElem? (i := 90) rfl) rfl
theorem w_332 : (Jvm.Cond.lays "StiltTown$Reader" "StiltTown$Reader" "state" "LStiltTown$State;") ∈ bigW := tp_2 (List.mem_of_getElem? (i := 92) rfl) rfl
theorem w_334 : (Jvm.Cond.lays "StiltTown$Reader" "StiltTown$Reader" "at" "I") ∈ bigW := tp_2 (List.mem_of_getElem? (i := 94) rfl) rfl
theorem w_336 : (Jvm.Cond.lays "StiltTown$Reader" "StiltTown$Reader" "fault" "I") ∈ bigW := tp_2 (List.mem_of_getElem? (i := 96) rfl) rfl
theorem w_338 : (Jvm.Cond.lays "StiltTown$Reader" "StiltTown$Reader" "place" "I") ∈ bigW := tp_2 (List.mem_of_getElem? (i := 98) rfl) rfl
theorem w_340 : (Jvm.Cond.lays "StiltTown$Reader" "StiltTown$Reader" "lateFault" "I") ∈ bigW := tp_2 (List.mem_of_getElem? (i := 100) rfl) rfl
theorem w_342 : (Jvm.Cond.lays "StiltTown$Reader" "StiltTown$Reader" "latePlace" "I") ∈ bigW := tp_2 (List.mem_of_getElem? (i := 102) rfl) rfl
theorem w_344 : (Jvm.Cond.lays "StiltTown$Reader" "StiltTown$Reader" "named" "I") ∈ bigW := tp_2 (List.mem_of_getElem? (i := 104) rfl) rfl
theorem w_346 : (Jvm.Cond.lays "StiltTown$Reader" "StiltTown$Reader" "ins" "I") ∈ bigW := tp_2 (List.mem_of_getElem? (i := 106) rfl) rfl
theorem w_348 : (Jvm.Cond.lays "StiltTown$Reader" "StiltTown$Reader" "waits" "I") ∈ bigW := tp_2 (List.mem_of_getElem? (i := 108) rfl) rfl
theorem w_350 : (Jvm.Cond.lays "StiltTown$Reader" "StiltTown$Reader" "side" "I") ∈ bigW := tp_2 (List.mem_of_getElem? (i := 110) rfl) rfl
theorem w_352 : (Jvm.Cond.lays "StiltTown$Reader" "StiltTown$Reader" "open" "I") ∈ bigW := tp_2 (List.mem_of_getElem? (i := 112) rfl) rfl
theorem w_354 : (Jvm.Cond.lays "StiltTown$Reader" "StiltTown$Reader" "wantsUnit" "Z") ∈ bigW := tp_2 (List.mem_of_getElem? (i := 114) rfl) rfl
theorem w_356 : (Jvm.Cond.lays "StiltTown$Reader" "StiltTown$Reader" "canTurn" "Z") ∈ bigW := tp_2 (List.mem_of_getElem? (i := 116) rfl) rfl
theorem w_365 : (Jvm.Cond.fieldLink "StiltTown$Yard" (11 : Nat) "StiltTown$Yard" "fewest" "[I") ∈ bigW := tp_2 (List.mem_of_getElem? (i := 125) rfl) rfl
theorem w_366 : (Jvm.Cond.fieldLink "StiltTown$Yard" (15 : Nat) "StiltTown$Yard" "used" "[I") ∈ bigW := tp_2 (List.mem_of_getElem? (i := 126) rfl) rfl
theorem w_367 : (Jvm.Cond.fieldLink "StiltTown$Works" (119 : Nat) "StiltTown$Yard" "used" "[I") ∈ bigW := tp_2 (List.mem_of_getElem? (i := 127) rfl) rfl
theorem w_368 : (Jvm.Cond.fieldLink "StiltTown" (209 : Nat) "StiltTown$Yard" "used" "[I") ∈ bigW := tp_2 (List.mem_of_getElem? (i := 128) rfl) rfl
theorem w_369 : (Jvm.Cond.fieldLink "StiltTown$Yard" (18 : Nat) "StiltTown$Yard" "pieces" "I") ∈ bigW := tp_2 (List.mem_of_getElem? (i := 129) rfl) rfl
theorem w_370 : (Jvm.Cond.fieldLink "StiltTown$Works" (122 : Nat) "StiltTown$Yard" "pieces" "I") ∈ bigW := tp_2 (List.mem_of_getElem? (i := 130) rfl) rfl
theorem w_371 : (Jvm.Cond.fieldLink "StiltTown" (206 : Nat) "StiltTown$Yard" "pieces" "I") ∈ bigW := tp_2 (List.mem_of_getElem? (i := 131) rfl) rfl
theorem w_372 : (Jvm.Cond.laysFinal "StiltTown$Yard" "StiltTown$Yard" "fewest" "[I") ∈ bigW := tp_2 (List.mem_of_getElem? (i := 132) rfl) rfl
theorem w_374 : (Jvm.Cond.laysFinal "StiltTown$Yard" "StiltTown$Yard" "used" "[I") ∈ bigW := tp_2 (List.mem_of_getElem? (i := 134) rfl) rfl
theorem w_376 : (Jvm.Cond.lays "StiltTown$Yard" "StiltTown$Yard" "pieces" "I") ∈ bigW := tp_2 (List.mem_of_getElem? (i := 136) rfl) rfl
theorem w_387 : (Jvm.Cond.fieldLink "StiltTown$Works" (9 : Nat) "StiltTown$Works" "height" "[I") ∈ bigW := tp_2 (List.mem_of_getElem? (i := 147) rfl) rfl
theorem w_388 : (Jvm.Cond.fieldLink "StiltTown$Works" (15 : Nat) "StiltTown$Works" "wood" "[I") ∈ bigW := tp_2 (List.mem_of_getElem? (i := 148) rfl) rfl
theorem w_389 : (Jvm.Cond.fieldLink "StiltTown$Works" (20 : Nat) "StiltTown$Works" "oldHeight" "[[I") ∈ bigW := tp_2 (List.mem_of_getElem? (i := 149) rfl) rfl
theorem w_390 : (Jvm.Cond.fieldLink "StiltTown$Works" (23 : Nat) "StiltTown$Works" "oldWood" "[[I") ∈ bigW := tp_2 (List.mem_of_getElem? (i := 150) rfl) rfl
theorem w_391 : (Jvm.Cond.fieldLink "StiltTown$Works" (26 : Nat) "StiltTown$Works" "lots" "I") ∈ bigW := tp_2 (List.mem_of_getElem? (i := 151) rfl) rfl
theorem w_392 : (Jvm.Cond.fieldLink "StiltTown" (359 : Nat) "StiltTown$Works" "lots" "I") ∈ bigW := tp_2 (List.mem_of_getElem? (i := 152) rfl) rfl
theorem w_393 : (Jvm.Cond.fieldLink "StiltTown$Works" (30 : Nat) "StiltTown$Works" "next" "I") ∈ bigW := tp_2 (List.mem_of_getElem? (i := 153) rfl) rfl
theorem w_394 : (Jvm.Cond.fieldLink "StiltTown$Works" (33 : Nat) "StiltTown$Works" "taken" "I") ∈ bigW := tp_2 (List.mem_of_getElem? (i := 154) rfl) rfl
theorem w_395 : (Jvm.Cond.fieldLink "StiltTown" (226 : Nat) "StiltTown$Works" "taken" "I") ∈ bigW := tp_2 (List.mem_of_getElem? (i := 155) rfl) rfl
theorem w_396 : (Jvm.Cond.laysFinal "StiltTown$Works" "StiltTown$Works" "height" "[I") ∈ bigW := tp_2 (List.mem_of_getElem? (i := 156) rfl) rfl
theorem w_398 : (Jvm.Cond.laysFinal "StiltTown$Works" "StiltTown$Works" "wood" "[I") ∈ bigW := tp_2 (List.mem_of_getElem? (i := 158) rfl) rfl
theorem w_400 : (Jvm.Cond.laysFinal "StiltTown$Works" "StiltTown$Works" "oldHeight" "[[I") ∈ bigW := tp_2 (List.mem_of_getElem? (i := 160) rfl) rfl
theorem w_402 : (Jvm.Cond.laysFinal "StiltTown$Works" "StiltTown$Works" "oldWood" "[[I") ∈ bigW := tp_2 (List.mem_of_getElem? (i := 162) rfl) rfl
theorem w_404 : (Jvm.Cond.lays "StiltTown$Works" "StiltTown$Works" "lots" "I") ∈ bigW := tp_2 (List.mem_of_getElem? (i := 164) rfl) rfl
theorem w_406 : (Jvm.Cond.lays "StiltTown$Works" "StiltTown$Works" "next" "I") ∈ bigW := tp_2 (List.mem_of_getElem? (i := 166) rfl) rfl
theorem w_408 : (Jvm.Cond.lays "StiltTown$Works" "StiltTown$Works" "taken" "I") ∈ bigW := tp_2 (List.mem_of_getElem? (i := 168) rfl) rfl
theorem w_417 : (Jvm.Cond.fieldLink "StiltTown$Nights" (11 : Nat) "StiltTown$Nights" "untrue" "[I") ∈ bigW := tp_2 (List.mem_of_getElem? (i := 177) rfl) rfl
theorem w_418 : (Jvm.Cond.fieldLink "StiltTown$Nights" (15 : Nat) "StiltTown$Nights" "height" "[I") ∈ bigW := tp_2 (List.mem_of_getElem? (i := 178) rfl) rfl
theorem w_419 : (Jvm.Cond.fieldLink "StiltTown$Nights" (18 : Nat) "StiltTown$Nights" "due" "[I") ∈ bigW := tp_2 (List.mem_of_getElem? (i := 179) rfl) rfl
theorem w_420 : (Jvm.Cond.fieldLink "StiltTown$Nights" (21 : Nat) "StiltTown$Nights" "left" "[I") ∈ bigW := tp_2 (List.mem_of_getElem? (i := 180) rfl) rfl
theorem w_421 : (Jvm.Cond.fieldLink "StiltTown$Nights" (24 : Nat) "StiltTown$Nights" "many" "I") ∈ bigW := tp_2 (List.mem_of_getElem? (i := 181) rfl) rfl
theorem w_422 : (Jvm.Cond.laysFinal "StiltTown$Nights" "StiltTown$Nights" "untrue" "[I") ∈ bigW := tp_2 (List.mem_of_getElem? (i := 182) rfl) rfl
theorem w_424 : (Jvm.Cond.laysFinal "StiltTown$Nights" "StiltTown$Nights" "height" "[I") ∈ bigW := tp_2 (List.mem_of_getElem? (i := 184) rfl) rfl
theorem w_426 : (Jvm.Cond.laysFinal "StiltTown$Nights" "StiltTown$Nights" "due" "[I") ∈ bigW := tp_2 (List.mem_of_getElem? (i := 186) rfl) rfl
theorem w_428 : (Jvm.Cond.laysFinal "StiltTown$Nights" "StiltTown$Nights" "left" "[I") ∈ bigW := tp_2 (List.mem_of_getElem? (i := 188) rfl) rfl
theorem w_430 : (Jvm.Cond.lays "StiltTown$Nights" "StiltTown$Nights" "many" "I") ∈ bigW := tp_2 (List.mem_of_getElem? (i := 190) rfl) rfl
theorem w_439 : (Jvm.Cond.fieldLink "StiltTown$Falls" (9 : Nat) "StiltTown$Falls" "round" "[I") ∈ bigW := tp_2 (List.mem_of_getElem? (i := 199) rfl) rfl
theorem w_440 : (Jvm.Cond.fieldLink "StiltTown" (274 : Nat) "StiltTown$Falls" "round" "[I") ∈ bigW := tp_2 (List.mem_of_getElem? (i := 200) rfl) rfl
theorem w_441 : (Jvm.Cond.fieldLink "StiltTown$Falls" (15 : Nat) "StiltTown$Falls" "beside" "[I") ∈ bigW := tp_2 (List.mem_of_getElem? (i := 201) rfl) rfl
theorem w_442 : (Jvm.Cond.fieldLink "StiltTown$Falls" (18 : Nat) "StiltTown$Falls" "verdict" "[I") ∈ bigW := tp_2 (List.mem_of_getElem? (i := 202) rfl) rfl
theorem w_443 : (Jvm.Cond.fieldLink "StiltTown$Falls" (21 : Nat) "StiltTown$Falls" "lastRound" "I") ∈ bigW := tp_2 (List.mem_of_getElem? (i := 203) rfl) rfl
theorem w_444 : (Jvm.Cond.fieldLink "StiltTown" (277 : Nat) "StiltTown$Falls" "lastRound" "I") ∈ bigW := tp_2 (List.mem_of_getElem? (i := 204) rfl) rfl
theorem w_445 : (Jvm.Cond.laysFinal "StiltTown$Falls" "StiltTown$Falls" "round" "[I") ∈ bigW := tp_2 (List.mem_of_getElem? (i := 205) rfl) rfl
theorem w_447 : (Jvm.Cond.laysFinal "StiltTown$Falls" "StiltTown$Falls" "beside" "[I") ∈ bigW := tp_2 (List.mem_of_getElem? (i := 207) rfl) rfl
theorem w_449 : (Jvm.Cond.laysFinal "StiltTown$Falls" "StiltTown$Falls" "verdict" "[I") ∈ bigW := tp_2 (List.mem_of_getElem? (i := 209) rfl) rfl
theorem w_451 : (Jvm.Cond.lays "StiltTown$Falls" "StiltTown$Falls" "lastRound" "I") ∈ bigW := tp_2 (List.mem_of_getElem? (i := 211) rfl) rfl
theorem w_460 : (Jvm.Cond.fieldLink "StiltTown$Row" (9 : Nat) "StiltTown$Row" "dues" "[I") ∈ bigW := tp_2 (List.mem_of_getElem? (i := 220) rfl) rfl
theorem w_461 : (Jvm.Cond.fieldLink "StiltTown$Row" (15 : Nat) "StiltTown$Row" "least" "[I") ∈ bigW := tp_2 (List.mem_of_getElem? (i := 221) rfl) rfl
theorem w_462 : (Jvm.Cond.fieldLink "StiltTown$Row" (18 : Nat) "StiltTown$Row" "size" "I") ∈ bigW := tp_2 (List.mem_of_getElem? (i := 222) rfl) rfl
theorem w_463 : (Jvm.Cond.fieldLink "StiltTown" (105 : Nat) "StiltTown$Row" "size" "I") ∈ bigW := tp_2 (List.mem_of_getElem? (i := 223) rfl) rfl
theorem w_464 : (Jvm.Cond.fieldLink "StiltTown$Row" (22 : Nat) "StiltTown$Row" "slack" "I") ∈ bigW := tp_2 (List.mem_of_getElem? (i := 224) rfl) rfl
theorem w_465 : (Jvm.Cond.fieldLink "StiltTown$Row" (25 : Nat) "StiltTown$Row" "up" "I") ∈ bigW := tp_2 (List.mem_of_getElem? (i := 225) rfl) rfl
theorem w_466 : (Jvm.Cond.fieldLink "StiltTown$Row" (28 : Nat) "StiltTown$Row" "down" "I") ∈ bigW := tp_2 (List.mem_of_getElem? (i := 226) rfl) rfl
theorem w_467 : (Jvm.Cond.fieldLink "StiltTown$Row" (31 : Nat) "StiltTown$Row" "change" "I") ∈ bigW := tp_2 (List.mem_of_getElem? (i := 227) rfl) rfl
theorem w_468 : (Jvm.Cond.laysFinal "StiltTown$Row" "StiltTown$Row" "dues" "[I") ∈ bigW := tp_2 (List.mem_of_getElem? (i := 228) rfl) rfl
theorem w_470 : (Jvm.Cond.laysFinal "StiltTown$Row" "StiltTown$Row" "least" "[I") ∈ bigW := tp_2 (List.mem_of_getElem? (i := 230) rfl) rfl
theorem w_472 : (Jvm.Cond.lays "StiltTown$Row" "StiltTown$Row" "size" "I") ∈ bigW := tp_2 (List.mem_of_getElem? (i := 232) rfl) rfl
theorem w_474 : (Jvm.Cond.lays "StiltTown$Row" "StiltTown$Row" "slack" "I") ∈ bigW := tp_2 (List.mem_of_getElem? (i := 234) rfl) rfl
theorem w_476 : (Jvm.Cond.lays "StiltTown$Row" "StiltTown$Row" "up" "I") ∈ bigW := tp_2 (List.mem_of_getElem? (i := 236) rfl) rfl
theorem w_478 : (Jvm.Cond.lays "StiltTown$Row" "StiltTown$Row" "down" "I") ∈ bigW := tp_2 (List.mem_of_getElem? (i := 238) rfl) rfl
theorem w_480 : (Jvm.Cond.lays "StiltTown$Row" "StiltTown$Row" "change" "I") ∈ bigW := tp_3 (List.mem_of_getElem? (i := 0) rfl) rfl
theorem w_488 : (Jvm.Cond.fieldLink "StiltTown" (10 : Nat) "StiltTown" "reader" "LStiltTown$Reader;") ∈ bigW := tp_3 (List.mem_of_getElem? (i := 8) rfl) rfl
theorem w_489 : (Jvm.Cond.fieldLink "StiltTown" (20 : Nat) "StiltTown" "tokens" "LStiltTown$Tokens;") ∈ bigW := tp_3 (List.mem_of_getElem? (i := 9) rfl) rfl
theorem w_490 : (Jvm.Cond.fieldLink "StiltTown" (24 : Nat) "StiltTown" "yard" "LStiltTown$Yard;") ∈ bigW := tp_3 (List.mem_of_getElem? (i := 10) rfl) rfl
theorem w_491 : (Jvm.Cond.fieldLink "StiltTown" (31 : Nat) "StiltTown" "works" "LStiltTown$Works;") ∈ bigW := tp_3 (List.mem_of_getElem? (i := 11) rfl) rfl
theorem w_492 : (Jvm.Cond.fieldLink "StiltTown" (38 : Nat) "StiltTown" "plan" "LStiltTown$Nights;") ∈ bigW := tp_3 (List.mem_of_getElem? (i := 12) rfl) rfl
theorem w_493 : (Jvm.Cond.fieldLink "StiltTown" (45 : Nat) "StiltTown" "falls" "LStiltTown$Falls;") ∈ bigW := tp_3 (List.mem_of_getElem? (i := 13) rfl) rfl
theorem w_494 : (Jvm.Cond.fieldLink "StiltTown" (52 : Nat) "StiltTown" "row" "LStiltTown$Row;") ∈ bigW := tp_3 (List.mem_of_getElem? (i := 14) rfl) rfl
theorem w_495 : (Jvm.Cond.fieldLink "StiltTown" (58 : Nat) "StiltTown" "slots" "[LStiltTown$State;") ∈ bigW := tp_3 (List.mem_of_getElem? (i := 15) rfl) rfl
theorem w_496 : (Jvm.Cond.fieldLink "StiltTown" (62 : Nat) "StiltTown" "held" "[Z") ∈ bigW := tp_3 (List.mem_of_getElem? (i := 16) rfl) rfl
theorem w_497 : (Jvm.Cond.fieldLink "StiltTown" (69 : Nat) "StiltTown" "town" "LStiltTown$Town;") ∈ bigW := tp_3 (List.mem_of_getElem? (i := 17) rfl) rfl
theorem w_498 : (Jvm.Cond.fieldLink "StiltTown" (74 : Nat) "StiltTown" "now" "LStiltTown$State;") ∈ bigW := tp_3 (List.mem_of_getElem? (i := 18) rfl) rfl
theorem w_499 : (Jvm.Cond.laysFinal "StiltTown" "StiltTown" "reader" "LStiltTown$Reader;") ∈ bigW := tp_3 (List.mem_of_getElem? (i := 19) rfl) rfl
theorem w_501 : (Jvm.Cond.laysFinal "StiltTown" "StiltTown" "tokens" "LStiltTown$Tokens;") ∈ bigW := tp_3 (List.mem_of_getElem? (i := 21) rfl) rfl
theorem w_503 : (Jvm.Cond.laysFinal "StiltTown" "StiltTown" "yard" "LStiltTown$Yard;") ∈ bigW := tp_3 (List.mem_of_getElem? (i := 23) rfl) rfl
theorem w_505 : (Jvm.Cond.laysFinal "StiltTown" "StiltTown" "works" "LStiltTown$Works;") ∈ bigW := tp_3 (List.mem_of_getElem? (i := 25) rfl) rfl
theorem w_507 : (Jvm.Cond.laysFinal "StiltTown" "StiltTown" "plan" "LStiltTown$Nights;") ∈ bigW := tp_3 (List.mem_of_getElem? (i := 27) rfl) rfl
theorem w_509 : (Jvm.Cond.laysFinal "StiltTown" "StiltTown" "falls" "LStiltTown$Falls;") ∈ bigW := tp_3 (List.mem_of_getElem? (i := 29) rfl) rfl
theorem w_511 : (Jvm.Cond.laysFinal "StiltTown" "StiltTown" "row" "LStiltTown$Row;") ∈ bigW := tp_3 (List.mem_of_getElem? (i := 31) rfl) rfl
theorem w_513 : (Jvm.Cond.laysFinal "StiltTown" "StiltTown" "slots" "[LStiltTown$State;") ∈ bigW := tp_3 (List.mem_of_getElem? (i := 33) rfl) rfl
theorem w_515 : (Jvm.Cond.laysFinal "StiltTown" "StiltTown" "held" "[Z") ∈ bigW := tp_3 (List.mem_of_getElem? (i := 35) rfl) rfl
theorem w_517 : (Jvm.Cond.lays "StiltTown" "StiltTown" "town" "LStiltTown$Town;") ∈ bigW := tp_3 (List.mem_of_getElem? (i := 37) rfl) rfl
theorem w_519 : (Jvm.Cond.lays "StiltTown" "StiltTown" "now" "LStiltTown$State;") ∈ bigW := tp_3 (List.mem_of_getElem? (i := 39) rfl) rfl
theorem w_522 : (Jvm.Cond.methodLink "StiltTownLaw" (13 : Nat) ({ cls := "StiltTown", name := "feed", desc := "(IIIII)I" } : Jvm.MethodName)) ∈ bigW := tp_3 (List.mem_of_getElem? (i := 42) rfl) rfl
theorem w_523 : (Jvm.Cond.instanceMethod ({ cls := "StiltTown", name := "feed", desc := "(IIIII)I" } : Jvm.MethodName)) ∈ bigW := tp_3 (List.mem_of_getElem? (i := 43) rfl) rfl
theorem w_524 : (Jvm.Cond.selects "StiltTown" ({ cls := "StiltTown", name := "feed", desc := "(IIIII)I" } : Jvm.MethodName) ({ cls := "StiltTown", name := "feed", desc := "(IIIII)I" } : Jvm.MethodName)) ∈ bigW := tp_3 (List.mem_of_getElem? (i := 44) rfl) rfl
theorem w_525 : (Jvm.Cond.code ({ cls := "StiltTown", name := "feed", desc := "(IIIII)I" } : Jvm.MethodName) prog_1_method_2_code (6 : Nat) (Option.some Jvm.ClassFile.FieldType.int)) ∈ bigW := tp_3 (List.mem_of_getElem? (i := 45) rfl) rfl
theorem w_526 : (Jvm.Cond.methodLink "StiltTown" (84 : Nat) ({ cls := "StiltTown$Tokens", name := "append", desc := "(I)V" } : Jvm.MethodName)) ∈ bigW := tp_3 (List.mem_of_getElem? (i := 46) rfl) rfl
theorem w_527 : (Jvm.Cond.instanceMethod ({ cls := "StiltTown$Tokens", name := "append", desc := "(I)V" } : Jvm.MethodName)) ∈ bigW := tp_3 (List.mem_of_getElem? (i := 47) rfl) rfl
theorem w_528 : (Jvm.Cond.selects "StiltTown$Tokens" ({ cls := "StiltTown$Tokens", name := "append", desc := "(I)V" } : Jvm.MethodName) ({ cls := "StiltTown$Tokens", name := "append", desc := "(I)V" } : Jvm.MethodName)) ∈ bigW := tp_3 (List.mem_of_getElem? (i := 48) rfl) rfl
theorem w_529 : (Jvm.Cond.code ({ cls := "StiltTown$Tokens", name := "append", desc := "(I)V" } : Jvm.MethodName) prog_9_method_2_code (3 : Nat) (Option.none : Option Jvm.ClassFile.FieldType)) ∈ bigW := tp_3 (List.mem_of_getElem? (i := 49) rfl) rfl
theorem w_530 : (Jvm.Cond.methodLink "StiltTownLaw" (18 : Nat) ({ cls := "StiltTown", name := "back", desc := "(I)I" } : Jvm.MethodName)) ∈ bigW := tp_3 (List.mem_of_getElem? (i := 50) rfl) rfl
theorem w_531 : (Jvm.Cond.instanceMethod ({ cls := "StiltTown", name := "back", desc := "(I)I" } : Jvm.MethodName)) ∈ bigW := tp_3 (List.mem_of_getElem? (i := 51) rfl) rfl
theorem w_532 : (Jvm.Cond.selects "StiltTown" ({ cls := "StiltTown", name := "back", desc := "(I)I" } : Jvm.MethodName) ({ cls := "StiltTown", name := "back", desc := "(I)I" } : Jvm.MethodName)) ∈ bigW := tp_3 (List.mem_of_getElem? (i := 52) rfl) rfl
theorem w_533 : (Jvm.Cond.code ({ cls := "StiltTown", name := "back", desc := "(I)I" } : Jvm.MethodName) prog_1_method_3_code (2 : Nat) (Option.some Jvm.ClassFile.FieldType.int)) ∈ bigW := tp_3 (List.mem_of_getElem? (i := 53) rfl) rfl
theorem w_534 : (Jvm.Cond.methodLink "StiltTownLaw" (23 : Nat) ({ cls := "StiltTown", name := "read", desc := "()I" } : Jvm.MethodName)) ∈ bigW := tp_3 (List.mem_of_getElem? (i := 54) rfl) rfl
theorem w_535 : (Jvm.Cond.instanceMethod ({ cls := "StiltTown", name := "read", desc := "()I" } : Jvm.MethodName)) ∈ bigW := tp_3 (List.mem_of_getElem? (i := 55) rfl) rfl
theorem w_536 : (Jvm.Cond.selects "StiltTown" ({ cls := "StiltTown", name := "read", desc := "()I" } : Jvm.MethodName) ({ cls := "StiltTown", name := "read", desc := "()I" } : Jvm.MethodName)) ∈ bigW := tp_3 (List.mem_of_getElem? (i := 56) rfl) rfl
theorem w_537 : (Jvm.Cond.code ({ cls := "StiltTown", name := "read", desc := "()I" } : Jvm.MethodName) prog_1_method_4_code (2 : Nat) (Option.some Jvm.ClassFile.FieldType.int)) ∈ bigW := tp_3 (List.mem_of_getElem? (i := 57) rfl) rfl
theorem w_538 : (Jvm.Cond.methodLink "StiltTown" (88 : Nat) ({ cls := "StiltTown$Tokens", name := "scan", desc := "()V" } : Jvm.MethodName)) ∈ bigW := tp_3 (List.mem_of_getElem? (i := 58) rfl) rfl
theorem w_539 : (Jvm.Cond.instanceMethod ({ cls := "StiltTown$Tokens", name := "scan", desc := "()V" } : Jvm.MethodName)) ∈ bigW := tp_3 (List.mem_of_getElem? (i := 59) rfl) rfl
theorem w_540 : (Jvm.Cond.selects "StiltTown$Tokens" ({ cls := "StiltTown$Tokens", name := "scan", desc := "()V" } : Jvm.MethodName) ({ cls := "StiltTown$Tokens", name := "scan", desc := "()V" } : Jvm.MethodName)) ∈ bigW := tp_3 (List.mem_of_getElem? (i := 60) rfl) rfl
theorem w_541 : (Jvm.Cond.code ({ cls := "StiltTown$Tokens", name := "scan", desc := "()V" } : Jvm.MethodName) prog_9_method_4_code (3 : Nat) (Option.none : Option Jvm.ClassFile.FieldType)) ∈ bigW := tp_3 (List.mem_of_getElem? (i := 61) rfl) rfl
theorem w_542 : (Jvm.Cond.methodLink "StiltTown$Tokens" (33 : Nat) ({ cls := "StiltTown$Tokens", name := "pastBlanks", desc := "(I)I" } : Jvm.MethodName)) ∈ bigW := tp_3 (List.mem_of_getElem? (i := 62) rfl) rfl
theorem w_544 : (Jvm.Cond.instanceMethod ({ cls := "StiltTown$Tokens", name := "pastBlanks", desc := "(I)I" } : Jvm.MethodName)) ∈ bigW := tp_3 (List.mem_of_getElem? (i := 64) rfl) rfl
theorem w_545 : (Jvm.Cond.code ({ cls := "StiltTown$Tokens", name := "pastBlanks", desc := "(I)I" } : Jvm.MethodName) prog_9_method_5_code (3 : Nat) (Option.some Jvm.ClassFile.FieldType.int)) ∈ bigW := tp_3 (List.mem_of_getElem? (i := 65) rfl) rfl
theorem w_546 : (Jvm.Cond.methodLink "StiltTown$Tokens" (41 : Nat) ({ cls := "StiltTown$Tokens", name := "byteAt", desc := "(I)I" } : Jvm.MethodName)) ∈ bigW := tp_3 (List.mem_of_getElem? (i := 66) rfl) rfl
theorem w_548 : (Jvm.Cond.instanceMethod ({ cls := "StiltTown$Tokens", name := "byteAt", desc := "(I)I" } : Jvm.MethodName)) ∈ bigW := tp_3 (List.mem_of_getElem? (i := 68) rfl) rfl
theorem w_549 : (Jvm.Cond.code ({ cls := "StiltTown$Tokens", name := "byteAt", desc := "(I)I" } : Jvm.MethodName) prog_9_method_3_code (2 : Nat) (Option.some Jvm.ClassFile.FieldType.int)) ∈ bigW := tp_3 (List.mem_of_getElem? (i := 69) rfl) rfl
theorem w_550 : (Jvm.Cond.methodLink "StiltTown$Tokens" (44 : Nat) ({ cls := "StiltTown$Tokens", name := "isBlank", desc := "(I)Z" } : Jvm.MethodName)) ∈ bigW := tp_3 (List.mem_of_getElem? (i := 70) rfl) rfl
theorem w_551 : (Jvm.Cond.static ({ cls := "StiltTown$Tokens", name := "isBlank", desc := "(I)Z" } : Jvm.MethodName)) ∈ bigW := tp_3 (List.mem_of_getElem? (i := 71) rfl) rfl
theorem w_552 : (Jvm.Cond.code ({ cls := "StiltTown$Tokens", name := "isBlank", desc := "(I)Z" } : Jvm.MethodName) prog_9_method_6_code (1 : Nat) (Option.some Jvm.ClassFile.FieldType.boolean)) ∈ bigW := tp_3 (List.mem_of_getElem? (i := 72) rfl) rfl
theorem w_553 : (Jvm.Cond.methodLink "StiltTown$Tokens" (37 : Nat) ({ cls := "StiltTown$Tokens", name := "scanToken", desc := "(II)I" } : Jvm.MethodName)) ∈ bigW := tp_3 (List.mem_of_getElem? (i := 73) rfl) rfl
theorem w_555 : (Jvm.Cond.instanceMethod ({ cls := "StiltTown$Tokens", name := "scanToken", desc := "(II)I" } : Jvm.MethodName)) ∈ bigW := tp_3 (List.mem_of_getElem? (i := 75) rfl) rfl
theorem w_556 : (Jvm.Cond.code ({ cls := "StiltTown$Tokens", name := "scanToken", desc := "(II)I" } : Jvm.MethodName) prog_9_method_7_code (5 : Nat) (Option.some Jvm.ClassFile.FieldType.int)) ∈ bigW := tp_3 (List.mem_of_getElem? (i := 76) rfl) rfl
theorem w_558 : (Jvm.Cond.static ({ cls := "StiltTown", name := "within", desc := "(III)Z" } : Jvm.MethodName)) ∈ bigW := tp_3 (List.mem_of_getElem? (i := 78) rfl) rfl
theorem w_559 : (Jvm.Cond.code ({ cls := "StiltTown", name := "within", desc := "(III)Z" } : Jvm.MethodName) prog_1_method_59_code (3 : Nat) (Option.some Jvm.ClassFile.FieldType.boolean)) ∈ bigW := tp_3 (List.mem_of_getElem? (i := 79) rfl) rfl
theorem w_560 : (Jvm.Cond.methodLink "StiltTown$Tokens" (52 : Nat) ({ cls := "StiltTown$Tokens", name := "pastRun", desc := "(III)I" } : Jvm.MethodName)) ∈ bigW := tp_3 (List.mem_of_getElem? (i := 80) rfl) rfl
theorem w_562 : (Jvm.Cond.instanceMethod ({ cls := "StiltTown$Tokens", name := "pastRun", desc := "(III)I" } : Jvm.MethodName)) ∈ bigW := tp_3 (List.mem_of_getElem? (i := 82) rfl) rfl
theorem w_563 : (Jvm.Cond.code ({ cls := "StiltTown$Tokens", name := "pastRun", desc := "(III)I" } : Jvm.MethodName) prog_9_method_8_code (5 : Nat) (Option.some Jvm.ClassFile.FieldType.int)) ∈ bigW := tp_3 (List.mem_of_getElem? (i := 83) rfl) rfl
theorem w_564 : (Jvm.Cond.methodLink "StiltTown$Tokens" (56 : Nat) ({ cls := "StiltTown$Tokens", name := "packed", desc := "(II)J" } : Jvm.MethodName)) ∈ bigW := tp_3 (List.mem_of_getElem? (i := 84) rfl) rfl
theorem w_566 : (Jvm.Cond.instanceMethod ({ cls := "StiltTown$Tokens", name := "packed", desc := "(II)J" } : Jvm.MethodName)) ∈ bigW := tp_3 (List.mem_of_getElem? (i := 86) rfl) rfl
theorem w_567 : (Jvm.Cond.code ({ cls := "StiltTown$Tokens", name := "packed", desc := "(II)J" } : Jvm.MethodName) prog_9_method_9_code (6 : Nat) (Option.some Jvm.ClassFile.FieldType.long)) ∈ bigW := tp_3 (List.mem_of_getElem? (i := 87) rfl) rfl
theorem w_568 : (Jvm.Cond.methodLink "StiltTown$Tokens" (60 : Nat) ({ cls := "StiltTown$Tokens", name := "wordKind", desc := "(II)I" } : Jvm.MethodName)) ∈ bigW := tp_3 (List.mem_of_getElem? (i := 88) rfl) rfl
theorem w_570 : (Jvm.Cond.instanceMethod ({ cls := "StiltTown$Tokens", name := "wordKind", desc := "(II)I" } : Jvm.MethodName)) ∈ bigW := tp_3 (List.mem_of_getElem? (i := 90) rfl) rfl
theorem w_571 : (Jvm.Cond.code ({ cls := "StiltTown$Tokens", name := "wordKind", desc := "(II)I" } : Jvm.MethodName) prog_9_method_11_code (4 : Nat) (Option.some Jvm.ClassFile.FieldType.int)) ∈ bigW := tp_3 (List.mem_of_getElem? (i := 91) rfl) rfl
theorem w_572 : (Jvm.Cond.methodLink "StiltTown$Tokens" (69 : Nat) ({ cls := "StiltTown$Tokens", name := "spelling", desc := "(I)Ljava/lang/String;" } : Jvm.MethodName)) ∈ bigW := tp_3 (List.mem_of_getElem? (i := 92) rfl) rfl
theorem w_573 : (Jvm.Cond.static ({ cls := "StiltTown$Tokens", name := "spelling", desc := "(I)Ljava/lang/String;" } : Jvm.MethodName)) ∈ bigW := tp_3 (List.mem_of_getElem? (i := 93) rfl) rfl
theorem w_574 : (Jvm.Cond.code ({ cls := "StiltTown$Tokens", name := "spelling", desc := "(I)Ljava/lang/String;" } : Jvm.MethodName) prog_9_method_13_code (1 : Nat) (Option.some (Jvm.ClassFile.FieldType.object "java/lang/String"))) ∈ bigW := tp_3 (List.mem_of_getElem? (i := 94) rfl) rfl
theorem w_602 : (Jvm.Cond.methodLink "StiltTown$Tokens" (73 : Nat) ({ cls := "StiltTown$Tokens", name := "spells", desc := "(Ljava/lang/String;II)Z" } : Jvm.MethodName)) ∈ bigW := tp_3 (List.mem_of_getElem? (i := 122) rfl) rfl
theorem w_604 : (Jvm.Cond.instanceMethod ({ cls := "StiltTown$Tokens", name := "spells", desc := "(Ljava/lang/String;II)Z" } : Jvm.MethodName)) ∈ bigW := tp_3 (List.mem_of_getElem? (i := 124) rfl) rfl
theorem w_605 : (Jvm.Cond.code ({ cls := "StiltTown$Tokens", name := "spells", desc := "(Ljava/lang/String;II)Z" } : Jvm.MethodName) prog_9_method_12_code (5 : Nat) (Option.some Jvm.ClassFile.FieldType.boolean)) ∈ bigW := tp_3 (List.mem_of_getElem? (i := 125) rfl) rfl
theorem w_654 : (Jvm.Cond.methodLink "StiltTown$Tokens" (63 : Nat) ({ cls := "StiltTown$Tokens", name := "number", desc := "(II)I" } : Jvm.MethodName)) ∈ bigW := tp_3 (List.mem_of_getElem? (i := 174) rfl) rfl
theorem w_656 : (Jvm.Cond.instanceMethod ({ cls := "StiltTown$Tokens", name := "number", desc := "(II)I" } : Jvm.MethodName)) ∈ bigW := tp_3 (List.mem_of_getElem? (i := 176) rfl) rfl
theorem w_657 : (Jvm.Cond.code ({ cls := "StiltTown$Tokens", name := "number", desc := "(II)I" } : Jvm.MethodName) prog_9_method_10_code (5 : Nat) (Option.some Jvm.ClassFile.FieldType.int)) ∈ bigW := tp_3 (List.mem_of_getElem? (i := 177) rfl) rfl
theorem w_658 : (Jvm.Cond.methodLink "StiltTown$Tokens" (66 : Nat) ({ cls := "StiltTown$Tokens", name := "signKind", desc := "(II)I" } : Jvm.MethodName)) ∈ bigW := tp_3 (List.mem_of_getElem? (i := 178) rfl) rfl
theorem w_659 : (Jvm.Cond.static ({ cls := "StiltTown$Tokens", name := "signKind", desc := "(II)I" } : Jvm.MethodName)) ∈ bigW := tp_3 (List.mem_of_getElem? (i := 179) rfl) rfl
theorem w_660 : (Jvm.Cond.code ({ cls := "StiltTown$Tokens", name := "signKind", desc := "(II)I" } : Jvm.MethodName) prog_9_method_14_code (2 : Nat) (Option.some Jvm.ClassFile.FieldType.int)) ∈ bigW := tp_3 (List.mem_of_getElem? (i := 180) rfl) rfl
theorem w_661 : (Jvm.Cond.methodLink "StiltTown" (91 : Nat) ({ cls := "StiltTown$Reader", name := "readText", desc := "()I" } : Jvm.MethodName)) ∈ bigW := tp_3 (List.mem_of_getElem? (i := 181) rfl) rfl
theorem w_662 : (Jvm.Cond.instanceMethod ({ cls := "StiltTown$Reader", name := "readText", desc := "()I" } : Jvm.MethodName)) ∈ bigW := tp_3 (List.mem_of_getElem? (i := 182) rfl) rfl
theorem w_663 : (Jvm.Cond.selects "StiltTown$Reader" ({ cls := "StiltTown$Reader", name := "readText", desc := "()I" } : Jvm.MethodName) ({ cls := "StiltTown$Reader", name := "readText", desc := "()I" } : Jvm.MethodName)) ∈ bigW := tp_3 (List.mem_of_getElem? (i := 183) rfl) rfl
theorem w_664 : (Jvm.Cond.code ({ cls := "StiltTown$Reader", name := "readText", desc := "()I" } : Jvm.MethodName) prog_6_method_3_code (3 : Nat) (Option.some Jvm.ClassFile.FieldType.int)) ∈ bigW := tp_3 (List.mem_of_getElem? (i := 184) rfl) rfl
theorem w_665 : (Jvm.Cond.methodLink "StiltTown$Reader" (85 : Nat) ({ cls := "StiltTown$Reader", name := "begin", desc := "()V" } : Jvm.MethodName)) ∈ bigW := tp_3 (List.mem_of_getElem? (i := 185) rfl) rfl
theorem w_667 : (Jvm.Cond.instanceMethod ({ cls := "StiltTown$Reader", name := "begin", desc := "()V" } : Jvm.MethodName)) ∈ bigW := tp_3 (List.mem_of_getElem? (i := 187) rfl) rfl
theorem w_668 : (Jvm.Cond.code ({ cls := "StiltTown$Reader", name := "begin", desc := "()V" } : Jvm.MethodName) prog_6_method_2_code (1 : Nat) (Option.none : Option Jvm.ClassFile.FieldType)) ∈ bigW := tp_3 (List.mem_of_getElem? (i := 188) rfl) rfl
theorem w_669 : (Jvm.Cond.methodLink "StiltTown$Reader" (81 : Nat) ({ cls := "StiltTown$Town", name := "empty", desc := "()V" } : Jvm.MethodName)) ∈ bigW := tp_3 (List.mem_of_getElem? (i := 189) rfl) rfl
theorem w_670 : (Jvm.Cond.instanceMethod ({ cls := "StiltTown$Town", name := "empty", desc := "()V" } : Jvm.MethodName)) ∈ bigW := tp_3 (List.mem_of_getElem? (i := 190) rfl) rfl
theorem w_671 : (Jvm.Cond.selects "StiltTown$Town" ({ cls := "StiltTown$Town", name := "empty", desc := "()V" } : Jvm.MethodName) ({ cls := "StiltTown$Town", name := "empty", desc := "()V" } : Jvm.MethodName)) ∈ bigW := tp_3 (List.mem_of_getElem? (i := 191) rfl) rfl
theorem w_672 : (Jvm.Cond.code ({ cls := "StiltTown$Town", name := "empty", desc := "()V" } : Jvm.MethodName) prog_10_method_2_code (1 : Nat) (Option.none : Option Jvm.ClassFile.FieldType)) ∈ bigW := tp_3 (List.mem_of_getElem? (i := 192) rfl) rfl
theorem w_673 : (Jvm.Cond.methodLink "StiltTown$Town" (65 : Nat) ({ cls := "StiltTown$Laws", name := "empty", desc := "()V" } : Jvm.MethodName)) ∈ bigW := tp_3 (List.mem_of_getElem? (i := 193) rfl) rfl
theorem w_674 : (Jvm.Cond.instanceMethod ({ cls := "StiltTown$Laws", name := "empty", desc := "()V" } : Jvm.MethodName)) ∈ bigW := tp_3 (List.mem_of_getElem? (i := 194) rfl) rfl
theorem w_675 : (Jvm.Cond.selects "StiltTown$Laws" ({ cls := "StiltTown$Laws", name := "empty", desc := "()V" } : Jvm.MethodName) ({ cls := "StiltTown$Laws", name := "empty", desc := "()V" } : Jvm.MethodName)) ∈ bigW := tp_3 (List.mem_of_getElem? (i := 195) rfl) rfl
theorem w_676 : (Jvm.Cond.code ({ cls := "StiltTown$Laws", name := "empty", desc := "()V" } : Jvm.MethodName) prog_3_method_2_code (1 : Nat) (Option.none : Option Jvm.ClassFile.FieldType)) ∈ bigW := tp_3 (List.mem_of_getElem? (i := 196) rfl) rfl
theorem w_677 : (Jvm.Cond.methodLink "StiltTown$Reader" (84 : Nat) ({ cls := "StiltTown$State", name := "empty", desc := "()V" } : Jvm.MethodName)) ∈ bigW := tp_3 (List.mem_of_getElem? (i := 197) rfl) rfl
theorem w_678 : (Jvm.Cond.instanceMethod ({ cls := "StiltTown$State", name := "empty", desc := "()V" } : Jvm.MethodName)) ∈ bigW := tp_3 (List.mem_of_getElem? (i := 198) rfl) rfl
theorem w_679 : (Jvm.Cond.selects "StiltTown$State" ({ cls := "StiltTown$State", name := "empty", desc := "()V" } : Jvm.MethodName) ({ cls := "StiltTown$State", name := "empty", desc := "()V" } : Jvm.MethodName)) ∈ bigW := tp_3 (List.mem_of_getElem? (i := 199) rfl) rfl
theorem w_680 : (Jvm.Cond.code ({ cls := "StiltTown$State", name := "empty", desc := "()V" } : Jvm.MethodName) prog_8_method_2_code (2 : Nat) (Option.none : Option Jvm.ClassFile.FieldType)) ∈ bigW := tp_3 (List.mem_of_getElem? (i := 200) rfl) rfl
theorem w_681 : (Jvm.Cond.methodLink "StiltTown$Reader" (88 : Nat) ({ cls := "StiltTown$Reader", name := "kind", desc := "()I" } : Jvm.MethodName)) ∈ bigW := tp_3 (List.mem_of_getElem? (i := 201) rfl) rfl
theorem w_683 : (Jvm.Cond.instanceMethod ({ cls := "StiltTown$Reader", name := "kind", desc := "()I" } : Jvm.MethodName)) ∈ bigW := tp_3 (List.mem_of_getElem? (i := 203) rfl) rfl
theorem w_684 : (Jvm.Cond.code ({ cls := "StiltTown$Reader", name := "kind", desc := "()I" } : Jvm.MethodName) prog_6_method_31_code (1 : Nat) (Option.some Jvm.ClassFile.FieldType.int)) ∈ bigW := tp_3 (List.mem_of_getElem? (i := 204) rfl) rfl
theorem w_685 : (Jvm.Cond.methodLink "StiltTown$Reader" (92 : Nat) ({ cls := "StiltTown$Reader", name := "readHouse", desc := "()V" } : Jvm.MethodName)) ∈ bigW := tp_3 (List.mem_of_getElem? (i := 205) rfl) rfl
theorem w_687 : (Jvm.Cond.instanceMethod ({ cls := "StiltTown$Reader", name := "readHouse", desc := "()V" } : Jvm.MethodName)) ∈ bigW := tp_3 (List.mem_of_getElem? (i := 207) rfl) rfl
theorem w_688 : (Jvm.Cond.code ({ cls := "StiltTown$Reader", name := "readHouse", desc := "()V" } : Jvm.MethodName) prog_6_method_5_code (2 : Nat) (Option.none : Option Jvm.ClassFile.FieldType)) ∈ bigW := tp_3 (List.mem_of_getElem? (i := 208) rfl) rfl
theorem w_689 : (Jvm.Cond.methodLink "StiltTown$Reader" (153 : Nat) ({ cls := "StiltTown$Reader", name := "takeFirst", desc := "(III)Z" } : Jvm.MethodName)) ∈ bigW := tp_3 (List.mem_of_getElem? (i := 209) rfl) rfl
theorem w_691 : (Jvm.Cond.instanceMethod ({ cls := "StiltTown$Reader", name := "takeFirst", desc := "(III)Z" } : Jvm.MethodName)) ∈ bigW := tp_3 (List.mem_of_getElem? (i := 211) rfl) rfl
theorem w_692 : (Jvm.Cond.code ({ cls := "StiltTown$Reader", name := "takeFirst", desc := "(III)Z" } : Jvm.MethodName) prog_6_method_27_code (4 : Nat) (Option.some Jvm.ClassFile.FieldType.boolean)) ∈ bigW := tp_3 (List.mem_of_getElem? (i := 212) rfl) rfl
theorem w_693 : (Jvm.Cond.methodLink "StiltTown$Reader" (140 : Nat) ({ cls := "StiltTown$Reader", name := "fail", desc := "(I)V" } : Jvm.MethodName)) ∈ bigW := tp_3 (List.mem_of_getElem? (i := 213) rfl) rfl
theorem w_695 : (Jvm.Cond.instanceMethod ({ cls := "StiltTown$Reader", name := "fail", desc := "(I)V" } : Jvm.MethodName)) ∈ bigW := tp_3 (List.mem_of_getElem? (i := 215) rfl) rfl
theorem w_696 : (Jvm.Cond.code ({ cls := "StiltTown$Reader", name := "fail", desc := "(I)V" } : Jvm.MethodName) prog_6_method_29_code (2 : Nat) (Option.none : Option Jvm.ClassFile.FieldType)) ∈ bigW := tp_3 (List.mem_of_getElem? (i := 216) rfl) rfl
theorem w_697 : (Jvm.Cond.methodLink "StiltTown$Reader" (143 : Nat) ({ cls := "StiltTown$Reader", name := "take", desc := "(I)Z" } : Jvm.MethodName)) ∈ bigW := tp_3 (List.mem_of_getElem? (i := 217) rfl) rfl
theorem w_699 : (Jvm.Cond.instanceMethod ({ cls := "StiltTown$Reader", name := "take", desc := "(I)Z" } : Jvm.MethodName)) ∈ bigW := tp_3 (List.mem_of_getElem? (i := 219) rfl) rfl
theorem w_700 : (Jvm.Cond.code ({ cls := "StiltTown$Reader", name := "take", desc := "(I)Z" } : Jvm.MethodName) prog_6_method_28_code (2 : Nat) (Option.some Jvm.ClassFile.FieldType.boolean)) ∈ bigW := tp_3 (List.mem_of_getElem? (i := 220) rfl) rfl
theorem w_701 : (Jvm.Cond.methodLink "StiltTown$Reader" (157 : Nat) ({ cls := "StiltTown$Reader", name := "readNewName", desc := "(I)V" } : Jvm.MethodName)) ∈ bigW := tp_3 (List.mem_of_getElem? (i := 221) rfl) rfl
theorem w_703 : (Jvm.Cond.instanceMethod ({ cls := "StiltTown$Reader", name := "readNewName", desc := "(I)V" } : Jvm.MethodName)) ∈ bigW := tp_3 (List.mem_of_getElem? (i := 223) rfl) rfl
theorem w_704 : (Jvm.Cond.code ({ cls := "StiltTown$Reader", name := "readNewName", desc := "(I)V" } : Jvm.MethodName) prog_6_method_22_code (5 : Nat) (Option.none : Option Jvm.ClassFile.FieldType)) ∈ bigW := tp_3 (List.mem_of_getElem? (i := 224) rfl) rfl
theorem w_705 : (Jvm.Cond.methodLink "StiltTown$Reader" (187 : Nat) ({ cls := "StiltTown$Reader", name := "start", desc := "()I" } : Jvm.MethodName)) ∈ bigW := tp_3 (List.mem_of_getElem? (i := 225) rfl) rfl
theorem w_707 : (Jvm.Cond.instanceMethod ({ cls := "StiltTown$Reader", name := "start", desc := "()I" } : Jvm.MethodName)) ∈ bigW := tp_3 (List.mem_of_getElem? (i := 227) rfl) rfl
theorem w_708 : (Jvm.Cond.code ({ cls := "StiltTown$Reader", name := "start", desc := "()I" } : Jvm.MethodName) prog_6_method_32_code (1 : Nat) (Option.some Jvm.ClassFile.FieldType.int)) ∈ bigW := tp_3 (List.mem_of_getElem? (i := 228) rfl) rfl
theorem w_709 : (Jvm.Cond.methodLink "StiltTown$Reader" (272 : Nat) ({ cls := "StiltTown$Reader", name := "value", desc := "()J" } : Jvm.MethodName)) ∈ bigW := tp_3 (List.mem_of_getElem? (i := 229) rfl) rfl
theorem w_711 : (Jvm.Cond.instanceMethod ({ cls := "StiltTown$Reader", name := "value", desc := "()J" } : Jvm.MethodName)) ∈ bigW := tp_3 (List.mem_of_getElem? (i := 231) rfl) rfl
theorem w_712 : (Jvm.Cond.code ({ cls := "StiltTown$Reader", name := "value", desc := "()J" } : Jvm.MethodName) prog_6_method_33_code (1 : Nat) (Option.some Jvm.ClassFile.FieldType.long)) ∈ bigW := tp_3 (List.mem_of_getElem? (i := 232) rfl) rfl
theorem w_713 : (Jvm.Cond.methodLink "StiltTown$Reader" (276 : Nat) ({ cls := "StiltTown$Reader", name := "ownerOf", desc := "(J)I" } : Jvm.MethodName)) ∈ bigW := tp_3 (List.mem_of_getElem? (i := 233) rfl) rfl
theorem w_715 : (Jvm.Cond.instanceMethod ({ cls := "StiltTown$Reader", name := "ownerOf", desc := "(J)I" } : Jvm.MethodName)) ∈ bigW := tp_3 (List.mem_of_getElem? (i := 235) rfl) rfl
theorem w_716 : (Jvm.Cond.code ({ cls := "StiltTown$Reader", name := "ownerOf", desc := "(J)I" } : Jvm.MethodName) prog_6_method_25_code (4 : Nat) (Option.some Jvm.ClassFile.FieldType.int)) ∈ bigW := tp_3 (List.mem_of_getElem? (i := 236) rfl) rfl
theorem w_717 : (Jvm.Cond.methodLink "StiltTown$Reader" (190 : Nat) ({ cls := "StiltTown$Reader", name := "failLate", desc := "(II)V" } : Jvm.MethodName)) ∈ bigW := tp_3 (List.mem_of_getElem? (i := 237) rfl) rfl
theorem w_719 : (Jvm.Cond.instanceMethod ({ cls := "StiltTown$Reader", name := "failLate", desc := "(II)V" } : Jvm.MethodName)) ∈ bigW := tp_3 (List.mem_of_getElem? (i := 239) rfl) rfl
theorem w_720 : (Jvm.Cond.code ({ cls := "StiltTown$Reader", name := "failLate", desc := "(II)V" } : Jvm.MethodName) prog_6_method_30_code (3 : Nat) (Option.none : Option Jvm.ClassFile.FieldType)) ∈ bigW := tp_4 (List.mem_of_getElem? (i := 0) rfl) rfl
theorem w_721 : (Jvm.Cond.methodLink "StiltTown$Reader" (147 : Nat) ({ cls := "StiltTown$Reader", name := "readInt", desc := "(II)I" } : Jvm.MethodName)) ∈ bigW := tp_4 (List.mem_of_getElem? (i := 1) rfl) rfl
theorem w_723 : (Jvm.Cond.instanceMethod ({ cls := "StiltTown$Reader", name := "readInt", desc := "(II)I" } : Jvm.MethodName)) ∈ bigW := tp_4 (List.mem_of_getElem? (i := 3) rfl) rfl
theorem w_724 : (Jvm.Cond.code ({ cls := "StiltTown$Reader", name := "readInt", desc := "(II)I" } : Jvm.MethodName) prog_6_method_26_code (5 : Nat) (Option.some Jvm.ClassFile.FieldType.int)) ∈ bigW := tp_4 (List.mem_of_getElem? (i := 4) rfl) rfl
theorem w_725 : (Jvm.Cond.methodLink "StiltTown$Reader" (236 : Nat) ({ cls := "StiltTown$Reader", name := "intValue", desc := "()I" } : Jvm.MethodName)) ∈ bigW := tp_4 (List.mem_of_getElem? (i := 5) rfl) rfl
theorem w_727 : (Jvm.Cond.instanceMethod ({ cls := "StiltTown$Reader", name := "intValue", desc := "()I" } : Jvm.MethodName)) ∈ bigW := tp_4 (List.mem_of_getElem? (i := 7) rfl) rfl
theorem w_728 : (Jvm.Cond.code ({ cls := "StiltTown$Reader", name := "intValue", desc := "()I" } : Jvm.MethodName) prog_6_method_34_code (1 : Nat) (Option.some Jvm.ClassFile.FieldType.int)) ∈ bigW := tp_4 (List.mem_of_getElem? (i := 8) rfl) rfl
theorem w_730 : (Jvm.Cond.methodLink "StiltTown$Reader" (95 : Nat) ({ cls := "StiltTown$Reader", name := "readOffice", desc := "()V" } : Jvm.MethodName)) ∈ bigW := tp_4 (List.mem_of_getElem? (i := 10) rfl) rfl
theorem w_732 : (Jvm.Cond.instanceMethod ({ cls := "StiltTown$Reader", name := "readOffice", desc := "()V" } : Jvm.MethodName)) ∈ bigW := tp_4 (List.mem_of_getElem? (i := 12) rfl) rfl
theorem w_733 : (Jvm.Cond.code ({ cls := "StiltTown$Reader", name := "readOffice", desc := "()V" } : Jvm.MethodName) prog_6_method_6_code (2 : Nat) (Option.none : Option Jvm.ClassFile.FieldType)) ∈ bigW := tp_4 (List.mem_of_getElem? (i := 13) rfl) rfl
theorem w_734 : (Jvm.Cond.methodLink "StiltTown$Reader" (98 : Nat) ({ cls := "StiltTown$Reader", name := "readIn", desc := "()V" } : Jvm.MethodName)) ∈ bigW := tp_4 (List.mem_of_getElem? (i := 14) rfl) rfl
theorem w_736 : (Jvm.Cond.instanceMethod ({ cls := "StiltTown$Reader", name := "readIn", desc := "()V" } : Jvm.MethodName)) ∈ bigW := tp_4 (List.mem_of_getElem? (i := 16) rfl) rfl
theorem w_737 : (Jvm.Cond.code ({ cls := "StiltTown$Reader", name := "readIn", desc := "()V" } : Jvm.MethodName) prog_6_method_7_code (3 : Nat) (Option.none : Option Jvm.ClassFile.FieldType)) ∈ bigW := tp_4 (List.mem_of_getElem? (i := 17) rfl) rfl
theorem w_738 : (Jvm.Cond.methodLink "StiltTown$Reader" (175 : Nat) ({ cls := "StiltTown$Reader", name := "readHouseName", desc := "()I" } : Jvm.MethodName)) ∈ bigW := tp_4 (List.mem_of_getElem? (i := 18) rfl) rfl
theorem w_740 : (Jvm.Cond.instanceMethod ({ cls := "StiltTown$Reader", name := "readHouseName", desc := "()I" } : Jvm.MethodName)) ∈ bigW := tp_4 (List.mem_of_getElem? (i := 20) rfl) rfl
theorem w_741 : (Jvm.Cond.code ({ cls := "StiltTown$Reader", name := "readHouseName", desc := "()I" } : Jvm.MethodName) prog_6_method_23_code (5 : Nat) (Option.some Jvm.ClassFile.FieldType.int)) ∈ bigW := tp_4 (List.mem_of_getElem? (i := 21) rfl) rfl
theorem w_742 : (Jvm.Cond.methodLink "StiltTown$Reader" (178 : Nat) ({ cls := "StiltTown$Reader", name := "readOfficeName", desc := "()I" } : Jvm.MethodName)) ∈ bigW := tp_4 (List.mem_of_getElem? (i := 22) rfl) rfl
theorem w_744 : (Jvm.Cond.instanceMethod ({ cls := "StiltTown$Reader", name := "readOfficeName", desc := "()I" } : Jvm.MethodName)) ∈ bigW := tp_4 (List.mem_of_getElem? (i := 24) rfl) rfl
theorem w_745 : (Jvm.Cond.code ({ cls := "StiltTown$Reader", name := "readOfficeName", desc := "()I" } : Jvm.MethodName) prog_6_method_24_code (5 : Nat) (Option.some Jvm.ClassFile.FieldType.int)) ∈ bigW := tp_4 (List.mem_of_getElem? (i := 25) rfl) rfl
theorem w_746 : (Jvm.Cond.methodLink "StiltTown$Reader" (181 : Nat) ({ cls := "StiltTown$State", name := "settle", desc := "(II)V" } : Jvm.MethodName)) ∈ bigW := tp_4 (List.mem_of_getElem? (i := 26) rfl) rfl
theorem w_747 : (Jvm.Cond.instanceMethod ({ cls := "StiltTown$State", name := "settle", desc := "(II)V" } : Jvm.MethodName)) ∈ bigW := tp_4 (List.mem_of_getElem? (i := 27) rfl) rfl
theorem w_748 : (Jvm.Cond.selects "StiltTown$State" ({ cls := "StiltTown$State", name := "settle", desc := "(II)V" } : Jvm.MethodName) ({ cls := "StiltTown$State", name := "settle", desc := "(II)V" } : Jvm.MethodName)) ∈ bigW := tp_4 (List.mem_of_getElem? (i := 28) rfl) rfl
theorem w_749 : (Jvm.Cond.code ({ cls := "StiltTown$State", name := "settle", desc := "(II)V" } : Jvm.MethodName) prog_8_method_4_code (4 : Nat) (Option.none : Option Jvm.ClassFile.FieldType)) ∈ bigW := tp_4 (List.mem_of_getElem? (i := 29) rfl) rfl
theorem w_750 : (Jvm.Cond.methodLink "StiltTown$Reader" (101 : Nat) ({ cls := "StiltTown$Reader", name := "readStair", desc := "()V" } : Jvm.MethodName)) ∈ bigW := tp_4 (List.mem_of_getElem? (i := 30) rfl) rfl
theorem w_752 : (Jvm.Cond.instanceMethod ({ cls := "StiltTown$Reader", name := "readStair", desc := "()V" } : Jvm.MethodName)) ∈ bigW := tp_4 (List.mem_of_getElem? (i := 32) rfl) rfl
theorem w_753 : (Jvm.Cond.code ({ cls := "StiltTown$Reader", name := "readStair", desc := "()V" } : Jvm.MethodName) prog_6_method_8_code (5 : Nat) (Option.none : Option Jvm.ClassFile.FieldType)) ∈ bigW := tp_4 (List.mem_of_getElem? (i := 33) rfl) rfl
theorem w_754 : (Jvm.Cond.methodLink "StiltTown$Reader" (104 : Nat) ({ cls := "StiltTown$Reader", name := "readQuay", desc := "()V" } : Jvm.MethodName)) ∈ bigW := tp_4 (List.mem_of_getElem? (i := 34) rfl) rfl
theorem w_756 : (Jvm.Cond.instanceMethod ({ cls := "StiltTown$Reader", name := "readQuay", desc := "()V" } : Jvm.MethodName)) ∈ bigW := tp_4 (List.mem_of_getElem? (i := 36) rfl) rfl
theorem w_757 : (Jvm.Cond.code ({ cls := "StiltTown$Reader", name := "readQuay", desc := "()V" } : Jvm.MethodName) prog_6_method_9_code (2 : Nat) (Option.none : Option Jvm.ClassFile.FieldType)) ∈ bigW := tp_4 (List.mem_of_getElem? (i := 37) rfl) rfl
theorem w_759 : (Jvm.Cond.static ({ cls := "StiltTown$Town", name := "bitOf", desc := "(I)I" } : Jvm.MethodName)) ∈ bigW := tp_4 (List.mem_of_getElem? (i := 39) rfl) rfl
theorem w_760 : (Jvm.Cond.code ({ cls := "StiltTown$Town", name := "bitOf", desc := "(I)I" } : Jvm.MethodName) prog_10_method_19_code (1 : Nat) (Option.some Jvm.ClassFile.FieldType.int)) ∈ bigW := tp_4 (List.mem_of_getElem? (i := 40) rfl) rfl
theorem w_761 : (Jvm.Cond.methodLink "StiltTown$Reader" (107 : Nat) ({ cls := "StiltTown$Reader", name := "readWood", desc := "()V" } : Jvm.MethodName)) ∈ bigW := tp_4 (List.mem_of_getElem? (i := 41) rfl) rfl
theorem w_763 : (Jvm.Cond.instanceMethod ({ cls := "StiltTown$Reader", name := "readWood", desc := "()V" } : Jvm.MethodName)) ∈ bigW := tp_4 (List.mem_of_getElem? (i := 43) rfl) rfl
theorem w_764 : (Jvm.Cond.code ({ cls := "StiltTown$Reader", name := "readWood", desc := "()V" } : Jvm.MethodName) prog_6_method_10_code (2 : Nat) (Option.none : Option Jvm.ClassFile.FieldType)) ∈ bigW := tp_4 (List.mem_of_getElem? (i := 44) rfl) rfl
theorem w_765 : (Jvm.Cond.methodLink "StiltTown$Reader" (110 : Nat) ({ cls := "StiltTown$Reader", name := "readLone", desc := "(II)I" } : Jvm.MethodName)) ∈ bigW := tp_4 (List.mem_of_getElem? (i := 45) rfl) rfl
theorem w_767 : (Jvm.Cond.instanceMethod ({ cls := "StiltTown$Reader", name := "readLone", desc := "(II)I" } : Jvm.MethodName)) ∈ bigW := tp_4 (List.mem_of_getElem? (i := 47) rfl) rfl
theorem w_768 : (Jvm.Cond.code ({ cls := "StiltTown$Reader", name := "readLone", desc := "(II)I" } : Jvm.MethodName) prog_6_method_4_code (4 : Nat) (Option.some Jvm.ClassFile.FieldType.int)) ∈ bigW := tp_4 (List.mem_of_getElem? (i := 48) rfl) rfl
theorem w_769 : (Jvm.Cond.methodLink "StiltTown$Reader" (120 : Nat) ({ cls := "StiltTown$Reader", name := "readLaw", desc := "(I)V" } : Jvm.MethodName)) ∈ bigW := tp_4 (List.mem_of_getElem? (i := 49) rfl) rfl
theorem w_771 : (Jvm.Cond.instanceMethod ({ cls := "StiltTown$Reader", name := "readLaw", desc := "(I)V" } : Jvm.MethodName)) ∈ bigW := tp_4 (List.mem_of_getElem? (i := 51) rfl) rfl
theorem w_772 : (Jvm.Cond.code ({ cls := "StiltTown$Reader", name := "readLaw", desc := "(I)V" } : Jvm.MethodName) prog_6_method_11_code (3 : Nat) (Option.none : Option Jvm.ClassFile.FieldType)) ∈ bigW := tp_4 (List.mem_of_getElem? (i := 52) rfl) rfl
theorem w_773 : (Jvm.Cond.methodLink "StiltTown$Reader" (224 : Nat) ({ cls := "StiltTown$Reader", name := "readFormula", desc := "(I)V" } : Jvm.MethodName)) ∈ bigW := tp_4 (List.mem_of_getElem? (i := 53) rfl) rfl
theorem w_775 : (Jvm.Cond.instanceMethod ({ cls := "StiltTown$Reader", name := "readFormula", desc := "(I)V" } : Jvm.MethodName)) ∈ bigW := tp_4 (List.mem_of_getElem? (i := 55) rfl) rfl
theorem w_776 : (Jvm.Cond.code ({ cls := "StiltTown$Reader", name := "readFormula", desc := "(I)V" } : Jvm.MethodName) prog_6_method_13_code (3 : Nat) (Option.none : Option Jvm.ClassFile.FieldType)) ∈ bigW := tp_4 (List.mem_of_getElem? (i := 56) rfl) rfl
theorem w_777 : (Jvm.Cond.methodLink "StiltTown$Reader" (230 : Nat) ({ cls := "StiltTown$Reader", name := "readUnit", desc := "()V" } : Jvm.MethodName)) ∈ bigW := tp_4 (List.mem_of_getElem? (i := 57) rfl) rfl
theorem w_779 : (Jvm.Cond.instanceMethod ({ cls := "StiltTown$Reader", name := "readUnit", desc := "()V" } : Jvm.MethodName)) ∈ bigW := tp_4 (List.mem_of_getElem? (i := 59) rfl) rfl
theorem w_780 : (Jvm.Cond.code ({ cls := "StiltTown$Reader", name := "readUnit", desc := "()V" } : Jvm.MethodName) prog_6_method_14_code (3 : Nat) (Option.none : Option Jvm.ClassFile.FieldType)) ∈ bigW := tp_4 (List.mem_of_getElem? (i := 60) rfl) rfl
theorem w_781 : (Jvm.Cond.methodLink "StiltTown$Reader" (239 : Nat) ({ cls := "StiltTown$Reader", name := "keepWaiting", desc := "(I)V" } : Jvm.MethodName)) ∈ bigW := tp_4 (List.mem_of_getElem? (i := 61) rfl) rfl
theorem w_783 : (Jvm.Cond.instanceMethod ({ cls := "StiltTown$Reader", name := "keepWaiting", desc := "(I)V" } : Jvm.MethodName)) ∈ bigW := tp_4 (List.mem_of_getElem? (i := 63) rfl) rfl
theorem w_784 : (Jvm.Cond.code ({ cls := "StiltTown$Reader", name := "keepWaiting", desc := "(I)V" } : Jvm.MethodName) prog_6_method_19_code (2 : Nat) (Option.none : Option Jvm.ClassFile.FieldType)) ∈ bigW := tp_4 (List.mem_of_getElem? (i := 64) rfl) rfl
theorem w_785 : (Jvm.Cond.methodLink "StiltTown$Reader" (242 : Nat) ({ cls := "StiltTown$Reader", name := "readOpen", desc := "()V" } : Jvm.MethodName)) ∈ bigW := tp_4 (List.mem_of_getElem? (i := 65) rfl) rfl
theorem w_787 : (Jvm.Cond.instanceMethod ({ cls := "StiltTown$Reader", name := "readOpen", desc := "()V" } : Jvm.MethodName)) ∈ bigW := tp_4 (List.mem_of_getElem? (i := 67) rfl) rfl
theorem w_788 : (Jvm.Cond.code ({ cls := "StiltTown$Reader", name := "readOpen", desc := "()V" } : Jvm.MethodName) prog_6_method_15_code (1 : Nat) (Option.none : Option Jvm.ClassFile.FieldType)) ∈ bigW := tp_4 (List.mem_of_getElem? (i := 68) rfl) rfl
theorem w_789 : (Jvm.Cond.methodLink "StiltTown$Reader" (245 : Nat) ({ cls := "StiltTown$Laws", name := "addNumber", desc := "(I)V" } : Jvm.MethodName)) ∈ bigW := tp_4 (List.mem_of_getElem? (i := 69) rfl) rfl
theorem w_790 : (Jvm.Cond.instanceMethod ({ cls := "StiltTown$Laws", name := "addNumber", desc := "(I)V" } : Jvm.MethodName)) ∈ bigW := tp_4 (List.mem_of_getElem? (i := 70) rfl) rfl
theorem w_791 : (Jvm.Cond.selects "StiltTown$Laws" ({ cls := "StiltTown$Laws", name := "addNumber", desc := "(I)V" } : Jvm.MethodName) ({ cls := "StiltTown$Laws", name := "addNumber", desc := "(I)V" } : Jvm.MethodName)) ∈ bigW := tp_4 (List.mem_of_getElem? (i := 71) rfl) rfl
theorem w_792 : (Jvm.Cond.code ({ cls := "StiltTown$Laws", name := "addNumber", desc := "(I)V" } : Jvm.MethodName) prog_3_method_3_code (2 : Nat) (Option.none : Option Jvm.ClassFile.FieldType)) ∈ bigW := tp_4 (List.mem_of_getElem? (i := 72) rfl) rfl
theorem w_794 : (Jvm.Cond.static ({ cls := "StiltTown", name := "isVar", desc := "(I)Z" } : Jvm.MethodName)) ∈ bigW := tp_4 (List.mem_of_getElem? (i := 74) rfl) rfl
theorem w_795 : (Jvm.Cond.code ({ cls := "StiltTown", name := "isVar", desc := "(I)Z" } : Jvm.MethodName) prog_1_method_61_code (1 : Nat) (Option.some Jvm.ClassFile.FieldType.boolean)) ∈ bigW := tp_4 (List.mem_of_getElem? (i := 75) rfl) rfl
theorem w_796 : (Jvm.Cond.methodLink "StiltTown$Reader" (251 : Nat) ({ cls := "StiltTown$Laws", name := "addKind", desc := "(I)V" } : Jvm.MethodName)) ∈ bigW := tp_4 (List.mem_of_getElem? (i := 76) rfl) rfl
theorem w_797 : (Jvm.Cond.instanceMethod ({ cls := "StiltTown$Laws", name := "addKind", desc := "(I)V" } : Jvm.MethodName)) ∈ bigW := tp_4 (List.mem_of_getElem? (i := 77) rfl) rfl
theorem w_798 : (Jvm.Cond.selects "StiltTown$Laws" ({ cls := "StiltTown$Laws", name := "addKind", desc := "(I)V" } : Jvm.MethodName) ({ cls := "StiltTown$Laws", name := "addKind", desc := "(I)V" } : Jvm.MethodName)) ∈ bigW := tp_4 (List.mem_of_getElem? (i := 78) rfl) rfl
theorem w_799 : (Jvm.Cond.code ({ cls := "StiltTown$Laws", name := "addKind", desc := "(I)V" } : Jvm.MethodName) prog_3_method_4_code (2 : Nat) (Option.none : Option Jvm.ClassFile.FieldType)) ∈ bigW := tp_4 (List.mem_of_getElem? (i := 79) rfl) rfl
theorem w_800 : (Jvm.Cond.methodLink "StiltTown$Reader" (233 : Nat) ({ cls := "StiltTown$Reader", name := "readBetween", desc := "()V" } : Jvm.MethodName)) ∈ bigW := tp_4 (List.mem_of_getElem? (i := 80) rfl) rfl
theorem w_802 : (Jvm.Cond.instanceMethod ({ cls := "StiltTown$Reader", name := "readBetween", desc := "()V" } : Jvm.MethodName)) ∈ bigW := tp_4 (List.mem_of_getElem? (i := 82) rfl) rfl
theorem w_803 : (Jvm.Cond.code ({ cls := "StiltTown$Reader", name := "readBetween", desc := "()V" } : Jvm.MethodName) prog_6_method_16_code (2 : Nat) (Option.none : Option Jvm.ClassFile.FieldType)) ∈ bigW := tp_4 (List.mem_of_getElem? (i := 83) rfl) rfl
theorem w_805 : (Jvm.Cond.static ({ cls := "StiltTown", name := "reckons", desc := "(I)Z" } : Jvm.MethodName)) ∈ bigW := tp_4 (List.mem_of_getElem? (i := 85) rfl) rfl
theorem w_806 : (Jvm.Cond.code ({ cls := "StiltTown", name := "reckons", desc := "(I)Z" } : Jvm.MethodName) prog_1_method_63_code (1 : Nat) (Option.some Jvm.ClassFile.FieldType.boolean)) ∈ bigW := tp_4 (List.mem_of_getElem? (i := 86) rfl) rfl
theorem w_807 : (Jvm.Cond.methodLink "StiltTown$Reader" (257 : Nat) ({ cls := "StiltTown$Reader", name := "readJoint", desc := "(II)V" } : Jvm.MethodName)) ∈ bigW := tp_4 (List.mem_of_getElem? (i := 87) rfl) rfl
theorem w_809 : (Jvm.Cond.instanceMethod ({ cls := "StiltTown$Reader", name := "readJoint", desc := "(II)V" } : Jvm.MethodName)) ∈ bigW := tp_4 (List.mem_of_getElem? (i := 89) rfl) rfl
theorem w_810 : (Jvm.Cond.code ({ cls := "StiltTown$Reader", name := "readJoint", desc := "(II)V" } : Jvm.MethodName) prog_6_method_17_code (3 : Nat) (Option.none : Option Jvm.ClassFile.FieldType)) ∈ bigW := tp_4 (List.mem_of_getElem? (i := 90) rfl) rfl
theorem w_811 : (Jvm.Cond.methodLink "StiltTown$Reader" (269 : Nat) ({ cls := "StiltTown$Reader", name := "bond", desc := "(I)I" } : Jvm.MethodName)) ∈ bigW := tp_4 (List.mem_of_getElem? (i := 91) rfl) rfl
theorem w_812 : (Jvm.Cond.static ({ cls := "StiltTown$Reader", name := "bond", desc := "(I)I" } : Jvm.MethodName)) ∈ bigW := tp_4 (List.mem_of_getElem? (i := 92) rfl) rfl
theorem w_813 : (Jvm.Cond.code ({ cls := "StiltTown$Reader", name := "bond", desc := "(I)I" } : Jvm.MethodName) prog_6_method_21_code (1 : Nat) (Option.some Jvm.ClassFile.FieldType.int)) ∈ bigW := tp_4 (List.mem_of_getElem? (i := 93) rfl) rfl
theorem w_814 : (Jvm.Cond.methodLink "StiltTown$Reader" (266 : Nat) ({ cls := "StiltTown$Reader", name := "release", desc := "(I)V" } : Jvm.MethodName)) ∈ bigW := tp_4 (List.mem_of_getElem? (i := 94) rfl) rfl
theorem w_816 : (Jvm.Cond.instanceMethod ({ cls := "StiltTown$Reader", name := "release", desc := "(I)V" } : Jvm.MethodName)) ∈ bigW := tp_4 (List.mem_of_getElem? (i := 96) rfl) rfl
theorem w_817 : (Jvm.Cond.code ({ cls := "StiltTown$Reader", name := "release", desc := "(I)V" } : Jvm.MethodName) prog_6_method_20_code (3 : Nat) (Option.none : Option Jvm.ClassFile.FieldType)) ∈ bigW := tp_4 (List.mem_of_getElem? (i := 97) rfl) rfl
theorem w_818 : (Jvm.Cond.methodLink "StiltTown$Reader" (260 : Nat) ({ cls := "StiltTown$Reader", name := "readClose", desc := "()V" } : Jvm.MethodName)) ∈ bigW := tp_4 (List.mem_of_getElem? (i := 98) rfl) rfl
theorem w_820 : (Jvm.Cond.instanceMethod ({ cls := "StiltTown$Reader", name := "readClose", desc := "()V" } : Jvm.MethodName)) ∈ bigW := tp_4 (List.mem_of_getElem? (i := 100) rfl) rfl
theorem w_821 : (Jvm.Cond.code ({ cls := "StiltTown$Reader", name := "readClose", desc := "()V" } : Jvm.MethodName) prog_6_method_18_code (1 : Nat) (Option.none : Option Jvm.ClassFile.FieldType)) ∈ bigW := tp_4 (List.mem_of_getElem? (i := 101) rfl) rfl
theorem w_823 : (Jvm.Cond.static ({ cls := "StiltTown", name := "compares", desc := "(I)Z" } : Jvm.MethodName)) ∈ bigW := tp_4 (List.mem_of_getElem? (i := 103) rfl) rfl
theorem w_824 : (Jvm.Cond.code ({ cls := "StiltTown", name := "compares", desc := "(I)Z" } : Jvm.MethodName) prog_1_method_62_code (1 : Nat) (Option.some Jvm.ClassFile.FieldType.boolean)) ∈ bigW := tp_4 (List.mem_of_getElem? (i := 104) rfl) rfl
theorem w_825 : (Jvm.Cond.methodLink "StiltTown$Reader" (227 : Nat) ({ cls := "StiltTown$Laws", name := "tell", desc := "(II)V" } : Jvm.MethodName)) ∈ bigW := tp_4 (List.mem_of_getElem? (i := 105) rfl) rfl
theorem w_826 : (Jvm.Cond.instanceMethod ({ cls := "StiltTown$Laws", name := "tell", desc := "(II)V" } : Jvm.MethodName)) ∈ bigW := tp_4 (List.mem_of_getElem? (i := 106) rfl) rfl
theorem w_827 : (Jvm.Cond.selects "StiltTown$Laws" ({ cls := "StiltTown$Laws", name := "tell", desc := "(II)V" } : Jvm.MethodName) ({ cls := "StiltTown$Laws", name := "tell", desc := "(II)V" } : Jvm.MethodName)) ∈ bigW := tp_4 (List.mem_of_getElem? (i := 107) rfl) rfl
theorem w_828 : (Jvm.Cond.code ({ cls := "StiltTown$Laws", name := "tell", desc := "(II)V" } : Jvm.MethodName) prog_3_method_5_code (3 : Nat) (Option.none : Option Jvm.ClassFile.FieldType)) ∈ bigW := tp_4 (List.mem_of_getElem? (i := 108) rfl) rfl
theorem w_829 : (Jvm.Cond.methodLink "StiltTown$Reader" (133 : Nat) ({ cls := "StiltTown$Reader", name := "readRule", desc := "(II)V" } : Jvm.MethodName)) ∈ bigW := tp_4 (List.mem_of_getElem? (i := 109) rfl) rfl
theorem w_831 : (Jvm.Cond.instanceMethod ({ cls := "StiltTown$Reader", name := "readRule", desc := "(II)V" } : Jvm.MethodName)) ∈ bigW := tp_4 (List.mem_of_getElem? (i := 111) rfl) rfl
theorem w_832 : (Jvm.Cond.code ({ cls := "StiltTown$Reader", name := "readRule", desc := "(II)V" } : Jvm.MethodName) prog_6_method_12_code (4 : Nat) (Option.none : Option Jvm.ClassFile.FieldType)) ∈ bigW := tp_4 (List.mem_of_getElem? (i := 112) rfl) rfl
theorem w_833 : (Jvm.Cond.methodLink "StiltTown" (95 : Nat) ({ cls := "StiltTown", name := "moveIn", desc := "()V" } : Jvm.MethodName)) ∈ bigW := tp_4 (List.mem_of_getElem? (i := 113) rfl) rfl
theorem w_835 : (Jvm.Cond.instanceMethod ({ cls := "StiltTown", name := "moveIn", desc := "()V" } : Jvm.MethodName)) ∈ bigW := tp_4 (List.mem_of_getElem? (i := 115) rfl) rfl
theorem w_836 : (Jvm.Cond.code ({ cls := "StiltTown", name := "moveIn", desc := "()V" } : Jvm.MethodName) prog_1_method_5_code (4 : Nat) (Option.none : Option Jvm.ClassFile.FieldType)) ∈ bigW := tp_4 (List.mem_of_getElem? (i := 116) rfl) rfl
theorem w_837 : (Jvm.Cond.methodLink "StiltTown" (102 : Nat) ({ cls := "StiltTown$Works", name := "dropLots", desc := "()V" } : Jvm.MethodName)) ∈ bigW := tp_4 (List.mem_of_getElem? (i := 117) rfl) rfl
theorem w_838 : (Jvm.Cond.instanceMethod ({ cls := "StiltTown$Works", name := "dropLots", desc := "()V" } : Jvm.MethodName)) ∈ bigW := tp_4 (List.mem_of_getElem? (i := 118) rfl) rfl
theorem w_839 : (Jvm.Cond.selects "StiltTown$Works" ({ cls := "StiltTown$Works", name := "dropLots", desc := "()V" } : Jvm.MethodName) ({ cls := "StiltTown$Works", name := "dropLots", desc := "()V" } : Jvm.MethodName)) ∈ bigW := tp_4 (List.mem_of_getElem? (i := 119) rfl) rfl
theorem w_840 : (Jvm.Cond.code ({ cls := "StiltTown$Works", name := "dropLots", desc := "()V" } : Jvm.MethodName) prog_11_method_2_code (1 : Nat) (Option.none : Option Jvm.ClassFile.FieldType)) ∈ bigW := tp_4 (List.mem_of_getElem? (i := 120) rfl) rfl
theorem w_841 : (Jvm.Cond.methodLink "StiltTownLaw" (28 : Nat) ({ cls := "StiltTown", name := "place", desc := "()I" } : Jvm.MethodName)) ∈ bigW := tp_4 (List.mem_of_getElem? (i := 121) rfl) rfl
theorem w_842 : (Jvm.Cond.instanceMethod ({ cls := "StiltTown", name := "place", desc := "()I" } : Jvm.MethodName)) ∈ bigW := tp_4 (List.mem_of_getElem? (i := 122) rfl) rfl
theorem w_843 : (Jvm.Cond.selects "StiltTown" ({ cls := "StiltTown", name := "place", desc := "()I" } : Jvm.MethodName) ({ cls := "StiltTown", name := "place", desc := "()I" } : Jvm.MethodName)) ∈ bigW := tp_4 (List.mem_of_getElem? (i := 123) rfl) rfl
theorem w_844 : (Jvm.Cond.code ({ cls := "StiltTown", name := "place", desc := "()I" } : Jvm.MethodName) prog_1_method_6_code (1 : Nat) (Option.some Jvm.ClassFile.FieldType.int)) ∈ bigW := tp_4 (List.mem_of_getElem? (i := 124) rfl) rfl
theorem w_845 : (Jvm.Cond.methodLink "StiltTownLaw" (32 : Nat) ({ cls := "StiltTown", name := "house", desc := "(II)I" } : Jvm.MethodName)) ∈ bigW := tp_4 (List.mem_of_getElem? (i := 125) rfl) rfl
theorem w_846 : (Jvm.Cond.instanceMethod ({ cls := "StiltTown", name := "house", desc := "(II)I" } : Jvm.MethodName)) ∈ bigW := tp_4 (List.mem_of_getElem? (i := 126) rfl) rfl
theorem w_847 : (Jvm.Cond.selects "StiltTown" ({ cls := "StiltTown", name := "house", desc := "(II)I" } : Jvm.MethodName) ({ cls := "StiltTown", name := "house", desc := "(II)I" } : Jvm.MethodName)) ∈ bigW := tp_4 (List.mem_of_getElem? (i := 127) rfl) rfl
theorem w_848 : (Jvm.Cond.code ({ cls := "StiltTown", name := "house", desc := "(II)I" } : Jvm.MethodName) prog_1_method_7_code (3 : Nat) (Option.some Jvm.ClassFile.FieldType.int)) ∈ bigW := tp_4 (List.mem_of_getElem? (i := 128) rfl) rfl
theorem w_849 : (Jvm.Cond.methodLink "StiltTown" (109 : Nat) ({ cls := "StiltTown", name := "isHouse", desc := "(I)Z" } : Jvm.MethodName)) ∈ bigW := tp_4 (List.mem_of_getElem? (i := 129) rfl) rfl
theorem w_851 : (Jvm.Cond.instanceMethod ({ cls := "StiltTown", name := "isHouse", desc := "(I)Z" } : Jvm.MethodName)) ∈ bigW := tp_4 (List.mem_of_getElem? (i := 131) rfl) rfl
theorem w_852 : (Jvm.Cond.code ({ cls := "StiltTown", name := "isHouse", desc := "(I)Z" } : Jvm.MethodName) prog_1_method_51_code (2 : Nat) (Option.some Jvm.ClassFile.FieldType.boolean)) ∈ bigW := tp_4 (List.mem_of_getElem? (i := 132) rfl) rfl
theorem w_853 : (Jvm.Cond.methodLink "StiltTown" (126 : Nat) ({ cls := "StiltTown$Town", name := "rankOf", desc := "(LStiltTown$State;I)I" } : Jvm.MethodName)) ∈ bigW := tp_4 (List.mem_of_getElem? (i := 133) rfl) rfl
theorem w_854 : (Jvm.Cond.instanceMethod ({ cls := "StiltTown$Town", name := "rankOf", desc := "(LStiltTown$State;I)I" } : Jvm.MethodName)) ∈ bigW := tp_4 (List.mem_of_getElem? (i := 134) rfl) rfl
theorem w_855 : (Jvm.Cond.selects "StiltTown$Town" ({ cls := "StiltTown$Town", name := "rankOf", desc := "(LStiltTown$State;I)I" } : Jvm.MethodName) ({ cls := "StiltTown$Town", name := "rankOf", desc := "(LStiltTown$State;I)I" } : Jvm.MethodName)) ∈ bigW := tp_4 (List.mem_of_getElem? (i := 135) rfl) rfl
theorem w_856 : (Jvm.Cond.code ({ cls := "StiltTown$Town", name := "rankOf", desc := "(LStiltTown$State;I)I" } : Jvm.MethodName) prog_10_method_3_code (4 : Nat) (Option.some Jvm.ClassFile.FieldType.int)) ∈ bigW := tp_4 (List.mem_of_getElem? (i := 136) rfl) rfl
theorem w_857 : (Jvm.Cond.methodLink "StiltTown" (130 : Nat) ({ cls := "StiltTown$Town", name := "dueOf", desc := "(LStiltTown$State;I)I" } : Jvm.MethodName)) ∈ bigW := tp_4 (List.mem_of_getElem? (i := 137) rfl) rfl
theorem w_858 : (Jvm.Cond.instanceMethod ({ cls := "StiltTown$Town", name := "dueOf", desc := "(LStiltTown$State;I)I" } : Jvm.MethodName)) ∈ bigW := tp_4 (List.mem_of_getElem? (i := 138) rfl) rfl
theorem w_859 : (Jvm.Cond.selects "StiltTown$Town" ({ cls := "StiltTown$Town", name := "dueOf", desc := "(LStiltTown$State;I)I" } : Jvm.MethodName) ({ cls := "StiltTown$Town", name := "dueOf", desc := "(LStiltTown$State;I)I" } : Jvm.MethodName)) ∈ bigW := tp_4 (List.mem_of_getElem? (i := 139) rfl) rfl
theorem w_860 : (Jvm.Cond.code ({ cls := "StiltTown$Town", name := "dueOf", desc := "(LStiltTown$State;I)I" } : Jvm.MethodName) prog_10_method_5_code (3 : Nat) (Option.some Jvm.ClassFile.FieldType.int)) ∈ bigW := tp_4 (List.mem_of_getElem? (i := 140) rfl) rfl
theorem w_861 : (Jvm.Cond.methodLink "StiltTown$Town" (96 : Nat) ({ cls := "StiltTown$Town", name := "rankOf", desc := "(LStiltTown$State;I)I" } : Jvm.MethodName)) ∈ bigW := tp_4 (List.mem_of_getElem? (i := 141) rfl) rfl
theorem w_862 : (Jvm.Cond.methodLink "StiltTown$Town" (100 : Nat) ({ cls := "StiltTown$Town", name := "putVars", desc := "(LStiltTown$State;I)V" } : Jvm.MethodName)) ∈ bigW := tp_4 (List.mem_of_getElem? (i := 142) rfl) rfl
theorem w_864 : (Jvm.Cond.instanceMethod ({ cls := "StiltTown$Town", name := "putVars", desc := "(LStiltTown$State;I)V" } : Jvm.MethodName)) ∈ bigW := tp_4 (List.mem_of_getElem? (i := 144) rfl) rfl
theorem w_865 : (Jvm.Cond.code ({ cls := "StiltTown$Town", name := "putVars", desc := "(LStiltTown$State;I)V" } : Jvm.MethodName) prog_10_method_9_code (3 : Nat) (Option.none : Option Jvm.ClassFile.FieldType)) ∈ bigW := tp_4 (List.mem_of_getElem? (i := 145) rfl) rfl
theorem w_866 : (Jvm.Cond.methodLink "StiltTown$Town" (73 : Nat) ({ cls := "StiltTown$Laws", name := "wipeVars", desc := "()V" } : Jvm.MethodName)) ∈ bigW := tp_4 (List.mem_of_getElem? (i := 146) rfl) rfl
theorem w_867 : (Jvm.Cond.instanceMethod ({ cls := "StiltTown$Laws", name := "wipeVars", desc := "()V" } : Jvm.MethodName)) ∈ bigW := tp_4 (List.mem_of_getElem? (i := 147) rfl) rfl
theorem w_868 : (Jvm.Cond.selects "StiltTown$Laws" ({ cls := "StiltTown$Laws", name := "wipeVars", desc := "()V" } : Jvm.MethodName) ({ cls := "StiltTown$Laws", name := "wipeVars", desc := "()V" } : Jvm.MethodName)) ∈ bigW := tp_4 (List.mem_of_getElem? (i := 148) rfl) rfl
theorem w_869 : (Jvm.Cond.code ({ cls := "StiltTown$Laws", name := "wipeVars", desc := "()V" } : Jvm.MethodName) prog_3_method_6_code (2 : Nat) (Option.none : Option Jvm.ClassFile.FieldType)) ∈ bigW := tp_4 (List.mem_of_getElem? (i := 149) rfl) rfl
theorem w_870 : (Jvm.Cond.methodLink "StiltTown$Town" (76 : Nat) ({ cls := "StiltTown$Laws", name := "put", desc := "(II)V" } : Jvm.MethodName)) ∈ bigW := tp_4 (List.mem_of_getElem? (i := 150) rfl) rfl
theorem w_871 : (Jvm.Cond.instanceMethod ({ cls := "StiltTown$Laws", name := "put", desc := "(II)V" } : Jvm.MethodName)) ∈ bigW := tp_4 (List.mem_of_getElem? (i := 151) rfl) rfl
theorem w_872 : (Jvm.Cond.selects "StiltTown$Laws" ({ cls := "StiltTown$Laws", name := "put", desc := "(II)V" } : Jvm.MethodName) ({ cls := "StiltTown$Laws", name := "put", desc := "(II)V" } : Jvm.MethodName)) ∈ bigW := tp_4 (List.mem_of_getElem? (i := 152) rfl) rfl
theorem w_873 : (Jvm.Cond.code ({ cls := "StiltTown$Laws", name := "put", desc := "(II)V" } : Jvm.MethodName) prog_3_method_7_code (3 : Nat) (Option.none : Option Jvm.ClassFile.FieldType)) ∈ bigW := tp_4 (List.mem_of_getElem? (i := 153) rfl) rfl
theorem w_875 : (Jvm.Cond.methodLink "StiltTown$Town" (86 : Nat) ({ cls := "StiltTown$Laws", name := "value", desc := "(I)I" } : Jvm.MethodName)) ∈ bigW := tp_4 (List.mem_of_getElem? (i := 155) rfl) rfl
theorem w_876 : (Jvm.Cond.instanceMethod ({ cls := "StiltTown$Laws", name := "value", desc := "(I)I" } : Jvm.MethodName)) ∈ bigW := tp_4 (List.mem_of_getElem? (i := 156) rfl) rfl
theorem w_877 : (Jvm.Cond.selects "StiltTown$Laws" ({ cls := "StiltTown$Laws", name := "value", desc := "(I)I" } : Jvm.MethodName) ({ cls := "StiltTown$Laws", name := "value", desc := "(I)I" } : Jvm.MethodName)) ∈ bigW := tp_4 (List.mem_of_getElem? (i := 157) rfl) rfl
theorem w_878 : (Jvm.Cond.code ({ cls := "StiltTown$Laws", name := "value", desc := "(I)I" } : Jvm.MethodName) prog_3_method_9_code (4 : Nat) (Option.some Jvm.ClassFile.FieldType.int)) ∈ bigW := tp_4 (List.mem_of_getElem? (i := 158) rfl) rfl
theorem w_879 : (Jvm.Cond.methodLink "StiltTown$Laws" (61 : Nat) ({ cls := "StiltTown$Laws", name := "push", desc := "(I)V" } : Jvm.MethodName)) ∈ bigW := tp_4 (List.mem_of_getElem? (i := 159) rfl) rfl
theorem w_881 : (Jvm.Cond.instanceMethod ({ cls := "StiltTown$Laws", name := "push", desc := "(I)V" } : Jvm.MethodName)) ∈ bigW := tp_4 (List.mem_of_getElem? (i := 161) rfl) rfl
theorem w_882 : (Jvm.Cond.code ({ cls := "StiltTown$Laws", name := "push", desc := "(I)V" } : Jvm.MethodName) prog_3_method_10_code (2 : Nat) (Option.none : Option Jvm.ClassFile.FieldType)) ∈ bigW := tp_4 (List.mem_of_getElem? (i := 162) rfl) rfl
theorem w_883 : (Jvm.Cond.methodLink "StiltTown$Laws" (65 : Nat) ({ cls := "StiltTown$Laws", name := "turnRound", desc := "()V" } : Jvm.MethodName)) ∈ bigW := tp_4 (List.mem_of_getElem? (i := 163) rfl) rfl
theorem w_885 : (Jvm.Cond.instanceMethod ({ cls := "StiltTown$Laws", name := "turnRound", desc := "()V" } : Jvm.MethodName)) ∈ bigW := tp_4 (List.mem_of_getElem? (i := 165) rfl) rfl
theorem w_886 : (Jvm.Cond.code ({ cls := "StiltTown$Laws", name := "turnRound", desc := "()V" } : Jvm.MethodName) prog_3_method_11_code (1 : Nat) (Option.none : Option Jvm.ClassFile.FieldType)) ∈ bigW := tp_4 (List.mem_of_getElem? (i := 166) rfl) rfl
theorem w_887 : (Jvm.Cond.methodLink "StiltTown$Laws" (68 : Nat) ({ cls := "StiltTown$Laws", name := "join", desc := "(I)V" } : Jvm.MethodName)) ∈ bigW := tp_4 (List.mem_of_getElem? (i := 167) rfl) rfl
theorem w_889 : (Jvm.Cond.instanceMethod ({ cls := "StiltTown$Laws", name := "join", desc := "(I)V" } : Jvm.MethodName)) ∈ bigW := tp_4 (List.mem_of_getElem? (i := 169) rfl) rfl
theorem w_890 : (Jvm.Cond.code ({ cls := "StiltTown$Laws", name := "join", desc := "(I)V" } : Jvm.MethodName) prog_3_method_12_code (4 : Nat) (Option.none : Option Jvm.ClassFile.FieldType)) ∈ bigW := tp_4 (List.mem_of_getElem? (i := 170) rfl) rfl
theorem w_892 : (Jvm.Cond.methodLink "StiltTown$Laws" (74 : Nat) ({ cls := "StiltTown$Laws", name := "holds", desc := "(III)Z" } : Jvm.MethodName)) ∈ bigW := tp_4 (List.mem_of_getElem? (i := 172) rfl) rfl
theorem w_893 : (Jvm.Cond.static ({ cls := "StiltTown$Laws", name := "holds", desc := "(III)Z" } : Jvm.MethodName)) ∈ bigW := tp_4 (List.mem_of_getElem? (i := 173) rfl) rfl
theorem w_894 : (Jvm.Cond.code ({ cls := "StiltTown$Laws", name := "holds", desc := "(III)Z" } : Jvm.MethodName) prog_3_method_13_code (3 : Nat) (Option.some Jvm.ClassFile.FieldType.boolean)) ∈ bigW := tp_4 (List.mem_of_getElem? (i := 174) rfl) rfl
theorem w_896 : (Jvm.Cond.methodLink "StiltTown$Laws" (81 : Nat) ({ cls := "StiltTown$Laws", name := "reckon", desc := "(III)I" } : Jvm.MethodName)) ∈ bigW := tp_4 (List.mem_of_getElem? (i := 176) rfl) rfl
theorem w_898 : (Jvm.Cond.instanceMethod ({ cls := "StiltTown$Laws", name := "reckon", desc := "(III)I" } : Jvm.MethodName)) ∈ bigW := tp_4 (List.mem_of_getElem? (i := 178) rfl) rfl
theorem w_899 : (Jvm.Cond.code ({ cls := "StiltTown$Laws", name := "reckon", desc := "(III)I" } : Jvm.MethodName) prog_3_method_14_code (4 : Nat) (Option.some Jvm.ClassFile.FieldType.int)) ∈ bigW := tp_4 (List.mem_of_getElem? (i := 179) rfl) rfl
theorem w_901 : (Jvm.Cond.static ({ cls := "StiltTown", name := "heldTo99", desc := "(I)I" } : Jvm.MethodName)) ∈ bigW := tp_4 (List.mem_of_getElem? (i := 181) rfl) rfl
theorem w_902 : (Jvm.Cond.code ({ cls := "StiltTown", name := "heldTo99", desc := "(I)I" } : Jvm.MethodName) prog_1_method_60_code (1 : Nat) (Option.some Jvm.ClassFile.FieldType.int)) ∈ bigW := tp_4 (List.mem_of_getElem? (i := 182) rfl) rfl
theorem w_903 : (Jvm.Cond.methodLink "StiltTown" (339 : Nat) ({ cls := "java/lang/Math", name := "min", desc := "(II)I" } : Jvm.MethodName)) ∈ bigW := tp_4 (List.mem_of_getElem? (i := 183) rfl) rfl
theorem w_904 : (Jvm.Cond.static ({ cls := "java/lang/Math", name := "min", desc := "(II)I" } : Jvm.MethodName)) ∈ bigW := tp_4 (List.mem_of_getElem? (i := 184) rfl) rfl
theorem w_905 : (Jvm.Cond.code ({ cls := "java/lang/Math", name := "min", desc := "(II)I" } : Jvm.MethodName) prog_16_method_69_code (2 : Nat) (Option.some Jvm.ClassFile.FieldType.int)) ∈ bigW := tp_4 (List.mem_of_getElem? (i := 185) rfl) rfl
theorem w_906 : (Jvm.Cond.methodLink "StiltTown" (236 : Nat) ({ cls := "java/lang/Math", name := "max", desc := "(II)I" } : Jvm.MethodName)) ∈ bigW := tp_4 (List.mem_of_getElem? (i := 186) rfl) rfl
theorem w_907 : (Jvm.Cond.static ({ cls := "java/lang/Math", name := "max", desc := "(II)I" } : Jvm.MethodName)) ∈ bigW := tp_4 (List.mem_of_getElem? (i := 187) rfl) rfl
theorem w_908 : (Jvm.Cond.code ({ cls := "java/lang/Math", name := "max", desc := "(II)I" } : Jvm.MethodName) prog_16_method_65_code (2 : Nat) (Option.some Jvm.ClassFile.FieldType.int)) ∈ bigW := tp_4 (List.mem_of_getElem? (i := 188) rfl) rfl
theorem w_909 : (Jvm.Cond.methodLink "StiltTownLaw" (37 : Nat) ({ cls := "StiltTown", name := "give", desc := "(II)Z" } : Jvm.MethodName)) ∈ bigW := tp_4 (List.mem_of_getElem? (i := 189) rfl) rfl
theorem w_910 : (Jvm.Cond.instanceMethod ({ cls := "StiltTown", name := "give", desc := "(II)Z" } : Jvm.MethodName)) ∈ bigW := tp_4 (List.mem_of_getElem? (i := 190) rfl) rfl
theorem w_911 : (Jvm.Cond.selects "StiltTown" ({ cls := "StiltTown", name := "give", desc := "(II)Z" } : Jvm.MethodName) ({ cls := "StiltTown", name := "give", desc := "(II)Z" } : Jvm.MethodName)) ∈ bigW := tp_4 (List.mem_of_getElem? (i := 191) rfl) rfl
theorem w_912 : (Jvm.Cond.code ({ cls := "StiltTown", name := "give", desc := "(II)Z" } : Jvm.MethodName) prog_1_method_8_code (3 : Nat) (Option.some Jvm.ClassFile.FieldType.boolean)) ∈ bigW := tp_4 (List.mem_of_getElem? (i := 192) rfl) rfl
theorem w_913 : (Jvm.Cond.methodLink "StiltTown" (133 : Nat) ({ cls := "StiltTown", name := "isOffice", desc := "(I)Z" } : Jvm.MethodName)) ∈ bigW := tp_4 (List.mem_of_getElem? (i := 193) rfl) rfl
theorem w_915 : (Jvm.Cond.instanceMethod ({ cls := "StiltTown", name := "isOffice", desc := "(I)Z" } : Jvm.MethodName)) ∈ bigW := tp_4 (List.mem_of_getElem? (i := 195) rfl) rfl
theorem w_916 : (Jvm.Cond.code ({ cls := "StiltTown", name := "isOffice", desc := "(I)Z" } : Jvm.MethodName) prog_1_method_52_code (2 : Nat) (Option.some Jvm.ClassFile.FieldType.boolean)) ∈ bigW := tp_4 (List.mem_of_getElem? (i := 196) rfl) rfl
theorem w_917 : (Jvm.Cond.methodLink "StiltTown" (136 : Nat) ({ cls := "StiltTown$State", name := "settle", desc := "(II)V" } : Jvm.MethodName)) ∈ bigW := tp_4 (List.mem_of_getElem? (i := 197) rfl) rfl
theorem w_918 : (Jvm.Cond.methodLink "StiltTownLaw" (42 : Nat) ({ cls := "StiltTown", name := "holder", desc := "(I)I" } : Jvm.MethodName)) ∈ bigW := tp_4 (List.mem_of_getElem? (i := 198) rfl) rfl
theorem w_919 : (Jvm.Cond.instanceMethod ({ cls := "StiltTown", name := "holder", desc := "(I)I" } : Jvm.MethodName)) ∈ bigW := tp_4 (List.mem_of_getElem? (i := 199) rfl) rfl
theorem w_920 : (Jvm.Cond.selects "StiltTown" ({ cls := "StiltTown", name := "holder", desc := "(I)I" } : Jvm.MethodName) ({ cls := "StiltTown", name := "holder", desc := "(I)I" } : Jvm.MethodName)) ∈ bigW := tp_4 (List.mem_of_getElem? (i := 200) rfl) rfl
theorem w_921 : (Jvm.Cond.code ({ cls := "StiltTown", name := "holder", desc := "(I)I" } : Jvm.MethodName) prog_1_method_9_code (2 : Nat) (Option.some Jvm.ClassFile.FieldType.int)) ∈ bigW := tp_4 (List.mem_of_getElem? (i := 201) rfl) rfl
theorem w_922 : (Jvm.Cond.methodLink "StiltTown" (140 : Nat) ({ cls := "StiltTown$State", name := "whoIsIn", desc := "(I)I" } : Jvm.MethodName)) ∈ bigW := tp_4 (List.mem_of_getElem? (i := 202) rfl) rfl
theorem w_923 : (Jvm.Cond.instanceMethod ({ cls := "StiltTown$State", name := "whoIsIn", desc := "(I)I" } : Jvm.MethodName)) ∈ bigW := tp_4 (List.mem_of_getElem? (i := 203) rfl) rfl
theorem w_924 : (Jvm.Cond.selects "StiltTown$State" ({ cls := "StiltTown$State", name := "whoIsIn", desc := "(I)I" } : Jvm.MethodName) ({ cls := "StiltTown$State", name := "whoIsIn", desc := "(I)I" } : Jvm.MethodName)) ∈ bigW := tp_4 (List.mem_of_getElem? (i := 204) rfl) rfl
theorem w_925 : (Jvm.Cond.code ({ cls := "StiltTown$State", name := "whoIsIn", desc := "(I)I" } : Jvm.MethodName) prog_8_method_5_code (3 : Nat) (Option.some Jvm.ClassFile.FieldType.int)) ∈ bigW := tp_4 (List.mem_of_getElem? (i := 205) rfl) rfl
theorem w_926 : (Jvm.Cond.methodLink "StiltTownLaw" (46 : Nat) ({ cls := "StiltTown", name := "months", desc := "(I)I" } : Jvm.MethodName)) ∈ bigW := tp_4 (List.mem_of_getElem? (i := 206) rfl) rfl
theorem w_927 : (Jvm.Cond.instanceMethod ({ cls := "StiltTown", name := "months", desc := "(I)I" } : Jvm.MethodName)) ∈ bigW := tp_4 (List.mem_of_getElem? (i := 207) rfl) rfl
theorem w_928 : (Jvm.Cond.selects "StiltTown" ({ cls := "StiltTown", name := "months", desc := "(I)I" } : Jvm.MethodName) ({ cls := "StiltTown", name := "months", desc := "(I)I" } : Jvm.MethodName)) ∈ bigW := tp_4 (List.mem_of_getElem? (i := 208) rfl) rfl
theorem w_929 : (Jvm.Cond.code ({ cls := "StiltTown", name := "months", desc := "(I)I" } : Jvm.MethodName) prog_1_method_10_code (2 : Nat) (Option.some Jvm.ClassFile.FieldType.int)) ∈ bigW := tp_4 (List.mem_of_getElem? (i := 209) rfl) rfl
theorem w_930 : (Jvm.Cond.methodLink "StiltTown" (144 : Nat) ({ cls := "StiltTown", name := "within", desc := "(III)Z" } : Jvm.MethodName)) ∈ bigW := tp_4 (List.mem_of_getElem? (i := 210) rfl) rfl
theorem w_931 : (Jvm.Cond.methodLink "StiltTownLaw" (50 : Nat) ({ cls := "StiltTown", name := "tide", desc := "(I)I" } : Jvm.MethodName)) ∈ bigW := tp_4 (List.mem_of_getElem? (i := 211) rfl) rfl
theorem w_932 : (Jvm.Cond.instanceMethod ({ cls := "StiltTown", name := "tide", desc := "(I)I" } : Jvm.MethodName)) ∈ bigW := tp_4 (List.mem_of_getElem? (i := 212) rfl) rfl
theorem w_933 : (Jvm.Cond.selects "StiltTown" ({ cls := "StiltTown", name := "tide", desc := "(I)I" } : Jvm.MethodName) ({ cls := "StiltTown", name := "tide", desc := "(I)I" } : Jvm.MethodName)) ∈ bigW := tp_4 (List.mem_of_getElem? (i := 213) rfl) rfl
theorem w_934 : (Jvm.Cond.code ({ cls := "StiltTown", name := "tide", desc := "(I)I" } : Jvm.MethodName) prog_1_method_11_code (2 : Nat) (Option.some Jvm.ClassFile.FieldType.int)) ∈ bigW := tp_4 (List.mem_of_getElem? (i := 214) rfl) rfl
theorem w_935 : (Jvm.Cond.methodLink "StiltTown" (151 : Nat) ({ cls := "StiltTown", name := "isHour", desc := "(I)Z" } : Jvm.MethodName)) ∈ bigW := tp_4 (List.mem_of_getElem? (i := 215) rfl) rfl
theorem w_936 : (Jvm.Cond.static ({ cls := "StiltTown", name := "isHour", desc := "(I)Z" } : Jvm.MethodName)) ∈ bigW := tp_4 (List.mem_of_getElem? (i := 216) rfl) rfl
theorem w_937 : (Jvm.Cond.code ({ cls := "StiltTown", name := "isHour", desc := "(I)Z" } : Jvm.MethodName) prog_1_method_56_code (1 : Nat) (Option.some Jvm.ClassFile.FieldType.boolean)) ∈ bigW := tp_4 (List.mem_of_getElem? (i := 217) rfl) rfl
theorem w_938 : (Jvm.Cond.methodLink "StiltTown" (154 : Nat) ({ cls := "StiltTown$Town", name := "tideAt", desc := "(LStiltTown$State;I)I" } : Jvm.MethodName)) ∈ bigW := tp_4 (List.mem_of_getElem? (i := 218) rfl) rfl
theorem w_939 : (Jvm.Cond.instanceMethod ({ cls := "StiltTown$Town", name := "tideAt", desc := "(LStiltTown$State;I)I" } : Jvm.MethodName)) ∈ bigW := tp_4 (List.mem_of_getElem? (i := 219) rfl) rfl
theorem w_940 : (Jvm.Cond.selects "StiltTown$Town" ({ cls := "StiltTown$Town", name := "tideAt", desc := "(LStiltTown$State;I)I" } : Jvm.MethodName) ({ cls := "StiltTown$Town", name := "tideAt", desc := "(LStiltTown$State;I)I" } : Jvm.MethodName)) ∈ bigW := tp_4 (List.mem_of_getElem? (i := 220) rfl) rfl
theorem w_941 : (Jvm.Cond.code ({ cls := "StiltTown$Town", name := "tideAt", desc := "(LStiltTown$State;I)I" } : Jvm.MethodName) prog_10_method_4_code (3 : Nat) (Option.some Jvm.ClassFile.FieldType.int)) ∈ bigW := tp_4 (List.mem_of_getElem? (i := 221) rfl) rfl
theorem w_942 : (Jvm.Cond.methodLink "StiltTownLaw" (54 : Nat) ({ cls := "StiltTown", name := "wet", desc := "(I)I" } : Jvm.MethodName)) ∈ bigW := tp_4 (List.mem_of_getElem? (i := 222) rfl) rfl
theorem w_943 : (Jvm.Cond.instanceMethod ({ cls := "StiltTown", name := "wet", desc := "(I)I" } : Jvm.MethodName)) ∈ bigW := tp_4 (List.mem_of_getElem? (i := 223) rfl) rfl
theorem w_944 : (Jvm.Cond.selects "StiltTown" ({ cls := "StiltTown", name := "wet", desc := "(I)I" } : Jvm.MethodName) ({ cls := "StiltTown", name := "wet", desc := "(I)I" } : Jvm.MethodName)) ∈ bigW := tp_4 (List.mem_of_getElem? (i := 224) rfl) rfl
theorem w_945 : (Jvm.Cond.code ({ cls := "StiltTown", name := "wet", desc := "(I)I" } : Jvm.MethodName) prog_1_method_12_code (2 : Nat) (Option.some Jvm.ClassFile.FieldType.int)) ∈ bigW := tp_4 (List.mem_of_getElem? (i := 225) rfl) rfl
theorem w_946 : (Jvm.Cond.methodLink "StiltTown" (157 : Nat) ({ cls := "StiltTown$Town", name := "wetBits", desc := "([II)I" } : Jvm.MethodName)) ∈ bigW := tp_4 (List.mem_of_getElem? (i := 226) rfl) rfl
theorem w_947 : (Jvm.Cond.instanceMethod ({ cls := "StiltTown$Town", name := "wetBits", desc := "([II)I" } : Jvm.MethodName)) ∈ bigW := tp_4 (List.mem_of_getElem? (i := 227) rfl) rfl
theorem w_948 : (Jvm.Cond.selects "StiltTown$Town" ({ cls := "StiltTown$Town", name := "wetBits", desc := "([II)I" } : Jvm.MethodName) ({ cls := "StiltTown$Town", name := "wetBits", desc := "([II)I" } : Jvm.MethodName)) ∈ bigW := tp_4 (List.mem_of_getElem? (i := 228) rfl) rfl
theorem w_949 : (Jvm.Cond.code ({ cls := "StiltTown$Town", name := "wetBits", desc := "([II)I" } : Jvm.MethodName) prog_10_method_13_code (5 : Nat) (Option.some Jvm.ClassFile.FieldType.int)) ∈ bigW := tp_4 (List.mem_of_getElem? (i := 229) rfl) rfl
theorem w_950 : (Jvm.Cond.methodLink "StiltTownLaw" (58 : Nat) ({ cls := "StiltTown", name := "reached", desc := "(I)I" } : Jvm.MethodName)) ∈ bigW := tp_4 (List.mem_of_getElem? (i := 230) rfl) rfl
theorem w_951 : (Jvm.Cond.instanceMethod ({ cls := "StiltTown", name := "reached", desc := "(I)I" } : Jvm.MethodName)) ∈ bigW := tp_4 (List.mem_of_getElem? (i := 231) rfl) rfl
theorem w_952 : (Jvm.Cond.selects "StiltTown" ({ cls := "StiltTown", name := "reached", desc := "(I)I" } : Jvm.MethodName) ({ cls := "StiltTown", name := "reached", desc := "(I)I" } : Jvm.MethodName)) ∈ bigW := tp_4 (List.mem_of_getElem? (i := 232) rfl) rfl
theorem w_953 : (Jvm.Cond.code ({ cls := "StiltTown", name := "reached", desc := "(I)I" } : Jvm.MethodName) prog_1_method_13_code (2 : Nat) (Option.some Jvm.ClassFile.FieldType.int)) ∈ bigW := tp_4 (List.mem_of_getElem? (i := 233) rfl) rfl
theorem w_954 : (Jvm.Cond.methodLink "StiltTown" (161 : Nat) ({ cls := "StiltTown$Town", name := "reachedBits", desc := "([II)I" } : Jvm.MethodName)) ∈ bigW := tp_4 (List.mem_of_getElem? (i := 234) rfl) rfl
theorem w_955 : (Jvm.Cond.instanceMethod ({ cls := "StiltTown$Town", name := "reachedBits", desc := "([II)I" } : Jvm.MethodName)) ∈ bigW := tp_4 (List.mem_of_getElem? (i := 235) rfl) rfl
theorem w_956 : (Jvm.Cond.selects "StiltTown$Town" ({ cls := "StiltTown$Town", name := "reachedBits", desc := "([II)I" } : Jvm.MethodName) ({ cls := "StiltTown$Town", name := "reachedBits", desc := "([II)I" } : Jvm.MethodName)) ∈ bigW := tp_4 (List.mem_of_getElem? (i := 236) rfl) rfl
theorem w_957 : (Jvm.Cond.code ({ cls := "StiltTown$Town", name := "reachedBits", desc := "([II)I" } : Jvm.MethodName) prog_10_method_16_code (3 : Nat) (Option.some Jvm.ClassFile.FieldType.int)) ∈ bigW := tp_4 (List.mem_of_getElem? (i := 237) rfl) rfl
theorem w_958 : (Jvm.Cond.methodLink "StiltTown$Town" (146 : Nat) ({ cls := "StiltTown$Town", name := "reachedWithout", desc := "([IIII)I" } : Jvm.MethodName)) ∈ bigW := tp_4 (List.mem_of_getElem? (i := 238) rfl) rfl
theorem w_960 : (Jvm.Cond.instanceMethod ({ cls := "StiltTown$Town", name := "reachedWithout", desc := "([IIII)I" } : Jvm.MethodName)) ∈ bigW := tp_5 (List.mem_of_getElem? (i := 0) rfl) rfl
theorem w_961 : (Jvm.Cond.code ({ cls := "StiltTown$Town", name := "reachedWithout", desc := "([IIII)I" } : Jvm.MethodName) prog_10_method_17_code (10 : Nat) (Option.some Jvm.ClassFile.FieldType.int)) ∈ bigW := tp_5 (List.mem_of_getElem? (i := 1) rfl) rfl
theorem w_962 : (Jvm.Cond.methodLink "StiltTown$Town" (150 : Nat) ({ cls := "StiltTown$Town", name := "wetBits", desc := "([II)I" } : Jvm.MethodName)) ∈ bigW := tp_5 (List.mem_of_getElem? (i := 2) rfl) rfl
theorem w_963 : (Jvm.Cond.methodLink "StiltTown$Town" (153 : Nat) ({ cls := "StiltTown$Town", name := "bitOf", desc := "(I)I" } : Jvm.MethodName)) ∈ bigW := tp_5 (List.mem_of_getElem? (i := 3) rfl) rfl
theorem w_964 : (Jvm.Cond.methodLink "StiltTown$Town" (156 : Nat) ({ cls := "StiltTown$Town", name := "stairMeets", desc := "([II)Z" } : Jvm.MethodName)) ∈ bigW := tp_5 (List.mem_of_getElem? (i := 4) rfl) rfl
theorem w_965 : (Jvm.Cond.instanceMethod ({ cls := "StiltTown$Town", name := "stairMeets", desc := "([II)Z" } : Jvm.MethodName)) ∈ bigW := tp_5 (List.mem_of_getElem? (i := 5) rfl) rfl
theorem w_966 : (Jvm.Cond.selects "StiltTown$Town" ({ cls := "StiltTown$Town", name := "stairMeets", desc := "([II)Z" } : Jvm.MethodName) ({ cls := "StiltTown$Town", name := "stairMeets", desc := "([II)Z" } : Jvm.MethodName)) ∈ bigW := tp_5 (List.mem_of_getElem? (i := 6) rfl) rfl
theorem w_967 : (Jvm.Cond.code ({ cls := "StiltTown$Town", name := "stairMeets", desc := "([II)Z" } : Jvm.MethodName) prog_10_method_14_code (3 : Nat) (Option.some Jvm.ClassFile.FieldType.boolean)) ∈ bigW := tp_5 (List.mem_of_getElem? (i := 7) rfl) rfl
theorem w_968 : (Jvm.Cond.methodLink "StiltTown$Town" (137 : Nat) ({ cls := "StiltTown$Town", name := "endHeight", desc := "([II)I" } : Jvm.MethodName)) ∈ bigW := tp_5 (List.mem_of_getElem? (i := 8) rfl) rfl
theorem w_969 : (Jvm.Cond.static ({ cls := "StiltTown$Town", name := "endHeight", desc := "([II)I" } : Jvm.MethodName)) ∈ bigW := tp_5 (List.mem_of_getElem? (i := 9) rfl) rfl
theorem w_970 : (Jvm.Cond.code ({ cls := "StiltTown$Town", name := "endHeight", desc := "([II)I" } : Jvm.MethodName) prog_10_method_15_code (2 : Nat) (Option.some Jvm.ClassFile.FieldType.int)) ∈ bigW := tp_5 (List.mem_of_getElem? (i := 10) rfl) rfl
theorem w_971 : (Jvm.Cond.methodLink "StiltTown$Town" (141 : Nat) ({ cls := "java/lang/Math", name := "abs", desc := "(I)I" } : Jvm.MethodName)) ∈ bigW := tp_5 (List.mem_of_getElem? (i := 11) rfl) rfl
theorem w_972 : (Jvm.Cond.static ({ cls := "java/lang/Math", name := "abs", desc := "(I)I" } : Jvm.MethodName)) ∈ bigW := tp_5 (List.mem_of_getElem? (i := 12) rfl) rfl
theorem w_973 : (Jvm.Cond.code ({ cls := "java/lang/Math", name := "abs", desc := "(I)I" } : Jvm.MethodName) prog_16_method_59_code (1 : Nat) (Option.some Jvm.ClassFile.FieldType.int)) ∈ bigW := tp_5 (List.mem_of_getElem? (i := 13) rfl) rfl
theorem w_974 : (Jvm.Cond.methodLink "StiltTown$Town" (159 : Nat) ({ cls := "StiltTown$Town", name := "behindStair", desc := "(III)I" } : Jvm.MethodName)) ∈ bigW := tp_5 (List.mem_of_getElem? (i := 14) rfl) rfl
theorem w_976 : (Jvm.Cond.instanceMethod ({ cls := "StiltTown$Town", name := "behindStair", desc := "(III)I" } : Jvm.MethodName)) ∈ bigW := tp_5 (List.mem_of_getElem? (i := 16) rfl) rfl
theorem w_977 : (Jvm.Cond.code ({ cls := "StiltTown$Town", name := "behindStair", desc := "(III)I" } : Jvm.MethodName) prog_10_method_18_code (6 : Nat) (Option.some Jvm.ClassFile.FieldType.int)) ∈ bigW := tp_5 (List.mem_of_getElem? (i := 17) rfl) rfl
theorem w_978 : (Jvm.Cond.methodLink "StiltTownLaw" (62 : Nat) ({ cls := "StiltTown", name := "hours", desc := "(I)I" } : Jvm.MethodName)) ∈ bigW := tp_5 (List.mem_of_getElem? (i := 18) rfl) rfl
theorem w_979 : (Jvm.Cond.instanceMethod ({ cls := "StiltTown", name := "hours", desc := "(I)I" } : Jvm.MethodName)) ∈ bigW := tp_5 (List.mem_of_getElem? (i := 19) rfl) rfl
theorem w_980 : (Jvm.Cond.selects "StiltTown" ({ cls := "StiltTown", name := "hours", desc := "(I)I" } : Jvm.MethodName) ({ cls := "StiltTown", name := "hours", desc := "(I)I" } : Jvm.MethodName)) ∈ bigW := tp_5 (List.mem_of_getElem? (i := 20) rfl) rfl
theorem w_981 : (Jvm.Cond.code ({ cls := "StiltTown", name := "hours", desc := "(I)I" } : Jvm.MethodName) prog_1_method_14_code (4 : Nat) (Option.some Jvm.ClassFile.FieldType.int)) ∈ bigW := tp_5 (List.mem_of_getElem? (i := 21) rfl) rfl
theorem w_982 : (Jvm.Cond.methodLink "StiltTownLaw" (66 : Nat) ({ cls := "StiltTown", name := "meets", desc := "(I)I" } : Jvm.MethodName)) ∈ bigW := tp_5 (List.mem_of_getElem? (i := 22) rfl) rfl
theorem w_983 : (Jvm.Cond.instanceMethod ({ cls := "StiltTown", name := "meets", desc := "(I)I" } : Jvm.MethodName)) ∈ bigW := tp_5 (List.mem_of_getElem? (i := 23) rfl) rfl
theorem w_984 : (Jvm.Cond.selects "StiltTown" ({ cls := "StiltTown", name := "meets", desc := "(I)I" } : Jvm.MethodName) ({ cls := "StiltTown", name := "meets", desc := "(I)I" } : Jvm.MethodName)) ∈ bigW := tp_5 (List.mem_of_getElem? (i := 24) rfl) rfl
theorem w_985 : (Jvm.Cond.code ({ cls := "StiltTown", name := "meets", desc := "(I)I" } : Jvm.MethodName) prog_1_method_15_code (2 : Nat) (Option.some Jvm.ClassFile.FieldType.int)) ∈ bigW := tp_5 (List.mem_of_getElem? (i := 25) rfl) rfl
theorem w_986 : (Jvm.Cond.methodLink "StiltTown" (164 : Nat) ({ cls := "StiltTown", name := "isStair", desc := "(I)Z" } : Jvm.MethodName)) ∈ bigW := tp_5 (List.mem_of_getElem? (i := 26) rfl) rfl
theorem w_988 : (Jvm.Cond.instanceMethod ({ cls := "StiltTown", name := "isStair", desc := "(I)Z" } : Jvm.MethodName)) ∈ bigW := tp_5 (List.mem_of_getElem? (i := 28) rfl) rfl
theorem w_989 : (Jvm.Cond.code ({ cls := "StiltTown", name := "isStair", desc := "(I)Z" } : Jvm.MethodName) prog_1_method_53_code (2 : Nat) (Option.some Jvm.ClassFile.FieldType.boolean)) ∈ bigW := tp_5 (List.mem_of_getElem? (i := 29) rfl) rfl
theorem w_990 : (Jvm.Cond.methodLink "StiltTown" (167 : Nat) ({ cls := "StiltTown$Town", name := "stairMeets", desc := "([II)Z" } : Jvm.MethodName)) ∈ bigW := tp_5 (List.mem_of_getElem? (i := 30) rfl) rfl
theorem w_991 : (Jvm.Cond.methodLink "StiltTownLaw" (70 : Nat) ({ cls := "StiltTown", name := "cut", desc := "(IZI)I" } : Jvm.MethodName)) ∈ bigW := tp_5 (List.mem_of_getElem? (i := 31) rfl) rfl
theorem w_992 : (Jvm.Cond.instanceMethod ({ cls := "StiltTown", name := "cut", desc := "(IZI)I" } : Jvm.MethodName)) ∈ bigW := tp_5 (List.mem_of_getElem? (i := 32) rfl) rfl
theorem w_993 : (Jvm.Cond.selects "StiltTown" ({ cls := "StiltTown", name := "cut", desc := "(IZI)I" } : Jvm.MethodName) ({ cls := "StiltTown", name := "cut", desc := "(IZI)I" } : Jvm.MethodName)) ∈ bigW := tp_5 (List.mem_of_getElem? (i := 33) rfl) rfl
theorem w_994 : (Jvm.Cond.code ({ cls := "StiltTown", name := "cut", desc := "(IZI)I" } : Jvm.MethodName) prog_1_method_16_code (4 : Nat) (Option.some Jvm.ClassFile.FieldType.int)) ∈ bigW := tp_5 (List.mem_of_getElem? (i := 34) rfl) rfl
theorem w_995 : (Jvm.Cond.methodLink "StiltTown" (171 : Nat) ({ cls := "StiltTown$Town", name := "cutBy", desc := "(IZ[II)I" } : Jvm.MethodName)) ∈ bigW := tp_5 (List.mem_of_getElem? (i := 35) rfl) rfl
theorem w_996 : (Jvm.Cond.instanceMethod ({ cls := "StiltTown$Town", name := "cutBy", desc := "(IZ[II)I" } : Jvm.MethodName)) ∈ bigW := tp_5 (List.mem_of_getElem? (i := 36) rfl) rfl
theorem w_997 : (Jvm.Cond.selects "StiltTown$Town" ({ cls := "StiltTown$Town", name := "cutBy", desc := "(IZ[II)I" } : Jvm.MethodName) ({ cls := "StiltTown$Town", name := "cutBy", desc := "(IZ[II)I" } : Jvm.MethodName)) ∈ bigW := tp_5 (List.mem_of_getElem? (i := 37) rfl) rfl
theorem w_998 : (Jvm.Cond.code ({ cls := "StiltTown$Town", name := "cutBy", desc := "(IZ[II)I" } : Jvm.MethodName) prog_10_method_20_code (7 : Nat) (Option.some Jvm.ClassFile.FieldType.int)) ∈ bigW := tp_5 (List.mem_of_getElem? (i := 38) rfl) rfl
theorem w_999 : (Jvm.Cond.methodLink "StiltTown$Town" (163 : Nat) ({ cls := "StiltTown$Town", name := "reachedBits", desc := "([II)I" } : Jvm.MethodName)) ∈ bigW := tp_5 (List.mem_of_getElem? (i := 39) rfl) rfl
theorem w_1000 : (Jvm.Cond.methodLink "StiltTown$Town" (166 : Nat) ({ cls := "java/lang/Integer", name := "bitCount", desc := "(I)I" } : Jvm.MethodName)) ∈ bigW := tp_5 (List.mem_of_getElem? (i := 40) rfl) rfl
theorem w_1001 : (Jvm.Cond.static ({ cls := "java/lang/Integer", name := "bitCount", desc := "(I)I" } : Jvm.MethodName)) ∈ bigW := tp_5 (List.mem_of_getElem? (i := 41) rfl) rfl
theorem w_1002 : (Jvm.Cond.code ({ cls := "java/lang/Integer", name := "bitCount", desc := "(I)I" } : Jvm.MethodName) prog_15_method_49_code (1 : Nat) (Option.some Jvm.ClassFile.FieldType.int)) ∈ bigW := tp_5 (List.mem_of_getElem? (i := 42) rfl) rfl
theorem w_1003 : (Jvm.Cond.constant "java/lang/Integer" (265 : Nat) (1431655765 : Int32)) ∈ bigW := tp_5 (List.mem_of_getElem? (i := 43) rfl) rfl
theorem w_1004 : (Jvm.Cond.constant "java/lang/Integer" (266 : Nat) (858993459 : Int32)) ∈ bigW := tp_5 (List.mem_of_getElem? (i := 44) rfl) rfl
theorem w_1005 : (Jvm.Cond.constant "java/lang/Integer" (267 : Nat) (252645135 : Int32)) ∈ bigW := tp_5 (List.mem_of_getElem? (i := 45) rfl) rfl
theorem w_1006 : (Jvm.Cond.methodLink "StiltTownLaw" (75 : Nat) ({ cls := "StiltTown", name := "worst", desc := "(ZI)I" } : Jvm.MethodName)) ∈ bigW := tp_5 (List.mem_of_getElem? (i := 46) rfl) rfl
theorem w_1007 : (Jvm.Cond.instanceMethod ({ cls := "StiltTown", name := "worst", desc := "(ZI)I" } : Jvm.MethodName)) ∈ bigW := tp_5 (List.mem_of_getElem? (i := 47) rfl) rfl
theorem w_1008 : (Jvm.Cond.selects "StiltTown" ({ cls := "StiltTown", name := "worst", desc := "(ZI)I" } : Jvm.MethodName) ({ cls := "StiltTown", name := "worst", desc := "(ZI)I" } : Jvm.MethodName)) ∈ bigW := tp_5 (List.mem_of_getElem? (i := 48) rfl) rfl
theorem w_1009 : (Jvm.Cond.code ({ cls := "StiltTown", name := "worst", desc := "(ZI)I" } : Jvm.MethodName) prog_1_method_17_code (9 : Nat) (Option.some Jvm.ClassFile.FieldType.int)) ∈ bigW := tp_5 (List.mem_of_getElem? (i := 49) rfl) rfl
theorem w_1010 : (Jvm.Cond.methodLink "StiltTownLaw" (80 : Nat) ({ cls := "StiltTown", name := "law", desc := "(I)I" } : Jvm.MethodName)) ∈ bigW := tp_5 (List.mem_of_getElem? (i := 50) rfl) rfl
theorem w_1011 : (Jvm.Cond.instanceMethod ({ cls := "StiltTown", name := "law", desc := "(I)I" } : Jvm.MethodName)) ∈ bigW := tp_5 (List.mem_of_getElem? (i := 51) rfl) rfl
theorem w_1012 : (Jvm.Cond.selects "StiltTown" ({ cls := "StiltTown", name := "law", desc := "(I)I" } : Jvm.MethodName) ({ cls := "StiltTown", name := "law", desc := "(I)I" } : Jvm.MethodName)) ∈ bigW := tp_5 (List.mem_of_getElem? (i := 52) rfl) rfl
theorem w_1013 : (Jvm.Cond.code ({ cls := "StiltTown", name := "law", desc := "(I)I" } : Jvm.MethodName) prog_1_method_18_code (2 : Nat) (Option.some Jvm.ClassFile.FieldType.int)) ∈ bigW := tp_5 (List.mem_of_getElem? (i := 53) rfl) rfl
theorem w_1014 : (Jvm.Cond.methodLink "StiltTown" (181 : Nat) ({ cls := "StiltTown$Town", name := "untrueBits", desc := "(LStiltTown$State;)I" } : Jvm.MethodName)) ∈ bigW := tp_5 (List.mem_of_getElem? (i := 54) rfl) rfl
theorem w_1015 : (Jvm.Cond.instanceMethod ({ cls := "StiltTown$Town", name := "untrueBits", desc := "(LStiltTown$State;)I" } : Jvm.MethodName)) ∈ bigW := tp_5 (List.mem_of_getElem? (i := 55) rfl) rfl
theorem w_1016 : (Jvm.Cond.selects "StiltTown$Town" ({ cls := "StiltTown$Town", name := "untrueBits", desc := "(LStiltTown$State;)I" } : Jvm.MethodName) ({ cls := "StiltTown$Town", name := "untrueBits", desc := "(LStiltTown$State;)I" } : Jvm.MethodName)) ∈ bigW := tp_5 (List.mem_of_getElem? (i := 56) rfl) rfl
theorem w_1017 : (Jvm.Cond.code ({ cls := "StiltTown$Town", name := "untrueBits", desc := "(LStiltTown$State;)I" } : Jvm.MethodName) prog_10_method_10_code (4 : Nat) (Option.some Jvm.ClassFile.FieldType.int)) ∈ bigW := tp_5 (List.mem_of_getElem? (i := 57) rfl) rfl
theorem w_1018 : (Jvm.Cond.methodLink "StiltTown$Town" (130 : Nat) ({ cls := "StiltTown$Town", name := "dueOf", desc := "(LStiltTown$State;I)I" } : Jvm.MethodName)) ∈ bigW := tp_5 (List.mem_of_getElem? (i := 58) rfl) rfl
theorem w_1019 : (Jvm.Cond.methodLink "StiltTown" (185 : Nat) ({ cls := "java/lang/Integer", name := "bitCount", desc := "(I)I" } : Jvm.MethodName)) ∈ bigW := tp_5 (List.mem_of_getElem? (i := 59) rfl) rfl
theorem w_1020 : (Jvm.Cond.methodLink "StiltTown" (190 : Nat) ({ cls := "StiltTown$Town", name := "turnedPairs", desc := "(LStiltTown$State;)I" } : Jvm.MethodName)) ∈ bigW := tp_5 (List.mem_of_getElem? (i := 60) rfl) rfl
theorem w_1021 : (Jvm.Cond.instanceMethod ({ cls := "StiltTown$Town", name := "turnedPairs", desc := "(LStiltTown$State;)I" } : Jvm.MethodName)) ∈ bigW := tp_5 (List.mem_of_getElem? (i := 61) rfl) rfl
theorem w_1022 : (Jvm.Cond.selects "StiltTown$Town" ({ cls := "StiltTown$Town", name := "turnedPairs", desc := "(LStiltTown$State;)I" } : Jvm.MethodName) ({ cls := "StiltTown$Town", name := "turnedPairs", desc := "(LStiltTown$State;)I" } : Jvm.MethodName)) ∈ bigW := tp_5 (List.mem_of_getElem? (i := 62) rfl) rfl
theorem w_1023 : (Jvm.Cond.code ({ cls := "StiltTown$Town", name := "turnedPairs", desc := "(LStiltTown$State;)I" } : Jvm.MethodName) prog_10_method_12_code (5 : Nat) (Option.some Jvm.ClassFile.FieldType.int)) ∈ bigW := tp_5 (List.mem_of_getElem? (i := 63) rfl) rfl
theorem w_1024 : (Jvm.Cond.methodLink "StiltTown" (193 : Nat) ({ cls := "StiltTown$Town", name := "badBits", desc := "(LStiltTown$State;)I" } : Jvm.MethodName)) ∈ bigW := tp_5 (List.mem_of_getElem? (i := 64) rfl) rfl
theorem w_1025 : (Jvm.Cond.instanceMethod ({ cls := "StiltTown$Town", name := "badBits", desc := "(LStiltTown$State;)I" } : Jvm.MethodName)) ∈ bigW := tp_5 (List.mem_of_getElem? (i := 65) rfl) rfl
theorem w_1026 : (Jvm.Cond.selects "StiltTown$Town" ({ cls := "StiltTown$Town", name := "badBits", desc := "(LStiltTown$State;)I" } : Jvm.MethodName) ({ cls := "StiltTown$Town", name := "badBits", desc := "(LStiltTown$State;)I" } : Jvm.MethodName)) ∈ bigW := tp_5 (List.mem_of_getElem? (i := 66) rfl) rfl
theorem w_1027 : (Jvm.Cond.code ({ cls := "StiltTown$Town", name := "badBits", desc := "(LStiltTown$State;)I" } : Jvm.MethodName) prog_10_method_11_code (4 : Nat) (Option.some Jvm.ClassFile.FieldType.int)) ∈ bigW := tp_5 (List.mem_of_getElem? (i := 67) rfl) rfl
theorem w_1028 : (Jvm.Cond.methodLink "StiltTown$Town" (133 : Nat) ({ cls := "StiltTown$Town", name := "isBad", desc := "(LStiltTown$State;I)Z" } : Jvm.MethodName)) ∈ bigW := tp_5 (List.mem_of_getElem? (i := 68) rfl) rfl
theorem w_1029 : (Jvm.Cond.instanceMethod ({ cls := "StiltTown$Town", name := "isBad", desc := "(LStiltTown$State;I)Z" } : Jvm.MethodName)) ∈ bigW := tp_5 (List.mem_of_getElem? (i := 69) rfl) rfl
theorem w_1030 : (Jvm.Cond.selects "StiltTown$Town" ({ cls := "StiltTown$Town", name := "isBad", desc := "(LStiltTown$State;I)Z" } : Jvm.MethodName) ({ cls := "StiltTown$Town", name := "isBad", desc := "(LStiltTown$State;I)Z" } : Jvm.MethodName)) ∈ bigW := tp_5 (List.mem_of_getElem? (i := 70) rfl) rfl
theorem w_1031 : (Jvm.Cond.code ({ cls := "StiltTown$Town", name := "isBad", desc := "(LStiltTown$State;I)Z" } : Jvm.MethodName) prog_10_method_7_code (4 : Nat) (Option.some Jvm.ClassFile.FieldType.boolean)) ∈ bigW := tp_5 (List.mem_of_getElem? (i := 71) rfl) rfl
theorem w_1032 : (Jvm.Cond.methodLink "StiltTown$Town" (107 : Nat) ({ cls := "StiltTown$Town", name := "swayOf", desc := "(LStiltTown$State;II)I" } : Jvm.MethodName)) ∈ bigW := tp_5 (List.mem_of_getElem? (i := 72) rfl) rfl
theorem w_1033 : (Jvm.Cond.instanceMethod ({ cls := "StiltTown$Town", name := "swayOf", desc := "(LStiltTown$State;II)I" } : Jvm.MethodName)) ∈ bigW := tp_5 (List.mem_of_getElem? (i := 73) rfl) rfl
theorem w_1034 : (Jvm.Cond.selects "StiltTown$Town" ({ cls := "StiltTown$Town", name := "swayOf", desc := "(LStiltTown$State;II)I" } : Jvm.MethodName) ({ cls := "StiltTown$Town", name := "swayOf", desc := "(LStiltTown$State;II)I" } : Jvm.MethodName)) ∈ bigW := tp_5 (List.mem_of_getElem? (i := 74) rfl) rfl
theorem w_1035 : (Jvm.Cond.code ({ cls := "StiltTown$Town", name := "swayOf", desc := "(LStiltTown$State;II)I" } : Jvm.MethodName) prog_10_method_6_code (4 : Nat) (Option.some Jvm.ClassFile.FieldType.int)) ∈ bigW := tp_5 (List.mem_of_getElem? (i := 75) rfl) rfl
theorem w_1036 : (Jvm.Cond.methodLink "StiltTown$Town" (117 : Nat) ({ cls := "StiltTown$Laws", name := "someHolds", desc := "([II)Z" } : Jvm.MethodName)) ∈ bigW := tp_5 (List.mem_of_getElem? (i := 76) rfl) rfl
theorem w_1037 : (Jvm.Cond.instanceMethod ({ cls := "StiltTown$Laws", name := "someHolds", desc := "([II)Z" } : Jvm.MethodName)) ∈ bigW := tp_5 (List.mem_of_getElem? (i := 77) rfl) rfl
theorem w_1038 : (Jvm.Cond.selects "StiltTown$Laws" ({ cls := "StiltTown$Laws", name := "someHolds", desc := "([II)Z" } : Jvm.MethodName) ({ cls := "StiltTown$Laws", name := "someHolds", desc := "([II)Z" } : Jvm.MethodName)) ∈ bigW := tp_5 (List.mem_of_getElem? (i := 78) rfl) rfl
theorem w_1039 : (Jvm.Cond.code ({ cls := "StiltTown$Laws", name := "someHolds", desc := "([II)Z" } : Jvm.MethodName) prog_3_method_8_code (4 : Nat) (Option.some Jvm.ClassFile.FieldType.boolean)) ∈ bigW := tp_5 (List.mem_of_getElem? (i := 79) rfl) rfl
theorem w_1040 : (Jvm.Cond.methodLink "StiltTown$Laws" (57 : Nat) ({ cls := "StiltTown$Laws", name := "value", desc := "(I)I" } : Jvm.MethodName)) ∈ bigW := tp_5 (List.mem_of_getElem? (i := 80) rfl) rfl
theorem w_1041 : (Jvm.Cond.methodLink "StiltTownLaw" (84 : Nat) ({ cls := "StiltTown", name := "wood", desc := "(I)I" } : Jvm.MethodName)) ∈ bigW := tp_5 (List.mem_of_getElem? (i := 81) rfl) rfl
theorem w_1042 : (Jvm.Cond.instanceMethod ({ cls := "StiltTown", name := "wood", desc := "(I)I" } : Jvm.MethodName)) ∈ bigW := tp_5 (List.mem_of_getElem? (i := 82) rfl) rfl
theorem w_1043 : (Jvm.Cond.selects "StiltTown" ({ cls := "StiltTown", name := "wood", desc := "(I)I" } : Jvm.MethodName) ({ cls := "StiltTown", name := "wood", desc := "(I)I" } : Jvm.MethodName)) ∈ bigW := tp_5 (List.mem_of_getElem? (i := 83) rfl) rfl
theorem w_1044 : (Jvm.Cond.code ({ cls := "StiltTown", name := "wood", desc := "(I)I" } : Jvm.MethodName) prog_1_method_19_code (2 : Nat) (Option.some Jvm.ClassFile.FieldType.int)) ∈ bigW := tp_5 (List.mem_of_getElem? (i := 84) rfl) rfl
theorem w_1045 : (Jvm.Cond.methodLink "StiltTown" (196 : Nat) ({ cls := "StiltTown", name := "isWood", desc := "(I)Z" } : Jvm.MethodName)) ∈ bigW := tp_5 (List.mem_of_getElem? (i := 85) rfl) rfl
theorem w_1047 : (Jvm.Cond.instanceMethod ({ cls := "StiltTown", name := "isWood", desc := "(I)Z" } : Jvm.MethodName)) ∈ bigW := tp_5 (List.mem_of_getElem? (i := 87) rfl) rfl
theorem w_1048 : (Jvm.Cond.code ({ cls := "StiltTown", name := "isWood", desc := "(I)Z" } : Jvm.MethodName) prog_1_method_54_code (2 : Nat) (Option.some Jvm.ClassFile.FieldType.boolean)) ∈ bigW := tp_5 (List.mem_of_getElem? (i := 88) rfl) rfl
theorem w_1049 : (Jvm.Cond.methodLink "StiltTownLaw" (88 : Nat) ({ cls := "StiltTown", name := "jack", desc := "(II)I" } : Jvm.MethodName)) ∈ bigW := tp_5 (List.mem_of_getElem? (i := 89) rfl) rfl
theorem w_1050 : (Jvm.Cond.instanceMethod ({ cls := "StiltTown", name := "jack", desc := "(II)I" } : Jvm.MethodName)) ∈ bigW := tp_5 (List.mem_of_getElem? (i := 90) rfl) rfl
theorem w_1051 : (Jvm.Cond.selects "StiltTown" ({ cls := "StiltTown", name := "jack", desc := "(II)I" } : Jvm.MethodName) ({ cls := "StiltTown", name := "jack", desc := "(II)I" } : Jvm.MethodName)) ∈ bigW := tp_5 (List.mem_of_getElem? (i := 91) rfl) rfl
theorem w_1052 : (Jvm.Cond.code ({ cls := "StiltTown", name := "jack", desc := "(II)I" } : Jvm.MethodName) prog_1_method_20_code (3 : Nat) (Option.some Jvm.ClassFile.FieldType.int)) ∈ bigW := tp_5 (List.mem_of_getElem? (i := 92) rfl) rfl
theorem w_1053 : (Jvm.Cond.methodLink "StiltTown" (202 : Nat) ({ cls := "StiltTown$Yard", name := "choose", desc := "(LStiltTown$Town;[II)Z" } : Jvm.MethodName)) ∈ bigW := tp_5 (List.mem_of_getElem? (i := 93) rfl) rfl
theorem w_1054 : (Jvm.Cond.instanceMethod ({ cls := "StiltTown$Yard", name := "choose", desc := "(LStiltTown$Town;[II)Z" } : Jvm.MethodName)) ∈ bigW := tp_5 (List.mem_of_getElem? (i := 94) rfl) rfl
theorem w_1055 : (Jvm.Cond.selects "StiltTown$Yard" ({ cls := "StiltTown$Yard", name := "choose", desc := "(LStiltTown$Town;[II)Z" } : Jvm.MethodName) ({ cls := "StiltTown$Yard", name := "choose", desc := "(LStiltTown$Town;[II)Z" } : Jvm.MethodName)) ∈ bigW := tp_5 (List.mem_of_getElem? (i := 95) rfl) rfl
theorem w_1056 : (Jvm.Cond.code ({ cls := "StiltTown$Yard", name := "choose", desc := "(LStiltTown$Town;[II)Z" } : Jvm.MethodName) prog_12_method_2_code (6 : Nat) (Option.some Jvm.ClassFile.FieldType.boolean)) ∈ bigW := tp_5 (List.mem_of_getElem? (i := 96) rfl) rfl
theorem w_1058 : (Jvm.Cond.methodLink "StiltTown$Yard" (34 : Nat) ({ cls := "StiltTown$Yard", name := "fewestFrom", desc := "(IIII)I" } : Jvm.MethodName)) ∈ bigW := tp_5 (List.mem_of_getElem? (i := 98) rfl) rfl
theorem w_1060 : (Jvm.Cond.instanceMethod ({ cls := "StiltTown$Yard", name := "fewestFrom", desc := "(IIII)I" } : Jvm.MethodName)) ∈ bigW := tp_5 (List.mem_of_getElem? (i := 100) rfl) rfl
theorem w_1061 : (Jvm.Cond.code ({ cls := "StiltTown$Yard", name := "fewestFrom", desc := "(IIII)I" } : Jvm.MethodName) prog_12_method_3_code (7 : Nat) (Option.some Jvm.ClassFile.FieldType.int)) ∈ bigW := tp_5 (List.mem_of_getElem? (i := 101) rfl) rfl
theorem w_1062 : (Jvm.Cond.methodLink "StiltTown$Yard" (41 : Nat) ({ cls := "java/lang/Math", name := "min", desc := "(II)I" } : Jvm.MethodName)) ∈ bigW := tp_5 (List.mem_of_getElem? (i := 102) rfl) rfl
theorem w_1063 : (Jvm.Cond.methodLink "StiltTown$Yard" (38 : Nat) ({ cls := "StiltTown$Yard", name := "mostOf", desc := "(IIII)I" } : Jvm.MethodName)) ∈ bigW := tp_5 (List.mem_of_getElem? (i := 103) rfl) rfl
theorem w_1065 : (Jvm.Cond.instanceMethod ({ cls := "StiltTown$Yard", name := "mostOf", desc := "(IIII)I" } : Jvm.MethodName)) ∈ bigW := tp_5 (List.mem_of_getElem? (i := 105) rfl) rfl
theorem w_1066 : (Jvm.Cond.code ({ cls := "StiltTown$Yard", name := "mostOf", desc := "(IIII)I" } : Jvm.MethodName) prog_12_method_4_code (7 : Nat) (Option.some Jvm.ClassFile.FieldType.int)) ∈ bigW := tp_5 (List.mem_of_getElem? (i := 106) rfl) rfl
theorem w_1067 : (Jvm.Cond.methodLink "StiltTownLaw" (92 : Nat) ({ cls := "StiltTown", name := "work", desc := "(III)I" } : Jvm.MethodName)) ∈ bigW := tp_5 (List.mem_of_getElem? (i := 107) rfl) rfl
theorem w_1068 : (Jvm.Cond.instanceMethod ({ cls := "StiltTown", name := "work", desc := "(III)I" } : Jvm.MethodName)) ∈ bigW := tp_5 (List.mem_of_getElem? (i := 108) rfl) rfl
theorem w_1069 : (Jvm.Cond.selects "StiltTown" ({ cls := "StiltTown", name := "work", desc := "(III)I" } : Jvm.MethodName) ({ cls := "StiltTown", name := "work", desc := "(III)I" } : Jvm.MethodName)) ∈ bigW := tp_5 (List.mem_of_getElem? (i := 109) rfl) rfl
theorem w_1070 : (Jvm.Cond.code ({ cls := "StiltTown", name := "work", desc := "(III)I" } : Jvm.MethodName) prog_1_method_21_code (4 : Nat) (Option.some Jvm.ClassFile.FieldType.int)) ∈ bigW := tp_5 (List.mem_of_getElem? (i := 110) rfl) rfl
theorem w_1071 : (Jvm.Cond.methodLink "StiltTown" (212 : Nat) ({ cls := "StiltTown$State", name := "tellWork", desc := "(III)I" } : Jvm.MethodName)) ∈ bigW := tp_5 (List.mem_of_getElem? (i := 111) rfl) rfl
theorem w_1072 : (Jvm.Cond.instanceMethod ({ cls := "StiltTown$State", name := "tellWork", desc := "(III)I" } : Jvm.MethodName)) ∈ bigW := tp_5 (List.mem_of_getElem? (i := 112) rfl) rfl
theorem w_1073 : (Jvm.Cond.selects "StiltTown$State" ({ cls := "StiltTown$State", name := "tellWork", desc := "(III)I" } : Jvm.MethodName) ({ cls := "StiltTown$State", name := "tellWork", desc := "(III)I" } : Jvm.MethodName)) ∈ bigW := tp_5 (List.mem_of_getElem? (i := 113) rfl) rfl
theorem w_1074 : (Jvm.Cond.code ({ cls := "StiltTown$State", name := "tellWork", desc := "(III)I" } : Jvm.MethodName) prog_8_method_6_code (4 : Nat) (Option.some Jvm.ClassFile.FieldType.int)) ∈ bigW := tp_5 (List.mem_of_getElem? (i := 114) rfl) rfl
theorem w_1075 : (Jvm.Cond.methodLink "StiltTownLaw" (97 : Nat) ({ cls := "StiltTown", name := "forget", desc := "()I" } : Jvm.MethodName)) ∈ bigW := tp_5 (List.mem_of_getElem? (i := 115) rfl) rfl
theorem w_1076 : (Jvm.Cond.instanceMethod ({ cls := "StiltTown", name := "forget", desc := "()I" } : Jvm.MethodName)) ∈ bigW := tp_5 (List.mem_of_getElem? (i := 116) rfl) rfl
theorem w_1077 : (Jvm.Cond.selects "StiltTown" ({ cls := "StiltTown", name := "forget", desc := "()I" } : Jvm.MethodName) ({ cls := "StiltTown", name := "forget", desc := "()I" } : Jvm.MethodName)) ∈ bigW := tp_5 (List.mem_of_getElem? (i := 117) rfl) rfl
theorem w_1078 : (Jvm.Cond.code ({ cls := "StiltTown", name := "forget", desc := "()I" } : Jvm.MethodName) prog_1_method_22_code (2 : Nat) (Option.some Jvm.ClassFile.FieldType.int)) ∈ bigW := tp_5 (List.mem_of_getElem? (i := 118) rfl) rfl
theorem w_1079 : (Jvm.Cond.methodLink "StiltTownLaw" (101 : Nat) ({ cls := "StiltTown", name := "judge", desc := "()I" } : Jvm.MethodName)) ∈ bigW := tp_5 (List.mem_of_getElem? (i := 119) rfl) rfl
theorem w_1080 : (Jvm.Cond.instanceMethod ({ cls := "StiltTown", name := "judge", desc := "()I" } : Jvm.MethodName)) ∈ bigW := tp_5 (List.mem_of_getElem? (i := 120) rfl) rfl
theorem w_1081 : (Jvm.Cond.selects "StiltTown" ({ cls := "StiltTown", name := "judge", desc := "()I" } : Jvm.MethodName) ({ cls := "StiltTown", name := "judge", desc := "()I" } : Jvm.MethodName)) ∈ bigW := tp_5 (List.mem_of_getElem? (i := 121) rfl) rfl
theorem w_1082 : (Jvm.Cond.code ({ cls := "StiltTown", name := "judge", desc := "()I" } : Jvm.MethodName) prog_1_method_23_code (1 : Nat) (Option.some Jvm.ClassFile.FieldType.int)) ∈ bigW := tp_5 (List.mem_of_getElem? (i := 122) rfl) rfl
theorem w_1083 : (Jvm.Cond.methodLink "StiltTown" (218 : Nat) ({ cls := "StiltTown$Works", name := "verdict", desc := "(LStiltTown$Town;LStiltTown$State;LStiltTown$Yard;)I" } : Jvm.MethodName)) ∈ bigW := tp_5 (List.mem_of_getElem? (i := 123) rfl) rfl
theorem w_1084 : (Jvm.Cond.instanceMethod ({ cls := "StiltTown$Works", name := "verdict", desc := "(LStiltTown$Town;LStiltTown$State;LStiltTown$Yard;)I" } : Jvm.MethodName)) ∈ bigW := tp_5 (List.mem_of_getElem? (i := 124) rfl) rfl
theorem w_1085 : (Jvm.Cond.selects "StiltTown$Works" ({ cls := "StiltTown$Works", name := "verdict", desc := "(LStiltTown$Town;LStiltTown$State;LStiltTown$Yard;)I" } : Jvm.MethodName) ({ cls := "StiltTown$Works", name := "verdict", desc := "(LStiltTown$Town;LStiltTown$State;LStiltTown$Yard;)I" } : Jvm.MethodName)) ∈ bigW := tp_5 (List.mem_of_getElem? (i := 125) rfl) rfl
theorem w_1086 : (Jvm.Cond.code ({ cls := "StiltTown$Works", name := "verdict", desc := "(LStiltTown$Town;LStiltTown$State;LStiltTown$Yard;)I" } : Jvm.MethodName) prog_11_method_3_code (8 : Nat) (Option.some Jvm.ClassFile.FieldType.int)) ∈ bigW := tp_5 (List.mem_of_getElem? (i := 126) rfl) rfl
theorem w_1087 : (Jvm.Cond.methodLink "StiltTown$Works" (39 : Nat) ({ cls := "java/lang/System", name := "arraycopy", desc := "(Ljava/lang/Object;ILjava/lang/Object;II)V" } : Jvm.MethodName)) ∈ bigW := tp_5 (List.mem_of_getElem? (i := 127) rfl) rfl
theorem w_1088 : (Jvm.Cond.static ({ cls := "java/lang/System", name := "arraycopy", desc := "(Ljava/lang/Object;ILjava/lang/Object;II)V" } : Jvm.MethodName)) ∈ bigW := tp_5 (List.mem_of_getElem? (i := 128) rfl) rfl
theorem w_1089 : (Jvm.Cond.native ({ cls := "java/lang/System", name := "arraycopy", desc := "(Ljava/lang/Object;ILjava/lang/Object;II)V" } : Jvm.MethodName)) ∈ bigW := tp_5 (List.mem_of_getElem? (i := 129) rfl) rfl
theorem w_1090 : (Jvm.Cond.methodLink "StiltTown$Works" (46 : Nat) ({ cls := "StiltTown$Town", name := "tideAt", desc := "(LStiltTown$State;I)I" } : Jvm.MethodName)) ∈ bigW := tp_5 (List.mem_of_getElem? (i := 130) rfl) rfl
theorem w_1091 : (Jvm.Cond.methodLink "StiltTown$Works" (52 : Nat) ({ cls := "StiltTown$Works", name := "nightAfter", desc := "(LStiltTown$State;I)I" } : Jvm.MethodName)) ∈ bigW := tp_5 (List.mem_of_getElem? (i := 131) rfl) rfl
theorem w_1092 : (Jvm.Cond.static ({ cls := "StiltTown$Works", name := "nightAfter", desc := "(LStiltTown$State;I)I" } : Jvm.MethodName)) ∈ bigW := tp_5 (List.mem_of_getElem? (i := 132) rfl) rfl
theorem w_1093 : (Jvm.Cond.code ({ cls := "StiltTown$Works", name := "nightAfter", desc := "(LStiltTown$State;I)I" } : Jvm.MethodName) prog_11_method_4_code (5 : Nat) (Option.some Jvm.ClassFile.FieldType.int)) ∈ bigW := tp_5 (List.mem_of_getElem? (i := 133) rfl) rfl
theorem w_1094 : (Jvm.Cond.methodLink "StiltTown$Works" (55 : Nat) ({ cls := "StiltTown$Works", name := "nightVerdict", desc := "(LStiltTown$Town;LStiltTown$State;LStiltTown$Yard;II)I" } : Jvm.MethodName)) ∈ bigW := tp_5 (List.mem_of_getElem? (i := 134) rfl) rfl
theorem w_1096 : (Jvm.Cond.instanceMethod ({ cls := "StiltTown$Works", name := "nightVerdict", desc := "(LStiltTown$Town;LStiltTown$State;LStiltTown$Yard;II)I" } : Jvm.MethodName)) ∈ bigW := tp_5 (List.mem_of_getElem? (i := 136) rfl) rfl
theorem w_1097 : (Jvm.Cond.code ({ cls := "StiltTown$Works", name := "nightVerdict", desc := "(LStiltTown$Town;LStiltTown$State;LStiltTown$Yard;II)I" } : Jvm.MethodName) prog_11_method_5_code (11 : Nat) (Option.some Jvm.ClassFile.FieldType.int)) ∈ bigW := tp_5 (List.mem_of_getElem? (i := 137) rfl) rfl
theorem w_1098 : (Jvm.Cond.methodLink "StiltTown$Works" (65 : Nat) ({ cls := "StiltTown$Town", name := "reachedBits", desc := "([II)I" } : Jvm.MethodName)) ∈ bigW := tp_5 (List.mem_of_getElem? (i := 138) rfl) rfl
theorem w_1099 : (Jvm.Cond.methodLink "StiltTown$Works" (78 : Nat) ({ cls := "StiltTown$Works", name := "workReason", desc := "(LStiltTown$Town;LStiltTown$Yard;II)I" } : Jvm.MethodName)) ∈ bigW := tp_5 (List.mem_of_getElem? (i := 139) rfl) rfl
theorem w_1101 : (Jvm.Cond.instanceMethod ({ cls := "StiltTown$Works", name := "workReason", desc := "(LStiltTown$Town;LStiltTown$Yard;II)I" } : Jvm.MethodName)) ∈ bigW := tp_5 (List.mem_of_getElem? (i := 141) rfl) rfl
theorem w_1102 : (Jvm.Cond.code ({ cls := "StiltTown$Works", name := "workReason", desc := "(LStiltTown$Town;LStiltTown$Yard;II)I" } : Jvm.MethodName) prog_11_method_6_code (6 : Nat) (Option.some Jvm.ClassFile.FieldType.int)) ∈ bigW := tp_5 (List.mem_of_getElem? (i := 142) rfl) rfl
theorem w_1103 : (Jvm.Cond.methodLink "StiltTown$Works" (82 : Nat) ({ cls := "java/lang/Math", name := "abs", desc := "(I)I" } : Jvm.MethodName)) ∈ bigW := tp_5 (List.mem_of_getElem? (i := 143) rfl) rfl
theorem w_1105 : (Jvm.Cond.methodLink "StiltTown$Works" (95 : Nat) ({ cls := "StiltTown$Works", name := "keepPiece", desc := "(LStiltTown$Town;I)V" } : Jvm.MethodName)) ∈ bigW := tp_5 (List.mem_of_getElem? (i := 145) rfl) rfl
theorem w_1107 : (Jvm.Cond.instanceMethod ({ cls := "StiltTown$Works", name := "keepPiece", desc := "(LStiltTown$Town;I)V" } : Jvm.MethodName)) ∈ bigW := tp_5 (List.mem_of_getElem? (i := 147) rfl) rfl
theorem w_1108 : (Jvm.Cond.code ({ cls := "StiltTown$Works", name := "keepPiece", desc := "(LStiltTown$Town;I)V" } : Jvm.MethodName) prog_11_method_7_code (4 : Nat) (Option.none : Option Jvm.ClassFile.FieldType)) ∈ bigW := tp_5 (List.mem_of_getElem? (i := 148) rfl) rfl
theorem w_1109 : (Jvm.Cond.methodLink "StiltTown$Works" (115 : Nat) ({ cls := "java/lang/Math", name := "min", desc := "(II)I" } : Jvm.MethodName)) ∈ bigW := tp_5 (List.mem_of_getElem? (i := 149) rfl) rfl
theorem w_1110 : (Jvm.Cond.methodLink "StiltTown$Works" (99 : Nat) ({ cls := "StiltTown$Yard", name := "choose", desc := "(LStiltTown$Town;[II)Z" } : Jvm.MethodName)) ∈ bigW := tp_5 (List.mem_of_getElem? (i := 150) rfl) rfl
theorem w_1111 : (Jvm.Cond.methodLink "StiltTown$Works" (105 : Nat) ({ cls := "StiltTown$Works", name := "takePieces", desc := "(LStiltTown$Town;LStiltTown$Yard;)V" } : Jvm.MethodName)) ∈ bigW := tp_5 (List.mem_of_getElem? (i := 151) rfl) rfl
theorem w_1113 : (Jvm.Cond.instanceMethod ({ cls := "StiltTown$Works", name := "takePieces", desc := "(LStiltTown$Town;LStiltTown$Yard;)V" } : Jvm.MethodName)) ∈ bigW := tp_5 (List.mem_of_getElem? (i := 153) rfl) rfl
theorem w_1114 : (Jvm.Cond.code ({ cls := "StiltTown$Works", name := "takePieces", desc := "(LStiltTown$Town;LStiltTown$Yard;)V" } : Jvm.MethodName) prog_11_method_8_code (4 : Nat) (Option.none : Option Jvm.ClassFile.FieldType)) ∈ bigW := tp_5 (List.mem_of_getElem? (i := 154) rfl) rfl
theorem w_1115 : (Jvm.Cond.methodLink "StiltTownLaw" (105 : Nat) ({ cls := "StiltTown", name := "done", desc := "()I" } : Jvm.MethodName)) ∈ bigW := tp_5 (List.mem_of_getElem? (i := 155) rfl) rfl
theorem w_1116 : (Jvm.Cond.instanceMethod ({ cls := "StiltTown", name := "done", desc := "()I" } : Jvm.MethodName)) ∈ bigW := tp_5 (List.mem_of_getElem? (i := 156) rfl) rfl
theorem w_1117 : (Jvm.Cond.selects "StiltTown" ({ cls := "StiltTown", name := "done", desc := "()I" } : Jvm.MethodName) ({ cls := "StiltTown", name := "done", desc := "()I" } : Jvm.MethodName)) ∈ bigW := tp_5 (List.mem_of_getElem? (i := 157) rfl) rfl
theorem w_1118 : (Jvm.Cond.code ({ cls := "StiltTown", name := "done", desc := "()I" } : Jvm.MethodName) prog_1_method_24_code (1 : Nat) (Option.some Jvm.ClassFile.FieldType.int)) ∈ bigW := tp_5 (List.mem_of_getElem? (i := 158) rfl) rfl
theorem w_1119 : (Jvm.Cond.methodLink "StiltTown" (222 : Nat) ({ cls := "StiltTown$Works", name := "carryOut", desc := "(LStiltTown$State;)V" } : Jvm.MethodName)) ∈ bigW := tp_5 (List.mem_of_getElem? (i := 159) rfl) rfl
theorem w_1120 : (Jvm.Cond.instanceMethod ({ cls := "StiltTown$Works", name := "carryOut", desc := "(LStiltTown$State;)V" } : Jvm.MethodName)) ∈ bigW := tp_5 (List.mem_of_getElem? (i := 160) rfl) rfl
theorem w_1121 : (Jvm.Cond.selects "StiltTown$Works" ({ cls := "StiltTown$Works", name := "carryOut", desc := "(LStiltTown$State;)V" } : Jvm.MethodName) ({ cls := "StiltTown$Works", name := "carryOut", desc := "(LStiltTown$State;)V" } : Jvm.MethodName)) ∈ bigW := tp_5 (List.mem_of_getElem? (i := 161) rfl) rfl
theorem w_1122 : (Jvm.Cond.code ({ cls := "StiltTown$Works", name := "carryOut", desc := "(LStiltTown$State;)V" } : Jvm.MethodName) prog_11_method_9_code (2 : Nat) (Option.none : Option Jvm.ClassFile.FieldType)) ∈ bigW := tp_5 (List.mem_of_getElem? (i := 162) rfl) rfl
theorem w_1123 : (Jvm.Cond.methodLink "StiltTownLaw" (109 : Nat) ({ cls := "StiltTown", name := "undo", desc := "()Z" } : Jvm.MethodName)) ∈ bigW := tp_5 (List.mem_of_getElem? (i := 163) rfl) rfl
theorem w_1124 : (Jvm.Cond.instanceMethod ({ cls := "StiltTown", name := "undo", desc := "()Z" } : Jvm.MethodName)) ∈ bigW := tp_5 (List.mem_of_getElem? (i := 164) rfl) rfl
theorem w_1125 : (Jvm.Cond.selects "StiltTown" ({ cls := "StiltTown", name := "undo", desc := "()Z" } : Jvm.MethodName) ({ cls := "StiltTown", name := "undo", desc := "()Z" } : Jvm.MethodName)) ∈ bigW := tp_5 (List.mem_of_getElem? (i := 165) rfl) rfl
theorem w_1126 : (Jvm.Cond.code ({ cls := "StiltTown", name := "undo", desc := "()Z" } : Jvm.MethodName) prog_1_method_25_code (1 : Nat) (Option.some Jvm.ClassFile.FieldType.boolean)) ∈ bigW := tp_5 (List.mem_of_getElem? (i := 166) rfl) rfl
theorem w_1127 : (Jvm.Cond.methodLink "StiltTown" (229 : Nat) ({ cls := "StiltTown$Works", name := "takeBack", desc := "(LStiltTown$State;)Z" } : Jvm.MethodName)) ∈ bigW := tp_5 (List.mem_of_getElem? (i := 167) rfl) rfl
theorem w_1128 : (Jvm.Cond.instanceMethod ({ cls := "StiltTown$Works", name := "takeBack", desc := "(LStiltTown$State;)Z" } : Jvm.MethodName)) ∈ bigW := tp_5 (List.mem_of_getElem? (i := 168) rfl) rfl
theorem w_1129 : (Jvm.Cond.selects "StiltTown$Works" ({ cls := "StiltTown$Works", name := "takeBack", desc := "(LStiltTown$State;)Z" } : Jvm.MethodName) ({ cls := "StiltTown$Works", name := "takeBack", desc := "(LStiltTown$State;)Z" } : Jvm.MethodName)) ∈ bigW := tp_5 (List.mem_of_getElem? (i := 169) rfl) rfl
theorem w_1130 : (Jvm.Cond.code ({ cls := "StiltTown$Works", name := "takeBack", desc := "(LStiltTown$State;)Z" } : Jvm.MethodName) prog_11_method_10_code (2 : Nat) (Option.some Jvm.ClassFile.FieldType.boolean)) ∈ bigW := tp_5 (List.mem_of_getElem? (i := 170) rfl) rfl
theorem w_1131 : (Jvm.Cond.methodLink "StiltTownLaw" (114 : Nat) ({ cls := "StiltTown", name := "nights", desc := "(I)I" } : Jvm.MethodName)) ∈ bigW := tp_5 (List.mem_of_getElem? (i := 171) rfl) rfl
theorem w_1132 : (Jvm.Cond.instanceMethod ({ cls := "StiltTown", name := "nights", desc := "(I)I" } : Jvm.MethodName)) ∈ bigW := tp_5 (List.mem_of_getElem? (i := 172) rfl) rfl
theorem w_1133 : (Jvm.Cond.selects "StiltTown" ({ cls := "StiltTown", name := "nights", desc := "(I)I" } : Jvm.MethodName) ({ cls := "StiltTown", name := "nights", desc := "(I)I" } : Jvm.MethodName)) ∈ bigW := tp_5 (List.mem_of_getElem? (i := 173) rfl) rfl
theorem w_1134 : (Jvm.Cond.code ({ cls := "StiltTown", name := "nights", desc := "(I)I" } : Jvm.MethodName) prog_1_method_26_code (3 : Nat) (Option.some Jvm.ClassFile.FieldType.int)) ∈ bigW := tp_5 (List.mem_of_getElem? (i := 174) rfl) rfl
theorem w_1135 : (Jvm.Cond.methodLink "StiltTown" (242 : Nat) ({ cls := "StiltTown$Nights", name := "search", desc := "(LStiltTown$Town;LStiltTown$State;I)V" } : Jvm.MethodName)) ∈ bigW := tp_5 (List.mem_of_getElem? (i := 175) rfl) rfl
theorem w_1136 : (Jvm.Cond.instanceMethod ({ cls := "StiltTown$Nights", name := "search", desc := "(LStiltTown$Town;LStiltTown$State;I)V" } : Jvm.MethodName)) ∈ bigW := tp_5 (List.mem_of_getElem? (i := 176) rfl) rfl
theorem w_1137 : (Jvm.Cond.selects "StiltTown$Nights" ({ cls := "StiltTown$Nights", name := "search", desc := "(LStiltTown$Town;LStiltTown$State;I)V" } : Jvm.MethodName) ({ cls := "StiltTown$Nights", name := "search", desc := "(LStiltTown$Town;LStiltTown$State;I)V" } : Jvm.MethodName)) ∈ bigW := tp_5 (List.mem_of_getElem? (i := 177) rfl) rfl
theorem w_1138 : (Jvm.Cond.code ({ cls := "StiltTown$Nights", name := "search", desc := "(LStiltTown$Town;LStiltTown$State;I)V" } : Jvm.MethodName) prog_5_method_2_code (9 : Nat) (Option.none : Option Jvm.ClassFile.FieldType)) ∈ bigW := tp_5 (List.mem_of_getElem? (i := 178) rfl) rfl
theorem w_1139 : (Jvm.Cond.methodLink "StiltTown$Nights" (33 : Nat) ({ cls := "StiltTown$Town", name := "dueOf", desc := "(LStiltTown$State;I)I" } : Jvm.MethodName)) ∈ bigW := tp_5 (List.mem_of_getElem? (i := 179) rfl) rfl
theorem w_1140 : (Jvm.Cond.methodLink "StiltTown$Nights" (37 : Nat) ({ cls := "StiltTown$Town", name := "tideAt", desc := "(LStiltTown$State;I)I" } : Jvm.MethodName)) ∈ bigW := tp_5 (List.mem_of_getElem? (i := 180) rfl) rfl
theorem w_1141 : (Jvm.Cond.methodLink "StiltTown$Nights" (43 : Nat) ({ cls := "StiltTown$Town", name := "reachedBits", desc := "([II)I" } : Jvm.MethodName)) ∈ bigW := tp_5 (List.mem_of_getElem? (i := 181) rfl) rfl
theorem w_1142 : (Jvm.Cond.methodLink "StiltTown$Nights" (47 : Nat) ({ cls := "StiltTown$Nights", name := "bring", desc := "(LStiltTown$State;I)V" } : Jvm.MethodName)) ∈ bigW := tp_5 (List.mem_of_getElem? (i := 182) rfl) rfl
theorem w_1144 : (Jvm.Cond.instanceMethod ({ cls := "StiltTown$Nights", name := "bring", desc := "(LStiltTown$State;I)V" } : Jvm.MethodName)) ∈ bigW := tp_5 (List.mem_of_getElem? (i := 184) rfl) rfl
theorem w_1145 : (Jvm.Cond.code ({ cls := "StiltTown$Nights", name := "bring", desc := "(LStiltTown$State;I)V" } : Jvm.MethodName) prog_5_method_3_code (4 : Nat) (Option.none : Option Jvm.ClassFile.FieldType)) ∈ bigW := tp_5 (List.mem_of_getElem? (i := 185) rfl) rfl
theorem w_1146 : (Jvm.Cond.methodLink "StiltTown$Nights" (58 : Nat) ({ cls := "java/lang/System", name := "arraycopy", desc := "(Ljava/lang/Object;ILjava/lang/Object;II)V" } : Jvm.MethodName)) ∈ bigW := tp_5 (List.mem_of_getElem? (i := 186) rfl) rfl
theorem w_1147 : (Jvm.Cond.methodLink "StiltTown$Nights" (54 : Nat) ({ cls := "StiltTown$Nights", name := "fewestFrom", desc := "(III)I" } : Jvm.MethodName)) ∈ bigW := tp_5 (List.mem_of_getElem? (i := 187) rfl) rfl
theorem w_1149 : (Jvm.Cond.instanceMethod ({ cls := "StiltTown$Nights", name := "fewestFrom", desc := "(III)I" } : Jvm.MethodName)) ∈ bigW := tp_5 (List.mem_of_getElem? (i := 189) rfl) rfl
theorem w_1150 : (Jvm.Cond.code ({ cls := "StiltTown$Nights", name := "fewestFrom", desc := "(III)I" } : Jvm.MethodName) prog_5_method_4_code (7 : Nat) (Option.some Jvm.ClassFile.FieldType.int)) ∈ bigW := tp_5 (List.mem_of_getElem? (i := 190) rfl) rfl
theorem w_1151 : (Jvm.Cond.methodLink "StiltTown$Nights" (64 : Nat) ({ cls := "java/lang/Integer", name := "bitCount", desc := "(I)I" } : Jvm.MethodName)) ∈ bigW := tp_5 (List.mem_of_getElem? (i := 191) rfl) rfl
theorem w_1152 : (Jvm.Cond.methodLink "StiltTown$Nights" (70 : Nat) ({ cls := "java/lang/Math", name := "min", desc := "(II)I" } : Jvm.MethodName)) ∈ bigW := tp_5 (List.mem_of_getElem? (i := 192) rfl) rfl
theorem w_1153 : (Jvm.Cond.methodLink "StiltTown" (246 : Nat) ({ cls := "StiltTown$Nights", name := "fewest", desc := "()I" } : Jvm.MethodName)) ∈ bigW := tp_5 (List.mem_of_getElem? (i := 193) rfl) rfl
theorem w_1154 : (Jvm.Cond.instanceMethod ({ cls := "StiltTown$Nights", name := "fewest", desc := "()I" } : Jvm.MethodName)) ∈ bigW := tp_5 (List.mem_of_getElem? (i := 194) rfl) rfl
theorem w_1155 : (Jvm.Cond.selects "StiltTown$Nights" ({ cls := "StiltTown$Nights", name := "fewest", desc := "()I" } : Jvm.MethodName) ({ cls := "StiltTown$Nights", name := "fewest", desc := "()I" } : Jvm.MethodName)) ∈ bigW := tp_5 (List.mem_of_getElem? (i := 195) rfl) rfl
theorem w_1156 : (Jvm.Cond.code ({ cls := "StiltTown$Nights", name := "fewest", desc := "()I" } : Jvm.MethodName) prog_5_method_5_code (1 : Nat) (Option.some Jvm.ClassFile.FieldType.int)) ∈ bigW := tp_5 (List.mem_of_getElem? (i := 196) rfl) rfl
theorem w_1157 : (Jvm.Cond.methodLink "StiltTown" (249 : Nat) ({ cls := "StiltTown$Nights", name := "firstNight", desc := "(I)I" } : Jvm.MethodName)) ∈ bigW := tp_5 (List.mem_of_getElem? (i := 197) rfl) rfl
theorem w_1158 : (Jvm.Cond.instanceMethod ({ cls := "StiltTown$Nights", name := "firstNight", desc := "(I)I" } : Jvm.MethodName)) ∈ bigW := tp_5 (List.mem_of_getElem? (i := 198) rfl) rfl
theorem w_1159 : (Jvm.Cond.selects "StiltTown$Nights" ({ cls := "StiltTown$Nights", name := "firstNight", desc := "(I)I" } : Jvm.MethodName) ({ cls := "StiltTown$Nights", name := "firstNight", desc := "(I)I" } : Jvm.MethodName)) ∈ bigW := tp_5 (List.mem_of_getElem? (i := 199) rfl) rfl
theorem w_1160 : (Jvm.Cond.code ({ cls := "StiltTown$Nights", name := "firstNight", desc := "(I)I" } : Jvm.MethodName) prog_5_method_6_code (6 : Nat) (Option.some Jvm.ClassFile.FieldType.int)) ∈ bigW := tp_5 (List.mem_of_getElem? (i := 200) rfl) rfl
theorem w_1161 : (Jvm.Cond.methodLink "StiltTown$Nights" (76 : Nat) ({ cls := "StiltTown$Nights", name := "houseBits", desc := "(I)I" } : Jvm.MethodName)) ∈ bigW := tp_5 (List.mem_of_getElem? (i := 201) rfl) rfl
theorem w_1163 : (Jvm.Cond.instanceMethod ({ cls := "StiltTown$Nights", name := "houseBits", desc := "(I)I" } : Jvm.MethodName)) ∈ bigW := tp_5 (List.mem_of_getElem? (i := 203) rfl) rfl
theorem w_1164 : (Jvm.Cond.code ({ cls := "StiltTown$Nights", name := "houseBits", desc := "(I)I" } : Jvm.MethodName) prog_5_method_7_code (4 : Nat) (Option.some Jvm.ClassFile.FieldType.int)) ∈ bigW := tp_5 (List.mem_of_getElem? (i := 204) rfl) rfl
theorem w_1165 : (Jvm.Cond.methodLink "StiltTownLaw" (118 : Nat) ({ cls := "StiltTown", name := "looks", desc := "(II)I" } : Jvm.MethodName)) ∈ bigW := tp_5 (List.mem_of_getElem? (i := 205) rfl) rfl
theorem w_1166 : (Jvm.Cond.instanceMethod ({ cls := "StiltTown", name := "looks", desc := "(II)I" } : Jvm.MethodName)) ∈ bigW := tp_5 (List.mem_of_getElem? (i := 206) rfl) rfl
theorem w_1167 : (Jvm.Cond.selects "StiltTown" ({ cls := "StiltTown", name := "looks", desc := "(II)I" } : Jvm.MethodName) ({ cls := "StiltTown", name := "looks", desc := "(II)I" } : Jvm.MethodName)) ∈ bigW := tp_5 (List.mem_of_getElem? (i := 207) rfl) rfl
theorem w_1168 : (Jvm.Cond.code ({ cls := "StiltTown", name := "looks", desc := "(II)I" } : Jvm.MethodName) prog_1_method_27_code (3 : Nat) (Option.some Jvm.ClassFile.FieldType.int)) ∈ bigW := tp_5 (List.mem_of_getElem? (i := 208) rfl) rfl
theorem w_1169 : (Jvm.Cond.methodLink "StiltTown" (252 : Nat) ({ cls := "StiltTown$Town", name := "seesInto", desc := "([III)Z" } : Jvm.MethodName)) ∈ bigW := tp_5 (List.mem_of_getElem? (i := 209) rfl) rfl
theorem w_1170 : (Jvm.Cond.instanceMethod ({ cls := "StiltTown$Town", name := "seesInto", desc := "([III)Z" } : Jvm.MethodName)) ∈ bigW := tp_5 (List.mem_of_getElem? (i := 210) rfl) rfl
theorem w_1171 : (Jvm.Cond.selects "StiltTown$Town" ({ cls := "StiltTown$Town", name := "seesInto", desc := "([III)Z" } : Jvm.MethodName) ({ cls := "StiltTown$Town", name := "seesInto", desc := "([III)Z" } : Jvm.MethodName)) ∈ bigW := tp_5 (List.mem_of_getElem? (i := 211) rfl) rfl
theorem w_1172 : (Jvm.Cond.code ({ cls := "StiltTown$Town", name := "seesInto", desc := "([III)Z" } : Jvm.MethodName) prog_10_method_21_code (10 : Nat) (Option.some Jvm.ClassFile.FieldType.boolean)) ∈ bigW := tp_5 (List.mem_of_getElem? (i := 212) rfl) rfl
theorem w_1173 : (Jvm.Cond.methodLink "StiltTownLaw" (122 : Nat) ({ cls := "StiltTown", name := "light", desc := "(I)I" } : Jvm.MethodName)) ∈ bigW := tp_5 (List.mem_of_getElem? (i := 213) rfl) rfl
theorem w_1174 : (Jvm.Cond.instanceMethod ({ cls := "StiltTown", name := "light", desc := "(I)I" } : Jvm.MethodName)) ∈ bigW := tp_5 (List.mem_of_getElem? (i := 214) rfl) rfl
theorem w_1175 : (Jvm.Cond.selects "StiltTown" ({ cls := "StiltTown", name := "light", desc := "(I)I" } : Jvm.MethodName) ({ cls := "StiltTown", name := "light", desc := "(I)I" } : Jvm.MethodName)) ∈ bigW := tp_5 (List.mem_of_getElem? (i := 215) rfl) rfl
theorem w_1176 : (Jvm.Cond.code ({ cls := "StiltTown", name := "light", desc := "(I)I" } : Jvm.MethodName) prog_1_method_28_code (2 : Nat) (Option.some Jvm.ClassFile.FieldType.int)) ∈ bigW := tp_5 (List.mem_of_getElem? (i := 216) rfl) rfl
theorem w_1177 : (Jvm.Cond.methodLink "StiltTown" (256 : Nat) ({ cls := "StiltTown$Town", name := "lightOf", desc := "([II)I" } : Jvm.MethodName)) ∈ bigW := tp_5 (List.mem_of_getElem? (i := 217) rfl) rfl
theorem w_1178 : (Jvm.Cond.instanceMethod ({ cls := "StiltTown$Town", name := "lightOf", desc := "([II)I" } : Jvm.MethodName)) ∈ bigW := tp_5 (List.mem_of_getElem? (i := 218) rfl) rfl
theorem w_1179 : (Jvm.Cond.selects "StiltTown$Town" ({ cls := "StiltTown$Town", name := "lightOf", desc := "([II)I" } : Jvm.MethodName) ({ cls := "StiltTown$Town", name := "lightOf", desc := "([II)I" } : Jvm.MethodName)) ∈ bigW := tp_5 (List.mem_of_getElem? (i := 219) rfl) rfl
theorem w_1180 : (Jvm.Cond.code ({ cls := "StiltTown$Town", name := "lightOf", desc := "([II)I" } : Jvm.MethodName) prog_10_method_22_code (6 : Nat) (Option.some Jvm.ClassFile.FieldType.int)) ∈ bigW := tp_5 (List.mem_of_getElem? (i := 220) rfl) rfl
theorem w_1181 : (Jvm.Cond.methodLink "StiltTownLaw" (126 : Nat) ({ cls := "StiltTown", name := "sway", desc := "(II)I" } : Jvm.MethodName)) ∈ bigW := tp_5 (List.mem_of_getElem? (i := 221) rfl) rfl
theorem w_1182 : (Jvm.Cond.instanceMethod ({ cls := "StiltTown", name := "sway", desc := "(II)I" } : Jvm.MethodName)) ∈ bigW := tp_5 (List.mem_of_getElem? (i := 222) rfl) rfl
theorem w_1183 : (Jvm.Cond.selects "StiltTown" ({ cls := "StiltTown", name := "sway", desc := "(II)I" } : Jvm.MethodName) ({ cls := "StiltTown", name := "sway", desc := "(II)I" } : Jvm.MethodName)) ∈ bigW := tp_5 (List.mem_of_getElem? (i := 223) rfl) rfl
theorem w_1184 : (Jvm.Cond.code ({ cls := "StiltTown", name := "sway", desc := "(II)I" } : Jvm.MethodName) prog_1_method_29_code (3 : Nat) (Option.some Jvm.ClassFile.FieldType.int)) ∈ bigW := tp_5 (List.mem_of_getElem? (i := 224) rfl) rfl
theorem w_1185 : (Jvm.Cond.methodLink "StiltTown" (259 : Nat) ({ cls := "StiltTown", name := "isWind", desc := "(I)Z" } : Jvm.MethodName)) ∈ bigW := tp_5 (List.mem_of_getElem? (i := 225) rfl) rfl
theorem w_1186 : (Jvm.Cond.static ({ cls := "StiltTown", name := "isWind", desc := "(I)Z" } : Jvm.MethodName)) ∈ bigW := tp_5 (List.mem_of_getElem? (i := 226) rfl) rfl
theorem w_1187 : (Jvm.Cond.code ({ cls := "StiltTown", name := "isWind", desc := "(I)Z" } : Jvm.MethodName) prog_1_method_57_code (1 : Nat) (Option.some Jvm.ClassFile.FieldType.boolean)) ∈ bigW := tp_5 (List.mem_of_getElem? (i := 227) rfl) rfl
theorem w_1188 : (Jvm.Cond.methodLink "StiltTown" (262 : Nat) ({ cls := "StiltTown$Town", name := "swayOf", desc := "(LStiltTown$State;II)I" } : Jvm.MethodName)) ∈ bigW := tp_5 (List.mem_of_getElem? (i := 228) rfl) rfl
theorem w_1189 : (Jvm.Cond.methodLink "StiltTownLaw" (130 : Nat) ({ cls := "StiltTown", name := "chain", desc := "(III)I" } : Jvm.MethodName)) ∈ bigW := tp_5 (List.mem_of_getElem? (i := 229) rfl) rfl
theorem w_1190 : (Jvm.Cond.instanceMethod ({ cls := "StiltTown", name := "chain", desc := "(III)I" } : Jvm.MethodName)) ∈ bigW := tp_5 (List.mem_of_getElem? (i := 230) rfl) rfl
theorem w_1191 : (Jvm.Cond.selects "StiltTown" ({ cls := "StiltTown", name := "chain", desc := "(III)I" } : Jvm.MethodName) ({ cls := "StiltTown", name := "chain", desc := "(III)I" } : Jvm.MethodName)) ∈ bigW := tp_5 (List.mem_of_getElem? (i := 231) rfl) rfl
theorem w_1192 : (Jvm.Cond.code ({ cls := "StiltTown", name := "chain", desc := "(III)I" } : Jvm.MethodName) prog_1_method_30_code (6 : Nat) (Option.some Jvm.ClassFile.FieldType.int)) ∈ bigW := tp_5 (List.mem_of_getElem? (i := 232) rfl) rfl
theorem w_1193 : (Jvm.Cond.methodLink "StiltTown" (266 : Nat) ({ cls := "StiltTown$Falls", name := "prepare", desc := "(LStiltTown$Town;)V" } : Jvm.MethodName)) ∈ bigW := tp_5 (List.mem_of_getElem? (i := 233) rfl) rfl
theorem w_1194 : (Jvm.Cond.instanceMethod ({ cls := "StiltTown$Falls", name := "prepare", desc := "(LStiltTown$Town;)V" } : Jvm.MethodName)) ∈ bigW := tp_5 (List.mem_of_getElem? (i := 234) rfl) rfl
theorem w_1195 : (Jvm.Cond.selects "StiltTown$Falls" ({ cls := "StiltTown$Falls", name := "prepare", desc := "(LStiltTown$Town;)V" } : Jvm.MethodName) ({ cls := "StiltTown$Falls", name := "prepare", desc := "(LStiltTown$Town;)V" } : Jvm.MethodName)) ∈ bigW := tp_5 (List.mem_of_getElem? (i := 235) rfl) rfl
theorem w_1196 : (Jvm.Cond.code ({ cls := "StiltTown$Falls", name := "prepare", desc := "(LStiltTown$Town;)V" } : Jvm.MethodName) prog_2_method_2_code (3 : Nat) (Option.none : Option Jvm.ClassFile.FieldType)) ∈ bigW := tp_5 (List.mem_of_getElem? (i := 236) rfl) rfl
theorem w_1197 : (Jvm.Cond.methodLink "StiltTown$Falls" (25 : Nat) ({ cls := "StiltTown$Town", name := "neighbours", desc := "(I)I" } : Jvm.MethodName)) ∈ bigW := tp_5 (List.mem_of_getElem? (i := 237) rfl) rfl
theorem w_1198 : (Jvm.Cond.instanceMethod ({ cls := "StiltTown$Town", name := "neighbours", desc := "(I)I" } : Jvm.MethodName)) ∈ bigW := tp_5 (List.mem_of_getElem? (i := 238) rfl) rfl
theorem w_1199 : (Jvm.Cond.selects "StiltTown$Town" ({ cls := "StiltTown$Town", name := "neighbours", desc := "(I)I" } : Jvm.MethodName) ({ cls := "StiltTown$Town", name := "neighbours", desc := "(I)I" } : Jvm.MethodName)) ∈ bigW := tp_5 (List.mem_of_getElem? (i := 239) rfl) rfl
theorem w_1200 : (Jvm.Cond.code ({ cls := "StiltTown$Town", name := "neighbours", desc := "(I)I" } : Jvm.MethodName) prog_10_method_23_code (4 : Nat) (Option.some Jvm.ClassFile.FieldType.int)) ∈ bigW := tp_6 (List.mem_of_getElem? (i := 0) rfl) rfl
theorem w_1201 : (Jvm.Cond.methodLink "StiltTown" (270 : Nat) ({ cls := "StiltTown$Falls", name := "startAt", desc := "(LStiltTown$Town;LStiltTown$State;II)I" } : Jvm.MethodName)) ∈ bigW := tp_6 (List.mem_of_getElem? (i := 1) rfl) rfl
theorem w_1202 : (Jvm.Cond.instanceMethod ({ cls := "StiltTown$Falls", name := "startAt", desc := "(LStiltTown$Town;LStiltTown$State;II)I" } : Jvm.MethodName)) ∈ bigW := tp_6 (List.mem_of_getElem? (i := 2) rfl) rfl
theorem w_1203 : (Jvm.Cond.selects "StiltTown$Falls" ({ cls := "StiltTown$Falls", name := "startAt", desc := "(LStiltTown$Town;LStiltTown$State;II)I" } : Jvm.MethodName) ({ cls := "StiltTown$Falls", name := "startAt", desc := "(LStiltTown$Town;LStiltTown$State;II)I" } : Jvm.MethodName)) ∈ bigW := tp_6 (List.mem_of_getElem? (i := 3) rfl) rfl
theorem w_1204 : (Jvm.Cond.code ({ cls := "StiltTown$Falls", name := "startAt", desc := "(LStiltTown$Town;LStiltTown$State;II)I" } : Jvm.MethodName) prog_2_method_3_code (8 : Nat) (Option.some Jvm.ClassFile.FieldType.int)) ∈ bigW := tp_6 (List.mem_of_getElem? (i := 4) rfl) rfl
theorem w_1206 : (Jvm.Cond.methodLink "StiltTown$Falls" (34 : Nat) ({ cls := "StiltTown$Falls", name := "fallingBits", desc := "(LStiltTown$Town;LStiltTown$State;II)I" } : Jvm.MethodName)) ∈ bigW := tp_6 (List.mem_of_getElem? (i := 6) rfl) rfl
theorem w_1208 : (Jvm.Cond.instanceMethod ({ cls := "StiltTown$Falls", name := "fallingBits", desc := "(LStiltTown$Town;LStiltTown$State;II)I" } : Jvm.MethodName)) ∈ bigW := tp_6 (List.mem_of_getElem? (i := 8) rfl) rfl
theorem w_1209 : (Jvm.Cond.code ({ cls := "StiltTown$Falls", name := "fallingBits", desc := "(LStiltTown$Town;LStiltTown$State;II)I" } : Jvm.MethodName) prog_2_method_4_code (9 : Nat) (Option.some Jvm.ClassFile.FieldType.int)) ∈ bigW := tp_6 (List.mem_of_getElem? (i := 9) rfl) rfl
theorem w_1210 : (Jvm.Cond.methodLink "StiltTown$Falls" (42 : Nat) ({ cls := "java/lang/Integer", name := "bitCount", desc := "(I)I" } : Jvm.MethodName)) ∈ bigW := tp_6 (List.mem_of_getElem? (i := 10) rfl) rfl
theorem w_1211 : (Jvm.Cond.methodLink "StiltTown$Falls" (50 : Nat) ({ cls := "StiltTown$Town", name := "hasToFall", desc := "(LStiltTown$State;III)Z" } : Jvm.MethodName)) ∈ bigW := tp_6 (List.mem_of_getElem? (i := 11) rfl) rfl
theorem w_1212 : (Jvm.Cond.instanceMethod ({ cls := "StiltTown$Town", name := "hasToFall", desc := "(LStiltTown$State;III)Z" } : Jvm.MethodName)) ∈ bigW := tp_6 (List.mem_of_getElem? (i := 12) rfl) rfl
theorem w_1213 : (Jvm.Cond.selects "StiltTown$Town" ({ cls := "StiltTown$Town", name := "hasToFall", desc := "(LStiltTown$State;III)Z" } : Jvm.MethodName) ({ cls := "StiltTown$Town", name := "hasToFall", desc := "(LStiltTown$State;III)Z" } : Jvm.MethodName)) ∈ bigW := tp_6 (List.mem_of_getElem? (i := 13) rfl) rfl
theorem w_1214 : (Jvm.Cond.code ({ cls := "StiltTown$Town", name := "hasToFall", desc := "(LStiltTown$State;III)Z" } : Jvm.MethodName) prog_10_method_8_code (6 : Nat) (Option.some Jvm.ClassFile.FieldType.boolean)) ∈ bigW := tp_6 (List.mem_of_getElem? (i := 14) rfl) rfl
theorem w_1215 : (Jvm.Cond.methodLink "StiltTown$Falls" (38 : Nat) ({ cls := "StiltTown$Falls", name := "enter", desc := "(II)V" } : Jvm.MethodName)) ∈ bigW := tp_6 (List.mem_of_getElem? (i := 15) rfl) rfl
theorem w_1217 : (Jvm.Cond.instanceMethod ({ cls := "StiltTown$Falls", name := "enter", desc := "(II)V" } : Jvm.MethodName)) ∈ bigW := tp_6 (List.mem_of_getElem? (i := 17) rfl) rfl
theorem w_1218 : (Jvm.Cond.code ({ cls := "StiltTown$Falls", name := "enter", desc := "(II)V" } : Jvm.MethodName) prog_2_method_5_code (4 : Nat) (Option.none : Option Jvm.ClassFile.FieldType)) ∈ bigW := tp_6 (List.mem_of_getElem? (i := 18) rfl) rfl
theorem w_1219 : (Jvm.Cond.methodLink "StiltTownLaw" (134 : Nat) ({ cls := "StiltTown", name := "dread", desc := "(I)I" } : Jvm.MethodName)) ∈ bigW := tp_6 (List.mem_of_getElem? (i := 19) rfl) rfl
theorem w_1220 : (Jvm.Cond.instanceMethod ({ cls := "StiltTown", name := "dread", desc := "(I)I" } : Jvm.MethodName)) ∈ bigW := tp_6 (List.mem_of_getElem? (i := 20) rfl) rfl
theorem w_1221 : (Jvm.Cond.selects "StiltTown" ({ cls := "StiltTown", name := "dread", desc := "(I)I" } : Jvm.MethodName) ({ cls := "StiltTown", name := "dread", desc := "(I)I" } : Jvm.MethodName)) ∈ bigW := tp_6 (List.mem_of_getElem? (i := 21) rfl) rfl
theorem w_1222 : (Jvm.Cond.code ({ cls := "StiltTown", name := "dread", desc := "(I)I" } : Jvm.MethodName) prog_1_method_31_code (6 : Nat) (Option.some Jvm.ClassFile.FieldType.int)) ∈ bigW := tp_6 (List.mem_of_getElem? (i := 22) rfl) rfl
theorem w_1223 : (Jvm.Cond.methodLink "StiltTownLaw" (138 : Nat) ({ cls := "StiltTown", name := "year", desc := "(I)I" } : Jvm.MethodName)) ∈ bigW := tp_6 (List.mem_of_getElem? (i := 23) rfl) rfl
theorem w_1224 : (Jvm.Cond.instanceMethod ({ cls := "StiltTown", name := "year", desc := "(I)I" } : Jvm.MethodName)) ∈ bigW := tp_6 (List.mem_of_getElem? (i := 24) rfl) rfl
theorem w_1225 : (Jvm.Cond.selects "StiltTown" ({ cls := "StiltTown", name := "year", desc := "(I)I" } : Jvm.MethodName) ({ cls := "StiltTown", name := "year", desc := "(I)I" } : Jvm.MethodName)) ∈ bigW := tp_6 (List.mem_of_getElem? (i := 25) rfl) rfl
theorem w_1226 : (Jvm.Cond.code ({ cls := "StiltTown", name := "year", desc := "(I)I" } : Jvm.MethodName) prog_1_method_32_code (2 : Nat) (Option.some Jvm.ClassFile.FieldType.int)) ∈ bigW := tp_6 (List.mem_of_getElem? (i := 26) rfl) rfl
theorem w_1227 : (Jvm.Cond.methodLink "StiltTown" (280 : Nat) ({ cls := "StiltTown$Row", name := "add", desc := "(I)I" } : Jvm.MethodName)) ∈ bigW := tp_6 (List.mem_of_getElem? (i := 27) rfl) rfl
theorem w_1228 : (Jvm.Cond.instanceMethod ({ cls := "StiltTown$Row", name := "add", desc := "(I)I" } : Jvm.MethodName)) ∈ bigW := tp_6 (List.mem_of_getElem? (i := 28) rfl) rfl
theorem w_1229 : (Jvm.Cond.selects "StiltTown$Row" ({ cls := "StiltTown$Row", name := "add", desc := "(I)I" } : Jvm.MethodName) ({ cls := "StiltTown$Row", name := "add", desc := "(I)I" } : Jvm.MethodName)) ∈ bigW := tp_6 (List.mem_of_getElem? (i := 29) rfl) rfl
theorem w_1230 : (Jvm.Cond.code ({ cls := "StiltTown$Row", name := "add", desc := "(I)I" } : Jvm.MethodName) prog_7_method_2_code (2 : Nat) (Option.some Jvm.ClassFile.FieldType.int)) ∈ bigW := tp_6 (List.mem_of_getElem? (i := 30) rfl) rfl
theorem w_1231 : (Jvm.Cond.methodLink "StiltTownLaw" (142 : Nat) ({ cls := "StiltTown", name := "clear", desc := "()I" } : Jvm.MethodName)) ∈ bigW := tp_6 (List.mem_of_getElem? (i := 31) rfl) rfl
theorem w_1232 : (Jvm.Cond.instanceMethod ({ cls := "StiltTown", name := "clear", desc := "()I" } : Jvm.MethodName)) ∈ bigW := tp_6 (List.mem_of_getElem? (i := 32) rfl) rfl
theorem w_1233 : (Jvm.Cond.selects "StiltTown" ({ cls := "StiltTown", name := "clear", desc := "()I" } : Jvm.MethodName) ({ cls := "StiltTown", name := "clear", desc := "()I" } : Jvm.MethodName)) ∈ bigW := tp_6 (List.mem_of_getElem? (i := 33) rfl) rfl
theorem w_1234 : (Jvm.Cond.code ({ cls := "StiltTown", name := "clear", desc := "()I" } : Jvm.MethodName) prog_1_method_33_code (2 : Nat) (Option.some Jvm.ClassFile.FieldType.int)) ∈ bigW := tp_6 (List.mem_of_getElem? (i := 34) rfl) rfl
theorem w_1235 : (Jvm.Cond.methodLink "StiltTownLaw" (146 : Nat) ({ cls := "StiltTown", name := "posts", desc := "(IIIII)I" } : Jvm.MethodName)) ∈ bigW := tp_6 (List.mem_of_getElem? (i := 35) rfl) rfl
theorem w_1236 : (Jvm.Cond.instanceMethod ({ cls := "StiltTown", name := "posts", desc := "(IIIII)I" } : Jvm.MethodName)) ∈ bigW := tp_6 (List.mem_of_getElem? (i := 36) rfl) rfl
theorem w_1237 : (Jvm.Cond.selects "StiltTown" ({ cls := "StiltTown", name := "posts", desc := "(IIIII)I" } : Jvm.MethodName) ({ cls := "StiltTown", name := "posts", desc := "(IIIII)I" } : Jvm.MethodName)) ∈ bigW := tp_6 (List.mem_of_getElem? (i := 37) rfl) rfl
theorem w_1238 : (Jvm.Cond.code ({ cls := "StiltTown", name := "posts", desc := "(IIIII)I" } : Jvm.MethodName) prog_1_method_34_code (6 : Nat) (Option.some Jvm.ClassFile.FieldType.int)) ∈ bigW := tp_6 (List.mem_of_getElem? (i := 38) rfl) rfl
theorem w_1239 : (Jvm.Cond.methodLink "StiltTown" (283 : Nat) ({ cls := "StiltTown", name := "arePosts", desc := "(IIIII)Z" } : Jvm.MethodName)) ∈ bigW := tp_6 (List.mem_of_getElem? (i := 39) rfl) rfl
theorem w_1240 : (Jvm.Cond.static ({ cls := "StiltTown", name := "arePosts", desc := "(IIIII)Z" } : Jvm.MethodName)) ∈ bigW := tp_6 (List.mem_of_getElem? (i := 40) rfl) rfl
theorem w_1241 : (Jvm.Cond.code ({ cls := "StiltTown", name := "arePosts", desc := "(IIIII)Z" } : Jvm.MethodName) prog_1_method_58_code (5 : Nat) (Option.some Jvm.ClassFile.FieldType.boolean)) ∈ bigW := tp_6 (List.mem_of_getElem? (i := 41) rfl) rfl
theorem w_1242 : (Jvm.Cond.methodLink "StiltTown" (287 : Nat) ({ cls := "StiltTown$Row", name := "prices", desc := "(IIII)V" } : Jvm.MethodName)) ∈ bigW := tp_6 (List.mem_of_getElem? (i := 42) rfl) rfl
theorem w_1243 : (Jvm.Cond.instanceMethod ({ cls := "StiltTown$Row", name := "prices", desc := "(IIII)V" } : Jvm.MethodName)) ∈ bigW := tp_6 (List.mem_of_getElem? (i := 43) rfl) rfl
theorem w_1244 : (Jvm.Cond.selects "StiltTown$Row" ({ cls := "StiltTown$Row", name := "prices", desc := "(IIII)V" } : Jvm.MethodName) ({ cls := "StiltTown$Row", name := "prices", desc := "(IIII)V" } : Jvm.MethodName)) ∈ bigW := tp_6 (List.mem_of_getElem? (i := 44) rfl) rfl
theorem w_1245 : (Jvm.Cond.code ({ cls := "StiltTown$Row", name := "prices", desc := "(IIII)V" } : Jvm.MethodName) prog_7_method_3_code (5 : Nat) (Option.none : Option Jvm.ClassFile.FieldType)) ∈ bigW := tp_6 (List.mem_of_getElem? (i := 45) rfl) rfl
theorem w_1246 : (Jvm.Cond.methodLink "StiltTown" (291 : Nat) ({ cls := "StiltTown$Row", name := "fill", desc := "(I)I" } : Jvm.MethodName)) ∈ bigW := tp_6 (List.mem_of_getElem? (i := 46) rfl) rfl
theorem w_1247 : (Jvm.Cond.instanceMethod ({ cls := "StiltTown$Row", name := "fill", desc := "(I)I" } : Jvm.MethodName)) ∈ bigW := tp_6 (List.mem_of_getElem? (i := 47) rfl) rfl
theorem w_1248 : (Jvm.Cond.selects "StiltTown$Row" ({ cls := "StiltTown$Row", name := "fill", desc := "(I)I" } : Jvm.MethodName) ({ cls := "StiltTown$Row", name := "fill", desc := "(I)I" } : Jvm.MethodName)) ∈ bigW := tp_6 (List.mem_of_getElem? (i := 48) rfl) rfl
theorem w_1249 : (Jvm.Cond.code ({ cls := "StiltTown$Row", name := "fill", desc := "(I)I" } : Jvm.MethodName) prog_7_method_4_code (3 : Nat) (Option.some Jvm.ClassFile.FieldType.int)) ∈ bigW := tp_6 (List.mem_of_getElem? (i := 49) rfl) rfl
theorem w_1250 : (Jvm.Cond.methodLink "StiltTown$Row" (34 : Nat) ({ cls := "StiltTown$Row", name := "fillLevel", desc := "(I)V" } : Jvm.MethodName)) ∈ bigW := tp_6 (List.mem_of_getElem? (i := 50) rfl) rfl
theorem w_1252 : (Jvm.Cond.instanceMethod ({ cls := "StiltTown$Row", name := "fillLevel", desc := "(I)V" } : Jvm.MethodName)) ∈ bigW := tp_6 (List.mem_of_getElem? (i := 52) rfl) rfl
theorem w_1253 : (Jvm.Cond.code ({ cls := "StiltTown$Row", name := "fillLevel", desc := "(I)V" } : Jvm.MethodName) prog_7_method_7_code (3 : Nat) (Option.none : Option Jvm.ClassFile.FieldType)) ∈ bigW := tp_6 (List.mem_of_getElem? (i := 53) rfl) rfl
theorem w_1254 : (Jvm.Cond.methodLink "StiltTown$Row" (59 : Nat) ({ cls := "StiltTown$Row", name := "behind", desc := "(II)I" } : Jvm.MethodName)) ∈ bigW := tp_6 (List.mem_of_getElem? (i := 54) rfl) rfl
theorem w_1256 : (Jvm.Cond.instanceMethod ({ cls := "StiltTown$Row", name := "behind", desc := "(II)I" } : Jvm.MethodName)) ∈ bigW := tp_6 (List.mem_of_getElem? (i := 56) rfl) rfl
theorem w_1257 : (Jvm.Cond.code ({ cls := "StiltTown$Row", name := "behind", desc := "(II)I" } : Jvm.MethodName) prog_7_method_6_code (3 : Nat) (Option.some Jvm.ClassFile.FieldType.int)) ∈ bigW := tp_6 (List.mem_of_getElem? (i := 57) rfl) rfl
theorem w_1258 : (Jvm.Cond.methodLink "StiltTown$Row" (54 : Nat) ({ cls := "StiltTown$Row", name := "canBe", desc := "(II)Z" } : Jvm.MethodName)) ∈ bigW := tp_6 (List.mem_of_getElem? (i := 58) rfl) rfl
theorem w_1260 : (Jvm.Cond.instanceMethod ({ cls := "StiltTown$Row", name := "canBe", desc := "(II)Z" } : Jvm.MethodName)) ∈ bigW := tp_6 (List.mem_of_getElem? (i := 60) rfl) rfl
theorem w_1261 : (Jvm.Cond.code ({ cls := "StiltTown$Row", name := "canBe", desc := "(II)Z" } : Jvm.MethodName) prog_7_method_5_code (3 : Nat) (Option.some Jvm.ClassFile.FieldType.boolean)) ∈ bigW := tp_6 (List.mem_of_getElem? (i := 61) rfl) rfl
theorem w_1262 : (Jvm.Cond.methodLink "StiltTown$Row" (48 : Nat) ({ cls := "java/lang/Math", name := "min", desc := "(II)I" } : Jvm.MethodName)) ∈ bigW := tp_6 (List.mem_of_getElem? (i := 62) rfl) rfl
theorem w_1264 : (Jvm.Cond.constant "StiltTown$Row" (58 : Nat) (10000000 : Int32)) ∈ bigW := tp_6 (List.mem_of_getElem? (i := 64) rfl) rfl
theorem w_1265 : (Jvm.Cond.methodLink "StiltTown$Row" (38 : Nat) ({ cls := "StiltTown$Row", name := "fillUp", desc := "(I)V" } : Jvm.MethodName)) ∈ bigW := tp_6 (List.mem_of_getElem? (i := 65) rfl) rfl
theorem w_1267 : (Jvm.Cond.instanceMethod ({ cls := "StiltTown$Row", name := "fillUp", desc := "(I)V" } : Jvm.MethodName)) ∈ bigW := tp_6 (List.mem_of_getElem? (i := 67) rfl) rfl
theorem w_1268 : (Jvm.Cond.code ({ cls := "StiltTown$Row", name := "fillUp", desc := "(I)V" } : Jvm.MethodName) prog_7_method_8_code (4 : Nat) (Option.none : Option Jvm.ClassFile.FieldType)) ∈ bigW := tp_6 (List.mem_of_getElem? (i := 68) rfl) rfl
theorem w_1269 : (Jvm.Cond.methodLink "StiltTown$Row" (41 : Nat) ({ cls := "StiltTown$Row", name := "fillDown", desc := "(I)V" } : Jvm.MethodName)) ∈ bigW := tp_6 (List.mem_of_getElem? (i := 69) rfl) rfl
theorem w_1271 : (Jvm.Cond.instanceMethod ({ cls := "StiltTown$Row", name := "fillDown", desc := "(I)V" } : Jvm.MethodName)) ∈ bigW := tp_6 (List.mem_of_getElem? (i := 71) rfl) rfl
theorem w_1272 : (Jvm.Cond.code ({ cls := "StiltTown$Row", name := "fillDown", desc := "(I)V" } : Jvm.MethodName) prog_7_method_9_code (4 : Nat) (Option.none : Option Jvm.ClassFile.FieldType)) ∈ bigW := tp_6 (List.mem_of_getElem? (i := 72) rfl) rfl
theorem w_1273 : (Jvm.Cond.methodLink "StiltTownLaw" (150 : Nat) ({ cls := "StiltTown", name := "postAt", desc := "(IIIIII)I" } : Jvm.MethodName)) ∈ bigW := tp_6 (List.mem_of_getElem? (i := 73) rfl) rfl
theorem w_1274 : (Jvm.Cond.instanceMethod ({ cls := "StiltTown", name := "postAt", desc := "(IIIIII)I" } : Jvm.MethodName)) ∈ bigW := tp_6 (List.mem_of_getElem? (i := 74) rfl) rfl
theorem w_1275 : (Jvm.Cond.selects "StiltTown" ({ cls := "StiltTown", name := "postAt", desc := "(IIIIII)I" } : Jvm.MethodName) ({ cls := "StiltTown", name := "postAt", desc := "(IIIIII)I" } : Jvm.MethodName)) ∈ bigW := tp_6 (List.mem_of_getElem? (i := 75) rfl) rfl
theorem w_1276 : (Jvm.Cond.code ({ cls := "StiltTown", name := "postAt", desc := "(IIIIII)I" } : Jvm.MethodName) prog_1_method_35_code (7 : Nat) (Option.some Jvm.ClassFile.FieldType.int)) ∈ bigW := tp_6 (List.mem_of_getElem? (i := 76) rfl) rfl
theorem w_1277 : (Jvm.Cond.methodLink "StiltTown" (294 : Nat) ({ cls := "StiltTown$Row", name := "heightIn", desc := "(II)I" } : Jvm.MethodName)) ∈ bigW := tp_6 (List.mem_of_getElem? (i := 77) rfl) rfl
theorem w_1278 : (Jvm.Cond.instanceMethod ({ cls := "StiltTown$Row", name := "heightIn", desc := "(II)I" } : Jvm.MethodName)) ∈ bigW := tp_6 (List.mem_of_getElem? (i := 78) rfl) rfl
theorem w_1279 : (Jvm.Cond.selects "StiltTown$Row" ({ cls := "StiltTown$Row", name := "heightIn", desc := "(II)I" } : Jvm.MethodName) ({ cls := "StiltTown$Row", name := "heightIn", desc := "(II)I" } : Jvm.MethodName)) ∈ bigW := tp_6 (List.mem_of_getElem? (i := 79) rfl) rfl
theorem w_1280 : (Jvm.Cond.code ({ cls := "StiltTown$Row", name := "heightIn", desc := "(II)I" } : Jvm.MethodName) prog_7_method_10_code (5 : Nat) (Option.some Jvm.ClassFile.FieldType.int)) ∈ bigW := tp_6 (List.mem_of_getElem? (i := 80) rfl) rfl
theorem w_1281 : (Jvm.Cond.methodLink "StiltTown$Row" (62 : Nat) ({ cls := "StiltTown$Row", name := "nextHeight", desc := "(II)I" } : Jvm.MethodName)) ∈ bigW := tp_6 (List.mem_of_getElem? (i := 81) rfl) rfl
theorem w_1283 : (Jvm.Cond.instanceMethod ({ cls := "StiltTown$Row", name := "nextHeight", desc := "(II)I" } : Jvm.MethodName)) ∈ bigW := tp_6 (List.mem_of_getElem? (i := 83) rfl) rfl
theorem w_1284 : (Jvm.Cond.code ({ cls := "StiltTown$Row", name := "nextHeight", desc := "(II)I" } : Jvm.MethodName) prog_7_method_11_code (4 : Nat) (Option.some Jvm.ClassFile.FieldType.int)) ∈ bigW := tp_6 (List.mem_of_getElem? (i := 84) rfl) rfl
theorem w_1285 : (Jvm.Cond.methodLink "StiltTown$Row" (65 : Nat) ({ cls := "StiltTown$Row", name := "stepCost", desc := "(II)I" } : Jvm.MethodName)) ∈ bigW := tp_6 (List.mem_of_getElem? (i := 85) rfl) rfl
theorem w_1287 : (Jvm.Cond.instanceMethod ({ cls := "StiltTown$Row", name := "stepCost", desc := "(II)I" } : Jvm.MethodName)) ∈ bigW := tp_6 (List.mem_of_getElem? (i := 87) rfl) rfl
theorem w_1288 : (Jvm.Cond.code ({ cls := "StiltTown$Row", name := "stepCost", desc := "(II)I" } : Jvm.MethodName) prog_7_method_12_code (3 : Nat) (Option.some Jvm.ClassFile.FieldType.int)) ∈ bigW := tp_6 (List.mem_of_getElem? (i := 88) rfl) rfl
theorem w_1289 : (Jvm.Cond.methodLink "StiltTownLaw" (155 : Nat) ({ cls := "StiltTown", name := "vote", desc := "(III)I" } : Jvm.MethodName)) ∈ bigW := tp_6 (List.mem_of_getElem? (i := 89) rfl) rfl
theorem w_1290 : (Jvm.Cond.instanceMethod ({ cls := "StiltTown", name := "vote", desc := "(III)I" } : Jvm.MethodName)) ∈ bigW := tp_6 (List.mem_of_getElem? (i := 90) rfl) rfl
theorem w_1291 : (Jvm.Cond.selects "StiltTown" ({ cls := "StiltTown", name := "vote", desc := "(III)I" } : Jvm.MethodName) ({ cls := "StiltTown", name := "vote", desc := "(III)I" } : Jvm.MethodName)) ∈ bigW := tp_6 (List.mem_of_getElem? (i := 91) rfl) rfl
theorem w_1292 : (Jvm.Cond.code ({ cls := "StiltTown", name := "vote", desc := "(III)I" } : Jvm.MethodName) prog_1_method_36_code (4 : Nat) (Option.some Jvm.ClassFile.FieldType.int)) ∈ bigW := tp_6 (List.mem_of_getElem? (i := 92) rfl) rfl
theorem w_1293 : (Jvm.Cond.methodLink "StiltTown" (303 : Nat) ({ cls := "StiltTown$Logs", name := "add", desc := "(IIII)I" } : Jvm.MethodName)) ∈ bigW := tp_6 (List.mem_of_getElem? (i := 93) rfl) rfl
theorem w_1294 : (Jvm.Cond.instanceMethod ({ cls := "StiltTown$Logs", name := "add", desc := "(IIII)I" } : Jvm.MethodName)) ∈ bigW := tp_6 (List.mem_of_getElem? (i := 94) rfl) rfl
theorem w_1295 : (Jvm.Cond.selects "StiltTown$Logs" ({ cls := "StiltTown$Logs", name := "add", desc := "(IIII)I" } : Jvm.MethodName) ({ cls := "StiltTown$Logs", name := "add", desc := "(IIII)I" } : Jvm.MethodName)) ∈ bigW := tp_6 (List.mem_of_getElem? (i := 95) rfl) rfl
theorem w_1296 : (Jvm.Cond.code ({ cls := "StiltTown$Logs", name := "add", desc := "(IIII)I" } : Jvm.MethodName) prog_4_method_3_code (5 : Nat) (Option.some Jvm.ClassFile.FieldType.int)) ∈ bigW := tp_6 (List.mem_of_getElem? (i := 96) rfl) rfl
theorem w_1297 : (Jvm.Cond.methodLink "StiltTownLaw" (159 : Nat) ({ cls := "StiltTown", name := "mark", desc := "(III)I" } : Jvm.MethodName)) ∈ bigW := tp_6 (List.mem_of_getElem? (i := 97) rfl) rfl
theorem w_1298 : (Jvm.Cond.instanceMethod ({ cls := "StiltTown", name := "mark", desc := "(III)I" } : Jvm.MethodName)) ∈ bigW := tp_6 (List.mem_of_getElem? (i := 98) rfl) rfl
theorem w_1299 : (Jvm.Cond.selects "StiltTown" ({ cls := "StiltTown", name := "mark", desc := "(III)I" } : Jvm.MethodName) ({ cls := "StiltTown", name := "mark", desc := "(III)I" } : Jvm.MethodName)) ∈ bigW := tp_6 (List.mem_of_getElem? (i := 99) rfl) rfl
theorem w_1300 : (Jvm.Cond.code ({ cls := "StiltTown", name := "mark", desc := "(III)I" } : Jvm.MethodName) prog_1_method_37_code (4 : Nat) (Option.some Jvm.ClassFile.FieldType.int)) ∈ bigW := tp_6 (List.mem_of_getElem? (i := 100) rfl) rfl
theorem w_1301 : (Jvm.Cond.methodLink "StiltTownLaw" (163 : Nat) ({ cls := "StiltTown", name := "annul", desc := "(I)I" } : Jvm.MethodName)) ∈ bigW := tp_6 (List.mem_of_getElem? (i := 101) rfl) rfl
theorem w_1302 : (Jvm.Cond.instanceMethod ({ cls := "StiltTown", name := "annul", desc := "(I)I" } : Jvm.MethodName)) ∈ bigW := tp_6 (List.mem_of_getElem? (i := 102) rfl) rfl
theorem w_1303 : (Jvm.Cond.selects "StiltTown" ({ cls := "StiltTown", name := "annul", desc := "(I)I" } : Jvm.MethodName) ({ cls := "StiltTown", name := "annul", desc := "(I)I" } : Jvm.MethodName)) ∈ bigW := tp_6 (List.mem_of_getElem? (i := 103) rfl) rfl
theorem w_1304 : (Jvm.Cond.code ({ cls := "StiltTown", name := "annul", desc := "(I)I" } : Jvm.MethodName) prog_1_method_38_code (2 : Nat) (Option.some Jvm.ClassFile.FieldType.int)) ∈ bigW := tp_6 (List.mem_of_getElem? (i := 104) rfl) rfl
theorem w_1305 : (Jvm.Cond.methodLink "StiltTown" (306 : Nat) ({ cls := "StiltTown$Logs", name := "canBeVoid", desc := "(I)Z" } : Jvm.MethodName)) ∈ bigW := tp_6 (List.mem_of_getElem? (i := 105) rfl) rfl
theorem w_1306 : (Jvm.Cond.instanceMethod ({ cls := "StiltTown$Logs", name := "canBeVoid", desc := "(I)Z" } : Jvm.MethodName)) ∈ bigW := tp_6 (List.mem_of_getElem? (i := 106) rfl) rfl
theorem w_1307 : (Jvm.Cond.selects "StiltTown$Logs" ({ cls := "StiltTown$Logs", name := "canBeVoid", desc := "(I)Z" } : Jvm.MethodName) ({ cls := "StiltTown$Logs", name := "canBeVoid", desc := "(I)Z" } : Jvm.MethodName)) ∈ bigW := tp_6 (List.mem_of_getElem? (i := 107) rfl) rfl
theorem w_1308 : (Jvm.Cond.code ({ cls := "StiltTown$Logs", name := "canBeVoid", desc := "(I)Z" } : Jvm.MethodName) prog_4_method_4_code (2 : Nat) (Option.some Jvm.ClassFile.FieldType.boolean)) ∈ bigW := tp_6 (List.mem_of_getElem? (i := 108) rfl) rfl
theorem w_1309 : (Jvm.Cond.methodLink "StiltTownLaw" (167 : Nat) ({ cls := "StiltTown", name := "votes", desc := "(III)I" } : Jvm.MethodName)) ∈ bigW := tp_6 (List.mem_of_getElem? (i := 109) rfl) rfl
theorem w_1310 : (Jvm.Cond.instanceMethod ({ cls := "StiltTown", name := "votes", desc := "(III)I" } : Jvm.MethodName)) ∈ bigW := tp_6 (List.mem_of_getElem? (i := 110) rfl) rfl
theorem w_1311 : (Jvm.Cond.selects "StiltTown" ({ cls := "StiltTown", name := "votes", desc := "(III)I" } : Jvm.MethodName) ({ cls := "StiltTown", name := "votes", desc := "(III)I" } : Jvm.MethodName)) ∈ bigW := tp_6 (List.mem_of_getElem? (i := 111) rfl) rfl
theorem w_1312 : (Jvm.Cond.code ({ cls := "StiltTown", name := "votes", desc := "(III)I" } : Jvm.MethodName) prog_1_method_39_code (4 : Nat) (Option.some Jvm.ClassFile.FieldType.int)) ∈ bigW := tp_6 (List.mem_of_getElem? (i := 112) rfl) rfl
theorem w_1313 : (Jvm.Cond.methodLink "StiltTown" (309 : Nat) ({ cls := "StiltTown", name := "isKnown", desc := "(I)Z" } : Jvm.MethodName)) ∈ bigW := tp_6 (List.mem_of_getElem? (i := 113) rfl) rfl
theorem w_1315 : (Jvm.Cond.instanceMethod ({ cls := "StiltTown", name := "isKnown", desc := "(I)Z" } : Jvm.MethodName)) ∈ bigW := tp_6 (List.mem_of_getElem? (i := 115) rfl) rfl
theorem w_1316 : (Jvm.Cond.code ({ cls := "StiltTown", name := "isKnown", desc := "(I)Z" } : Jvm.MethodName) prog_1_method_55_code (2 : Nat) (Option.some Jvm.ClassFile.FieldType.boolean)) ∈ bigW := tp_6 (List.mem_of_getElem? (i := 116) rfl) rfl
theorem w_1317 : (Jvm.Cond.methodLink "StiltTown" (312 : Nat) ({ cls := "StiltTown$Logs", name := "tally", desc := "(II)V" } : Jvm.MethodName)) ∈ bigW := tp_6 (List.mem_of_getElem? (i := 117) rfl) rfl
theorem w_1318 : (Jvm.Cond.instanceMethod ({ cls := "StiltTown$Logs", name := "tally", desc := "(II)V" } : Jvm.MethodName)) ∈ bigW := tp_6 (List.mem_of_getElem? (i := 118) rfl) rfl
theorem w_1319 : (Jvm.Cond.selects "StiltTown$Logs" ({ cls := "StiltTown$Logs", name := "tally", desc := "(II)V" } : Jvm.MethodName) ({ cls := "StiltTown$Logs", name := "tally", desc := "(II)V" } : Jvm.MethodName)) ∈ bigW := tp_6 (List.mem_of_getElem? (i := 119) rfl) rfl
theorem w_1320 : (Jvm.Cond.code ({ cls := "StiltTown$Logs", name := "tally", desc := "(II)V" } : Jvm.MethodName) prog_4_method_6_code (5 : Nat) (Option.none : Option Jvm.ClassFile.FieldType)) ∈ bigW := tp_6 (List.mem_of_getElem? (i := 120) rfl) rfl
theorem w_1321 : (Jvm.Cond.methodLink "StiltTown$Logs" (41 : Nat) ({ cls := "StiltTown$Logs", name := "strike", desc := "(I)V" } : Jvm.MethodName)) ∈ bigW := tp_6 (List.mem_of_getElem? (i := 121) rfl) rfl
theorem w_1323 : (Jvm.Cond.instanceMethod ({ cls := "StiltTown$Logs", name := "strike", desc := "(I)V" } : Jvm.MethodName)) ∈ bigW := tp_6 (List.mem_of_getElem? (i := 123) rfl) rfl
theorem w_1324 : (Jvm.Cond.code ({ cls := "StiltTown$Logs", name := "strike", desc := "(I)V" } : Jvm.MethodName) prog_4_method_5_code (3 : Nat) (Option.none : Option Jvm.ClassFile.FieldType)) ∈ bigW := tp_6 (List.mem_of_getElem? (i := 124) rfl) rfl
theorem w_1325 : (Jvm.Cond.methodLink "StiltTown$Logs" (45 : Nat) ({ cls := "StiltTown$Logs", name := "lastChoice", desc := "(III)I" } : Jvm.MethodName)) ∈ bigW := tp_6 (List.mem_of_getElem? (i := 125) rfl) rfl
theorem w_1327 : (Jvm.Cond.instanceMethod ({ cls := "StiltTown$Logs", name := "lastChoice", desc := "(III)I" } : Jvm.MethodName)) ∈ bigW := tp_6 (List.mem_of_getElem? (i := 127) rfl) rfl
theorem w_1328 : (Jvm.Cond.code ({ cls := "StiltTown$Logs", name := "lastChoice", desc := "(III)I" } : Jvm.MethodName) prog_4_method_7_code (6 : Nat) (Option.some Jvm.ClassFile.FieldType.int)) ∈ bigW := tp_6 (List.mem_of_getElem? (i := 128) rfl) rfl
theorem w_1329 : (Jvm.Cond.methodLink "StiltTownLaw" (171 : Nat) ({ cls := "StiltTown", name := "winner", desc := "(II)I" } : Jvm.MethodName)) ∈ bigW := tp_6 (List.mem_of_getElem? (i := 129) rfl) rfl
theorem w_1330 : (Jvm.Cond.instanceMethod ({ cls := "StiltTown", name := "winner", desc := "(II)I" } : Jvm.MethodName)) ∈ bigW := tp_6 (List.mem_of_getElem? (i := 130) rfl) rfl
theorem w_1331 : (Jvm.Cond.selects "StiltTown" ({ cls := "StiltTown", name := "winner", desc := "(II)I" } : Jvm.MethodName) ({ cls := "StiltTown", name := "winner", desc := "(II)I" } : Jvm.MethodName)) ∈ bigW := tp_6 (List.mem_of_getElem? (i := 131) rfl) rfl
theorem w_1332 : (Jvm.Cond.code ({ cls := "StiltTown", name := "winner", desc := "(II)I" } : Jvm.MethodName) prog_1_method_40_code (7 : Nat) (Option.some Jvm.ClassFile.FieldType.int)) ∈ bigW := tp_6 (List.mem_of_getElem? (i := 132) rfl) rfl
theorem w_1333 : (Jvm.Cond.methodLink "StiltTown" (318 : Nat) ({ cls := "StiltTown", name := "beats", desc := "([III)Z" } : Jvm.MethodName)) ∈ bigW := tp_6 (List.mem_of_getElem? (i := 133) rfl) rfl
theorem w_1335 : (Jvm.Cond.instanceMethod ({ cls := "StiltTown", name := "beats", desc := "([III)Z" } : Jvm.MethodName)) ∈ bigW := tp_6 (List.mem_of_getElem? (i := 135) rfl) rfl
theorem w_1336 : (Jvm.Cond.code ({ cls := "StiltTown", name := "beats", desc := "([III)Z" } : Jvm.MethodName) prog_1_method_41_code (4 : Nat) (Option.some Jvm.ClassFile.FieldType.boolean)) ∈ bigW := tp_6 (List.mem_of_getElem? (i := 136) rfl) rfl
theorem w_1337 : (Jvm.Cond.methodLink "StiltTownLaw" (175 : Nat) ({ cls := "StiltTown", name := "ends", desc := "(IIII)I" } : Jvm.MethodName)) ∈ bigW := tp_6 (List.mem_of_getElem? (i := 137) rfl) rfl
theorem w_1338 : (Jvm.Cond.instanceMethod ({ cls := "StiltTown", name := "ends", desc := "(IIII)I" } : Jvm.MethodName)) ∈ bigW := tp_6 (List.mem_of_getElem? (i := 138) rfl) rfl
theorem w_1339 : (Jvm.Cond.selects "StiltTown" ({ cls := "StiltTown", name := "ends", desc := "(IIII)I" } : Jvm.MethodName) ({ cls := "StiltTown", name := "ends", desc := "(IIII)I" } : Jvm.MethodName)) ∈ bigW := tp_6 (List.mem_of_getElem? (i := 139) rfl) rfl
theorem w_1340 : (Jvm.Cond.code ({ cls := "StiltTown", name := "ends", desc := "(IIII)I" } : Jvm.MethodName) prog_1_method_42_code (5 : Nat) (Option.some Jvm.ClassFile.FieldType.int)) ∈ bigW := tp_6 (List.mem_of_getElem? (i := 140) rfl) rfl
theorem w_1341 : (Jvm.Cond.methodLink "StiltTown" (321 : Nat) ({ cls := "StiltTown$Logs", name := "endsOf", desc := "(IIII)I" } : Jvm.MethodName)) ∈ bigW := tp_6 (List.mem_of_getElem? (i := 141) rfl) rfl
theorem w_1342 : (Jvm.Cond.instanceMethod ({ cls := "StiltTown$Logs", name := "endsOf", desc := "(IIII)I" } : Jvm.MethodName)) ∈ bigW := tp_6 (List.mem_of_getElem? (i := 142) rfl) rfl
theorem w_1343 : (Jvm.Cond.selects "StiltTown$Logs" ({ cls := "StiltTown$Logs", name := "endsOf", desc := "(IIII)I" } : Jvm.MethodName) ({ cls := "StiltTown$Logs", name := "endsOf", desc := "(IIII)I" } : Jvm.MethodName)) ∈ bigW := tp_6 (List.mem_of_getElem? (i := 143) rfl) rfl
theorem w_1344 : (Jvm.Cond.code ({ cls := "StiltTown$Logs", name := "endsOf", desc := "(IIII)I" } : Jvm.MethodName) prog_4_method_8_code (9 : Nat) (Option.some Jvm.ClassFile.FieldType.int)) ∈ bigW := tp_6 (List.mem_of_getElem? (i := 144) rfl) rfl
theorem w_1345 : (Jvm.Cond.methodLink "StiltTown$Logs" (49 : Nat) ({ cls := "StiltTown$Logs", name := "isMarkOf", desc := "(II)Z" } : Jvm.MethodName)) ∈ bigW := tp_6 (List.mem_of_getElem? (i := 145) rfl) rfl
theorem w_1347 : (Jvm.Cond.instanceMethod ({ cls := "StiltTown$Logs", name := "isMarkOf", desc := "(II)Z" } : Jvm.MethodName)) ∈ bigW := tp_6 (List.mem_of_getElem? (i := 147) rfl) rfl
theorem w_1348 : (Jvm.Cond.code ({ cls := "StiltTown$Logs", name := "isMarkOf", desc := "(II)Z" } : Jvm.MethodName) prog_4_method_9_code (3 : Nat) (Option.some Jvm.ClassFile.FieldType.boolean)) ∈ bigW := tp_6 (List.mem_of_getElem? (i := 148) rfl) rfl
theorem w_1349 : (Jvm.Cond.methodLink "StiltTown$Logs" (53 : Nat) ({ cls := "StiltTown$Logs", name := "contradicted", desc := "(II)Z" } : Jvm.MethodName)) ∈ bigW := tp_6 (List.mem_of_getElem? (i := 149) rfl) rfl
theorem w_1351 : (Jvm.Cond.instanceMethod ({ cls := "StiltTown$Logs", name := "contradicted", desc := "(II)Z" } : Jvm.MethodName)) ∈ bigW := tp_6 (List.mem_of_getElem? (i := 151) rfl) rfl
theorem w_1352 : (Jvm.Cond.code ({ cls := "StiltTown$Logs", name := "contradicted", desc := "(II)Z" } : Jvm.MethodName) prog_4_method_10_code (4 : Nat) (Option.some Jvm.ClassFile.FieldType.boolean)) ∈ bigW := tp_6 (List.mem_of_getElem? (i := 152) rfl) rfl
theorem w_1353 : (Jvm.Cond.methodLink "StiltTown$Logs" (56 : Nat) ({ cls := "java/lang/Math", name := "abs", desc := "(I)I" } : Jvm.MethodName)) ∈ bigW := tp_6 (List.mem_of_getElem? (i := 153) rfl) rfl
theorem w_1354 : (Jvm.Cond.methodLink "StiltTown$Logs" (62 : Nat) ({ cls := "java/lang/Math", name := "max", desc := "(II)I" } : Jvm.MethodName)) ∈ bigW := tp_6 (List.mem_of_getElem? (i := 154) rfl) rfl
theorem w_1355 : (Jvm.Cond.methodLink "StiltTown$Logs" (66 : Nat) ({ cls := "java/lang/Math", name := "min", desc := "(II)I" } : Jvm.MethodName)) ∈ bigW := tp_6 (List.mem_of_getElem? (i := 155) rfl) rfl
theorem w_1356 : (Jvm.Cond.methodLink "StiltTownLaw" (180 : Nat) ({ cls := "StiltTown", name := "years", desc := "(II)I" } : Jvm.MethodName)) ∈ bigW := tp_6 (List.mem_of_getElem? (i := 156) rfl) rfl
theorem w_1357 : (Jvm.Cond.instanceMethod ({ cls := "StiltTown", name := "years", desc := "(II)I" } : Jvm.MethodName)) ∈ bigW := tp_6 (List.mem_of_getElem? (i := 157) rfl) rfl
theorem w_1358 : (Jvm.Cond.selects "StiltTown" ({ cls := "StiltTown", name := "years", desc := "(II)I" } : Jvm.MethodName) ({ cls := "StiltTown", name := "years", desc := "(II)I" } : Jvm.MethodName)) ∈ bigW := tp_6 (List.mem_of_getElem? (i := 158) rfl) rfl
theorem w_1359 : (Jvm.Cond.code ({ cls := "StiltTown", name := "years", desc := "(II)I" } : Jvm.MethodName) prog_1_method_43_code (5 : Nat) (Option.some Jvm.ClassFile.FieldType.int)) ∈ bigW := tp_6 (List.mem_of_getElem? (i := 159) rfl) rfl
theorem w_1360 : (Jvm.Cond.methodLink "StiltTown" (327 : Nat) ({ cls := "StiltTown", name := "castLots", desc := "(II)V" } : Jvm.MethodName)) ∈ bigW := tp_6 (List.mem_of_getElem? (i := 160) rfl) rfl
theorem w_1362 : (Jvm.Cond.instanceMethod ({ cls := "StiltTown", name := "castLots", desc := "(II)V" } : Jvm.MethodName)) ∈ bigW := tp_6 (List.mem_of_getElem? (i := 162) rfl) rfl
theorem w_1363 : (Jvm.Cond.code ({ cls := "StiltTown", name := "castLots", desc := "(II)V" } : Jvm.MethodName) prog_1_method_44_code (5 : Nat) (Option.none : Option Jvm.ClassFile.FieldType)) ∈ bigW := tp_6 (List.mem_of_getElem? (i := 163) rfl) rfl
theorem w_1364 : (Jvm.Cond.methodLink "StiltTown" (333 : Nat) ({ cls := "StiltTown", name := "lot", desc := "(III)I" } : Jvm.MethodName)) ∈ bigW := tp_6 (List.mem_of_getElem? (i := 164) rfl) rfl
theorem w_1365 : (Jvm.Cond.static ({ cls := "StiltTown", name := "lot", desc := "(III)I" } : Jvm.MethodName)) ∈ bigW := tp_6 (List.mem_of_getElem? (i := 165) rfl) rfl
theorem w_1366 : (Jvm.Cond.code ({ cls := "StiltTown", name := "lot", desc := "(III)I" } : Jvm.MethodName) prog_1_method_46_code (4 : Nat) (Option.some Jvm.ClassFile.FieldType.int)) ∈ bigW := tp_6 (List.mem_of_getElem? (i := 166) rfl) rfl
theorem w_1367 : (Jvm.Cond.methodLink "StiltTown" (345 : Nat) ({ cls := "StiltTown", name := "stir", desc := "(II)I" } : Jvm.MethodName)) ∈ bigW := tp_6 (List.mem_of_getElem? (i := 167) rfl) rfl
theorem w_1368 : (Jvm.Cond.static ({ cls := "StiltTown", name := "stir", desc := "(II)I" } : Jvm.MethodName)) ∈ bigW := tp_6 (List.mem_of_getElem? (i := 168) rfl) rfl
theorem w_1369 : (Jvm.Cond.code ({ cls := "StiltTown", name := "stir", desc := "(II)I" } : Jvm.MethodName) prog_1_method_47_code (3 : Nat) (Option.some Jvm.ClassFile.FieldType.int)) ∈ bigW := tp_6 (List.mem_of_getElem? (i := 169) rfl) rfl
theorem w_1370 : (Jvm.Cond.constant "StiltTown" (348 : Nat) (1103515245 : Int32)) ∈ bigW := tp_6 (List.mem_of_getElem? (i := 170) rfl) rfl
theorem w_1371 : (Jvm.Cond.methodLink "StiltTown" (330 : Nat) ({ cls := "StiltTown", name := "straighten", desc := "()I" } : Jvm.MethodName)) ∈ bigW := tp_6 (List.mem_of_getElem? (i := 171) rfl) rfl
theorem w_1373 : (Jvm.Cond.instanceMethod ({ cls := "StiltTown", name := "straighten", desc := "()I" } : Jvm.MethodName)) ∈ bigW := tp_6 (List.mem_of_getElem? (i := 173) rfl) rfl
theorem w_1374 : (Jvm.Cond.code ({ cls := "StiltTown", name := "straighten", desc := "()I" } : Jvm.MethodName) prog_1_method_45_code (5 : Nat) (Option.some Jvm.ClassFile.FieldType.int)) ∈ bigW := tp_6 (List.mem_of_getElem? (i := 174) rfl) rfl
theorem w_1375 : (Jvm.Cond.methodLink "StiltTown" (342 : Nat) ({ cls := "java/lang/Math", name := "abs", desc := "(I)I" } : Jvm.MethodName)) ∈ bigW := tp_6 (List.mem_of_getElem? (i := 175) rfl) rfl
theorem w_1376 : (Jvm.Cond.methodLink "StiltTownLaw" (184 : Nat) ({ cls := "StiltTown", name := "hold", desc := "(I)Z" } : Jvm.MethodName)) ∈ bigW := tp_6 (List.mem_of_getElem? (i := 176) rfl) rfl
theorem w_1377 : (Jvm.Cond.instanceMethod ({ cls := "StiltTown", name := "hold", desc := "(I)Z" } : Jvm.MethodName)) ∈ bigW := tp_6 (List.mem_of_getElem? (i := 177) rfl) rfl
theorem w_1378 : (Jvm.Cond.selects "StiltTown" ({ cls := "StiltTown", name := "hold", desc := "(I)Z" } : Jvm.MethodName) ({ cls := "StiltTown", name := "hold", desc := "(I)Z" } : Jvm.MethodName)) ∈ bigW := tp_6 (List.mem_of_getElem? (i := 178) rfl) rfl
theorem w_1379 : (Jvm.Cond.code ({ cls := "StiltTown", name := "hold", desc := "(I)Z" } : Jvm.MethodName) prog_1_method_48_code (2 : Nat) (Option.some Jvm.ClassFile.FieldType.boolean)) ∈ bigW := tp_6 (List.mem_of_getElem? (i := 179) rfl) rfl
theorem w_1380 : (Jvm.Cond.methodLink "StiltTown" (349 : Nat) ({ cls := "StiltTown$State", name := "copyFrom", desc := "(LStiltTown$State;)V" } : Jvm.MethodName)) ∈ bigW := tp_6 (List.mem_of_getElem? (i := 180) rfl) rfl
theorem w_1381 : (Jvm.Cond.instanceMethod ({ cls := "StiltTown$State", name := "copyFrom", desc := "(LStiltTown$State;)V" } : Jvm.MethodName)) ∈ bigW := tp_6 (List.mem_of_getElem? (i := 181) rfl) rfl
theorem w_1382 : (Jvm.Cond.selects "StiltTown$State" ({ cls := "StiltTown$State", name := "copyFrom", desc := "(LStiltTown$State;)V" } : Jvm.MethodName) ({ cls := "StiltTown$State", name := "copyFrom", desc := "(LStiltTown$State;)V" } : Jvm.MethodName)) ∈ bigW := tp_6 (List.mem_of_getElem? (i := 182) rfl) rfl
theorem w_1383 : (Jvm.Cond.code ({ cls := "StiltTown$State", name := "copyFrom", desc := "(LStiltTown$State;)V" } : Jvm.MethodName) prog_8_method_3_code (2 : Nat) (Option.none : Option Jvm.ClassFile.FieldType)) ∈ bigW := tp_6 (List.mem_of_getElem? (i := 183) rfl) rfl
theorem w_1384 : (Jvm.Cond.methodLink "StiltTown$State" (47 : Nat) ({ cls := "java/lang/System", name := "arraycopy", desc := "(Ljava/lang/Object;ILjava/lang/Object;II)V" } : Jvm.MethodName)) ∈ bigW := tp_6 (List.mem_of_getElem? (i := 184) rfl) rfl
theorem w_1385 : (Jvm.Cond.methodLink "StiltTown$State" (53 : Nat) ({ cls := "StiltTown$Logs", name := "copyFrom", desc := "(LStiltTown$Logs;)V" } : Jvm.MethodName)) ∈ bigW := tp_6 (List.mem_of_getElem? (i := 185) rfl) rfl
theorem w_1386 : (Jvm.Cond.instanceMethod ({ cls := "StiltTown$Logs", name := "copyFrom", desc := "(LStiltTown$Logs;)V" } : Jvm.MethodName)) ∈ bigW := tp_6 (List.mem_of_getElem? (i := 186) rfl) rfl
theorem w_1387 : (Jvm.Cond.selects "StiltTown$Logs" ({ cls := "StiltTown$Logs", name := "copyFrom", desc := "(LStiltTown$Logs;)V" } : Jvm.MethodName) ({ cls := "StiltTown$Logs", name := "copyFrom", desc := "(LStiltTown$Logs;)V" } : Jvm.MethodName)) ∈ bigW := tp_6 (List.mem_of_getElem? (i := 187) rfl) rfl
theorem w_1388 : (Jvm.Cond.code ({ cls := "StiltTown$Logs", name := "copyFrom", desc := "(LStiltTown$Logs;)V" } : Jvm.MethodName) prog_4_method_2_code (2 : Nat) (Option.none : Option Jvm.ClassFile.FieldType)) ∈ bigW := tp_6 (List.mem_of_getElem? (i := 188) rfl) rfl
theorem w_1389 : (Jvm.Cond.methodLink "StiltTown$Logs" (35 : Nat) ({ cls := "java/lang/System", name := "arraycopy", desc := "(Ljava/lang/Object;ILjava/lang/Object;II)V" } : Jvm.MethodName)) ∈ bigW := tp_6 (List.mem_of_getElem? (i := 189) rfl) rfl
theorem w_1390 : (Jvm.Cond.methodLink "StiltTownLaw" (189 : Nat) ({ cls := "StiltTown", name := "restore", desc := "(I)Z" } : Jvm.MethodName)) ∈ bigW := tp_6 (List.mem_of_getElem? (i := 190) rfl) rfl
theorem w_1391 : (Jvm.Cond.instanceMethod ({ cls := "StiltTown", name := "restore", desc := "(I)Z" } : Jvm.MethodName)) ∈ bigW := tp_6 (List.mem_of_getElem? (i := 191) rfl) rfl
theorem w_1392 : (Jvm.Cond.selects "StiltTown" ({ cls := "StiltTown", name := "restore", desc := "(I)Z" } : Jvm.MethodName) ({ cls := "StiltTown", name := "restore", desc := "(I)Z" } : Jvm.MethodName)) ∈ bigW := tp_6 (List.mem_of_getElem? (i := 192) rfl) rfl
theorem w_1393 : (Jvm.Cond.code ({ cls := "StiltTown", name := "restore", desc := "(I)Z" } : Jvm.MethodName) prog_1_method_49_code (2 : Nat) (Option.some Jvm.ClassFile.FieldType.boolean)) ∈ bigW := tp_6 (List.mem_of_getElem? (i := 193) rfl) rfl
theorem w_1394 : (Jvm.Cond.methodLink "StiltTownLaw" (193 : Nat) ({ cls := "StiltTown", name := "count", desc := "(I)I" } : Jvm.MethodName)) ∈ bigW := tp_6 (List.mem_of_getElem? (i := 194) rfl) rfl
theorem w_1395 : (Jvm.Cond.instanceMethod ({ cls := "StiltTown", name := "count", desc := "(I)I" } : Jvm.MethodName)) ∈ bigW := tp_6 (List.mem_of_getElem? (i := 195) rfl) rfl
theorem w_1396 : (Jvm.Cond.selects "StiltTown" ({ cls := "StiltTown", name := "count", desc := "(I)I" } : Jvm.MethodName) ({ cls := "StiltTown", name := "count", desc := "(I)I" } : Jvm.MethodName)) ∈ bigW := tp_6 (List.mem_of_getElem? (i := 196) rfl) rfl
theorem w_1397 : (Jvm.Cond.code ({ cls := "StiltTown", name := "count", desc := "(I)I" } : Jvm.MethodName) prog_1_method_50_code (2 : Nat) (Option.some Jvm.ClassFile.FieldType.int)) ∈ bigW := tp_6 (List.mem_of_getElem? (i := 197) rfl) rfl
theorem w_1404 : (Jvm.Cond.methodLink "StiltTownModel" (118 : Nat) ({ cls := "StiltTownModel", name := "begin", desc := "(I)V" } : Jvm.MethodName)) ∈ bigW := tp_6 (List.mem_of_getElem? (i := 204) rfl) rfl
theorem w_1406 : (Jvm.Cond.instanceMethod ({ cls := "StiltTownModel", name := "begin", desc := "(I)V" } : Jvm.MethodName)) ∈ bigW := tp_6 (List.mem_of_getElem? (i := 206) rfl) rfl
theorem w_1407 : (Jvm.Cond.code ({ cls := "StiltTownModel", name := "begin", desc := "(I)V" } : Jvm.MethodName) prog_14_method_29_code (3 : Nat) (Option.none : Option Jvm.ClassFile.FieldType)) ∈ bigW := tp_6 (List.mem_of_getElem? (i := 207) rfl) rfl
theorem w_1408 : (Jvm.Cond.methodLink "StiltTownModel" (122 : Nat) ({ cls := "StiltTownModel", name := "settle", desc := "()V" } : Jvm.MethodName)) ∈ bigW := tp_6 (List.mem_of_getElem? (i := 208) rfl) rfl
theorem w_1410 : (Jvm.Cond.instanceMethod ({ cls := "StiltTownModel", name := "settle", desc := "()V" } : Jvm.MethodName)) ∈ bigW := tp_6 (List.mem_of_getElem? (i := 210) rfl) rfl
theorem w_1411 : (Jvm.Cond.code ({ cls := "StiltTownModel", name := "settle", desc := "()V" } : Jvm.MethodName) prog_14_method_31_code (2 : Nat) (Option.none : Option Jvm.ClassFile.FieldType)) ∈ bigW := tp_6 (List.mem_of_getElem? (i := 211) rfl) rfl
theorem w_1412 : (Jvm.Cond.methodLink "StiltTownModel" (277 : Nat) ({ cls := "StiltTownModel", name := "gives", desc := "(II)V" } : Jvm.MethodName)) ∈ bigW := tp_6 (List.mem_of_getElem? (i := 212) rfl) rfl
theorem w_1414 : (Jvm.Cond.instanceMethod ({ cls := "StiltTownModel", name := "gives", desc := "(II)V" } : Jvm.MethodName)) ∈ bigW := tp_6 (List.mem_of_getElem? (i := 214) rfl) rfl
theorem w_1415 : (Jvm.Cond.code ({ cls := "StiltTownModel", name := "gives", desc := "(II)V" } : Jvm.MethodName) prog_14_method_63_code (4 : Nat) (Option.none : Option Jvm.ClassFile.FieldType)) ∈ bigW := tp_6 (List.mem_of_getElem? (i := 215) rfl) rfl
theorem w_1416 : (Jvm.Cond.methodLink "StiltTownModel" (386 : Nat) ({ cls := "StiltTownModel", name := "holderOf", desc := "(I)I" } : Jvm.MethodName)) ∈ bigW := tp_6 (List.mem_of_getElem? (i := 216) rfl) rfl
theorem w_1418 : (Jvm.Cond.instanceMethod ({ cls := "StiltTownModel", name := "holderOf", desc := "(I)I" } : Jvm.MethodName)) ∈ bigW := tp_6 (List.mem_of_getElem? (i := 218) rfl) rfl
theorem w_1419 : (Jvm.Cond.code ({ cls := "StiltTownModel", name := "holderOf", desc := "(I)I" } : Jvm.MethodName) prog_14_method_62_code (3 : Nat) (Option.some Jvm.ClassFile.FieldType.int)) ∈ bigW := tp_6 (List.mem_of_getElem? (i := 219) rfl) rfl
theorem w_1420 : (Jvm.Cond.fieldLink "StiltTownModel" (125 : Nat) "StiltTownModel" "taped" "I") ∈ bigW := tp_6 (List.mem_of_getElem? (i := 220) rfl) rfl
theorem w_1421 : (Jvm.Cond.fieldLink "StiltTownModel" (7 : Nat) "StiltTownModel" "tape" "[I") ∈ bigW := tp_6 (List.mem_of_getElem? (i := 221) rfl) rfl
theorem w_1422 : (Jvm.Cond.fieldLink "StiltTownModel" (135 : Nat) "StiltTownModel" "tokens" "I") ∈ bigW := tp_6 (List.mem_of_getElem? (i := 222) rfl) rfl
theorem w_1423 : (Jvm.Cond.fieldLink "StiltTownModel" (13 : Nat) "StiltTownModel" "tokenSort" "[I") ∈ bigW := tp_6 (List.mem_of_getElem? (i := 223) rfl) rfl
theorem w_1424 : (Jvm.Cond.fieldLink "StiltTownModel" (16 : Nat) "StiltTownModel" "tokenFrom" "[I") ∈ bigW := tp_6 (List.mem_of_getElem? (i := 224) rfl) rfl
theorem w_1425 : (Jvm.Cond.fieldLink "StiltTownModel" (19 : Nat) "StiltTownModel" "tokenWhat" "[I") ∈ bigW := tp_6 (List.mem_of_getElem? (i := 225) rfl) rfl
theorem w_1426 : (Jvm.Cond.fieldLink "StiltTownModel" (22 : Nat) "StiltTownModel" "tokenName" "[J") ∈ bigW := tp_6 (List.mem_of_getElem? (i := 226) rfl) rfl
theorem w_1427 : (Jvm.Cond.fieldLink "StiltTownModel" (218 : Nat) "StiltTownModel" "head" "I") ∈ bigW := tp_6 (List.mem_of_getElem? (i := 227) rfl) rfl
theorem w_1428 : (Jvm.Cond.fieldLink "StiltTownModel" (215 : Nat) "StiltTownModel" "fault" "I") ∈ bigW := tp_6 (List.mem_of_getElem? (i := 228) rfl) rfl
theorem w_1429 : (Jvm.Cond.fieldLink "StiltTownModel" (26 : Nat) "StiltTownModel" "faultPlace" "I") ∈ bigW := tp_6 (List.mem_of_getElem? (i := 229) rfl) rfl
theorem w_1430 : (Jvm.Cond.fieldLink "StiltTownModel" (221 : Nat) "StiltTownModel" "worst" "I") ∈ bigW := tp_6 (List.mem_of_getElem? (i := 230) rfl) rfl
theorem w_1431 : (Jvm.Cond.fieldLink "StiltTownModel" (224 : Nat) "StiltTownModel" "worstPlace" "I") ∈ bigW := tp_6 (List.mem_of_getElem? (i := 231) rfl) rfl
theorem w_1432 : (Jvm.Cond.fieldLink "StiltTownModel" (30 : Nat) "StiltTownModel" "state" "[I") ∈ bigW := tp_6 (List.mem_of_getElem? (i := 232) rfl) rfl
theorem w_1433 : (Jvm.Cond.fieldLink "StiltTownModel" (33 : Nat) "StiltTownModel" "live" "[I") ∈ bigW := tp_6 (List.mem_of_getElem? (i := 233) rfl) rfl
theorem w_1434 : (Jvm.Cond.fieldLink "StiltTownModel" (36 : Nat) "StiltTownModel" "codes" "[I") ∈ bigW := tp_6 (List.mem_of_getElem? (i := 234) rfl) rfl
theorem w_1435 : (Jvm.Cond.fieldLink "StiltTownModel" (39 : Nat) "StiltTownModel" "codeOp" "[I") ∈ bigW := tp_6 (List.mem_of_getElem? (i := 235) rfl) rfl
theorem w_1436 : (Jvm.Cond.fieldLink "StiltTownModel" (42 : Nat) "StiltTownModel" "codeValue" "[I") ∈ bigW := tp_6 (List.mem_of_getElem? (i := 236) rfl) rfl
theorem w_1437 : (Jvm.Cond.fieldLink "StiltTownModel" (45 : Nat) "StiltTownModel" "lits" "[I") ∈ bigW := tp_6 (List.mem_of_getElem? (i := 237) rfl) rfl
theorem w_1438 : (Jvm.Cond.fieldLink "StiltTownModel" (48 : Nat) "StiltTownModel" "litNot" "[Z") ∈ bigW := tp_6 (List.mem_of_getElem? (i := 238) rfl) rfl
theorem w_1439 : (Jvm.Cond.fieldLink "StiltTownModel" (52 : Nat) "StiltTownModel" "litOp" "[I") ∈ bigW := tp_6 (List.mem_of_getElem? (i := 239) rfl) rfl
theorem w_1440 : (Jvm.Cond.fieldLink "StiltTownModel" (55 : Nat) "StiltTownModel" "litA" "[I") ∈ bigW := tp_7 (List.mem_of_getElem? (i := 0) rfl) rfl
theorem w_1441 : (Jvm.Cond.fieldLink "StiltTownModel" (58 : Nat) "StiltTownModel" "litB" "[I") ∈ bigW := tp_7 (List.mem_of_getElem? (i := 1) rfl) rfl
theorem w_1442 : (Jvm.Cond.fieldLink "StiltTownModel" (61 : Nat) "StiltTownModel" "litC" "[I") ∈ bigW := tp_7 (List.mem_of_getElem? (i := 2) rfl) rfl
theorem w_1443 : (Jvm.Cond.fieldLink "StiltTownModel" (64 : Nat) "StiltTownModel" "litRow" "[I") ∈ bigW := tp_7 (List.mem_of_getElem? (i := 3) rfl) rfl
theorem w_1444 : (Jvm.Cond.fieldLink "StiltTownModel" (67 : Nat) "StiltTownModel" "isSlot" "[Z") ∈ bigW := tp_7 (List.mem_of_getElem? (i := 4) rfl) rfl
theorem w_1445 : (Jvm.Cond.fieldLink "StiltTownModel" (286 : Nat) "StiltTownModel" "names" "I") ∈ bigW := tp_7 (List.mem_of_getElem? (i := 5) rfl) rfl
theorem w_1446 : (Jvm.Cond.fieldLink "StiltTownModel" (70 : Nat) "StiltTownModel" "named" "[J") ∈ bigW := tp_7 (List.mem_of_getElem? (i := 6) rfl) rfl
theorem w_1447 : (Jvm.Cond.fieldLink "StiltTownModel" (73 : Nat) "StiltTownModel" "namedSort" "[I") ∈ bigW := tp_7 (List.mem_of_getElem? (i := 7) rfl) rfl
theorem w_1448 : (Jvm.Cond.fieldLink "StiltTownModel" (76 : Nat) "StiltTownModel" "namedNumber" "[I") ∈ bigW := tp_7 (List.mem_of_getElem? (i := 8) rfl) rfl
theorem w_1449 : (Jvm.Cond.fieldLink "StiltTownModel" (237 : Nat) "StiltTownModel" "valued" "I") ∈ bigW := tp_7 (List.mem_of_getElem? (i := 9) rfl) rfl
theorem w_1450 : (Jvm.Cond.fieldLink "StiltTownModel" (244 : Nat) "StiltTownModel" "waiting" "I") ∈ bigW := tp_7 (List.mem_of_getElem? (i := 10) rfl) rfl
theorem w_1451 : (Jvm.Cond.fieldLink "StiltTownModel" (79 : Nat) "StiltTownModel" "waits" "[I") ∈ bigW := tp_7 (List.mem_of_getElem? (i := 11) rfl) rfl
theorem w_1452 : (Jvm.Cond.fieldLink "StiltTownModel" (253 : Nat) "StiltTownModel" "exprFrom" "I") ∈ bigW := tp_7 (List.mem_of_getElem? (i := 12) rfl) rfl
theorem w_1453 : (Jvm.Cond.fieldLink "StiltTownModel" (268 : Nat) "StiltTownModel" "condFrom" "I") ∈ bigW := tp_7 (List.mem_of_getElem? (i := 13) rfl) rfl
theorem w_1454 : (Jvm.Cond.fieldLink "StiltTownModel" (82 : Nat) "StiltTownModel" "asked" "[I") ∈ bigW := tp_7 (List.mem_of_getElem? (i := 14) rfl) rfl
theorem w_1455 : (Jvm.Cond.fieldLink "StiltTownModel" (350 : Nat) "StiltTownModel" "broken" "Z") ∈ bigW := tp_7 (List.mem_of_getElem? (i := 15) rfl) rfl
theorem w_1456 : (Jvm.Cond.fieldLink "StiltTownModel" (85 : Nat) "StiltTownModel" "stack" "[I") ∈ bigW := tp_7 (List.mem_of_getElem? (i := 16) rfl) rfl
theorem w_1457 : (Jvm.Cond.fieldLink "StiltTownModel" (88 : Nat) "StiltTownModel" "fewest" "[I") ∈ bigW := tp_7 (List.mem_of_getElem? (i := 17) rfl) rfl
theorem w_1458 : (Jvm.Cond.fieldLink "StiltTownModel" (91 : Nat) "StiltTownModel" "taken" "[I") ∈ bigW := tp_7 (List.mem_of_getElem? (i := 18) rfl) rfl
theorem w_1459 : (Jvm.Cond.fieldLink "StiltTownModel" (94 : Nat) "StiltTownModel" "was" "[I") ∈ bigW := tp_7 (List.mem_of_getElem? (i := 19) rfl) rfl
theorem w_1460 : (Jvm.Cond.fieldLink "StiltTownModel" (283 : Nat) "StiltTownModel" "kept" "I") ∈ bigW := tp_7 (List.mem_of_getElem? (i := 20) rfl) rfl
theorem w_1461 : (Jvm.Cond.fieldLink "StiltTownModel" (448 : Nat) "StiltTownModel" "pieces" "I") ∈ bigW := tp_7 (List.mem_of_getElem? (i := 21) rfl) rfl
theorem w_1462 : (Jvm.Cond.fieldLink "StiltTownModel" (463 : Nat) "StiltTownModel" "untrueMany" "I") ∈ bigW := tp_7 (List.mem_of_getElem? (i := 22) rfl) rfl
theorem w_1463 : (Jvm.Cond.fieldLink "StiltTownModel" (97 : Nat) "StiltTownModel" "untrueHouse" "[I") ∈ bigW := tp_7 (List.mem_of_getElem? (i := 23) rfl) rfl
theorem w_1464 : (Jvm.Cond.fieldLink "StiltTownModel" (100 : Nat) "StiltTownModel" "dueHeight" "[I") ∈ bigW := tp_7 (List.mem_of_getElem? (i := 24) rfl) rfl
theorem w_1465 : (Jvm.Cond.fieldLink "StiltTownModel" (103 : Nat) "StiltTownModel" "isSafe" "[Z") ∈ bigW := tp_7 (List.mem_of_getElem? (i := 25) rfl) rfl
theorem w_1466 : (Jvm.Cond.fieldLink "StiltTownModel" (106 : Nat) "StiltTownModel" "nightsFrom" "[I") ∈ bigW := tp_7 (List.mem_of_getElem? (i := 26) rfl) rfl
theorem w_1467 : (Jvm.Cond.fieldLink "StiltTownModel" (109 : Nat) "StiltTownModel" "fellIn" "[I") ∈ bigW := tp_7 (List.mem_of_getElem? (i := 27) rfl) rfl
theorem w_1468 : (Jvm.Cond.fieldLink "StiltTownModel" (487 : Nat) "StiltTownModel" "fallen" "I") ∈ bigW := tp_7 (List.mem_of_getElem? (i := 28) rfl) rfl
theorem w_1469 : (Jvm.Cond.fieldLink "StiltTownModel" (490 : Nat) "StiltTownModel" "lastRound" "I") ∈ bigW := tp_7 (List.mem_of_getElem? (i := 29) rfl) rfl
theorem w_1470 : (Jvm.Cond.fieldLink "StiltTownModel" (280 : Nat) "StiltTownModel" "years" "I") ∈ bigW := tp_7 (List.mem_of_getElem? (i := 30) rfl) rfl
theorem w_1471 : (Jvm.Cond.fieldLink "StiltTownModel" (112 : Nat) "StiltTownModel" "yearDue" "[I") ∈ bigW := tp_7 (List.mem_of_getElem? (i := 31) rfl) rfl
theorem w_1472 : (Jvm.Cond.fieldLink "StiltTownModel" (115 : Nat) "StiltTownModel" "postCost" "[I") ∈ bigW := tp_7 (List.mem_of_getElem? (i := 32) rfl) rfl
theorem w_1473 : (Jvm.Cond.lays "StiltTownModel" "StiltTownModel" "taped" "I") ∈ bigW := tp_7 (List.mem_of_getElem? (i := 33) rfl) rfl
theorem w_1475 : (Jvm.Cond.laysFinal "StiltTownModel" "StiltTownModel" "tape" "[I") ∈ bigW := tp_7 (List.mem_of_getElem? (i := 35) rfl) rfl
theorem w_1477 : (Jvm.Cond.lays "StiltTownModel" "StiltTownModel" "tokens" "I") ∈ bigW := tp_7 (List.mem_of_getElem? (i := 37) rfl) rfl
theorem w_1479 : (Jvm.Cond.laysFinal "StiltTownModel" "StiltTownModel" "tokenSort" "[I") ∈ bigW := tp_7 (List.mem_of_getElem? (i := 39) rfl) rfl
theorem w_1481 : (Jvm.Cond.laysFinal "StiltTownModel" "StiltTownModel" "tokenFrom" "[I") ∈ bigW := tp_7 (List.mem_of_getElem? (i := 41) rfl) rfl
theorem w_1483 : (Jvm.Cond.laysFinal "StiltTownModel" "StiltTownModel" "tokenWhat" "[I") ∈ bigW := tp_7 (List.mem_of_getElem? (i := 43) rfl) rfl
theorem w_1485 : (Jvm.Cond.laysFinal "StiltTownModel" "StiltTownModel" "tokenName" "[J") ∈ bigW := tp_7 (List.mem_of_getElem? (i := 45) rfl) rfl
theorem w_1487 : (Jvm.Cond.lays "StiltTownModel" "StiltTownModel" "head" "I") ∈ bigW := tp_7 (List.mem_of_getElem? (i := 47) rfl) rfl
theorem w_1489 : (Jvm.Cond.lays "StiltTownModel" "StiltTownModel" "fault" "I") ∈ bigW := tp_7 (List.mem_of_getElem? (i := 49) rfl) rfl
theorem w_1491 : (Jvm.Cond.lays "StiltTownModel" "StiltTownModel" "faultPlace" "I") ∈ bigW := tp_7 (List.mem_of_getElem? (i := 51) rfl) rfl
theorem w_1493 : (Jvm.Cond.lays "StiltTownModel" "StiltTownModel" "worst" "I") ∈ bigW := tp_7 (List.mem_of_getElem? (i := 53) rfl) rfl
theorem w_1495 : (Jvm.Cond.lays "StiltTownModel" "StiltTownModel" "worstPlace" "I") ∈ bigW := tp_7 (List.mem_of_getElem? (i := 55) rfl) rfl
theorem w_1497 : (Jvm.Cond.laysFinal "StiltTownModel" "StiltTownModel" "state" "[I") ∈ bigW := tp_7 (List.mem_of_getElem? (i := 57) rfl) rfl
theorem w_1499 : (Jvm.Cond.laysFinal "StiltTownModel" "StiltTownModel" "live" "[I") ∈ bigW := tp_7 (List.mem_of_getElem? (i := 59) rfl) rfl
theorem w_1501 : (Jvm.Cond.laysFinal "StiltTownModel" "StiltTownModel" "codes" "[I") ∈ bigW := tp_7 (List.mem_of_getElem? (i := 61) rfl) rfl
theorem w_1503 : (Jvm.Cond.laysFinal "StiltTownModel" "StiltTownModel" "codeOp" "[I") ∈ bigW := tp_7 (List.mem_of_getElem? (i := 63) rfl) rfl
theorem w_1505 : (Jvm.Cond.laysFinal "StiltTownModel" "StiltTownModel" "codeValue" "[I") ∈ bigW := tp_7 (List.mem_of_getElem? (i := 65) rfl) rfl
theorem w_1507 : (Jvm.Cond.laysFinal "StiltTownModel" "StiltTownModel" "lits" "[I") ∈ bigW := tp_7 (List.mem_of_getElem? (i := 67) rfl) rfl
theorem w_1509 : (Jvm.Cond.laysFinal "StiltTownModel" "StiltTownModel" "litNot" "[Z") ∈ bigW := tp_7 (List.mem_of_getElem? (i := 69) rfl) rfl
theorem w_1511 : (Jvm.Cond.laysFinal "StiltTownModel" "StiltTownModel" "litOp" "[I") ∈ bigW := tp_7 (List.mem_of_getElem? (i := 71) rfl) rfl
theorem w_1513 : (Jvm.Cond.laysFinal "StiltTownModel" "StiltTownModel" "litA" "[I") ∈ bigW := tp_7 (List.mem_of_getElem? (i := 73) rfl) rfl
theorem w_1515 : (Jvm.Cond.laysFinal "StiltTownModel" "StiltTownModel" "litB" "[I") ∈ bigW := tp_7 (List.mem_of_getElem? (i := 75) rfl) rfl
theorem w_1517 : (Jvm.Cond.laysFinal "StiltTownModel" "StiltTownModel" "litC" "[I") ∈ bigW := tp_7 (List.mem_of_getElem? (i := 77) rfl) rfl
theorem w_1519 : (Jvm.Cond.laysFinal "StiltTownModel" "StiltTownModel" "litRow" "[I") ∈ bigW := tp_7 (List.mem_of_getElem? (i := 79) rfl) rfl
theorem w_1521 : (Jvm.Cond.laysFinal "StiltTownModel" "StiltTownModel" "isSlot" "[Z") ∈ bigW := tp_7 (List.mem_of_getElem? (i := 81) rfl) rfl
theorem w_1523 : (Jvm.Cond.lays "StiltTownModel" "StiltTownModel" "names" "I") ∈ bigW := tp_7 (List.mem_of_getElem? (i := 83) rfl) rfl
theorem w_1525 : (Jvm.Cond.laysFinal "StiltTownModel" "StiltTownModel" "named" "[J") ∈ bigW := tp_7 (List.mem_of_getElem? (i := 85) rfl) rfl
theorem w_1527 : (Jvm.Cond.laysFinal "StiltTownModel" "StiltTownModel" "namedSort" "[I") ∈ bigW := tp_7 (List.mem_of_getElem? (i := 87) rfl) rfl
theorem w_1529 : (Jvm.Cond.laysFinal "StiltTownModel" "StiltTownModel" "namedNumber" "[I") ∈ bigW := tp_7 (List.mem_of_getElem? (i := 89) rfl) rfl
theorem w_1531 : (Jvm.Cond.lays "StiltTownModel" "StiltTownModel" "valued" "I") ∈ bigW := tp_7 (List.mem_of_getElem? (i := 91) rfl) rfl
theorem w_1533 : (Jvm.Cond.lays "StiltTownModel" "StiltTownModel" "waiting" "I") ∈ bigW := tp_7 (List.mem_of_getElem? (i := 93) rfl) rfl
theorem w_1535 : (Jvm.Cond.laysFinal "StiltTownModel" "StiltTownModel" "waits" "[I") ∈ bigW := tp_7 (List.mem_of_getElem? (i := 95) rfl) rfl
theorem w_1537 : (Jvm.Cond.lays "StiltTownModel" "StiltTownModel" "exprFrom" "I") ∈ bigW := tp_7 (List.mem_of_getElem? (i := 97) rfl) rfl
theorem w_1539 : (Jvm.Cond.lays "StiltTownModel" "StiltTownModel" "condFrom" "I") ∈ bigW := tp_7 (List.mem_of_getElem? (i := 99) rfl) rfl
theorem w_1541 : (Jvm.Cond.laysFinal "StiltTownModel" "StiltTownModel" "asked" "[I") ∈ bigW := tp_7 (List.mem_of_getElem? (i := 101) rfl) rfl
theorem w_1543 : (Jvm.Cond.lays "StiltTownModel" "StiltTownModel" "broken" "Z") ∈ bigW := tp_7 (List.mem_of_getElem? (i := 103) rfl) rfl
theorem w_1545 : (Jvm.Cond.laysFinal "StiltTownModel" "StiltTownModel" "stack" "[I") ∈ bigW := tp_7 (List.mem_of_getElem? (i := 105) rfl) rfl
theorem w_1547 : (Jvm.Cond.laysFinal "StiltTownModel" "StiltTownModel" "fewest" "[I") ∈ bigW := tp_7 (List.mem_of_getElem? (i := 107) rfl) rfl
theorem w_1549 : (Jvm.Cond.laysFinal "StiltTownModel" "StiltTownModel" "taken" "[I") ∈ bigW := tp_7 (List.mem_of_getElem? (i := 109) rfl) rfl
theorem w_1551 : (Jvm.Cond.laysFinal "StiltTownModel" "StiltTownModel" "was" "[I") ∈ bigW := tp_7 (List.mem_of_getElem? (i := 111) rfl) rfl
theorem w_1553 : (Jvm.Cond.lays "StiltTownModel" "StiltTownModel" "kept" "I") ∈ bigW := tp_7 (List.mem_of_getElem? (i := 113) rfl) rfl
theorem w_1555 : (Jvm.Cond.lays "StiltTownModel" "StiltTownModel" "pieces" "I") ∈ bigW := tp_7 (List.mem_of_getElem? (i := 115) rfl) rfl
theorem w_1557 : (Jvm.Cond.lays "StiltTownModel" "StiltTownModel" "untrueMany" "I") ∈ bigW := tp_7 (List.mem_of_getElem? (i := 117) rfl) rfl
theorem w_1559 : (Jvm.Cond.laysFinal "StiltTownModel" "StiltTownModel" "untrueHouse" "[I") ∈ bigW := tp_7 (List.mem_of_getElem? (i := 119) rfl) rfl
theorem w_1561 : (Jvm.Cond.laysFinal "StiltTownModel" "StiltTownModel" "dueHeight" "[I") ∈ bigW := tp_7 (List.mem_of_getElem? (i := 121) rfl) rfl
theorem w_1563 : (Jvm.Cond.laysFinal "StiltTownModel" "StiltTownModel" "isSafe" "[Z") ∈ bigW := tp_7 (List.mem_of_getElem? (i := 123) rfl) rfl
theorem w_1565 : (Jvm.Cond.laysFinal "StiltTownModel" "StiltTownModel" "nightsFrom" "[I") ∈ bigW := tp_7 (List.mem_of_getElem? (i := 125) rfl) rfl
theorem w_1567 : (Jvm.Cond.laysFinal "StiltTownModel" "StiltTownModel" "fellIn" "[I") ∈ bigW := tp_7 (List.mem_of_getElem? (i := 127) rfl) rfl
theorem w_1569 : (Jvm.Cond.lays "StiltTownModel" "StiltTownModel" "fallen" "I") ∈ bigW := tp_7 (List.mem_of_getElem? (i := 129) rfl) rfl
theorem w_1571 : (Jvm.Cond.lays "StiltTownModel" "StiltTownModel" "lastRound" "I") ∈ bigW := tp_7 (List.mem_of_getElem? (i := 131) rfl) rfl
theorem w_1573 : (Jvm.Cond.lays "StiltTownModel" "StiltTownModel" "years" "I") ∈ bigW := tp_7 (List.mem_of_getElem? (i := 133) rfl) rfl
theorem w_1575 : (Jvm.Cond.laysFinal "StiltTownModel" "StiltTownModel" "yearDue" "[I") ∈ bigW := tp_7 (List.mem_of_getElem? (i := 135) rfl) rfl
theorem w_1577 : (Jvm.Cond.laysFinal "StiltTownModel" "StiltTownModel" "postCost" "[I") ∈ bigW := tp_7 (List.mem_of_getElem? (i := 137) rfl) rfl
theorem w_1580 : (Jvm.Cond.methodLink "StiltTownLaw" (17 : Nat) ({ cls := "StiltTownModel", name := "feed", desc := "(IIIII)I" } : Jvm.MethodName)) ∈ bigW := tp_7 (List.mem_of_getElem? (i := 140) rfl) rfl
theorem w_1581 : (Jvm.Cond.instanceMethod ({ cls := "StiltTownModel", name := "feed", desc := "(IIIII)I" } : Jvm.MethodName)) ∈ bigW := tp_7 (List.mem_of_getElem? (i := 141) rfl) rfl
theorem w_1582 : (Jvm.Cond.selects "StiltTownModel" ({ cls := "StiltTownModel", name := "feed", desc := "(IIIII)I" } : Jvm.MethodName) ({ cls := "StiltTownModel", name := "feed", desc := "(IIIII)I" } : Jvm.MethodName)) ∈ bigW := tp_7 (List.mem_of_getElem? (i := 142) rfl) rfl
theorem w_1583 : (Jvm.Cond.code ({ cls := "StiltTownModel", name := "feed", desc := "(IIIII)I" } : Jvm.MethodName) prog_14_method_2_code (6 : Nat) (Option.some Jvm.ClassFile.FieldType.int)) ∈ bigW := tp_7 (List.mem_of_getElem? (i := 143) rfl) rfl
theorem w_1584 : (Jvm.Cond.methodLink "StiltTownModel" (128 : Nat) ({ cls := "StiltTownModel", name := "typed", desc := "(I)V" } : Jvm.MethodName)) ∈ bigW := tp_7 (List.mem_of_getElem? (i := 144) rfl) rfl
theorem w_1586 : (Jvm.Cond.instanceMethod ({ cls := "StiltTownModel", name := "typed", desc := "(I)V" } : Jvm.MethodName)) ∈ bigW := tp_7 (List.mem_of_getElem? (i := 146) rfl) rfl
theorem w_1587 : (Jvm.Cond.code ({ cls := "StiltTownModel", name := "typed", desc := "(I)V" } : Jvm.MethodName) prog_14_method_3_code (3 : Nat) (Option.none : Option Jvm.ClassFile.FieldType)) ∈ bigW := tp_7 (List.mem_of_getElem? (i := 147) rfl) rfl
theorem w_1588 : (Jvm.Cond.methodLink "StiltTownLaw" (22 : Nat) ({ cls := "StiltTownModel", name := "back", desc := "(I)I" } : Jvm.MethodName)) ∈ bigW := tp_7 (List.mem_of_getElem? (i := 148) rfl) rfl
theorem w_1589 : (Jvm.Cond.instanceMethod ({ cls := "StiltTownModel", name := "back", desc := "(I)I" } : Jvm.MethodName)) ∈ bigW := tp_7 (List.mem_of_getElem? (i := 149) rfl) rfl
theorem w_1590 : (Jvm.Cond.selects "StiltTownModel" ({ cls := "StiltTownModel", name := "back", desc := "(I)I" } : Jvm.MethodName) ({ cls := "StiltTownModel", name := "back", desc := "(I)I" } : Jvm.MethodName)) ∈ bigW := tp_7 (List.mem_of_getElem? (i := 150) rfl) rfl
theorem w_1591 : (Jvm.Cond.code ({ cls := "StiltTownModel", name := "back", desc := "(I)I" } : Jvm.MethodName) prog_14_method_4_code (2 : Nat) (Option.some Jvm.ClassFile.FieldType.int)) ∈ bigW := tp_7 (List.mem_of_getElem? (i := 151) rfl) rfl
theorem w_1592 : (Jvm.Cond.methodLink "StiltTownLaw" (27 : Nat) ({ cls := "StiltTownModel", name := "read", desc := "()I" } : Jvm.MethodName)) ∈ bigW := tp_7 (List.mem_of_getElem? (i := 152) rfl) rfl
theorem w_1593 : (Jvm.Cond.instanceMethod ({ cls := "StiltTownModel", name := "read", desc := "()I" } : Jvm.MethodName)) ∈ bigW := tp_7 (List.mem_of_getElem? (i := 153) rfl) rfl
theorem w_1594 : (Jvm.Cond.selects "StiltTownModel" ({ cls := "StiltTownModel", name := "read", desc := "()I" } : Jvm.MethodName) ({ cls := "StiltTownModel", name := "read", desc := "()I" } : Jvm.MethodName)) ∈ bigW := tp_7 (List.mem_of_getElem? (i := 154) rfl) rfl
theorem w_1595 : (Jvm.Cond.code ({ cls := "StiltTownModel", name := "read", desc := "()I" } : Jvm.MethodName) prog_14_method_46_code (1 : Nat) (Option.some Jvm.ClassFile.FieldType.int)) ∈ bigW := tp_7 (List.mem_of_getElem? (i := 155) rfl) rfl
theorem w_1596 : (Jvm.Cond.methodLink "StiltTownModel" (341 : Nat) ({ cls := "StiltTownModel", name := "scanAll", desc := "()V" } : Jvm.MethodName)) ∈ bigW := tp_7 (List.mem_of_getElem? (i := 156) rfl) rfl
theorem w_1598 : (Jvm.Cond.instanceMethod ({ cls := "StiltTownModel", name := "scanAll", desc := "()V" } : Jvm.MethodName)) ∈ bigW := tp_7 (List.mem_of_getElem? (i := 158) rfl) rfl
theorem w_1599 : (Jvm.Cond.code ({ cls := "StiltTownModel", name := "scanAll", desc := "()V" } : Jvm.MethodName) prog_14_method_12_code (4 : Nat) (Option.none : Option Jvm.ClassFile.FieldType)) ∈ bigW := tp_7 (List.mem_of_getElem? (i := 159) rfl) rfl
theorem w_1600 : (Jvm.Cond.methodLink "StiltTownModel" (131 : Nat) ({ cls := "StiltTownModel", name := "byteAt", desc := "(I)I" } : Jvm.MethodName)) ∈ bigW := tp_7 (List.mem_of_getElem? (i := 160) rfl) rfl
theorem w_1602 : (Jvm.Cond.instanceMethod ({ cls := "StiltTownModel", name := "byteAt", desc := "(I)I" } : Jvm.MethodName)) ∈ bigW := tp_7 (List.mem_of_getElem? (i := 162) rfl) rfl
theorem w_1603 : (Jvm.Cond.code ({ cls := "StiltTownModel", name := "byteAt", desc := "(I)I" } : Jvm.MethodName) prog_14_method_5_code (2 : Nat) (Option.some Jvm.ClassFile.FieldType.int)) ∈ bigW := tp_7 (List.mem_of_getElem? (i := 163) rfl) rfl
theorem w_1604 : (Jvm.Cond.methodLink "StiltTownModel" (212 : Nat) ({ cls := "StiltTownModel", name := "scan", desc := "(I)I" } : Jvm.MethodName)) ∈ bigW := tp_7 (List.mem_of_getElem? (i := 164) rfl) rfl
theorem w_1606 : (Jvm.Cond.instanceMethod ({ cls := "StiltTownModel", name := "scan", desc := "(I)I" } : Jvm.MethodName)) ∈ bigW := tp_7 (List.mem_of_getElem? (i := 166) rfl) rfl
theorem w_1607 : (Jvm.Cond.code ({ cls := "StiltTownModel", name := "scan", desc := "(I)I" } : Jvm.MethodName) prog_14_method_11_code (6 : Nat) (Option.some Jvm.ClassFile.FieldType.int)) ∈ bigW := tp_7 (List.mem_of_getElem? (i := 167) rfl) rfl
theorem w_1608 : (Jvm.Cond.methodLink "StiltTownModel" (190 : Nat) ({ cls := "StiltTownModel", name := "isLetter", desc := "(I)Z" } : Jvm.MethodName)) ∈ bigW := tp_7 (List.mem_of_getElem? (i := 168) rfl) rfl
theorem w_1610 : (Jvm.Cond.instanceMethod ({ cls := "StiltTownModel", name := "isLetter", desc := "(I)Z" } : Jvm.MethodName)) ∈ bigW := tp_7 (List.mem_of_getElem? (i := 170) rfl) rfl
theorem w_1611 : (Jvm.Cond.code ({ cls := "StiltTownModel", name := "isLetter", desc := "(I)Z" } : Jvm.MethodName) prog_14_method_6_code (2 : Nat) (Option.some Jvm.ClassFile.FieldType.boolean)) ∈ bigW := tp_7 (List.mem_of_getElem? (i := 171) rfl) rfl
theorem w_1612 : (Jvm.Cond.constantLong "StiltTownModel" (194 : Nat) (27 : Int64)) ∈ bigW := tp_7 (List.mem_of_getElem? (i := 172) rfl) rfl
theorem w_1613 : (Jvm.Cond.constantLong "StiltTownModel" (196 : Nat) (96 : Int64)) ∈ bigW := tp_7 (List.mem_of_getElem? (i := 173) rfl) rfl
theorem w_1614 : (Jvm.Cond.methodLink "StiltTownModel" (198 : Nat) ({ cls := "StiltTownModel", name := "wordOf", desc := "(J)I" } : Jvm.MethodName)) ∈ bigW := tp_7 (List.mem_of_getElem? (i := 174) rfl) rfl
theorem w_1615 : (Jvm.Cond.static ({ cls := "StiltTownModel", name := "wordOf", desc := "(J)I" } : Jvm.MethodName)) ∈ bigW := tp_7 (List.mem_of_getElem? (i := 175) rfl) rfl
theorem w_1616 : (Jvm.Cond.code ({ cls := "StiltTownModel", name := "wordOf", desc := "(J)I" } : Jvm.MethodName) prog_14_method_9_code (2 : Nat) (Option.some Jvm.ClassFile.FieldType.int)) ∈ bigW := tp_7 (List.mem_of_getElem? (i := 176) rfl) rfl
theorem w_1617 : (Jvm.Cond.constantLong "StiltTownModel" (138 : Nat) (4562600 : Int64)) ∈ bigW := tp_7 (List.mem_of_getElem? (i := 177) rfl) rfl
theorem w_1618 : (Jvm.Cond.constantLong "StiltTownModel" (140 : Nat) (218546996 : Int64)) ∈ bigW := tp_7 (List.mem_of_getElem? (i := 178) rfl) rfl
theorem w_1619 : (Jvm.Cond.constantLong "StiltTownModel" (142 : Nat) (257 : Int64)) ∈ bigW := tp_7 (List.mem_of_getElem? (i := 179) rfl) rfl
theorem w_1620 : (Jvm.Cond.constantLong "StiltTownModel" (144 : Nat) (10492029 : Int64)) ∈ bigW := tp_7 (List.mem_of_getElem? (i := 180) rfl) rfl
theorem w_1621 : (Jvm.Cond.constantLong "StiltTownModel" (146 : Nat) (110319223 : Int64)) ∈ bigW := tp_7 (List.mem_of_getElem? (i := 181) rfl) rfl
theorem w_1622 : (Jvm.Cond.constantLong "StiltTownModel" (148 : Nat) (349972 : Int64)) ∈ bigW := tp_7 (List.mem_of_getElem? (i := 182) rfl) rfl
theorem w_1623 : (Jvm.Cond.constantLong "StiltTownModel" (150 : Nat) (464053 : Int64)) ∈ bigW := tp_7 (List.mem_of_getElem? (i := 183) rfl) rfl
theorem w_1624 : (Jvm.Cond.constantLong "StiltTownModel" (152 : Nat) (1952902 : Int64)) ∈ bigW := tp_7 (List.mem_of_getElem? (i := 184) rfl) rfl
theorem w_1625 : (Jvm.Cond.constantLong "StiltTownModel" (154 : Nat) (249 : Int64)) ∈ bigW := tp_7 (List.mem_of_getElem? (i := 185) rfl) rfl
theorem w_1626 : (Jvm.Cond.constantLong "StiltTownModel" (156 : Nat) (197651 : Int64)) ∈ bigW := tp_7 (List.mem_of_getElem? (i := 186) rfl) rfl
theorem w_1627 : (Jvm.Cond.constantLong "StiltTownModel" (158 : Nat) (10631 : Int64)) ∈ bigW := tp_7 (List.mem_of_getElem? (i := 187) rfl) rfl
theorem w_1628 : (Jvm.Cond.constantLong "StiltTownModel" (160 : Nat) (1111 : Int64)) ∈ bigW := tp_7 (List.mem_of_getElem? (i := 188) rfl) rfl
theorem w_1629 : (Jvm.Cond.constantLong "StiltTownModel" (162 : Nat) (423 : Int64)) ∈ bigW := tp_7 (List.mem_of_getElem? (i := 189) rfl) rfl
theorem w_1630 : (Jvm.Cond.constantLong "StiltTownModel" (164 : Nat) (117630947 : Int64)) ∈ bigW := tp_7 (List.mem_of_getElem? (i := 190) rfl) rfl
theorem w_1631 : (Jvm.Cond.constantLong "StiltTownModel" (166 : Nat) (355412 : Int64)) ∈ bigW := tp_7 (List.mem_of_getElem? (i := 191) rfl) rfl
theorem w_1632 : (Jvm.Cond.constantLong "StiltTownModel" (168 : Nat) (247162 : Int64)) ∈ bigW := tp_7 (List.mem_of_getElem? (i := 192) rfl) rfl
theorem w_1633 : (Jvm.Cond.constantLong "StiltTownModel" (170 : Nat) (24 : Int64)) ∈ bigW := tp_7 (List.mem_of_getElem? (i := 193) rfl) rfl
theorem w_1634 : (Jvm.Cond.constantLong "StiltTownModel" (172 : Nat) (168984 : Int64)) ∈ bigW := tp_7 (List.mem_of_getElem? (i := 194) rfl) rfl
theorem w_1635 : (Jvm.Cond.constantLong "StiltTownModel" (174 : Nat) (7214732 : Int64)) ∈ bigW := tp_7 (List.mem_of_getElem? (i := 195) rfl) rfl
theorem w_1636 : (Jvm.Cond.constantLong "StiltTownModel" (176 : Nat) (459652 : Int64)) ∈ bigW := tp_7 (List.mem_of_getElem? (i := 196) rfl) rfl
theorem w_1637 : (Jvm.Cond.constantLong "StiltTownModel" (178 : Nat) (149099 : Int64)) ∈ bigW := tp_7 (List.mem_of_getElem? (i := 197) rfl) rfl
theorem w_1638 : (Jvm.Cond.constantLong "StiltTownModel" (180 : Nat) (390796 : Int64)) ∈ bigW := tp_7 (List.mem_of_getElem? (i := 198) rfl) rfl
theorem w_1639 : (Jvm.Cond.constantLong "StiltTownModel" (182 : Nat) (400334 : Int64)) ∈ bigW := tp_7 (List.mem_of_getElem? (i := 199) rfl) rfl
theorem w_1640 : (Jvm.Cond.constantLong "StiltTownModel" (184 : Nat) (3488 : Int64)) ∈ bigW := tp_7 (List.mem_of_getElem? (i := 200) rfl) rfl
theorem w_1641 : (Jvm.Cond.constantLong "StiltTownModel" (186 : Nat) (3217420 : Int64)) ∈ bigW := tp_7 (List.mem_of_getElem? (i := 201) rfl) rfl
theorem w_1642 : (Jvm.Cond.constantLong "StiltTownModel" (188 : Nat) (1489 : Int64)) ∈ bigW := tp_7 (List.mem_of_getElem? (i := 202) rfl) rfl
theorem w_1643 : (Jvm.Cond.methodLink "StiltTownModel" (202 : Nat) ({ cls := "StiltTownModel", name := "token", desc := "(III)V" } : Jvm.MethodName)) ∈ bigW := tp_7 (List.mem_of_getElem? (i := 203) rfl) rfl
theorem w_1645 : (Jvm.Cond.instanceMethod ({ cls := "StiltTownModel", name := "token", desc := "(III)V" } : Jvm.MethodName)) ∈ bigW := tp_7 (List.mem_of_getElem? (i := 205) rfl) rfl
theorem w_1646 : (Jvm.Cond.code ({ cls := "StiltTownModel", name := "token", desc := "(III)V" } : Jvm.MethodName) prog_14_method_8_code (4 : Nat) (Option.none : Option Jvm.ClassFile.FieldType)) ∈ bigW := tp_7 (List.mem_of_getElem? (i := 206) rfl) rfl
theorem w_1647 : (Jvm.Cond.methodLink "StiltTownModel" (206 : Nat) ({ cls := "StiltTownModel", name := "isDigit", desc := "(I)Z" } : Jvm.MethodName)) ∈ bigW := tp_7 (List.mem_of_getElem? (i := 207) rfl) rfl
theorem w_1649 : (Jvm.Cond.instanceMethod ({ cls := "StiltTownModel", name := "isDigit", desc := "(I)Z" } : Jvm.MethodName)) ∈ bigW := tp_7 (List.mem_of_getElem? (i := 209) rfl) rfl
theorem w_1650 : (Jvm.Cond.code ({ cls := "StiltTownModel", name := "isDigit", desc := "(I)Z" } : Jvm.MethodName) prog_14_method_7_code (2 : Nat) (Option.some Jvm.ClassFile.FieldType.boolean)) ∈ bigW := tp_7 (List.mem_of_getElem? (i := 210) rfl) rfl
theorem w_1651 : (Jvm.Cond.methodLink "StiltTownModel" (209 : Nat) ({ cls := "StiltTownModel", name := "signAt", desc := "(I)I" } : Jvm.MethodName)) ∈ bigW := tp_7 (List.mem_of_getElem? (i := 211) rfl) rfl
theorem w_1653 : (Jvm.Cond.instanceMethod ({ cls := "StiltTownModel", name := "signAt", desc := "(I)I" } : Jvm.MethodName)) ∈ bigW := tp_7 (List.mem_of_getElem? (i := 213) rfl) rfl
theorem w_1654 : (Jvm.Cond.code ({ cls := "StiltTownModel", name := "signAt", desc := "(I)I" } : Jvm.MethodName) prog_14_method_10_code (4 : Nat) (Option.some Jvm.ClassFile.FieldType.int)) ∈ bigW := tp_7 (List.mem_of_getElem? (i := 214) rfl) rfl
theorem w_1655 : (Jvm.Cond.methodLink "StiltTownModel" (344 : Nat) ({ cls := "StiltTownModel", name := "parses", desc := "()Z" } : Jvm.MethodName)) ∈ bigW := tp_7 (List.mem_of_getElem? (i := 215) rfl) rfl
theorem w_1657 : (Jvm.Cond.instanceMethod ({ cls := "StiltTownModel", name := "parses", desc := "()Z" } : Jvm.MethodName)) ∈ bigW := tp_7 (List.mem_of_getElem? (i := 217) rfl) rfl
theorem w_1658 : (Jvm.Cond.code ({ cls := "StiltTownModel", name := "parses", desc := "()Z" } : Jvm.MethodName) prog_14_method_45_code (1 : Nat) (Option.some Jvm.ClassFile.FieldType.boolean)) ∈ bigW := tp_7 (List.mem_of_getElem? (i := 218) rfl) rfl
theorem w_1659 : (Jvm.Cond.methodLink "StiltTownModel" (338 : Nat) ({ cls := "StiltTownModel", name := "tellOne", desc := "()Z" } : Jvm.MethodName)) ∈ bigW := tp_7 (List.mem_of_getElem? (i := 219) rfl) rfl
theorem w_1661 : (Jvm.Cond.instanceMethod ({ cls := "StiltTownModel", name := "tellOne", desc := "()Z" } : Jvm.MethodName)) ∈ bigW := tp_7 (List.mem_of_getElem? (i := 221) rfl) rfl
theorem w_1662 : (Jvm.Cond.code ({ cls := "StiltTownModel", name := "tellOne", desc := "()Z" } : Jvm.MethodName) prog_14_method_44_code (2 : Nat) (Option.some Jvm.ClassFile.FieldType.boolean)) ∈ bigW := tp_7 (List.mem_of_getElem? (i := 222) rfl) rfl
theorem w_1663 : (Jvm.Cond.methodLink "StiltTownModel" (311 : Nat) ({ cls := "StiltTownModel", name := "tellHouse", desc := "()Z" } : Jvm.MethodName)) ∈ bigW := tp_7 (List.mem_of_getElem? (i := 223) rfl) rfl
theorem w_1665 : (Jvm.Cond.instanceMethod ({ cls := "StiltTownModel", name := "tellHouse", desc := "()Z" } : Jvm.MethodName)) ∈ bigW := tp_7 (List.mem_of_getElem? (i := 225) rfl) rfl
theorem w_1666 : (Jvm.Cond.code ({ cls := "StiltTownModel", name := "tellHouse", desc := "()Z" } : Jvm.MethodName) prog_14_method_35_code (3 : Nat) (Option.some Jvm.ClassFile.FieldType.boolean)) ∈ bigW := tp_7 (List.mem_of_getElem? (i := 226) rfl) rfl
theorem w_1667 : (Jvm.Cond.methodLink "StiltTownModel" (289 : Nat) ({ cls := "StiltTownModel", name := "told", desc := "(I)I" } : Jvm.MethodName)) ∈ bigW := tp_7 (List.mem_of_getElem? (i := 227) rfl) rfl
theorem w_1669 : (Jvm.Cond.instanceMethod ({ cls := "StiltTownModel", name := "told", desc := "(I)I" } : Jvm.MethodName)) ∈ bigW := tp_7 (List.mem_of_getElem? (i := 229) rfl) rfl
theorem w_1670 : (Jvm.Cond.code ({ cls := "StiltTownModel", name := "told", desc := "(I)I" } : Jvm.MethodName) prog_14_method_27_code (2 : Nat) (Option.some Jvm.ClassFile.FieldType.int)) ∈ bigW := tp_7 (List.mem_of_getElem? (i := 230) rfl) rfl
theorem w_1671 : (Jvm.Cond.methodLink "StiltTownModel" (295 : Nat) ({ cls := "StiltTownModel", name := "next", desc := "(IIII)I" } : Jvm.MethodName)) ∈ bigW := tp_7 (List.mem_of_getElem? (i := 231) rfl) rfl
theorem w_1673 : (Jvm.Cond.instanceMethod ({ cls := "StiltTownModel", name := "next", desc := "(IIII)I" } : Jvm.MethodName)) ∈ bigW := tp_7 (List.mem_of_getElem? (i := 233) rfl) rfl
theorem w_1674 : (Jvm.Cond.code ({ cls := "StiltTownModel", name := "next", desc := "(IIII)I" } : Jvm.MethodName) prog_14_method_34_code (6 : Nat) (Option.some Jvm.ClassFile.FieldType.int)) ∈ bigW := tp_7 (List.mem_of_getElem? (i := 234) rfl) rfl
theorem w_1675 : (Jvm.Cond.methodLink "StiltTownModel" (292 : Nat) ({ cls := "StiltTownModel", name := "tell", desc := "(II)V" } : Jvm.MethodName)) ∈ bigW := tp_7 (List.mem_of_getElem? (i := 235) rfl) rfl
theorem w_1677 : (Jvm.Cond.instanceMethod ({ cls := "StiltTownModel", name := "tell", desc := "(II)V" } : Jvm.MethodName)) ∈ bigW := tp_7 (List.mem_of_getElem? (i := 237) rfl) rfl
theorem w_1678 : (Jvm.Cond.code ({ cls := "StiltTownModel", name := "tell", desc := "(II)V" } : Jvm.MethodName) prog_14_method_28_code (3 : Nat) (Option.none : Option Jvm.ClassFile.FieldType)) ∈ bigW := tp_7 (List.mem_of_getElem? (i := 238) rfl) rfl
theorem w_1679 : (Jvm.Cond.methodLink "StiltTownModel" (227 : Nat) ({ cls := "StiltTownModel", name := "wrong", desc := "(I)Z" } : Jvm.MethodName)) ∈ bigW := tp_7 (List.mem_of_getElem? (i := 239) rfl) rfl
theorem w_1681 : (Jvm.Cond.instanceMethod ({ cls := "StiltTownModel", name := "wrong", desc := "(I)Z" } : Jvm.MethodName)) ∈ bigW := tp_8 (List.mem_of_getElem? (i := 1) rfl) rfl
theorem w_1682 : (Jvm.Cond.code ({ cls := "StiltTownModel", name := "wrong", desc := "(I)Z" } : Jvm.MethodName) prog_14_method_13_code (2 : Nat) (Option.some Jvm.ClassFile.FieldType.boolean)) ∈ bigW := tp_8 (List.mem_of_getElem? (i := 2) rfl) rfl
theorem w_1683 : (Jvm.Cond.methodLink "StiltTownModel" (230 : Nat) ({ cls := "StiltTownModel", name := "pass", desc := "()Z" } : Jvm.MethodName)) ∈ bigW := tp_8 (List.mem_of_getElem? (i := 3) rfl) rfl
theorem w_1685 : (Jvm.Cond.instanceMethod ({ cls := "StiltTownModel", name := "pass", desc := "()Z" } : Jvm.MethodName)) ∈ bigW := tp_8 (List.mem_of_getElem? (i := 5) rfl) rfl
theorem w_1686 : (Jvm.Cond.code ({ cls := "StiltTownModel", name := "pass", desc := "()Z" } : Jvm.MethodName) prog_14_method_15_code (1 : Nat) (Option.some Jvm.ClassFile.FieldType.boolean)) ∈ bigW := tp_8 (List.mem_of_getElem? (i := 6) rfl) rfl
theorem w_1687 : (Jvm.Cond.methodLink "StiltTownModel" (299 : Nat) ({ cls := "StiltTownModel", name := "names", desc := "(II)Z" } : Jvm.MethodName)) ∈ bigW := tp_8 (List.mem_of_getElem? (i := 7) rfl) rfl
theorem w_1689 : (Jvm.Cond.instanceMethod ({ cls := "StiltTownModel", name := "names", desc := "(II)Z" } : Jvm.MethodName)) ∈ bigW := tp_8 (List.mem_of_getElem? (i := 9) rfl) rfl
theorem w_1690 : (Jvm.Cond.code ({ cls := "StiltTownModel", name := "names", desc := "(II)Z" } : Jvm.MethodName) prog_14_method_32_code (5 : Nat) (Option.some Jvm.ClassFile.FieldType.boolean)) ∈ bigW := tp_8 (List.mem_of_getElem? (i := 10) rfl) rfl
theorem w_1691 : (Jvm.Cond.methodLink "StiltTownModel" (234 : Nat) ({ cls := "StiltTownModel", name := "takes", desc := "(I)Z" } : Jvm.MethodName)) ∈ bigW := tp_8 (List.mem_of_getElem? (i := 11) rfl) rfl
theorem w_1693 : (Jvm.Cond.instanceMethod ({ cls := "StiltTownModel", name := "takes", desc := "(I)Z" } : Jvm.MethodName)) ∈ bigW := tp_8 (List.mem_of_getElem? (i := 13) rfl) rfl
theorem w_1694 : (Jvm.Cond.code ({ cls := "StiltTownModel", name := "takes", desc := "(I)Z" } : Jvm.MethodName) prog_14_method_18_code (2 : Nat) (Option.some Jvm.ClassFile.FieldType.boolean)) ∈ bigW := tp_8 (List.mem_of_getElem? (i := 14) rfl) rfl
theorem w_1695 : (Jvm.Cond.methodLink "StiltTownModel" (240 : Nat) ({ cls := "StiltTownModel", name := "tells", desc := "(II)V" } : Jvm.MethodName)) ∈ bigW := tp_8 (List.mem_of_getElem? (i := 15) rfl) rfl
theorem w_1697 : (Jvm.Cond.instanceMethod ({ cls := "StiltTownModel", name := "tells", desc := "(II)V" } : Jvm.MethodName)) ∈ bigW := tp_8 (List.mem_of_getElem? (i := 17) rfl) rfl
theorem w_1698 : (Jvm.Cond.code ({ cls := "StiltTownModel", name := "tells", desc := "(II)V" } : Jvm.MethodName) prog_14_method_14_code (4 : Nat) (Option.none : Option Jvm.ClassFile.FieldType)) ∈ bigW := tp_8 (List.mem_of_getElem? (i := 18) rfl) rfl
theorem w_1699 : (Jvm.Cond.methodLink "StiltTownModel" (302 : Nat) ({ cls := "StiltTownModel", name := "takesInt", desc := "(II)Z" } : Jvm.MethodName)) ∈ bigW := tp_8 (List.mem_of_getElem? (i := 19) rfl) rfl
theorem w_1701 : (Jvm.Cond.instanceMethod ({ cls := "StiltTownModel", name := "takesInt", desc := "(II)Z" } : Jvm.MethodName)) ∈ bigW := tp_8 (List.mem_of_getElem? (i := 21) rfl) rfl
theorem w_1702 : (Jvm.Cond.code ({ cls := "StiltTownModel", name := "takesInt", desc := "(II)Z" } : Jvm.MethodName) prog_14_method_19_code (4 : Nat) (Option.some Jvm.ClassFile.FieldType.boolean)) ∈ bigW := tp_8 (List.mem_of_getElem? (i := 22) rfl) rfl
theorem w_1703 : (Jvm.Cond.methodLink "StiltTownModel" (314 : Nat) ({ cls := "StiltTownModel", name := "tellOffice", desc := "()Z" } : Jvm.MethodName)) ∈ bigW := tp_8 (List.mem_of_getElem? (i := 23) rfl) rfl
theorem w_1705 : (Jvm.Cond.instanceMethod ({ cls := "StiltTownModel", name := "tellOffice", desc := "()Z" } : Jvm.MethodName)) ∈ bigW := tp_8 (List.mem_of_getElem? (i := 25) rfl) rfl
theorem w_1706 : (Jvm.Cond.code ({ cls := "StiltTownModel", name := "tellOffice", desc := "()Z" } : Jvm.MethodName) prog_14_method_36_code (3 : Nat) (Option.some Jvm.ClassFile.FieldType.boolean)) ∈ bigW := tp_8 (List.mem_of_getElem? (i := 26) rfl) rfl
theorem w_1707 : (Jvm.Cond.methodLink "StiltTownModel" (317 : Nat) ({ cls := "StiltTownModel", name := "tellIn", desc := "()Z" } : Jvm.MethodName)) ∈ bigW := tp_8 (List.mem_of_getElem? (i := 27) rfl) rfl
theorem w_1709 : (Jvm.Cond.instanceMethod ({ cls := "StiltTownModel", name := "tellIn", desc := "()Z" } : Jvm.MethodName)) ∈ bigW := tp_8 (List.mem_of_getElem? (i := 29) rfl) rfl
theorem w_1710 : (Jvm.Cond.code ({ cls := "StiltTownModel", name := "tellIn", desc := "()Z" } : Jvm.MethodName) prog_14_method_37_code (2 : Nat) (Option.some Jvm.ClassFile.FieldType.boolean)) ∈ bigW := tp_8 (List.mem_of_getElem? (i := 30) rfl) rfl
theorem w_1711 : (Jvm.Cond.methodLink "StiltTownModel" (305 : Nat) ({ cls := "StiltTownModel", name := "takesName", desc := "(I)Z" } : Jvm.MethodName)) ∈ bigW := tp_8 (List.mem_of_getElem? (i := 31) rfl) rfl
theorem w_1713 : (Jvm.Cond.instanceMethod ({ cls := "StiltTownModel", name := "takesName", desc := "(I)Z" } : Jvm.MethodName)) ∈ bigW := tp_8 (List.mem_of_getElem? (i := 33) rfl) rfl
theorem w_1714 : (Jvm.Cond.code ({ cls := "StiltTownModel", name := "takesName", desc := "(I)Z" } : Jvm.MethodName) prog_14_method_33_code (4 : Nat) (Option.some Jvm.ClassFile.FieldType.boolean)) ∈ bigW := tp_8 (List.mem_of_getElem? (i := 34) rfl) rfl
theorem w_1715 : (Jvm.Cond.methodLink "StiltTownModel" (320 : Nat) ({ cls := "StiltTownModel", name := "tellStair", desc := "()Z" } : Jvm.MethodName)) ∈ bigW := tp_8 (List.mem_of_getElem? (i := 35) rfl) rfl
theorem w_1717 : (Jvm.Cond.instanceMethod ({ cls := "StiltTownModel", name := "tellStair", desc := "()Z" } : Jvm.MethodName)) ∈ bigW := tp_8 (List.mem_of_getElem? (i := 37) rfl) rfl
theorem w_1718 : (Jvm.Cond.code ({ cls := "StiltTownModel", name := "tellStair", desc := "()Z" } : Jvm.MethodName) prog_14_method_38_code (3 : Nat) (Option.some Jvm.ClassFile.FieldType.boolean)) ∈ bigW := tp_8 (List.mem_of_getElem? (i := 38) rfl) rfl
theorem w_1719 : (Jvm.Cond.methodLink "StiltTownModel" (271 : Nat) ({ cls := "StiltTownModel", name := "isWord", desc := "(I)Z" } : Jvm.MethodName)) ∈ bigW := tp_8 (List.mem_of_getElem? (i := 39) rfl) rfl
theorem w_1721 : (Jvm.Cond.instanceMethod ({ cls := "StiltTownModel", name := "isWord", desc := "(I)Z" } : Jvm.MethodName)) ∈ bigW := tp_8 (List.mem_of_getElem? (i := 41) rfl) rfl
theorem w_1722 : (Jvm.Cond.code ({ cls := "StiltTownModel", name := "isWord", desc := "(I)Z" } : Jvm.MethodName) prog_14_method_17_code (2 : Nat) (Option.some Jvm.ClassFile.FieldType.boolean)) ∈ bigW := tp_8 (List.mem_of_getElem? (i := 42) rfl) rfl
theorem w_1723 : (Jvm.Cond.methodLink "StiltTownModel" (323 : Nat) ({ cls := "StiltTownModel", name := "tellQuay", desc := "()Z" } : Jvm.MethodName)) ∈ bigW := tp_8 (List.mem_of_getElem? (i := 43) rfl) rfl
theorem w_1725 : (Jvm.Cond.instanceMethod ({ cls := "StiltTownModel", name := "tellQuay", desc := "()Z" } : Jvm.MethodName)) ∈ bigW := tp_8 (List.mem_of_getElem? (i := 45) rfl) rfl
theorem w_1726 : (Jvm.Cond.code ({ cls := "StiltTownModel", name := "tellQuay", desc := "()Z" } : Jvm.MethodName) prog_14_method_39_code (2 : Nat) (Option.some Jvm.ClassFile.FieldType.boolean)) ∈ bigW := tp_8 (List.mem_of_getElem? (i := 46) rfl) rfl
theorem w_1727 : (Jvm.Cond.methodLink "StiltTownModel" (326 : Nat) ({ cls := "StiltTownModel", name := "tellWood", desc := "()Z" } : Jvm.MethodName)) ∈ bigW := tp_8 (List.mem_of_getElem? (i := 47) rfl) rfl
theorem w_1729 : (Jvm.Cond.instanceMethod ({ cls := "StiltTownModel", name := "tellWood", desc := "()Z" } : Jvm.MethodName)) ∈ bigW := tp_8 (List.mem_of_getElem? (i := 49) rfl) rfl
theorem w_1730 : (Jvm.Cond.code ({ cls := "StiltTownModel", name := "tellWood", desc := "()Z" } : Jvm.MethodName) prog_14_method_40_code (2 : Nat) (Option.some Jvm.ClassFile.FieldType.boolean)) ∈ bigW := tp_8 (List.mem_of_getElem? (i := 50) rfl) rfl
theorem w_1731 : (Jvm.Cond.methodLink "StiltTownModel" (329 : Nat) ({ cls := "StiltTownModel", name := "tellNumber", desc := "(II)Z" } : Jvm.MethodName)) ∈ bigW := tp_8 (List.mem_of_getElem? (i := 51) rfl) rfl
theorem w_1733 : (Jvm.Cond.instanceMethod ({ cls := "StiltTownModel", name := "tellNumber", desc := "(II)Z" } : Jvm.MethodName)) ∈ bigW := tp_8 (List.mem_of_getElem? (i := 53) rfl) rfl
theorem w_1734 : (Jvm.Cond.code ({ cls := "StiltTownModel", name := "tellNumber", desc := "(II)Z" } : Jvm.MethodName) prog_14_method_41_code (3 : Nat) (Option.some Jvm.ClassFile.FieldType.boolean)) ∈ bigW := tp_8 (List.mem_of_getElem? (i := 54) rfl) rfl
theorem w_1735 : (Jvm.Cond.methodLink "StiltTownModel" (332 : Nat) ({ cls := "StiltTownModel", name := "tellLaw", desc := "(I)Z" } : Jvm.MethodName)) ∈ bigW := tp_8 (List.mem_of_getElem? (i := 55) rfl) rfl
theorem w_1737 : (Jvm.Cond.instanceMethod ({ cls := "StiltTownModel", name := "tellLaw", desc := "(I)Z" } : Jvm.MethodName)) ∈ bigW := tp_8 (List.mem_of_getElem? (i := 57) rfl) rfl
theorem w_1738 : (Jvm.Cond.code ({ cls := "StiltTownModel", name := "tellLaw", desc := "(I)Z" } : Jvm.MethodName) prog_14_method_42_code (2 : Nat) (Option.some Jvm.ClassFile.FieldType.boolean)) ∈ bigW := tp_8 (List.mem_of_getElem? (i := 58) rfl) rfl
theorem w_1739 : (Jvm.Cond.methodLink "StiltTownModel" (256 : Nat) ({ cls := "StiltTownModel", name := "isSign", desc := "(I)Z" } : Jvm.MethodName)) ∈ bigW := tp_8 (List.mem_of_getElem? (i := 59) rfl) rfl
theorem w_1741 : (Jvm.Cond.instanceMethod ({ cls := "StiltTownModel", name := "isSign", desc := "(I)Z" } : Jvm.MethodName)) ∈ bigW := tp_8 (List.mem_of_getElem? (i := 61) rfl) rfl
theorem w_1742 : (Jvm.Cond.code ({ cls := "StiltTownModel", name := "isSign", desc := "(I)Z" } : Jvm.MethodName) prog_14_method_16_code (2 : Nat) (Option.some Jvm.ClassFile.FieldType.boolean)) ∈ bigW := tp_8 (List.mem_of_getElem? (i := 62) rfl) rfl
theorem w_1743 : (Jvm.Cond.methodLink "StiltTownModel" (274 : Nat) ({ cls := "StiltTownModel", name := "expr", desc := "()Z" } : Jvm.MethodName)) ∈ bigW := tp_8 (List.mem_of_getElem? (i := 63) rfl) rfl
theorem w_1745 : (Jvm.Cond.instanceMethod ({ cls := "StiltTownModel", name := "expr", desc := "()Z" } : Jvm.MethodName)) ∈ bigW := tp_8 (List.mem_of_getElem? (i := 65) rfl) rfl
theorem w_1746 : (Jvm.Cond.code ({ cls := "StiltTownModel", name := "expr", desc := "()Z" } : Jvm.MethodName) prog_14_method_25_code (5 : Nat) (Option.some Jvm.ClassFile.FieldType.boolean)) ∈ bigW := tp_8 (List.mem_of_getElem? (i := 66) rfl) rfl
theorem w_1747 : (Jvm.Cond.methodLink "StiltTownModel" (259 : Nat) ({ cls := "StiltTownModel", name := "await", desc := "(I)V" } : Jvm.MethodName)) ∈ bigW := tp_8 (List.mem_of_getElem? (i := 67) rfl) rfl
theorem w_1749 : (Jvm.Cond.instanceMethod ({ cls := "StiltTownModel", name := "await", desc := "(I)V" } : Jvm.MethodName)) ∈ bigW := tp_8 (List.mem_of_getElem? (i := 69) rfl) rfl
theorem w_1750 : (Jvm.Cond.code ({ cls := "StiltTownModel", name := "await", desc := "(I)V" } : Jvm.MethodName) prog_14_method_23_code (2 : Nat) (Option.none : Option Jvm.ClassFile.FieldType)) ∈ bigW := tp_8 (List.mem_of_getElem? (i := 70) rfl) rfl
theorem w_1751 : (Jvm.Cond.methodLink "StiltTownModel" (262 : Nat) ({ cls := "StiltTownModel", name := "variableOf", desc := "(I)I" } : Jvm.MethodName)) ∈ bigW := tp_8 (List.mem_of_getElem? (i := 71) rfl) rfl
theorem w_1752 : (Jvm.Cond.static ({ cls := "StiltTownModel", name := "variableOf", desc := "(I)I" } : Jvm.MethodName)) ∈ bigW := tp_8 (List.mem_of_getElem? (i := 72) rfl) rfl
theorem w_1753 : (Jvm.Cond.code ({ cls := "StiltTownModel", name := "variableOf", desc := "(I)I" } : Jvm.MethodName) prog_14_method_24_code (1 : Nat) (Option.some Jvm.ClassFile.FieldType.int)) ∈ bigW := tp_8 (List.mem_of_getElem? (i := 73) rfl) rfl
theorem w_1754 : (Jvm.Cond.methodLink "StiltTownModel" (250 : Nat) ({ cls := "StiltTownModel", name := "emit", desc := "(II)V" } : Jvm.MethodName)) ∈ bigW := tp_8 (List.mem_of_getElem? (i := 74) rfl) rfl
theorem w_1756 : (Jvm.Cond.instanceMethod ({ cls := "StiltTownModel", name := "emit", desc := "(II)V" } : Jvm.MethodName)) ∈ bigW := tp_8 (List.mem_of_getElem? (i := 76) rfl) rfl
theorem w_1757 : (Jvm.Cond.code ({ cls := "StiltTownModel", name := "emit", desc := "(II)V" } : Jvm.MethodName) prog_14_method_20_code (3 : Nat) (Option.none : Option Jvm.ClassFile.FieldType)) ∈ bigW := tp_8 (List.mem_of_getElem? (i := 77) rfl) rfl
theorem w_1758 : (Jvm.Cond.methodLink "StiltTownModel" (265 : Nat) ({ cls := "StiltTownModel", name := "reduce", desc := "(II)V" } : Jvm.MethodName)) ∈ bigW := tp_8 (List.mem_of_getElem? (i := 78) rfl) rfl
theorem w_1760 : (Jvm.Cond.instanceMethod ({ cls := "StiltTownModel", name := "reduce", desc := "(II)V" } : Jvm.MethodName)) ∈ bigW := tp_8 (List.mem_of_getElem? (i := 80) rfl) rfl
theorem w_1761 : (Jvm.Cond.code ({ cls := "StiltTownModel", name := "reduce", desc := "(II)V" } : Jvm.MethodName) prog_14_method_22_code (3 : Nat) (Option.none : Option Jvm.ClassFile.FieldType)) ∈ bigW := tp_8 (List.mem_of_getElem? (i := 81) rfl) rfl
theorem w_1762 : (Jvm.Cond.methodLink "StiltTownModel" (247 : Nat) ({ cls := "StiltTownModel", name := "rank", desc := "(I)I" } : Jvm.MethodName)) ∈ bigW := tp_8 (List.mem_of_getElem? (i := 82) rfl) rfl
theorem w_1763 : (Jvm.Cond.static ({ cls := "StiltTownModel", name := "rank", desc := "(I)I" } : Jvm.MethodName)) ∈ bigW := tp_8 (List.mem_of_getElem? (i := 83) rfl) rfl
theorem w_1764 : (Jvm.Cond.code ({ cls := "StiltTownModel", name := "rank", desc := "(I)I" } : Jvm.MethodName) prog_14_method_21_code (1 : Nat) (Option.some Jvm.ClassFile.FieldType.int)) ∈ bigW := tp_8 (List.mem_of_getElem? (i := 84) rfl) rfl
theorem w_1765 : (Jvm.Cond.methodLink "StiltTownModel" (335 : Nat) ({ cls := "StiltTownModel", name := "tellRule", desc := "(II)Z" } : Jvm.MethodName)) ∈ bigW := tp_8 (List.mem_of_getElem? (i := 85) rfl) rfl
theorem w_1767 : (Jvm.Cond.instanceMethod ({ cls := "StiltTownModel", name := "tellRule", desc := "(II)Z" } : Jvm.MethodName)) ∈ bigW := tp_8 (List.mem_of_getElem? (i := 87) rfl) rfl
theorem w_1768 : (Jvm.Cond.code ({ cls := "StiltTownModel", name := "tellRule", desc := "(II)Z" } : Jvm.MethodName) prog_14_method_43_code (4 : Nat) (Option.some Jvm.ClassFile.FieldType.boolean)) ∈ bigW := tp_8 (List.mem_of_getElem? (i := 88) rfl) rfl
theorem w_1769 : (Jvm.Cond.methodLink "StiltTownModel" (308 : Nat) ({ cls := "StiltTownModel", name := "cond", desc := "()Z" } : Jvm.MethodName)) ∈ bigW := tp_8 (List.mem_of_getElem? (i := 89) rfl) rfl
theorem w_1771 : (Jvm.Cond.instanceMethod ({ cls := "StiltTownModel", name := "cond", desc := "()Z" } : Jvm.MethodName)) ∈ bigW := tp_8 (List.mem_of_getElem? (i := 91) rfl) rfl
theorem w_1772 : (Jvm.Cond.code ({ cls := "StiltTownModel", name := "cond", desc := "()Z" } : Jvm.MethodName) prog_14_method_26_code (6 : Nat) (Option.some Jvm.ClassFile.FieldType.boolean)) ∈ bigW := tp_8 (List.mem_of_getElem? (i := 92) rfl) rfl
theorem w_1773 : (Jvm.Cond.methodLink "StiltTownModel" (347 : Nat) ({ cls := "StiltTownModel", name := "takesHold", desc := "()V" } : Jvm.MethodName)) ∈ bigW := tp_8 (List.mem_of_getElem? (i := 93) rfl) rfl
theorem w_1775 : (Jvm.Cond.instanceMethod ({ cls := "StiltTownModel", name := "takesHold", desc := "()V" } : Jvm.MethodName)) ∈ bigW := tp_8 (List.mem_of_getElem? (i := 95) rfl) rfl
theorem w_1776 : (Jvm.Cond.code ({ cls := "StiltTownModel", name := "takesHold", desc := "()V" } : Jvm.MethodName) prog_14_method_30_code (2 : Nat) (Option.none : Option Jvm.ClassFile.FieldType)) ∈ bigW := tp_8 (List.mem_of_getElem? (i := 96) rfl) rfl
theorem w_1777 : (Jvm.Cond.methodLink "StiltTownLaw" (31 : Nat) ({ cls := "StiltTownModel", name := "place", desc := "()I" } : Jvm.MethodName)) ∈ bigW := tp_8 (List.mem_of_getElem? (i := 97) rfl) rfl
theorem w_1778 : (Jvm.Cond.instanceMethod ({ cls := "StiltTownModel", name := "place", desc := "()I" } : Jvm.MethodName)) ∈ bigW := tp_8 (List.mem_of_getElem? (i := 98) rfl) rfl
theorem w_1779 : (Jvm.Cond.selects "StiltTownModel" ({ cls := "StiltTownModel", name := "place", desc := "()I" } : Jvm.MethodName) ({ cls := "StiltTownModel", name := "place", desc := "()I" } : Jvm.MethodName)) ∈ bigW := tp_8 (List.mem_of_getElem? (i := 99) rfl) rfl
theorem w_1780 : (Jvm.Cond.code ({ cls := "StiltTownModel", name := "place", desc := "()I" } : Jvm.MethodName) prog_14_method_47_code (1 : Nat) (Option.some Jvm.ClassFile.FieldType.int)) ∈ bigW := tp_8 (List.mem_of_getElem? (i := 100) rfl) rfl
theorem w_1781 : (Jvm.Cond.methodLink "StiltTownLaw" (36 : Nat) ({ cls := "StiltTownModel", name := "house", desc := "(II)I" } : Jvm.MethodName)) ∈ bigW := tp_8 (List.mem_of_getElem? (i := 101) rfl) rfl
theorem w_1782 : (Jvm.Cond.instanceMethod ({ cls := "StiltTownModel", name := "house", desc := "(II)I" } : Jvm.MethodName)) ∈ bigW := tp_8 (List.mem_of_getElem? (i := 102) rfl) rfl
theorem w_1783 : (Jvm.Cond.selects "StiltTownModel" ({ cls := "StiltTownModel", name := "house", desc := "(II)I" } : Jvm.MethodName) ({ cls := "StiltTownModel", name := "house", desc := "(II)I" } : Jvm.MethodName)) ∈ bigW := tp_8 (List.mem_of_getElem? (i := 103) rfl) rfl
theorem w_1784 : (Jvm.Cond.code ({ cls := "StiltTownModel", name := "house", desc := "(II)I" } : Jvm.MethodName) prog_14_method_61_code (3 : Nat) (Option.some Jvm.ClassFile.FieldType.int)) ∈ bigW := tp_8 (List.mem_of_getElem? (i := 104) rfl) rfl
theorem w_1785 : (Jvm.Cond.methodLink "StiltTownModel" (377 : Nat) ({ cls := "StiltTownModel", name := "isHouse", desc := "(I)Z" } : Jvm.MethodName)) ∈ bigW := tp_8 (List.mem_of_getElem? (i := 105) rfl) rfl
theorem w_1787 : (Jvm.Cond.instanceMethod ({ cls := "StiltTownModel", name := "isHouse", desc := "(I)Z" } : Jvm.MethodName)) ∈ bigW := tp_8 (List.mem_of_getElem? (i := 107) rfl) rfl
theorem w_1788 : (Jvm.Cond.code ({ cls := "StiltTownModel", name := "isHouse", desc := "(I)Z" } : Jvm.MethodName) prog_14_method_55_code (2 : Nat) (Option.some Jvm.ClassFile.FieldType.boolean)) ∈ bigW := tp_8 (List.mem_of_getElem? (i := 108) rfl) rfl
theorem w_1789 : (Jvm.Cond.methodLink "StiltTownModel" (371 : Nat) ({ cls := "StiltTownModel", name := "xOf", desc := "(I)I" } : Jvm.MethodName)) ∈ bigW := tp_8 (List.mem_of_getElem? (i := 109) rfl) rfl
theorem w_1791 : (Jvm.Cond.instanceMethod ({ cls := "StiltTownModel", name := "xOf", desc := "(I)I" } : Jvm.MethodName)) ∈ bigW := tp_8 (List.mem_of_getElem? (i := 111) rfl) rfl
theorem w_1792 : (Jvm.Cond.code ({ cls := "StiltTownModel", name := "xOf", desc := "(I)I" } : Jvm.MethodName) prog_14_method_57_code (2 : Nat) (Option.some Jvm.ClassFile.FieldType.int)) ∈ bigW := tp_8 (List.mem_of_getElem? (i := 112) rfl) rfl
theorem w_1793 : (Jvm.Cond.methodLink "StiltTownModel" (380 : Nat) ({ cls := "StiltTownModel", name := "heightOf", desc := "(I)I" } : Jvm.MethodName)) ∈ bigW := tp_8 (List.mem_of_getElem? (i := 113) rfl) rfl
theorem w_1795 : (Jvm.Cond.instanceMethod ({ cls := "StiltTownModel", name := "heightOf", desc := "(I)I" } : Jvm.MethodName)) ∈ bigW := tp_8 (List.mem_of_getElem? (i := 115) rfl) rfl
theorem w_1796 : (Jvm.Cond.code ({ cls := "StiltTownModel", name := "heightOf", desc := "(I)I" } : Jvm.MethodName) prog_14_method_58_code (2 : Nat) (Option.some Jvm.ClassFile.FieldType.int)) ∈ bigW := tp_8 (List.mem_of_getElem? (i := 116) rfl) rfl
theorem w_1797 : (Jvm.Cond.methodLink "StiltTownModel" (368 : Nat) ({ cls := "StiltTownModel", name := "rankOf", desc := "(I)I" } : Jvm.MethodName)) ∈ bigW := tp_8 (List.mem_of_getElem? (i := 117) rfl) rfl
theorem w_1799 : (Jvm.Cond.instanceMethod ({ cls := "StiltTownModel", name := "rankOf", desc := "(I)I" } : Jvm.MethodName)) ∈ bigW := tp_8 (List.mem_of_getElem? (i := 119) rfl) rfl
theorem w_1800 : (Jvm.Cond.code ({ cls := "StiltTownModel", name := "rankOf", desc := "(I)I" } : Jvm.MethodName) prog_14_method_59_code (3 : Nat) (Option.some Jvm.ClassFile.FieldType.int)) ∈ bigW := tp_8 (List.mem_of_getElem? (i := 120) rfl) rfl
theorem w_1801 : (Jvm.Cond.methodLink "StiltTownModel" (383 : Nat) ({ cls := "StiltTownModel", name := "dueOf", desc := "(I)I" } : Jvm.MethodName)) ∈ bigW := tp_8 (List.mem_of_getElem? (i := 121) rfl) rfl
theorem w_1803 : (Jvm.Cond.instanceMethod ({ cls := "StiltTownModel", name := "dueOf", desc := "(I)I" } : Jvm.MethodName)) ∈ bigW := tp_8 (List.mem_of_getElem? (i := 123) rfl) rfl
theorem w_1804 : (Jvm.Cond.code ({ cls := "StiltTownModel", name := "dueOf", desc := "(I)I" } : Jvm.MethodName) prog_14_method_60_code (2 : Nat) (Option.some Jvm.ClassFile.FieldType.int)) ∈ bigW := tp_8 (List.mem_of_getElem? (i := 124) rfl) rfl
theorem w_1805 : (Jvm.Cond.methodLink "StiltTownModel" (365 : Nat) ({ cls := "StiltTownModel", name := "askNone", desc := "()V" } : Jvm.MethodName)) ∈ bigW := tp_8 (List.mem_of_getElem? (i := 125) rfl) rfl
theorem w_1807 : (Jvm.Cond.instanceMethod ({ cls := "StiltTownModel", name := "askNone", desc := "()V" } : Jvm.MethodName)) ∈ bigW := tp_8 (List.mem_of_getElem? (i := 127) rfl) rfl
theorem w_1808 : (Jvm.Cond.code ({ cls := "StiltTownModel", name := "askNone", desc := "()V" } : Jvm.MethodName) prog_14_method_53_code (2 : Nat) (Option.none : Option Jvm.ClassFile.FieldType)) ∈ bigW := tp_8 (List.mem_of_getElem? (i := 128) rfl) rfl
theorem w_1809 : (Jvm.Cond.methodLink "StiltTownModel" (374 : Nat) ({ cls := "StiltTownModel", name := "says", desc := "(II)I" } : Jvm.MethodName)) ∈ bigW := tp_8 (List.mem_of_getElem? (i := 129) rfl) rfl
theorem w_1811 : (Jvm.Cond.instanceMethod ({ cls := "StiltTownModel", name := "says", desc := "(II)I" } : Jvm.MethodName)) ∈ bigW := tp_8 (List.mem_of_getElem? (i := 131) rfl) rfl
theorem w_1812 : (Jvm.Cond.code ({ cls := "StiltTownModel", name := "says", desc := "(II)I" } : Jvm.MethodName) prog_14_method_52_code (3 : Nat) (Option.some Jvm.ClassFile.FieldType.int)) ∈ bigW := tp_8 (List.mem_of_getElem? (i := 132) rfl) rfl
theorem w_1813 : (Jvm.Cond.methodLink "StiltTownModel" (354 : Nat) ({ cls := "StiltTownModel", name := "sum", desc := "(II)I" } : Jvm.MethodName)) ∈ bigW := tp_8 (List.mem_of_getElem? (i := 133) rfl) rfl
theorem w_1815 : (Jvm.Cond.instanceMethod ({ cls := "StiltTownModel", name := "sum", desc := "(II)I" } : Jvm.MethodName)) ∈ bigW := tp_8 (List.mem_of_getElem? (i := 135) rfl) rfl
theorem w_1816 : (Jvm.Cond.code ({ cls := "StiltTownModel", name := "sum", desc := "(II)I" } : Jvm.MethodName) prog_14_method_48_code (8 : Nat) (Option.some Jvm.ClassFile.FieldType.int)) ∈ bigW := tp_8 (List.mem_of_getElem? (i := 136) rfl) rfl
theorem w_1817 : (Jvm.Cond.methodLink "StiltTownModel" (361 : Nat) ({ cls := "StiltTownModel", name := "within", desc := "(III)I" } : Jvm.MethodName)) ∈ bigW := tp_8 (List.mem_of_getElem? (i := 137) rfl) rfl
theorem w_1818 : (Jvm.Cond.static ({ cls := "StiltTownModel", name := "within", desc := "(III)I" } : Jvm.MethodName)) ∈ bigW := tp_8 (List.mem_of_getElem? (i := 138) rfl) rfl
theorem w_1819 : (Jvm.Cond.code ({ cls := "StiltTownModel", name := "within", desc := "(III)I" } : Jvm.MethodName) prog_14_method_51_code (3 : Nat) (Option.some Jvm.ClassFile.FieldType.int)) ∈ bigW := tp_8 (List.mem_of_getElem? (i := 139) rfl) rfl
theorem w_1820 : (Jvm.Cond.methodLink "StiltTownLaw" (41 : Nat) ({ cls := "StiltTownModel", name := "give", desc := "(II)Z" } : Jvm.MethodName)) ∈ bigW := tp_8 (List.mem_of_getElem? (i := 140) rfl) rfl
theorem w_1821 : (Jvm.Cond.instanceMethod ({ cls := "StiltTownModel", name := "give", desc := "(II)Z" } : Jvm.MethodName)) ∈ bigW := tp_8 (List.mem_of_getElem? (i := 141) rfl) rfl
theorem w_1822 : (Jvm.Cond.selects "StiltTownModel" ({ cls := "StiltTownModel", name := "give", desc := "(II)Z" } : Jvm.MethodName) ({ cls := "StiltTownModel", name := "give", desc := "(II)Z" } : Jvm.MethodName)) ∈ bigW := tp_8 (List.mem_of_getElem? (i := 142) rfl) rfl
theorem w_1823 : (Jvm.Cond.code ({ cls := "StiltTownModel", name := "give", desc := "(II)Z" } : Jvm.MethodName) prog_14_method_64_code (3 : Nat) (Option.some Jvm.ClassFile.FieldType.boolean)) ∈ bigW := tp_8 (List.mem_of_getElem? (i := 143) rfl) rfl
theorem w_1824 : (Jvm.Cond.methodLink "StiltTownModel" (389 : Nat) ({ cls := "StiltTownModel", name := "isOffice", desc := "(I)Z" } : Jvm.MethodName)) ∈ bigW := tp_8 (List.mem_of_getElem? (i := 144) rfl) rfl
theorem w_1826 : (Jvm.Cond.instanceMethod ({ cls := "StiltTownModel", name := "isOffice", desc := "(I)Z" } : Jvm.MethodName)) ∈ bigW := tp_8 (List.mem_of_getElem? (i := 146) rfl) rfl
theorem w_1827 : (Jvm.Cond.code ({ cls := "StiltTownModel", name := "isOffice", desc := "(I)Z" } : Jvm.MethodName) prog_14_method_56_code (2 : Nat) (Option.some Jvm.ClassFile.FieldType.boolean)) ∈ bigW := tp_8 (List.mem_of_getElem? (i := 147) rfl) rfl
theorem w_1828 : (Jvm.Cond.methodLink "StiltTownLaw" (45 : Nat) ({ cls := "StiltTownModel", name := "holder", desc := "(I)I" } : Jvm.MethodName)) ∈ bigW := tp_8 (List.mem_of_getElem? (i := 148) rfl) rfl
theorem w_1829 : (Jvm.Cond.instanceMethod ({ cls := "StiltTownModel", name := "holder", desc := "(I)I" } : Jvm.MethodName)) ∈ bigW := tp_8 (List.mem_of_getElem? (i := 149) rfl) rfl
theorem w_1830 : (Jvm.Cond.selects "StiltTownModel" ({ cls := "StiltTownModel", name := "holder", desc := "(I)I" } : Jvm.MethodName) ({ cls := "StiltTownModel", name := "holder", desc := "(I)I" } : Jvm.MethodName)) ∈ bigW := tp_8 (List.mem_of_getElem? (i := 150) rfl) rfl
theorem w_1831 : (Jvm.Cond.code ({ cls := "StiltTownModel", name := "holder", desc := "(I)I" } : Jvm.MethodName) prog_14_method_65_code (2 : Nat) (Option.some Jvm.ClassFile.FieldType.int)) ∈ bigW := tp_8 (List.mem_of_getElem? (i := 151) rfl) rfl
theorem w_1832 : (Jvm.Cond.methodLink "StiltTownLaw" (49 : Nat) ({ cls := "StiltTownModel", name := "months", desc := "(I)I" } : Jvm.MethodName)) ∈ bigW := tp_8 (List.mem_of_getElem? (i := 152) rfl) rfl
theorem w_1833 : (Jvm.Cond.instanceMethod ({ cls := "StiltTownModel", name := "months", desc := "(I)I" } : Jvm.MethodName)) ∈ bigW := tp_8 (List.mem_of_getElem? (i := 153) rfl) rfl
theorem w_1834 : (Jvm.Cond.selects "StiltTownModel" ({ cls := "StiltTownModel", name := "months", desc := "(I)I" } : Jvm.MethodName) ({ cls := "StiltTownModel", name := "months", desc := "(I)I" } : Jvm.MethodName)) ∈ bigW := tp_8 (List.mem_of_getElem? (i := 154) rfl) rfl
theorem w_1835 : (Jvm.Cond.code ({ cls := "StiltTownModel", name := "months", desc := "(I)I" } : Jvm.MethodName) prog_14_method_66_code (2 : Nat) (Option.some Jvm.ClassFile.FieldType.int)) ∈ bigW := tp_8 (List.mem_of_getElem? (i := 155) rfl) rfl
theorem w_1836 : (Jvm.Cond.methodLink "StiltTownModel" (392 : Nat) ({ cls := "StiltTownModel", name := "isIn", desc := "(III)Z" } : Jvm.MethodName)) ∈ bigW := tp_8 (List.mem_of_getElem? (i := 156) rfl) rfl
theorem w_1837 : (Jvm.Cond.static ({ cls := "StiltTownModel", name := "isIn", desc := "(III)Z" } : Jvm.MethodName)) ∈ bigW := tp_8 (List.mem_of_getElem? (i := 157) rfl) rfl
theorem w_1838 : (Jvm.Cond.code ({ cls := "StiltTownModel", name := "isIn", desc := "(III)Z" } : Jvm.MethodName) prog_14_method_54_code (3 : Nat) (Option.some Jvm.ClassFile.FieldType.boolean)) ∈ bigW := tp_8 (List.mem_of_getElem? (i := 158) rfl) rfl
theorem w_1839 : (Jvm.Cond.methodLink "StiltTownLaw" (53 : Nat) ({ cls := "StiltTownModel", name := "tide", desc := "(I)I" } : Jvm.MethodName)) ∈ bigW := tp_8 (List.mem_of_getElem? (i := 159) rfl) rfl
theorem w_1840 : (Jvm.Cond.instanceMethod ({ cls := "StiltTownModel", name := "tide", desc := "(I)I" } : Jvm.MethodName)) ∈ bigW := tp_8 (List.mem_of_getElem? (i := 160) rfl) rfl
theorem w_1841 : (Jvm.Cond.selects "StiltTownModel" ({ cls := "StiltTownModel", name := "tide", desc := "(I)I" } : Jvm.MethodName) ({ cls := "StiltTownModel", name := "tide", desc := "(I)I" } : Jvm.MethodName)) ∈ bigW := tp_8 (List.mem_of_getElem? (i := 161) rfl) rfl
theorem w_1842 : (Jvm.Cond.code ({ cls := "StiltTownModel", name := "tide", desc := "(I)I" } : Jvm.MethodName) prog_14_method_69_code (2 : Nat) (Option.some Jvm.ClassFile.FieldType.int)) ∈ bigW := tp_8 (List.mem_of_getElem? (i := 162) rfl) rfl
theorem w_1843 : (Jvm.Cond.methodLink "StiltTownModel" (396 : Nat) ({ cls := "StiltTownModel", name := "isHour", desc := "(I)Z" } : Jvm.MethodName)) ∈ bigW := tp_8 (List.mem_of_getElem? (i := 163) rfl) rfl
theorem w_1844 : (Jvm.Cond.static ({ cls := "StiltTownModel", name := "isHour", desc := "(I)Z" } : Jvm.MethodName)) ∈ bigW := tp_8 (List.mem_of_getElem? (i := 164) rfl) rfl
theorem w_1845 : (Jvm.Cond.code ({ cls := "StiltTownModel", name := "isHour", desc := "(I)Z" } : Jvm.MethodName) prog_14_method_68_code (1 : Nat) (Option.some Jvm.ClassFile.FieldType.boolean)) ∈ bigW := tp_8 (List.mem_of_getElem? (i := 165) rfl) rfl
theorem w_1846 : (Jvm.Cond.methodLink "StiltTownModel" (399 : Nat) ({ cls := "StiltTownModel", name := "tideOf", desc := "(I)I" } : Jvm.MethodName)) ∈ bigW := tp_8 (List.mem_of_getElem? (i := 166) rfl) rfl
theorem w_1848 : (Jvm.Cond.instanceMethod ({ cls := "StiltTownModel", name := "tideOf", desc := "(I)I" } : Jvm.MethodName)) ∈ bigW := tp_8 (List.mem_of_getElem? (i := 168) rfl) rfl
theorem w_1849 : (Jvm.Cond.code ({ cls := "StiltTownModel", name := "tideOf", desc := "(I)I" } : Jvm.MethodName) prog_14_method_67_code (2 : Nat) (Option.some Jvm.ClassFile.FieldType.int)) ∈ bigW := tp_8 (List.mem_of_getElem? (i := 169) rfl) rfl
theorem w_1850 : (Jvm.Cond.methodLink "StiltTownLaw" (57 : Nat) ({ cls := "StiltTownModel", name := "wet", desc := "(I)I" } : Jvm.MethodName)) ∈ bigW := tp_8 (List.mem_of_getElem? (i := 170) rfl) rfl
theorem w_1851 : (Jvm.Cond.instanceMethod ({ cls := "StiltTownModel", name := "wet", desc := "(I)I" } : Jvm.MethodName)) ∈ bigW := tp_8 (List.mem_of_getElem? (i := 171) rfl) rfl
theorem w_1852 : (Jvm.Cond.selects "StiltTownModel" ({ cls := "StiltTownModel", name := "wet", desc := "(I)I" } : Jvm.MethodName) ({ cls := "StiltTownModel", name := "wet", desc := "(I)I" } : Jvm.MethodName)) ∈ bigW := tp_8 (List.mem_of_getElem? (i := 172) rfl) rfl
theorem w_1853 : (Jvm.Cond.code ({ cls := "StiltTownModel", name := "wet", desc := "(I)I" } : Jvm.MethodName) prog_14_method_70_code (5 : Nat) (Option.some Jvm.ClassFile.FieldType.int)) ∈ bigW := tp_8 (List.mem_of_getElem? (i := 173) rfl) rfl
theorem w_1854 : (Jvm.Cond.methodLink "StiltTownLaw" (61 : Nat) ({ cls := "StiltTownModel", name := "reached", desc := "(I)I" } : Jvm.MethodName)) ∈ bigW := tp_8 (List.mem_of_getElem? (i := 174) rfl) rfl
theorem w_1855 : (Jvm.Cond.instanceMethod ({ cls := "StiltTownModel", name := "reached", desc := "(I)I" } : Jvm.MethodName)) ∈ bigW := tp_8 (List.mem_of_getElem? (i := 175) rfl) rfl
theorem w_1856 : (Jvm.Cond.selects "StiltTownModel" ({ cls := "StiltTownModel", name := "reached", desc := "(I)I" } : Jvm.MethodName) ({ cls := "StiltTownModel", name := "reached", desc := "(I)I" } : Jvm.MethodName)) ∈ bigW := tp_8 (List.mem_of_getElem? (i := 176) rfl) rfl
theorem w_1857 : (Jvm.Cond.code ({ cls := "StiltTownModel", name := "reached", desc := "(I)I" } : Jvm.MethodName) prog_14_method_74_code (2 : Nat) (Option.some Jvm.ClassFile.FieldType.int)) ∈ bigW := tp_8 (List.mem_of_getElem? (i := 177) rfl) rfl
theorem w_1858 : (Jvm.Cond.methodLink "StiltTownModel" (405 : Nat) ({ cls := "StiltTownModel", name := "reachedAt", desc := "(III)I" } : Jvm.MethodName)) ∈ bigW := tp_8 (List.mem_of_getElem? (i := 178) rfl) rfl
theorem w_1860 : (Jvm.Cond.instanceMethod ({ cls := "StiltTownModel", name := "reachedAt", desc := "(III)I" } : Jvm.MethodName)) ∈ bigW := tp_8 (List.mem_of_getElem? (i := 180) rfl) rfl
theorem w_1861 : (Jvm.Cond.code ({ cls := "StiltTownModel", name := "reachedAt", desc := "(III)I" } : Jvm.MethodName) prog_14_method_72_code (13 : Nat) (Option.some Jvm.ClassFile.FieldType.int)) ∈ bigW := tp_8 (List.mem_of_getElem? (i := 181) rfl) rfl
theorem w_1862 : (Jvm.Cond.methodLink "StiltTownModel" (402 : Nat) ({ cls := "StiltTownModel", name := "isMeeting", desc := "(I)Z" } : Jvm.MethodName)) ∈ bigW := tp_8 (List.mem_of_getElem? (i := 182) rfl) rfl
theorem w_1864 : (Jvm.Cond.instanceMethod ({ cls := "StiltTownModel", name := "isMeeting", desc := "(I)Z" } : Jvm.MethodName)) ∈ bigW := tp_8 (List.mem_of_getElem? (i := 184) rfl) rfl
theorem w_1865 : (Jvm.Cond.code ({ cls := "StiltTownModel", name := "isMeeting", desc := "(I)Z" } : Jvm.MethodName) prog_14_method_71_code (5 : Nat) (Option.some Jvm.ClassFile.FieldType.boolean)) ∈ bigW := tp_8 (List.mem_of_getElem? (i := 185) rfl) rfl
theorem w_1866 : (Jvm.Cond.methodLink "StiltTownLaw" (65 : Nat) ({ cls := "StiltTownModel", name := "hours", desc := "(I)I" } : Jvm.MethodName)) ∈ bigW := tp_8 (List.mem_of_getElem? (i := 186) rfl) rfl
theorem w_1867 : (Jvm.Cond.instanceMethod ({ cls := "StiltTownModel", name := "hours", desc := "(I)I" } : Jvm.MethodName)) ∈ bigW := tp_8 (List.mem_of_getElem? (i := 187) rfl) rfl
theorem w_1868 : (Jvm.Cond.selects "StiltTownModel" ({ cls := "StiltTownModel", name := "hours", desc := "(I)I" } : Jvm.MethodName) ({ cls := "StiltTownModel", name := "hours", desc := "(I)I" } : Jvm.MethodName)) ∈ bigW := tp_8 (List.mem_of_getElem? (i := 188) rfl) rfl
theorem w_1869 : (Jvm.Cond.code ({ cls := "StiltTownModel", name := "hours", desc := "(I)I" } : Jvm.MethodName) prog_14_method_75_code (4 : Nat) (Option.some Jvm.ClassFile.FieldType.int)) ∈ bigW := tp_8 (List.mem_of_getElem? (i := 189) rfl) rfl
theorem w_1870 : (Jvm.Cond.methodLink "StiltTownLaw" (69 : Nat) ({ cls := "StiltTownModel", name := "meets", desc := "(I)I" } : Jvm.MethodName)) ∈ bigW := tp_8 (List.mem_of_getElem? (i := 190) rfl) rfl
theorem w_1871 : (Jvm.Cond.instanceMethod ({ cls := "StiltTownModel", name := "meets", desc := "(I)I" } : Jvm.MethodName)) ∈ bigW := tp_8 (List.mem_of_getElem? (i := 191) rfl) rfl
theorem w_1872 : (Jvm.Cond.selects "StiltTownModel" ({ cls := "StiltTownModel", name := "meets", desc := "(I)I" } : Jvm.MethodName) ({ cls := "StiltTownModel", name := "meets", desc := "(I)I" } : Jvm.MethodName)) ∈ bigW := tp_8 (List.mem_of_getElem? (i := 192) rfl) rfl
theorem w_1873 : (Jvm.Cond.code ({ cls := "StiltTownModel", name := "meets", desc := "(I)I" } : Jvm.MethodName) prog_14_method_76_code (2 : Nat) (Option.some Jvm.ClassFile.FieldType.int)) ∈ bigW := tp_8 (List.mem_of_getElem? (i := 193) rfl) rfl
theorem w_1874 : (Jvm.Cond.methodLink "StiltTownLaw" (74 : Nat) ({ cls := "StiltTownModel", name := "cut", desc := "(IZI)I" } : Jvm.MethodName)) ∈ bigW := tp_8 (List.mem_of_getElem? (i := 194) rfl) rfl
theorem w_1875 : (Jvm.Cond.instanceMethod ({ cls := "StiltTownModel", name := "cut", desc := "(IZI)I" } : Jvm.MethodName)) ∈ bigW := tp_8 (List.mem_of_getElem? (i := 195) rfl) rfl
theorem w_1876 : (Jvm.Cond.selects "StiltTownModel" ({ cls := "StiltTownModel", name := "cut", desc := "(IZI)I" } : Jvm.MethodName) ({ cls := "StiltTownModel", name := "cut", desc := "(IZI)I" } : Jvm.MethodName)) ∈ bigW := tp_8 (List.mem_of_getElem? (i := 196) rfl) rfl
theorem w_1877 : (Jvm.Cond.code ({ cls := "StiltTownModel", name := "cut", desc := "(IZI)I" } : Jvm.MethodName) prog_14_method_79_code (4 : Nat) (Option.some Jvm.ClassFile.FieldType.int)) ∈ bigW := tp_8 (List.mem_of_getElem? (i := 197) rfl) rfl
theorem w_1878 : (Jvm.Cond.methodLink "StiltTownModel" (411 : Nat) ({ cls := "StiltTownModel", name := "manyOf", desc := "(Z)I" } : Jvm.MethodName)) ∈ bigW := tp_8 (List.mem_of_getElem? (i := 198) rfl) rfl
theorem w_1880 : (Jvm.Cond.instanceMethod ({ cls := "StiltTownModel", name := "manyOf", desc := "(Z)I" } : Jvm.MethodName)) ∈ bigW := tp_8 (List.mem_of_getElem? (i := 200) rfl) rfl
theorem w_1881 : (Jvm.Cond.code ({ cls := "StiltTownModel", name := "manyOf", desc := "(Z)I" } : Jvm.MethodName) prog_14_method_78_code (2 : Nat) (Option.some Jvm.ClassFile.FieldType.int)) ∈ bigW := tp_8 (List.mem_of_getElem? (i := 201) rfl) rfl
theorem w_1882 : (Jvm.Cond.methodLink "StiltTownModel" (415 : Nat) ({ cls := "StiltTownModel", name := "cutOf", desc := "(IZI)I" } : Jvm.MethodName)) ∈ bigW := tp_8 (List.mem_of_getElem? (i := 202) rfl) rfl
theorem w_1884 : (Jvm.Cond.instanceMethod ({ cls := "StiltTownModel", name := "cutOf", desc := "(IZI)I" } : Jvm.MethodName)) ∈ bigW := tp_8 (List.mem_of_getElem? (i := 204) rfl) rfl
theorem w_1885 : (Jvm.Cond.code ({ cls := "StiltTownModel", name := "cutOf", desc := "(IZI)I" } : Jvm.MethodName) prog_14_method_77_code (6 : Nat) (Option.some Jvm.ClassFile.FieldType.int)) ∈ bigW := tp_8 (List.mem_of_getElem? (i := 205) rfl) rfl
theorem w_1886 : (Jvm.Cond.methodLink "StiltTownModel" (408 : Nat) ({ cls := "StiltTownModel", name := "bitsOf", desc := "(I)I" } : Jvm.MethodName)) ∈ bigW := tp_8 (List.mem_of_getElem? (i := 206) rfl) rfl
theorem w_1887 : (Jvm.Cond.static ({ cls := "StiltTownModel", name := "bitsOf", desc := "(I)I" } : Jvm.MethodName)) ∈ bigW := tp_8 (List.mem_of_getElem? (i := 207) rfl) rfl
theorem w_1888 : (Jvm.Cond.code ({ cls := "StiltTownModel", name := "bitsOf", desc := "(I)I" } : Jvm.MethodName) prog_14_method_73_code (3 : Nat) (Option.some Jvm.ClassFile.FieldType.int)) ∈ bigW := tp_8 (List.mem_of_getElem? (i := 208) rfl) rfl
theorem w_1889 : (Jvm.Cond.methodLink "StiltTownLaw" (79 : Nat) ({ cls := "StiltTownModel", name := "worst", desc := "(ZI)I" } : Jvm.MethodName)) ∈ bigW := tp_8 (List.mem_of_getElem? (i := 209) rfl) rfl
theorem w_1890 : (Jvm.Cond.instanceMethod ({ cls := "StiltTownModel", name := "worst", desc := "(ZI)I" } : Jvm.MethodName)) ∈ bigW := tp_8 (List.mem_of_getElem? (i := 210) rfl) rfl
theorem w_1891 : (Jvm.Cond.selects "StiltTownModel" ({ cls := "StiltTownModel", name := "worst", desc := "(ZI)I" } : Jvm.MethodName) ({ cls := "StiltTownModel", name := "worst", desc := "(ZI)I" } : Jvm.MethodName)) ∈ bigW := tp_8 (List.mem_of_getElem? (i := 211) rfl) rfl
theorem w_1892 : (Jvm.Cond.code ({ cls := "StiltTownModel", name := "worst", desc := "(ZI)I" } : Jvm.MethodName) prog_14_method_80_code (7 : Nat) (Option.some Jvm.ClassFile.FieldType.int)) ∈ bigW := tp_8 (List.mem_of_getElem? (i := 212) rfl) rfl
theorem w_1893 : (Jvm.Cond.methodLink "StiltTownLaw" (83 : Nat) ({ cls := "StiltTownModel", name := "law", desc := "(I)I" } : Jvm.MethodName)) ∈ bigW := tp_8 (List.mem_of_getElem? (i := 213) rfl) rfl
theorem w_1894 : (Jvm.Cond.instanceMethod ({ cls := "StiltTownModel", name := "law", desc := "(I)I" } : Jvm.MethodName)) ∈ bigW := tp_8 (List.mem_of_getElem? (i := 214) rfl) rfl
theorem w_1895 : (Jvm.Cond.selects "StiltTownModel" ({ cls := "StiltTownModel", name := "law", desc := "(I)I" } : Jvm.MethodName) ({ cls := "StiltTownModel", name := "law", desc := "(I)I" } : Jvm.MethodName)) ∈ bigW := tp_8 (List.mem_of_getElem? (i := 215) rfl) rfl
theorem w_1896 : (Jvm.Cond.code ({ cls := "StiltTownModel", name := "law", desc := "(I)I" } : Jvm.MethodName) prog_14_method_87_code (4 : Nat) (Option.some Jvm.ClassFile.FieldType.int)) ∈ bigW := tp_8 (List.mem_of_getElem? (i := 216) rfl) rfl
theorem w_1897 : (Jvm.Cond.methodLink "StiltTownModel" (431 : Nat) ({ cls := "StiltTownModel", name := "turned", desc := "()I" } : Jvm.MethodName)) ∈ bigW := tp_8 (List.mem_of_getElem? (i := 217) rfl) rfl
theorem w_1899 : (Jvm.Cond.instanceMethod ({ cls := "StiltTownModel", name := "turned", desc := "()I" } : Jvm.MethodName)) ∈ bigW := tp_8 (List.mem_of_getElem? (i := 219) rfl) rfl
theorem w_1900 : (Jvm.Cond.code ({ cls := "StiltTownModel", name := "turned", desc := "()I" } : Jvm.MethodName) prog_14_method_86_code (4 : Nat) (Option.some Jvm.ClassFile.FieldType.int)) ∈ bigW := tp_8 (List.mem_of_getElem? (i := 220) rfl) rfl
theorem w_1901 : (Jvm.Cond.methodLink "StiltTownModel" (435 : Nat) ({ cls := "StiltTownModel", name := "untrue", desc := "()I" } : Jvm.MethodName)) ∈ bigW := tp_8 (List.mem_of_getElem? (i := 221) rfl) rfl
theorem w_1903 : (Jvm.Cond.instanceMethod ({ cls := "StiltTownModel", name := "untrue", desc := "()I" } : Jvm.MethodName)) ∈ bigW := tp_8 (List.mem_of_getElem? (i := 223) rfl) rfl
theorem w_1904 : (Jvm.Cond.code ({ cls := "StiltTownModel", name := "untrue", desc := "()I" } : Jvm.MethodName) prog_14_method_85_code (3 : Nat) (Option.some Jvm.ClassFile.FieldType.int)) ∈ bigW := tp_8 (List.mem_of_getElem? (i := 224) rfl) rfl
theorem w_1905 : (Jvm.Cond.methodLink "StiltTownModel" (438 : Nat) ({ cls := "StiltTownModel", name := "isBad", desc := "(I)Z" } : Jvm.MethodName)) ∈ bigW := tp_8 (List.mem_of_getElem? (i := 225) rfl) rfl
theorem w_1907 : (Jvm.Cond.instanceMethod ({ cls := "StiltTownModel", name := "isBad", desc := "(I)Z" } : Jvm.MethodName)) ∈ bigW := tp_8 (List.mem_of_getElem? (i := 227) rfl) rfl
theorem w_1908 : (Jvm.Cond.code ({ cls := "StiltTownModel", name := "isBad", desc := "(I)Z" } : Jvm.MethodName) prog_14_method_84_code (3 : Nat) (Option.some Jvm.ClassFile.FieldType.boolean)) ∈ bigW := tp_8 (List.mem_of_getElem? (i := 228) rfl) rfl
theorem w_1909 : (Jvm.Cond.methodLink "StiltTownModel" (425 : Nat) ({ cls := "StiltTownModel", name := "swayOf", desc := "(II)I" } : Jvm.MethodName)) ∈ bigW := tp_8 (List.mem_of_getElem? (i := 229) rfl) rfl
theorem w_1911 : (Jvm.Cond.instanceMethod ({ cls := "StiltTownModel", name := "swayOf", desc := "(II)I" } : Jvm.MethodName)) ∈ bigW := tp_8 (List.mem_of_getElem? (i := 231) rfl) rfl
theorem w_1912 : (Jvm.Cond.code ({ cls := "StiltTownModel", name := "swayOf", desc := "(II)I" } : Jvm.MethodName) prog_14_method_82_code (3 : Nat) (Option.some Jvm.ClassFile.FieldType.int)) ∈ bigW := tp_8 (List.mem_of_getElem? (i := 232) rfl) rfl
theorem w_1913 : (Jvm.Cond.methodLink "StiltTownModel" (419 : Nat) ({ cls := "StiltTownModel", name := "look", desc := "(II)V" } : Jvm.MethodName)) ∈ bigW := tp_8 (List.mem_of_getElem? (i := 233) rfl) rfl
theorem w_1915 : (Jvm.Cond.instanceMethod ({ cls := "StiltTownModel", name := "look", desc := "(II)V" } : Jvm.MethodName)) ∈ bigW := tp_8 (List.mem_of_getElem? (i := 235) rfl) rfl
theorem w_1916 : (Jvm.Cond.code ({ cls := "StiltTownModel", name := "look", desc := "(II)V" } : Jvm.MethodName) prog_14_method_81_code (3 : Nat) (Option.none : Option Jvm.ClassFile.FieldType)) ∈ bigW := tp_8 (List.mem_of_getElem? (i := 236) rfl) rfl
theorem w_1917 : (Jvm.Cond.methodLink "StiltTownModel" (428 : Nat) ({ cls := "StiltTownModel", name := "isRule", desc := "(II)Z" } : Jvm.MethodName)) ∈ bigW := tp_8 (List.mem_of_getElem? (i := 237) rfl) rfl
theorem w_1919 : (Jvm.Cond.instanceMethod ({ cls := "StiltTownModel", name := "isRule", desc := "(II)Z" } : Jvm.MethodName)) ∈ bigW := tp_8 (List.mem_of_getElem? (i := 239) rfl) rfl
theorem w_1920 : (Jvm.Cond.code ({ cls := "StiltTownModel", name := "isRule", desc := "(II)Z" } : Jvm.MethodName) prog_14_method_83_code (4 : Nat) (Option.some Jvm.ClassFile.FieldType.boolean)) ∈ bigW := tp_9 (List.mem_of_getElem? (i := 0) rfl) rfl
theorem w_1921 : (Jvm.Cond.methodLink "StiltTownModel" (422 : Nat) ({ cls := "StiltTownModel", name := "isHeld", desc := "(II)Z" } : Jvm.MethodName)) ∈ bigW := tp_9 (List.mem_of_getElem? (i := 1) rfl) rfl
theorem w_1923 : (Jvm.Cond.instanceMethod ({ cls := "StiltTownModel", name := "isHeld", desc := "(II)Z" } : Jvm.MethodName)) ∈ bigW := tp_9 (List.mem_of_getElem? (i := 3) rfl) rfl
theorem w_1924 : (Jvm.Cond.code ({ cls := "StiltTownModel", name := "isHeld", desc := "(II)Z" } : Jvm.MethodName) prog_14_method_50_code (6 : Nat) (Option.some Jvm.ClassFile.FieldType.boolean)) ∈ bigW := tp_9 (List.mem_of_getElem? (i := 4) rfl) rfl
theorem w_1925 : (Jvm.Cond.methodLink "StiltTownModel" (358 : Nat) ({ cls := "StiltTownModel", name := "isLit", desc := "(I)Z" } : Jvm.MethodName)) ∈ bigW := tp_9 (List.mem_of_getElem? (i := 5) rfl) rfl
theorem w_1927 : (Jvm.Cond.instanceMethod ({ cls := "StiltTownModel", name := "isLit", desc := "(I)Z" } : Jvm.MethodName)) ∈ bigW := tp_9 (List.mem_of_getElem? (i := 7) rfl) rfl
theorem w_1928 : (Jvm.Cond.code ({ cls := "StiltTownModel", name := "isLit", desc := "(I)Z" } : Jvm.MethodName) prog_14_method_49_code (5 : Nat) (Option.some Jvm.ClassFile.FieldType.boolean)) ∈ bigW := tp_9 (List.mem_of_getElem? (i := 8) rfl) rfl
theorem w_1929 : (Jvm.Cond.methodLink "StiltTownLaw" (87 : Nat) ({ cls := "StiltTownModel", name := "wood", desc := "(I)I" } : Jvm.MethodName)) ∈ bigW := tp_9 (List.mem_of_getElem? (i := 9) rfl) rfl
theorem w_1930 : (Jvm.Cond.instanceMethod ({ cls := "StiltTownModel", name := "wood", desc := "(I)I" } : Jvm.MethodName)) ∈ bigW := tp_9 (List.mem_of_getElem? (i := 10) rfl) rfl
theorem w_1931 : (Jvm.Cond.selects "StiltTownModel" ({ cls := "StiltTownModel", name := "wood", desc := "(I)I" } : Jvm.MethodName) ({ cls := "StiltTownModel", name := "wood", desc := "(I)I" } : Jvm.MethodName)) ∈ bigW := tp_9 (List.mem_of_getElem? (i := 11) rfl) rfl
theorem w_1932 : (Jvm.Cond.code ({ cls := "StiltTownModel", name := "wood", desc := "(I)I" } : Jvm.MethodName) prog_14_method_88_code (2 : Nat) (Option.some Jvm.ClassFile.FieldType.int)) ∈ bigW := tp_9 (List.mem_of_getElem? (i := 12) rfl) rfl
theorem w_1933 : (Jvm.Cond.methodLink "StiltTownLaw" (91 : Nat) ({ cls := "StiltTownModel", name := "jack", desc := "(II)I" } : Jvm.MethodName)) ∈ bigW := tp_9 (List.mem_of_getElem? (i := 13) rfl) rfl
theorem w_1934 : (Jvm.Cond.instanceMethod ({ cls := "StiltTownModel", name := "jack", desc := "(II)I" } : Jvm.MethodName)) ∈ bigW := tp_9 (List.mem_of_getElem? (i := 14) rfl) rfl
theorem w_1935 : (Jvm.Cond.selects "StiltTownModel" ({ cls := "StiltTownModel", name := "jack", desc := "(II)I" } : Jvm.MethodName) ({ cls := "StiltTownModel", name := "jack", desc := "(II)I" } : Jvm.MethodName)) ∈ bigW := tp_9 (List.mem_of_getElem? (i := 15) rfl) rfl
theorem w_1936 : (Jvm.Cond.code ({ cls := "StiltTownModel", name := "jack", desc := "(II)I" } : Jvm.MethodName) prog_14_method_91_code (4 : Nat) (Option.some Jvm.ClassFile.FieldType.int)) ∈ bigW := tp_9 (List.mem_of_getElem? (i := 16) rfl) rfl
theorem w_1937 : (Jvm.Cond.methodLink "StiltTownModel" (445 : Nat) ({ cls := "StiltTownModel", name := "jacks", desc := "(I)I" } : Jvm.MethodName)) ∈ bigW := tp_9 (List.mem_of_getElem? (i := 17) rfl) rfl
theorem w_1939 : (Jvm.Cond.instanceMethod ({ cls := "StiltTownModel", name := "jacks", desc := "(I)I" } : Jvm.MethodName)) ∈ bigW := tp_9 (List.mem_of_getElem? (i := 19) rfl) rfl
theorem w_1940 : (Jvm.Cond.code ({ cls := "StiltTownModel", name := "jacks", desc := "(I)I" } : Jvm.MethodName) prog_14_method_90_code (8 : Nat) (Option.some Jvm.ClassFile.FieldType.int)) ∈ bigW := tp_9 (List.mem_of_getElem? (i := 20) rfl) rfl
theorem w_1941 : (Jvm.Cond.constant "StiltTownModel" (441 : Nat) (1000000 : Int32)) ∈ bigW := tp_9 (List.mem_of_getElem? (i := 21) rfl) rfl
theorem w_1942 : (Jvm.Cond.methodLink "StiltTownModel" (442 : Nat) ({ cls := "StiltTownModel", name := "least", desc := "(II)I" } : Jvm.MethodName)) ∈ bigW := tp_9 (List.mem_of_getElem? (i := 22) rfl) rfl
theorem w_1943 : (Jvm.Cond.static ({ cls := "StiltTownModel", name := "least", desc := "(II)I" } : Jvm.MethodName)) ∈ bigW := tp_9 (List.mem_of_getElem? (i := 23) rfl) rfl
theorem w_1944 : (Jvm.Cond.code ({ cls := "StiltTownModel", name := "least", desc := "(II)I" } : Jvm.MethodName) prog_14_method_89_code (2 : Nat) (Option.some Jvm.ClassFile.FieldType.int)) ∈ bigW := tp_9 (List.mem_of_getElem? (i := 24) rfl) rfl
theorem w_1945 : (Jvm.Cond.methodLink "StiltTownLaw" (96 : Nat) ({ cls := "StiltTownModel", name := "work", desc := "(III)I" } : Jvm.MethodName)) ∈ bigW := tp_9 (List.mem_of_getElem? (i := 25) rfl) rfl
theorem w_1946 : (Jvm.Cond.instanceMethod ({ cls := "StiltTownModel", name := "work", desc := "(III)I" } : Jvm.MethodName)) ∈ bigW := tp_9 (List.mem_of_getElem? (i := 26) rfl) rfl
theorem w_1947 : (Jvm.Cond.selects "StiltTownModel" ({ cls := "StiltTownModel", name := "work", desc := "(III)I" } : Jvm.MethodName) ({ cls := "StiltTownModel", name := "work", desc := "(III)I" } : Jvm.MethodName)) ∈ bigW := tp_9 (List.mem_of_getElem? (i := 27) rfl) rfl
theorem w_1948 : (Jvm.Cond.code ({ cls := "StiltTownModel", name := "work", desc := "(III)I" } : Jvm.MethodName) prog_14_method_92_code (5 : Nat) (Option.some Jvm.ClassFile.FieldType.int)) ∈ bigW := tp_9 (List.mem_of_getElem? (i := 28) rfl) rfl
theorem w_1949 : (Jvm.Cond.methodLink "StiltTownLaw" (100 : Nat) ({ cls := "StiltTownModel", name := "forget", desc := "()I" } : Jvm.MethodName)) ∈ bigW := tp_9 (List.mem_of_getElem? (i := 29) rfl) rfl
theorem w_1950 : (Jvm.Cond.instanceMethod ({ cls := "StiltTownModel", name := "forget", desc := "()I" } : Jvm.MethodName)) ∈ bigW := tp_9 (List.mem_of_getElem? (i := 30) rfl) rfl
theorem w_1951 : (Jvm.Cond.selects "StiltTownModel" ({ cls := "StiltTownModel", name := "forget", desc := "()I" } : Jvm.MethodName) ({ cls := "StiltTownModel", name := "forget", desc := "()I" } : Jvm.MethodName)) ∈ bigW := tp_9 (List.mem_of_getElem? (i := 31) rfl) rfl
theorem w_1952 : (Jvm.Cond.code ({ cls := "StiltTownModel", name := "forget", desc := "()I" } : Jvm.MethodName) prog_14_method_93_code (2 : Nat) (Option.some Jvm.ClassFile.FieldType.int)) ∈ bigW := tp_9 (List.mem_of_getElem? (i := 32) rfl) rfl
theorem w_1953 : (Jvm.Cond.methodLink "StiltTownLaw" (104 : Nat) ({ cls := "StiltTownModel", name := "judge", desc := "()I" } : Jvm.MethodName)) ∈ bigW := tp_9 (List.mem_of_getElem? (i := 33) rfl) rfl
theorem w_1954 : (Jvm.Cond.instanceMethod ({ cls := "StiltTownModel", name := "judge", desc := "()I" } : Jvm.MethodName)) ∈ bigW := tp_9 (List.mem_of_getElem? (i := 34) rfl) rfl
theorem w_1955 : (Jvm.Cond.selects "StiltTownModel" ({ cls := "StiltTownModel", name := "judge", desc := "()I" } : Jvm.MethodName) ({ cls := "StiltTownModel", name := "judge", desc := "()I" } : Jvm.MethodName)) ∈ bigW := tp_9 (List.mem_of_getElem? (i := 35) rfl) rfl
theorem w_1956 : (Jvm.Cond.code ({ cls := "StiltTownModel", name := "judge", desc := "()I" } : Jvm.MethodName) prog_14_method_98_code (2 : Nat) (Option.some Jvm.ClassFile.FieldType.int)) ∈ bigW := tp_9 (List.mem_of_getElem? (i := 36) rfl) rfl
theorem w_1957 : (Jvm.Cond.methodLink "StiltTownModel" (454 : Nat) ({ cls := "StiltTownModel", name := "keep", desc := "(I)V" } : Jvm.MethodName)) ∈ bigW := tp_9 (List.mem_of_getElem? (i := 37) rfl) rfl
theorem w_1959 : (Jvm.Cond.instanceMethod ({ cls := "StiltTownModel", name := "keep", desc := "(I)V" } : Jvm.MethodName)) ∈ bigW := tp_9 (List.mem_of_getElem? (i := 39) rfl) rfl
theorem w_1960 : (Jvm.Cond.code ({ cls := "StiltTownModel", name := "keep", desc := "(I)V" } : Jvm.MethodName) prog_14_method_94_code (3 : Nat) (Option.none : Option Jvm.ClassFile.FieldType)) ∈ bigW := tp_9 (List.mem_of_getElem? (i := 40) rfl) rfl
theorem w_1961 : (Jvm.Cond.methodLink "StiltTownModel" (457 : Nat) ({ cls := "StiltTownModel", name := "makesAll", desc := "()I" } : Jvm.MethodName)) ∈ bigW := tp_9 (List.mem_of_getElem? (i := 41) rfl) rfl
theorem w_1963 : (Jvm.Cond.instanceMethod ({ cls := "StiltTownModel", name := "makesAll", desc := "()I" } : Jvm.MethodName)) ∈ bigW := tp_9 (List.mem_of_getElem? (i := 43) rfl) rfl
theorem w_1964 : (Jvm.Cond.code ({ cls := "StiltTownModel", name := "makesAll", desc := "()I" } : Jvm.MethodName) prog_14_method_97_code (7 : Nat) (Option.some Jvm.ClassFile.FieldType.int)) ∈ bigW := tp_9 (List.mem_of_getElem? (i := 44) rfl) rfl
theorem w_1965 : (Jvm.Cond.methodLink "StiltTownModel" (451 : Nat) ({ cls := "StiltTownModel", name := "makes", desc := "(II)I" } : Jvm.MethodName)) ∈ bigW := tp_9 (List.mem_of_getElem? (i := 45) rfl) rfl
theorem w_1967 : (Jvm.Cond.instanceMethod ({ cls := "StiltTownModel", name := "makes", desc := "(II)I" } : Jvm.MethodName)) ∈ bigW := tp_9 (List.mem_of_getElem? (i := 47) rfl) rfl
theorem w_1968 : (Jvm.Cond.code ({ cls := "StiltTownModel", name := "makes", desc := "(II)I" } : Jvm.MethodName) prog_14_method_96_code (7 : Nat) (Option.some Jvm.ClassFile.FieldType.int)) ∈ bigW := tp_9 (List.mem_of_getElem? (i := 48) rfl) rfl
theorem w_1969 : (Jvm.Cond.methodLink "StiltTownModel" (460 : Nat) ({ cls := "StiltTownModel", name := "putBack", desc := "(I)V" } : Jvm.MethodName)) ∈ bigW := tp_9 (List.mem_of_getElem? (i := 49) rfl) rfl
theorem w_1971 : (Jvm.Cond.instanceMethod ({ cls := "StiltTownModel", name := "putBack", desc := "(I)V" } : Jvm.MethodName)) ∈ bigW := tp_9 (List.mem_of_getElem? (i := 51) rfl) rfl
theorem w_1972 : (Jvm.Cond.code ({ cls := "StiltTownModel", name := "putBack", desc := "(I)V" } : Jvm.MethodName) prog_14_method_95_code (3 : Nat) (Option.none : Option Jvm.ClassFile.FieldType)) ∈ bigW := tp_9 (List.mem_of_getElem? (i := 52) rfl) rfl
theorem w_1973 : (Jvm.Cond.methodLink "StiltTownLaw" (108 : Nat) ({ cls := "StiltTownModel", name := "done", desc := "()I" } : Jvm.MethodName)) ∈ bigW := tp_9 (List.mem_of_getElem? (i := 53) rfl) rfl
theorem w_1974 : (Jvm.Cond.instanceMethod ({ cls := "StiltTownModel", name := "done", desc := "()I" } : Jvm.MethodName)) ∈ bigW := tp_9 (List.mem_of_getElem? (i := 54) rfl) rfl
theorem w_1975 : (Jvm.Cond.selects "StiltTownModel" ({ cls := "StiltTownModel", name := "done", desc := "()I" } : Jvm.MethodName) ({ cls := "StiltTownModel", name := "done", desc := "()I" } : Jvm.MethodName)) ∈ bigW := tp_9 (List.mem_of_getElem? (i := 55) rfl) rfl
theorem w_1976 : (Jvm.Cond.code ({ cls := "StiltTownModel", name := "done", desc := "()I" } : Jvm.MethodName) prog_14_method_99_code (2 : Nat) (Option.some Jvm.ClassFile.FieldType.int)) ∈ bigW := tp_9 (List.mem_of_getElem? (i := 56) rfl) rfl
theorem w_1977 : (Jvm.Cond.methodLink "StiltTownLaw" (113 : Nat) ({ cls := "StiltTownModel", name := "undo", desc := "()Z" } : Jvm.MethodName)) ∈ bigW := tp_9 (List.mem_of_getElem? (i := 57) rfl) rfl
theorem w_1978 : (Jvm.Cond.instanceMethod ({ cls := "StiltTownModel", name := "undo", desc := "()Z" } : Jvm.MethodName)) ∈ bigW := tp_9 (List.mem_of_getElem? (i := 58) rfl) rfl
theorem w_1979 : (Jvm.Cond.selects "StiltTownModel" ({ cls := "StiltTownModel", name := "undo", desc := "()Z" } : Jvm.MethodName) ({ cls := "StiltTownModel", name := "undo", desc := "()Z" } : Jvm.MethodName)) ∈ bigW := tp_9 (List.mem_of_getElem? (i := 59) rfl) rfl
theorem w_1980 : (Jvm.Cond.code ({ cls := "StiltTownModel", name := "undo", desc := "()Z" } : Jvm.MethodName) prog_14_method_100_code (1 : Nat) (Option.some Jvm.ClassFile.FieldType.boolean)) ∈ bigW := tp_9 (List.mem_of_getElem? (i := 60) rfl) rfl
theorem w_1981 : (Jvm.Cond.methodLink "StiltTownLaw" (117 : Nat) ({ cls := "StiltTownModel", name := "nights", desc := "(I)I" } : Jvm.MethodName)) ∈ bigW := tp_9 (List.mem_of_getElem? (i := 61) rfl) rfl
theorem w_1982 : (Jvm.Cond.instanceMethod ({ cls := "StiltTownModel", name := "nights", desc := "(I)I" } : Jvm.MethodName)) ∈ bigW := tp_9 (List.mem_of_getElem? (i := 62) rfl) rfl
theorem w_1983 : (Jvm.Cond.selects "StiltTownModel" ({ cls := "StiltTownModel", name := "nights", desc := "(I)I" } : Jvm.MethodName) ({ cls := "StiltTownModel", name := "nights", desc := "(I)I" } : Jvm.MethodName)) ∈ bigW := tp_9 (List.mem_of_getElem? (i := 63) rfl) rfl
theorem w_1984 : (Jvm.Cond.code ({ cls := "StiltTownModel", name := "nights", desc := "(I)I" } : Jvm.MethodName) prog_14_method_104_code (4 : Nat) (Option.some Jvm.ClassFile.FieldType.int)) ∈ bigW := tp_9 (List.mem_of_getElem? (i := 64) rfl) rfl
theorem w_1985 : (Jvm.Cond.methodLink "StiltTownModel" (469 : Nat) ({ cls := "StiltTownModel", name := "layNights", desc := "()V" } : Jvm.MethodName)) ∈ bigW := tp_9 (List.mem_of_getElem? (i := 65) rfl) rfl
theorem w_1987 : (Jvm.Cond.instanceMethod ({ cls := "StiltTownModel", name := "layNights", desc := "()V" } : Jvm.MethodName)) ∈ bigW := tp_9 (List.mem_of_getElem? (i := 67) rfl) rfl
theorem w_1988 : (Jvm.Cond.code ({ cls := "StiltTownModel", name := "layNights", desc := "()V" } : Jvm.MethodName) prog_14_method_102_code (5 : Nat) (Option.none : Option Jvm.ClassFile.FieldType)) ∈ bigW := tp_9 (List.mem_of_getElem? (i := 68) rfl) rfl
theorem w_1989 : (Jvm.Cond.methodLink "StiltTownModel" (466 : Nat) ({ cls := "StiltTownModel", name := "brings", desc := "(I)V" } : Jvm.MethodName)) ∈ bigW := tp_9 (List.mem_of_getElem? (i := 69) rfl) rfl
theorem w_1991 : (Jvm.Cond.instanceMethod ({ cls := "StiltTownModel", name := "brings", desc := "(I)V" } : Jvm.MethodName)) ∈ bigW := tp_9 (List.mem_of_getElem? (i := 71) rfl) rfl
theorem w_1992 : (Jvm.Cond.code ({ cls := "StiltTownModel", name := "brings", desc := "(I)V" } : Jvm.MethodName) prog_14_method_101_code (3 : Nat) (Option.none : Option Jvm.ClassFile.FieldType)) ∈ bigW := tp_9 (List.mem_of_getElem? (i := 72) rfl) rfl
theorem w_1993 : (Jvm.Cond.methodLink "StiltTownModel" (472 : Nat) ({ cls := "StiltTownModel", name := "firstNight", desc := "()I" } : Jvm.MethodName)) ∈ bigW := tp_9 (List.mem_of_getElem? (i := 73) rfl) rfl
theorem w_1995 : (Jvm.Cond.instanceMethod ({ cls := "StiltTownModel", name := "firstNight", desc := "()I" } : Jvm.MethodName)) ∈ bigW := tp_9 (List.mem_of_getElem? (i := 75) rfl) rfl
theorem w_1996 : (Jvm.Cond.code ({ cls := "StiltTownModel", name := "firstNight", desc := "()I" } : Jvm.MethodName) prog_14_method_103_code (4 : Nat) (Option.some Jvm.ClassFile.FieldType.int)) ∈ bigW := tp_9 (List.mem_of_getElem? (i := 76) rfl) rfl
theorem w_1997 : (Jvm.Cond.methodLink "StiltTownLaw" (121 : Nat) ({ cls := "StiltTownModel", name := "looks", desc := "(II)I" } : Jvm.MethodName)) ∈ bigW := tp_9 (List.mem_of_getElem? (i := 77) rfl) rfl
theorem w_1998 : (Jvm.Cond.instanceMethod ({ cls := "StiltTownModel", name := "looks", desc := "(II)I" } : Jvm.MethodName)) ∈ bigW := tp_9 (List.mem_of_getElem? (i := 78) rfl) rfl
theorem w_1999 : (Jvm.Cond.selects "StiltTownModel" ({ cls := "StiltTownModel", name := "looks", desc := "(II)I" } : Jvm.MethodName) ({ cls := "StiltTownModel", name := "looks", desc := "(II)I" } : Jvm.MethodName)) ∈ bigW := tp_9 (List.mem_of_getElem? (i := 79) rfl) rfl
theorem w_2000 : (Jvm.Cond.code ({ cls := "StiltTownModel", name := "looks", desc := "(II)I" } : Jvm.MethodName) prog_14_method_107_code (4 : Nat) (Option.some Jvm.ClassFile.FieldType.int)) ∈ bigW := tp_9 (List.mem_of_getElem? (i := 80) rfl) rfl
theorem w_2001 : (Jvm.Cond.methodLink "StiltTownModel" (475 : Nat) ({ cls := "StiltTownModel", name := "isBetween", desc := "(III)Z" } : Jvm.MethodName)) ∈ bigW := tp_9 (List.mem_of_getElem? (i := 81) rfl) rfl
theorem w_2003 : (Jvm.Cond.instanceMethod ({ cls := "StiltTownModel", name := "isBetween", desc := "(III)Z" } : Jvm.MethodName)) ∈ bigW := tp_9 (List.mem_of_getElem? (i := 83) rfl) rfl
theorem w_2004 : (Jvm.Cond.code ({ cls := "StiltTownModel", name := "isBetween", desc := "(III)Z" } : Jvm.MethodName) prog_14_method_106_code (4 : Nat) (Option.some Jvm.ClassFile.FieldType.boolean)) ∈ bigW := tp_9 (List.mem_of_getElem? (i := 84) rfl) rfl
theorem w_2005 : (Jvm.Cond.methodLink "StiltTownModel" (478 : Nat) ({ cls := "StiltTownModel", name := "isBelow", desc := "(III)Z" } : Jvm.MethodName)) ∈ bigW := tp_9 (List.mem_of_getElem? (i := 85) rfl) rfl
theorem w_2007 : (Jvm.Cond.instanceMethod ({ cls := "StiltTownModel", name := "isBelow", desc := "(III)Z" } : Jvm.MethodName)) ∈ bigW := tp_9 (List.mem_of_getElem? (i := 87) rfl) rfl
theorem w_2008 : (Jvm.Cond.code ({ cls := "StiltTownModel", name := "isBelow", desc := "(III)Z" } : Jvm.MethodName) prog_14_method_105_code (6 : Nat) (Option.some Jvm.ClassFile.FieldType.boolean)) ∈ bigW := tp_9 (List.mem_of_getElem? (i := 88) rfl) rfl
theorem w_2009 : (Jvm.Cond.methodLink "StiltTownLaw" (125 : Nat) ({ cls := "StiltTownModel", name := "light", desc := "(I)I" } : Jvm.MethodName)) ∈ bigW := tp_9 (List.mem_of_getElem? (i := 89) rfl) rfl
theorem w_2010 : (Jvm.Cond.instanceMethod ({ cls := "StiltTownModel", name := "light", desc := "(I)I" } : Jvm.MethodName)) ∈ bigW := tp_9 (List.mem_of_getElem? (i := 90) rfl) rfl
theorem w_2011 : (Jvm.Cond.selects "StiltTownModel" ({ cls := "StiltTownModel", name := "light", desc := "(I)I" } : Jvm.MethodName) ({ cls := "StiltTownModel", name := "light", desc := "(I)I" } : Jvm.MethodName)) ∈ bigW := tp_9 (List.mem_of_getElem? (i := 91) rfl) rfl
theorem w_2012 : (Jvm.Cond.code ({ cls := "StiltTownModel", name := "light", desc := "(I)I" } : Jvm.MethodName) prog_14_method_108_code (7 : Nat) (Option.some Jvm.ClassFile.FieldType.int)) ∈ bigW := tp_9 (List.mem_of_getElem? (i := 92) rfl) rfl
theorem w_2013 : (Jvm.Cond.methodLink "StiltTownLaw" (129 : Nat) ({ cls := "StiltTownModel", name := "sway", desc := "(II)I" } : Jvm.MethodName)) ∈ bigW := tp_9 (List.mem_of_getElem? (i := 93) rfl) rfl
theorem w_2014 : (Jvm.Cond.instanceMethod ({ cls := "StiltTownModel", name := "sway", desc := "(II)I" } : Jvm.MethodName)) ∈ bigW := tp_9 (List.mem_of_getElem? (i := 94) rfl) rfl
theorem w_2015 : (Jvm.Cond.selects "StiltTownModel" ({ cls := "StiltTownModel", name := "sway", desc := "(II)I" } : Jvm.MethodName) ({ cls := "StiltTownModel", name := "sway", desc := "(II)I" } : Jvm.MethodName)) ∈ bigW := tp_9 (List.mem_of_getElem? (i := 95) rfl) rfl
theorem w_2016 : (Jvm.Cond.code ({ cls := "StiltTownModel", name := "sway", desc := "(II)I" } : Jvm.MethodName) prog_14_method_110_code (3 : Nat) (Option.some Jvm.ClassFile.FieldType.int)) ∈ bigW := tp_9 (List.mem_of_getElem? (i := 96) rfl) rfl
theorem w_2017 : (Jvm.Cond.methodLink "StiltTownModel" (481 : Nat) ({ cls := "StiltTownModel", name := "isWind", desc := "(I)Z" } : Jvm.MethodName)) ∈ bigW := tp_9 (List.mem_of_getElem? (i := 97) rfl) rfl
theorem w_2018 : (Jvm.Cond.static ({ cls := "StiltTownModel", name := "isWind", desc := "(I)Z" } : Jvm.MethodName)) ∈ bigW := tp_9 (List.mem_of_getElem? (i := 98) rfl) rfl
theorem w_2019 : (Jvm.Cond.code ({ cls := "StiltTownModel", name := "isWind", desc := "(I)Z" } : Jvm.MethodName) prog_14_method_109_code (1 : Nat) (Option.some Jvm.ClassFile.FieldType.boolean)) ∈ bigW := tp_9 (List.mem_of_getElem? (i := 99) rfl) rfl
theorem w_2020 : (Jvm.Cond.methodLink "StiltTownLaw" (133 : Nat) ({ cls := "StiltTownModel", name := "chain", desc := "(III)I" } : Jvm.MethodName)) ∈ bigW := tp_9 (List.mem_of_getElem? (i := 100) rfl) rfl
theorem w_2021 : (Jvm.Cond.instanceMethod ({ cls := "StiltTownModel", name := "chain", desc := "(III)I" } : Jvm.MethodName)) ∈ bigW := tp_9 (List.mem_of_getElem? (i := 101) rfl) rfl
theorem w_2022 : (Jvm.Cond.selects "StiltTownModel" ({ cls := "StiltTownModel", name := "chain", desc := "(III)I" } : Jvm.MethodName) ({ cls := "StiltTownModel", name := "chain", desc := "(III)I" } : Jvm.MethodName)) ∈ bigW := tp_9 (List.mem_of_getElem? (i := 102) rfl) rfl
theorem w_2023 : (Jvm.Cond.code ({ cls := "StiltTownModel", name := "chain", desc := "(III)I" } : Jvm.MethodName) prog_14_method_114_code (4 : Nat) (Option.some Jvm.ClassFile.FieldType.int)) ∈ bigW := tp_9 (List.mem_of_getElem? (i := 103) rfl) rfl
theorem w_2024 : (Jvm.Cond.methodLink "StiltTownModel" (496 : Nat) ({ cls := "StiltTownModel", name := "chains", desc := "(II)V" } : Jvm.MethodName)) ∈ bigW := tp_9 (List.mem_of_getElem? (i := 104) rfl) rfl
theorem w_2026 : (Jvm.Cond.instanceMethod ({ cls := "StiltTownModel", name := "chains", desc := "(II)V" } : Jvm.MethodName)) ∈ bigW := tp_9 (List.mem_of_getElem? (i := 106) rfl) rfl
theorem w_2027 : (Jvm.Cond.code ({ cls := "StiltTownModel", name := "chains", desc := "(II)V" } : Jvm.MethodName) prog_14_method_113_code (7 : Nat) (Option.none : Option Jvm.ClassFile.FieldType)) ∈ bigW := tp_9 (List.mem_of_getElem? (i := 107) rfl) rfl
theorem w_2028 : (Jvm.Cond.methodLink "StiltTownModel" (493 : Nat) ({ cls := "StiltTownModel", name := "isFalling", desc := "(III)Z" } : Jvm.MethodName)) ∈ bigW := tp_9 (List.mem_of_getElem? (i := 108) rfl) rfl
theorem w_2030 : (Jvm.Cond.instanceMethod ({ cls := "StiltTownModel", name := "isFalling", desc := "(III)Z" } : Jvm.MethodName)) ∈ bigW := tp_9 (List.mem_of_getElem? (i := 110) rfl) rfl
theorem w_2031 : (Jvm.Cond.code ({ cls := "StiltTownModel", name := "isFalling", desc := "(III)Z" } : Jvm.MethodName) prog_14_method_112_code (5 : Nat) (Option.some Jvm.ClassFile.FieldType.boolean)) ∈ bigW := tp_9 (List.mem_of_getElem? (i := 111) rfl) rfl
theorem w_2032 : (Jvm.Cond.methodLink "StiltTownModel" (484 : Nat) ({ cls := "StiltTownModel", name := "goneBeside", desc := "(II)I" } : Jvm.MethodName)) ∈ bigW := tp_9 (List.mem_of_getElem? (i := 112) rfl) rfl
theorem w_2034 : (Jvm.Cond.instanceMethod ({ cls := "StiltTownModel", name := "goneBeside", desc := "(II)I" } : Jvm.MethodName)) ∈ bigW := tp_9 (List.mem_of_getElem? (i := 114) rfl) rfl
theorem w_2035 : (Jvm.Cond.code ({ cls := "StiltTownModel", name := "goneBeside", desc := "(II)I" } : Jvm.MethodName) prog_14_method_111_code (7 : Nat) (Option.some Jvm.ClassFile.FieldType.int)) ∈ bigW := tp_9 (List.mem_of_getElem? (i := 115) rfl) rfl
theorem w_2036 : (Jvm.Cond.methodLink "StiltTownLaw" (137 : Nat) ({ cls := "StiltTownModel", name := "dread", desc := "(I)I" } : Jvm.MethodName)) ∈ bigW := tp_9 (List.mem_of_getElem? (i := 116) rfl) rfl
theorem w_2037 : (Jvm.Cond.instanceMethod ({ cls := "StiltTownModel", name := "dread", desc := "(I)I" } : Jvm.MethodName)) ∈ bigW := tp_9 (List.mem_of_getElem? (i := 117) rfl) rfl
theorem w_2038 : (Jvm.Cond.selects "StiltTownModel" ({ cls := "StiltTownModel", name := "dread", desc := "(I)I" } : Jvm.MethodName) ({ cls := "StiltTownModel", name := "dread", desc := "(I)I" } : Jvm.MethodName)) ∈ bigW := tp_9 (List.mem_of_getElem? (i := 118) rfl) rfl
theorem w_2039 : (Jvm.Cond.code ({ cls := "StiltTownModel", name := "dread", desc := "(I)I" } : Jvm.MethodName) prog_14_method_115_code (5 : Nat) (Option.some Jvm.ClassFile.FieldType.int)) ∈ bigW := tp_9 (List.mem_of_getElem? (i := 119) rfl) rfl
theorem w_2040 : (Jvm.Cond.methodLink "StiltTownLaw" (141 : Nat) ({ cls := "StiltTownModel", name := "year", desc := "(I)I" } : Jvm.MethodName)) ∈ bigW := tp_9 (List.mem_of_getElem? (i := 120) rfl) rfl
theorem w_2041 : (Jvm.Cond.instanceMethod ({ cls := "StiltTownModel", name := "year", desc := "(I)I" } : Jvm.MethodName)) ∈ bigW := tp_9 (List.mem_of_getElem? (i := 121) rfl) rfl
theorem w_2042 : (Jvm.Cond.selects "StiltTownModel" ({ cls := "StiltTownModel", name := "year", desc := "(I)I" } : Jvm.MethodName) ({ cls := "StiltTownModel", name := "year", desc := "(I)I" } : Jvm.MethodName)) ∈ bigW := tp_9 (List.mem_of_getElem? (i := 122) rfl) rfl
theorem w_2043 : (Jvm.Cond.code ({ cls := "StiltTownModel", name := "year", desc := "(I)I" } : Jvm.MethodName) prog_14_method_116_code (2 : Nat) (Option.some Jvm.ClassFile.FieldType.int)) ∈ bigW := tp_9 (List.mem_of_getElem? (i := 123) rfl) rfl
theorem w_2044 : (Jvm.Cond.methodLink "StiltTownLaw" (145 : Nat) ({ cls := "StiltTownModel", name := "clear", desc := "()I" } : Jvm.MethodName)) ∈ bigW := tp_9 (List.mem_of_getElem? (i := 124) rfl) rfl
theorem w_2045 : (Jvm.Cond.instanceMethod ({ cls := "StiltTownModel", name := "clear", desc := "()I" } : Jvm.MethodName)) ∈ bigW := tp_9 (List.mem_of_getElem? (i := 125) rfl) rfl
theorem w_2046 : (Jvm.Cond.selects "StiltTownModel" ({ cls := "StiltTownModel", name := "clear", desc := "()I" } : Jvm.MethodName) ({ cls := "StiltTownModel", name := "clear", desc := "()I" } : Jvm.MethodName)) ∈ bigW := tp_9 (List.mem_of_getElem? (i := 126) rfl) rfl
theorem w_2047 : (Jvm.Cond.code ({ cls := "StiltTownModel", name := "clear", desc := "()I" } : Jvm.MethodName) prog_14_method_117_code (2 : Nat) (Option.some Jvm.ClassFile.FieldType.int)) ∈ bigW := tp_9 (List.mem_of_getElem? (i := 127) rfl) rfl
theorem w_2048 : (Jvm.Cond.methodLink "StiltTownLaw" (149 : Nat) ({ cls := "StiltTownModel", name := "posts", desc := "(IIIII)I" } : Jvm.MethodName)) ∈ bigW := tp_9 (List.mem_of_getElem? (i := 128) rfl) rfl
theorem w_2049 : (Jvm.Cond.instanceMethod ({ cls := "StiltTownModel", name := "posts", desc := "(IIIII)I" } : Jvm.MethodName)) ∈ bigW := tp_9 (List.mem_of_getElem? (i := 129) rfl) rfl
theorem w_2050 : (Jvm.Cond.selects "StiltTownModel" ({ cls := "StiltTownModel", name := "posts", desc := "(IIIII)I" } : Jvm.MethodName) ({ cls := "StiltTownModel", name := "posts", desc := "(IIIII)I" } : Jvm.MethodName)) ∈ bigW := tp_9 (List.mem_of_getElem? (i := 130) rfl) rfl
theorem w_2051 : (Jvm.Cond.code ({ cls := "StiltTownModel", name := "posts", desc := "(IIIII)I" } : Jvm.MethodName) prog_14_method_122_code (6 : Nat) (Option.some Jvm.ClassFile.FieldType.int)) ∈ bigW := tp_9 (List.mem_of_getElem? (i := 131) rfl) rfl
theorem w_2052 : (Jvm.Cond.methodLink "StiltTownModel" (506 : Nat) ({ cls := "StiltTownModel", name := "isPosts", desc := "(IIIII)Z" } : Jvm.MethodName)) ∈ bigW := tp_9 (List.mem_of_getElem? (i := 132) rfl) rfl
theorem w_2053 : (Jvm.Cond.static ({ cls := "StiltTownModel", name := "isPosts", desc := "(IIIII)Z" } : Jvm.MethodName)) ∈ bigW := tp_9 (List.mem_of_getElem? (i := 133) rfl) rfl
theorem w_2054 : (Jvm.Cond.code ({ cls := "StiltTownModel", name := "isPosts", desc := "(IIIII)Z" } : Jvm.MethodName) prog_14_method_121_code (5 : Nat) (Option.some Jvm.ClassFile.FieldType.boolean)) ∈ bigW := tp_9 (List.mem_of_getElem? (i := 134) rfl) rfl
theorem w_2055 : (Jvm.Cond.methodLink "StiltTownModel" (510 : Nat) ({ cls := "StiltTownModel", name := "layPosts", desc := "(IIII)V" } : Jvm.MethodName)) ∈ bigW := tp_9 (List.mem_of_getElem? (i := 135) rfl) rfl
theorem w_2057 : (Jvm.Cond.instanceMethod ({ cls := "StiltTownModel", name := "layPosts", desc := "(IIII)V" } : Jvm.MethodName)) ∈ bigW := tp_9 (List.mem_of_getElem? (i := 137) rfl) rfl
theorem w_2058 : (Jvm.Cond.code ({ cls := "StiltTownModel", name := "layPosts", desc := "(IIII)V" } : Jvm.MethodName) prog_14_method_120_code (9 : Nat) (Option.none : Option Jvm.ClassFile.FieldType)) ∈ bigW := tp_9 (List.mem_of_getElem? (i := 138) rfl) rfl
theorem w_2059 : (Jvm.Cond.methodLink "StiltTownModel" (499 : Nat) ({ cls := "StiltTownModel", name := "mostOf", desc := "(II)I" } : Jvm.MethodName)) ∈ bigW := tp_9 (List.mem_of_getElem? (i := 139) rfl) rfl
theorem w_2061 : (Jvm.Cond.instanceMethod ({ cls := "StiltTownModel", name := "mostOf", desc := "(II)I" } : Jvm.MethodName)) ∈ bigW := tp_9 (List.mem_of_getElem? (i := 141) rfl) rfl
theorem w_2062 : (Jvm.Cond.code ({ cls := "StiltTownModel", name := "mostOf", desc := "(II)I" } : Jvm.MethodName) prog_14_method_119_code (3 : Nat) (Option.some Jvm.ClassFile.FieldType.int)) ∈ bigW := tp_9 (List.mem_of_getElem? (i := 142) rfl) rfl
theorem w_2063 : (Jvm.Cond.methodLink "StiltTownModel" (502 : Nat) ({ cls := "StiltTownModel", name := "stepCost", desc := "(IIIII)I" } : Jvm.MethodName)) ∈ bigW := tp_9 (List.mem_of_getElem? (i := 143) rfl) rfl
theorem w_2064 : (Jvm.Cond.static ({ cls := "StiltTownModel", name := "stepCost", desc := "(IIIII)I" } : Jvm.MethodName)) ∈ bigW := tp_9 (List.mem_of_getElem? (i := 144) rfl) rfl
theorem w_2065 : (Jvm.Cond.code ({ cls := "StiltTownModel", name := "stepCost", desc := "(IIIII)I" } : Jvm.MethodName) prog_14_method_118_code (5 : Nat) (Option.some Jvm.ClassFile.FieldType.int)) ∈ bigW := tp_9 (List.mem_of_getElem? (i := 145) rfl) rfl
theorem w_2066 : (Jvm.Cond.methodLink "StiltTownLaw" (154 : Nat) ({ cls := "StiltTownModel", name := "postAt", desc := "(IIIIII)I" } : Jvm.MethodName)) ∈ bigW := tp_9 (List.mem_of_getElem? (i := 146) rfl) rfl
theorem w_2067 : (Jvm.Cond.instanceMethod ({ cls := "StiltTownModel", name := "postAt", desc := "(IIIIII)I" } : Jvm.MethodName)) ∈ bigW := tp_9 (List.mem_of_getElem? (i := 147) rfl) rfl
theorem w_2068 : (Jvm.Cond.selects "StiltTownModel" ({ cls := "StiltTownModel", name := "postAt", desc := "(IIIIII)I" } : Jvm.MethodName) ({ cls := "StiltTownModel", name := "postAt", desc := "(IIIIII)I" } : Jvm.MethodName)) ∈ bigW := tp_9 (List.mem_of_getElem? (i := 148) rfl) rfl
theorem w_2069 : (Jvm.Cond.code ({ cls := "StiltTownModel", name := "postAt", desc := "(IIIIII)I" } : Jvm.MethodName) prog_14_method_123_code (10 : Nat) (Option.some Jvm.ClassFile.FieldType.int)) ∈ bigW := tp_9 (List.mem_of_getElem? (i := 149) rfl) rfl
theorem w_2070 : (Jvm.Cond.methodLink "StiltTownLaw" (158 : Nat) ({ cls := "StiltTownModel", name := "vote", desc := "(III)I" } : Jvm.MethodName)) ∈ bigW := tp_9 (List.mem_of_getElem? (i := 150) rfl) rfl
theorem w_2071 : (Jvm.Cond.instanceMethod ({ cls := "StiltTownModel", name := "vote", desc := "(III)I" } : Jvm.MethodName)) ∈ bigW := tp_9 (List.mem_of_getElem? (i := 151) rfl) rfl
theorem w_2072 : (Jvm.Cond.selects "StiltTownModel" ({ cls := "StiltTownModel", name := "vote", desc := "(III)I" } : Jvm.MethodName) ({ cls := "StiltTownModel", name := "vote", desc := "(III)I" } : Jvm.MethodName)) ∈ bigW := tp_9 (List.mem_of_getElem? (i := 152) rfl) rfl
theorem w_2073 : (Jvm.Cond.code ({ cls := "StiltTownModel", name := "vote", desc := "(III)I" } : Jvm.MethodName) prog_14_method_125_code (4 : Nat) (Option.some Jvm.ClassFile.FieldType.int)) ∈ bigW := tp_9 (List.mem_of_getElem? (i := 153) rfl) rfl
theorem w_2074 : (Jvm.Cond.methodLink "StiltTownModel" (514 : Nat) ({ cls := "StiltTownModel", name := "log", desc := "(IIII)I" } : Jvm.MethodName)) ∈ bigW := tp_9 (List.mem_of_getElem? (i := 154) rfl) rfl
theorem w_2076 : (Jvm.Cond.instanceMethod ({ cls := "StiltTownModel", name := "log", desc := "(IIII)I" } : Jvm.MethodName)) ∈ bigW := tp_9 (List.mem_of_getElem? (i := 156) rfl) rfl
theorem w_2077 : (Jvm.Cond.code ({ cls := "StiltTownModel", name := "log", desc := "(IIII)I" } : Jvm.MethodName) prog_14_method_124_code (6 : Nat) (Option.some Jvm.ClassFile.FieldType.int)) ∈ bigW := tp_9 (List.mem_of_getElem? (i := 157) rfl) rfl
theorem w_2078 : (Jvm.Cond.methodLink "StiltTownLaw" (162 : Nat) ({ cls := "StiltTownModel", name := "mark", desc := "(III)I" } : Jvm.MethodName)) ∈ bigW := tp_9 (List.mem_of_getElem? (i := 158) rfl) rfl
theorem w_2079 : (Jvm.Cond.instanceMethod ({ cls := "StiltTownModel", name := "mark", desc := "(III)I" } : Jvm.MethodName)) ∈ bigW := tp_9 (List.mem_of_getElem? (i := 159) rfl) rfl
theorem w_2080 : (Jvm.Cond.selects "StiltTownModel" ({ cls := "StiltTownModel", name := "mark", desc := "(III)I" } : Jvm.MethodName) ({ cls := "StiltTownModel", name := "mark", desc := "(III)I" } : Jvm.MethodName)) ∈ bigW := tp_9 (List.mem_of_getElem? (i := 160) rfl) rfl
theorem w_2081 : (Jvm.Cond.code ({ cls := "StiltTownModel", name := "mark", desc := "(III)I" } : Jvm.MethodName) prog_14_method_126_code (4 : Nat) (Option.some Jvm.ClassFile.FieldType.int)) ∈ bigW := tp_9 (List.mem_of_getElem? (i := 161) rfl) rfl
theorem w_2082 : (Jvm.Cond.methodLink "StiltTownLaw" (166 : Nat) ({ cls := "StiltTownModel", name := "annul", desc := "(I)I" } : Jvm.MethodName)) ∈ bigW := tp_9 (List.mem_of_getElem? (i := 162) rfl) rfl
theorem w_2083 : (Jvm.Cond.instanceMethod ({ cls := "StiltTownModel", name := "annul", desc := "(I)I" } : Jvm.MethodName)) ∈ bigW := tp_9 (List.mem_of_getElem? (i := 163) rfl) rfl
theorem w_2084 : (Jvm.Cond.selects "StiltTownModel" ({ cls := "StiltTownModel", name := "annul", desc := "(I)I" } : Jvm.MethodName) ({ cls := "StiltTownModel", name := "annul", desc := "(I)I" } : Jvm.MethodName)) ∈ bigW := tp_9 (List.mem_of_getElem? (i := 164) rfl) rfl
theorem w_2085 : (Jvm.Cond.code ({ cls := "StiltTownModel", name := "annul", desc := "(I)I" } : Jvm.MethodName) prog_14_method_127_code (2 : Nat) (Option.some Jvm.ClassFile.FieldType.int)) ∈ bigW := tp_9 (List.mem_of_getElem? (i := 165) rfl) rfl
theorem w_2086 : (Jvm.Cond.methodLink "StiltTownLaw" (170 : Nat) ({ cls := "StiltTownModel", name := "votes", desc := "(III)I" } : Jvm.MethodName)) ∈ bigW := tp_9 (List.mem_of_getElem? (i := 166) rfl) rfl
theorem w_2087 : (Jvm.Cond.instanceMethod ({ cls := "StiltTownModel", name := "votes", desc := "(III)I" } : Jvm.MethodName)) ∈ bigW := tp_9 (List.mem_of_getElem? (i := 167) rfl) rfl
theorem w_2088 : (Jvm.Cond.selects "StiltTownModel" ({ cls := "StiltTownModel", name := "votes", desc := "(III)I" } : Jvm.MethodName) ({ cls := "StiltTownModel", name := "votes", desc := "(III)I" } : Jvm.MethodName)) ∈ bigW := tp_9 (List.mem_of_getElem? (i := 168) rfl) rfl
theorem w_2089 : (Jvm.Cond.code ({ cls := "StiltTownModel", name := "votes", desc := "(III)I" } : Jvm.MethodName) prog_14_method_132_code (4 : Nat) (Option.some Jvm.ClassFile.FieldType.int)) ∈ bigW := tp_9 (List.mem_of_getElem? (i := 169) rfl) rfl
theorem w_2090 : (Jvm.Cond.methodLink "StiltTownModel" (523 : Nat) ({ cls := "StiltTownModel", name := "isKnown", desc := "(I)Z" } : Jvm.MethodName)) ∈ bigW := tp_9 (List.mem_of_getElem? (i := 170) rfl) rfl
theorem w_2092 : (Jvm.Cond.instanceMethod ({ cls := "StiltTownModel", name := "isKnown", desc := "(I)Z" } : Jvm.MethodName)) ∈ bigW := tp_9 (List.mem_of_getElem? (i := 172) rfl) rfl
theorem w_2093 : (Jvm.Cond.code ({ cls := "StiltTownModel", name := "isKnown", desc := "(I)Z" } : Jvm.MethodName) prog_14_method_128_code (2 : Nat) (Option.some Jvm.ClassFile.FieldType.boolean)) ∈ bigW := tp_9 (List.mem_of_getElem? (i := 173) rfl) rfl
theorem w_2094 : (Jvm.Cond.methodLink "StiltTownModel" (526 : Nat) ({ cls := "StiltTownModel", name := "votesOf", desc := "(III)I" } : Jvm.MethodName)) ∈ bigW := tp_9 (List.mem_of_getElem? (i := 174) rfl) rfl
theorem w_2096 : (Jvm.Cond.instanceMethod ({ cls := "StiltTownModel", name := "votesOf", desc := "(III)I" } : Jvm.MethodName)) ∈ bigW := tp_9 (List.mem_of_getElem? (i := 176) rfl) rfl
theorem w_2097 : (Jvm.Cond.code ({ cls := "StiltTownModel", name := "votesOf", desc := "(III)I" } : Jvm.MethodName) prog_14_method_131_code (6 : Nat) (Option.some Jvm.ClassFile.FieldType.int)) ∈ bigW := tp_9 (List.mem_of_getElem? (i := 177) rfl) rfl
theorem w_2098 : (Jvm.Cond.methodLink "StiltTownModel" (520 : Nat) ({ cls := "StiltTownModel", name := "voteOf", desc := "(III)I" } : Jvm.MethodName)) ∈ bigW := tp_9 (List.mem_of_getElem? (i := 178) rfl) rfl
theorem w_2100 : (Jvm.Cond.instanceMethod ({ cls := "StiltTownModel", name := "voteOf", desc := "(III)I" } : Jvm.MethodName)) ∈ bigW := tp_9 (List.mem_of_getElem? (i := 180) rfl) rfl
theorem w_2101 : (Jvm.Cond.code ({ cls := "StiltTownModel", name := "voteOf", desc := "(III)I" } : Jvm.MethodName) prog_14_method_130_code (6 : Nat) (Option.some Jvm.ClassFile.FieldType.int)) ∈ bigW := tp_9 (List.mem_of_getElem? (i := 181) rfl) rfl
theorem w_2102 : (Jvm.Cond.methodLink "StiltTownModel" (517 : Nat) ({ cls := "StiltTownModel", name := "isLive", desc := "(II)Z" } : Jvm.MethodName)) ∈ bigW := tp_9 (List.mem_of_getElem? (i := 182) rfl) rfl
theorem w_2104 : (Jvm.Cond.instanceMethod ({ cls := "StiltTownModel", name := "isLive", desc := "(II)Z" } : Jvm.MethodName)) ∈ bigW := tp_9 (List.mem_of_getElem? (i := 184) rfl) rfl
theorem w_2105 : (Jvm.Cond.code ({ cls := "StiltTownModel", name := "isLive", desc := "(II)Z" } : Jvm.MethodName) prog_14_method_129_code (4 : Nat) (Option.some Jvm.ClassFile.FieldType.boolean)) ∈ bigW := tp_9 (List.mem_of_getElem? (i := 185) rfl) rfl
theorem w_2106 : (Jvm.Cond.methodLink "StiltTownLaw" (174 : Nat) ({ cls := "StiltTownModel", name := "winner", desc := "(II)I" } : Jvm.MethodName)) ∈ bigW := tp_9 (List.mem_of_getElem? (i := 186) rfl) rfl
theorem w_2107 : (Jvm.Cond.instanceMethod ({ cls := "StiltTownModel", name := "winner", desc := "(II)I" } : Jvm.MethodName)) ∈ bigW := tp_9 (List.mem_of_getElem? (i := 187) rfl) rfl
theorem w_2108 : (Jvm.Cond.selects "StiltTownModel" ({ cls := "StiltTownModel", name := "winner", desc := "(II)I" } : Jvm.MethodName) ({ cls := "StiltTownModel", name := "winner", desc := "(II)I" } : Jvm.MethodName)) ∈ bigW := tp_9 (List.mem_of_getElem? (i := 188) rfl) rfl
theorem w_2109 : (Jvm.Cond.code ({ cls := "StiltTownModel", name := "winner", desc := "(II)I" } : Jvm.MethodName) prog_14_method_133_code (7 : Nat) (Option.some Jvm.ClassFile.FieldType.int)) ∈ bigW := tp_9 (List.mem_of_getElem? (i := 189) rfl) rfl
theorem w_2110 : (Jvm.Cond.methodLink "StiltTownLaw" (179 : Nat) ({ cls := "StiltTownModel", name := "ends", desc := "(IIII)I" } : Jvm.MethodName)) ∈ bigW := tp_9 (List.mem_of_getElem? (i := 190) rfl) rfl
theorem w_2111 : (Jvm.Cond.instanceMethod ({ cls := "StiltTownModel", name := "ends", desc := "(IIII)I" } : Jvm.MethodName)) ∈ bigW := tp_9 (List.mem_of_getElem? (i := 191) rfl) rfl
theorem w_2112 : (Jvm.Cond.selects "StiltTownModel" ({ cls := "StiltTownModel", name := "ends", desc := "(IIII)I" } : Jvm.MethodName) ({ cls := "StiltTownModel", name := "ends", desc := "(IIII)I" } : Jvm.MethodName)) ∈ bigW := tp_9 (List.mem_of_getElem? (i := 192) rfl) rfl
theorem w_2113 : (Jvm.Cond.code ({ cls := "StiltTownModel", name := "ends", desc := "(IIII)I" } : Jvm.MethodName) prog_14_method_135_code (12 : Nat) (Option.some Jvm.ClassFile.FieldType.int)) ∈ bigW := tp_9 (List.mem_of_getElem? (i := 193) rfl) rfl
theorem w_2114 : (Jvm.Cond.methodLink "StiltTownModel" (529 : Nat) ({ cls := "StiltTownModel", name := "apart", desc := "(II)I" } : Jvm.MethodName)) ∈ bigW := tp_9 (List.mem_of_getElem? (i := 194) rfl) rfl
theorem w_2115 : (Jvm.Cond.static ({ cls := "StiltTownModel", name := "apart", desc := "(II)I" } : Jvm.MethodName)) ∈ bigW := tp_9 (List.mem_of_getElem? (i := 195) rfl) rfl
theorem w_2116 : (Jvm.Cond.code ({ cls := "StiltTownModel", name := "apart", desc := "(II)I" } : Jvm.MethodName) prog_14_method_134_code (2 : Nat) (Option.some Jvm.ClassFile.FieldType.int)) ∈ bigW := tp_9 (List.mem_of_getElem? (i := 196) rfl) rfl
theorem w_2117 : (Jvm.Cond.methodLink "StiltTownLaw" (183 : Nat) ({ cls := "StiltTownModel", name := "years", desc := "(II)I" } : Jvm.MethodName)) ∈ bigW := tp_9 (List.mem_of_getElem? (i := 197) rfl) rfl
theorem w_2118 : (Jvm.Cond.instanceMethod ({ cls := "StiltTownModel", name := "years", desc := "(II)I" } : Jvm.MethodName)) ∈ bigW := tp_9 (List.mem_of_getElem? (i := 198) rfl) rfl
theorem w_2119 : (Jvm.Cond.selects "StiltTownModel" ({ cls := "StiltTownModel", name := "years", desc := "(II)I" } : Jvm.MethodName) ({ cls := "StiltTownModel", name := "years", desc := "(II)I" } : Jvm.MethodName)) ∈ bigW := tp_9 (List.mem_of_getElem? (i := 199) rfl) rfl
theorem w_2120 : (Jvm.Cond.code ({ cls := "StiltTownModel", name := "years", desc := "(II)I" } : Jvm.MethodName) prog_14_method_139_code (5 : Nat) (Option.some Jvm.ClassFile.FieldType.int)) ∈ bigW := tp_9 (List.mem_of_getElem? (i := 200) rfl) rfl
theorem w_2121 : (Jvm.Cond.methodLink "StiltTownModel" (539 : Nat) ({ cls := "StiltTownModel", name := "lives", desc := "(II)I" } : Jvm.MethodName)) ∈ bigW := tp_9 (List.mem_of_getElem? (i := 201) rfl) rfl
theorem w_2123 : (Jvm.Cond.instanceMethod ({ cls := "StiltTownModel", name := "lives", desc := "(II)I" } : Jvm.MethodName)) ∈ bigW := tp_9 (List.mem_of_getElem? (i := 203) rfl) rfl
theorem w_2124 : (Jvm.Cond.code ({ cls := "StiltTownModel", name := "lives", desc := "(II)I" } : Jvm.MethodName) prog_14_method_138_code (9 : Nat) (Option.some Jvm.ClassFile.FieldType.int)) ∈ bigW := tp_9 (List.mem_of_getElem? (i := 204) rfl) rfl
theorem w_2125 : (Jvm.Cond.methodLink "StiltTownModel" (536 : Nat) ({ cls := "StiltTownModel", name := "lot", desc := "(III)I" } : Jvm.MethodName)) ∈ bigW := tp_9 (List.mem_of_getElem? (i := 205) rfl) rfl
theorem w_2126 : (Jvm.Cond.static ({ cls := "StiltTownModel", name := "lot", desc := "(III)I" } : Jvm.MethodName)) ∈ bigW := tp_9 (List.mem_of_getElem? (i := 206) rfl) rfl
theorem w_2127 : (Jvm.Cond.code ({ cls := "StiltTownModel", name := "lot", desc := "(III)I" } : Jvm.MethodName) prog_14_method_137_code (3 : Nat) (Option.some Jvm.ClassFile.FieldType.int)) ∈ bigW := tp_9 (List.mem_of_getElem? (i := 207) rfl) rfl
theorem w_2128 : (Jvm.Cond.methodLink "StiltTownModel" (533 : Nat) ({ cls := "StiltTownModel", name := "mixed", desc := "(II)I" } : Jvm.MethodName)) ∈ bigW := tp_9 (List.mem_of_getElem? (i := 208) rfl) rfl
theorem w_2129 : (Jvm.Cond.static ({ cls := "StiltTownModel", name := "mixed", desc := "(II)I" } : Jvm.MethodName)) ∈ bigW := tp_9 (List.mem_of_getElem? (i := 209) rfl) rfl
theorem w_2130 : (Jvm.Cond.code ({ cls := "StiltTownModel", name := "mixed", desc := "(II)I" } : Jvm.MethodName) prog_14_method_136_code (3 : Nat) (Option.some Jvm.ClassFile.FieldType.int)) ∈ bigW := tp_9 (List.mem_of_getElem? (i := 210) rfl) rfl
theorem w_2131 : (Jvm.Cond.constant "StiltTownModel" (532 : Nat) (1103515245 : Int32)) ∈ bigW := tp_9 (List.mem_of_getElem? (i := 211) rfl) rfl
theorem w_2132 : (Jvm.Cond.methodLink "StiltTownLaw" (188 : Nat) ({ cls := "StiltTownModel", name := "hold", desc := "(I)Z" } : Jvm.MethodName)) ∈ bigW := tp_9 (List.mem_of_getElem? (i := 212) rfl) rfl
theorem w_2133 : (Jvm.Cond.instanceMethod ({ cls := "StiltTownModel", name := "hold", desc := "(I)Z" } : Jvm.MethodName)) ∈ bigW := tp_9 (List.mem_of_getElem? (i := 213) rfl) rfl
theorem w_2134 : (Jvm.Cond.selects "StiltTownModel" ({ cls := "StiltTownModel", name := "hold", desc := "(I)Z" } : Jvm.MethodName) ({ cls := "StiltTownModel", name := "hold", desc := "(I)Z" } : Jvm.MethodName)) ∈ bigW := tp_9 (List.mem_of_getElem? (i := 214) rfl) rfl
theorem w_2135 : (Jvm.Cond.code ({ cls := "StiltTownModel", name := "hold", desc := "(I)Z" } : Jvm.MethodName) prog_14_method_141_code (2 : Nat) (Option.some Jvm.ClassFile.FieldType.boolean)) ∈ bigW := tp_9 (List.mem_of_getElem? (i := 215) rfl) rfl
theorem w_2136 : (Jvm.Cond.methodLink "StiltTownModel" (542 : Nat) ({ cls := "StiltTownModel", name := "copy", desc := "(II)V" } : Jvm.MethodName)) ∈ bigW := tp_9 (List.mem_of_getElem? (i := 216) rfl) rfl
theorem w_2138 : (Jvm.Cond.instanceMethod ({ cls := "StiltTownModel", name := "copy", desc := "(II)V" } : Jvm.MethodName)) ∈ bigW := tp_9 (List.mem_of_getElem? (i := 218) rfl) rfl
theorem w_2139 : (Jvm.Cond.code ({ cls := "StiltTownModel", name := "copy", desc := "(II)V" } : Jvm.MethodName) prog_14_method_140_code (4 : Nat) (Option.none : Option Jvm.ClassFile.FieldType)) ∈ bigW := tp_9 (List.mem_of_getElem? (i := 219) rfl) rfl
theorem w_2140 : (Jvm.Cond.methodLink "StiltTownLaw" (192 : Nat) ({ cls := "StiltTownModel", name := "restore", desc := "(I)Z" } : Jvm.MethodName)) ∈ bigW := tp_9 (List.mem_of_getElem? (i := 220) rfl) rfl
theorem w_2141 : (Jvm.Cond.instanceMethod ({ cls := "StiltTownModel", name := "restore", desc := "(I)Z" } : Jvm.MethodName)) ∈ bigW := tp_9 (List.mem_of_getElem? (i := 221) rfl) rfl
theorem w_2142 : (Jvm.Cond.selects "StiltTownModel" ({ cls := "StiltTownModel", name := "restore", desc := "(I)Z" } : Jvm.MethodName) ({ cls := "StiltTownModel", name := "restore", desc := "(I)Z" } : Jvm.MethodName)) ∈ bigW := tp_9 (List.mem_of_getElem? (i := 222) rfl) rfl
theorem w_2143 : (Jvm.Cond.code ({ cls := "StiltTownModel", name := "restore", desc := "(I)Z" } : Jvm.MethodName) prog_14_method_142_code (2 : Nat) (Option.some Jvm.ClassFile.FieldType.boolean)) ∈ bigW := tp_9 (List.mem_of_getElem? (i := 223) rfl) rfl
theorem w_2144 : (Jvm.Cond.methodLink "StiltTownLaw" (196 : Nat) ({ cls := "StiltTownModel", name := "count", desc := "(I)I" } : Jvm.MethodName)) ∈ bigW := tp_9 (List.mem_of_getElem? (i := 224) rfl) rfl
theorem w_2145 : (Jvm.Cond.instanceMethod ({ cls := "StiltTownModel", name := "count", desc := "(I)I" } : Jvm.MethodName)) ∈ bigW := tp_9 (List.mem_of_getElem? (i := 225) rfl) rfl
theorem w_2146 : (Jvm.Cond.selects "StiltTownModel" ({ cls := "StiltTownModel", name := "count", desc := "(I)I" } : Jvm.MethodName) ({ cls := "StiltTownModel", name := "count", desc := "(I)I" } : Jvm.MethodName)) ∈ bigW := tp_9 (List.mem_of_getElem? (i := 226) rfl) rfl
theorem w_2147 : (Jvm.Cond.code ({ cls := "StiltTownModel", name := "count", desc := "(I)I" } : Jvm.MethodName) prog_14_method_143_code (2 : Nat) (Option.some Jvm.ClassFile.FieldType.int)) ∈ bigW := tp_9 (List.mem_of_getElem? (i := 227) rfl) rfl
theorem sp_of {q : MethodName × Nat} (h : q ∈ lw_privs) : Cond.selects q.1.cls q.1 q.1 ∈ lw_tbl := List.mem_append_left _ (List.mem_map.mpr ⟨q, h, rfl⟩)
theorem wp_0 : Jvm.Cond.selects "StiltTown$Tokens" ({ cls := "StiltTown$Tokens", name := "pastBlanks", desc := "(I)I" } : Jvm.MethodName) ({ cls := "StiltTown$Tokens", name := "pastBlanks", desc := "(I)I" } : Jvm.MethodName) ∈ bigW := bw (sp_of (q := (⟨"StiltTown$Tokens", "pastBlanks", "(I)I"⟩, 6)) (List.mem_append_left _ (List.mem_of_getElem? (i := 0) rfl))) rfl
theorem wp_1 : Jvm.Cond.selects "StiltTown$Tokens" ({ cls := "StiltTown$Tokens", name := "byteAt", desc := "(I)I" } : Jvm.MethodName) ({ cls := "StiltTown$Tokens", name := "byteAt", desc := "(I)I" } : Jvm.MethodName) ∈ bigW := bw (sp_of (q := (⟨"StiltTown$Tokens", "byteAt", "(I)I"⟩, 6)) (List.mem_append_left _ (List.mem_of_getElem? (i := 1) rfl))) rfl
theorem wp_2 : Jvm.Cond.selects "StiltTown$Tokens" ({ cls := "StiltTown$Tokens", name := "scanToken", desc := "(II)I" } : Jvm.MethodName) ({ cls := "StiltTown$Tokens", name := "scanToken", desc := "(II)I" } : Jvm.MethodName) ∈ bigW := bw (sp_of (q := (⟨"StiltTown$Tokens", "scanToken", "(II)I"⟩, 6)) (List.mem_append_left _ (List.mem_of_getElem? (i := 2) rfl))) rfl
theorem wp_3 : Jvm.Cond.selects "StiltTown$Tokens" ({ cls := "StiltTown$Tokens", name := "pastRun", desc := "(III)I" } : Jvm.MethodName) ({ cls := "StiltTown$Tokens", name := "pastRun", desc := "(III)I" } : Jvm.MethodName) ∈ bigW := bw (sp_of (q := (⟨"StiltTown$Tokens", "pastRun", "(III)I"⟩, 6)) (List.mem_append_left _ (List.mem_of_getElem? (i := 3) rfl))) rfl
theorem wp_4 : Jvm.Cond.selects "StiltTown$Tokens" ({ cls := "StiltTown$Tokens", name := "packed", desc := "(II)J" } : Jvm.MethodName) ({ cls := "StiltTown$Tokens", name := "packed", desc := "(II)J" } : Jvm.MethodName) ∈ bigW := bw (sp_of (q := (⟨"StiltTown$Tokens", "packed", "(II)J"⟩, 6)) (List.mem_append_left _ (List.mem_of_getElem? (i := 4) rfl))) rfl
theorem wp_5 : Jvm.Cond.selects "StiltTown$Tokens" ({ cls := "StiltTown$Tokens", name := "wordKind", desc := "(II)I" } : Jvm.MethodName) ({ cls := "StiltTown$Tokens", name := "wordKind", desc := "(II)I" } : Jvm.MethodName) ∈ bigW := bw (sp_of (q := (⟨"StiltTown$Tokens", "wordKind", "(II)I"⟩, 6)) (List.mem_append_left _ (List.mem_of_getElem? (i := 5) rfl))) rfl
theorem wp_6 : Jvm.Cond.selects "StiltTown$Tokens" ({ cls := "StiltTown$Tokens", name := "spells", desc := "(Ljava/lang/String;II)Z" } : Jvm.MethodName) ({ cls := "StiltTown$Tokens", name := "spells", desc := "(Ljava/lang/String;II)Z" } : Jvm.MethodName) ∈ bigW := bw (sp_of (q := (⟨"StiltTown$Tokens", "spells", "(Ljava/lang/String;II)Z"⟩, 6)) (List.mem_append_left _ (List.mem_of_getElem? (i := 6) rfl))) rfl
theorem wp_7 : Jvm.Cond.selects "StiltTown$Tokens" ({ cls := "StiltTown$Tokens", name := "number", desc := "(II)I" } : Jvm.MethodName) ({ cls := "StiltTown$Tokens", name := "number", desc := "(II)I" } : Jvm.MethodName) ∈ bigW := bw (sp_of (q := (⟨"StiltTown$Tokens", "number", "(II)I"⟩, 6)) (List.mem_append_left _ (List.mem_of_getElem? (i := 7) rfl))) rfl
theorem wp_8 : Jvm.Cond.selects "StiltTown$Reader" ({ cls := "StiltTown$Reader", name := "begin", desc := "()V" } : Jvm.MethodName) ({ cls := "StiltTown$Reader", name := "begin", desc := "()V" } : Jvm.MethodName) ∈ bigW := bw (sp_of (q := (⟨"StiltTown$Reader", "begin", "()V"⟩, 18)) (List.mem_append_left _ (List.mem_of_getElem? (i := 8) rfl))) rfl
theorem wp_9 : Jvm.Cond.selects "StiltTown$Reader" ({ cls := "StiltTown$Reader", name := "kind", desc := "()I" } : Jvm.MethodName) ({ cls := "StiltTown$Reader", name := "kind", desc := "()I" } : Jvm.MethodName) ∈ bigW := bw (sp_of (q := (⟨"StiltTown$Reader", "kind", "()I"⟩, 18)) (List.mem_append_left _ (List.mem_of_getElem? (i := 9) rfl))) rfl
theorem wp_10 : Jvm.Cond.selects "StiltTown$Reader" ({ cls := "StiltTown$Reader", name := "readHouse", desc := "()V" } : Jvm.MethodName) ({ cls := "StiltTown$Reader", name := "readHouse", desc := "()V" } : Jvm.MethodName) ∈ bigW := bw (sp_of (q := (⟨"StiltTown$Reader", "readHouse", "()V"⟩, 18)) (List.mem_append_left _ (List.mem_of_getElem? (i := 10) rfl))) rfl
theorem wp_11 : Jvm.Cond.selects "StiltTown$Reader" ({ cls := "StiltTown$Reader", name := "takeFirst", desc := "(III)Z" } : Jvm.MethodName) ({ cls := "StiltTown$Reader", name := "takeFirst", desc := "(III)Z" } : Jvm.MethodName) ∈ bigW := bw (sp_of (q := (⟨"StiltTown$Reader", "takeFirst", "(III)Z"⟩, 18)) (List.mem_append_left _ (List.mem_of_getElem? (i := 11) rfl))) rfl
theorem wp_12 : Jvm.Cond.selects "StiltTown$Reader" ({ cls := "StiltTown$Reader", name := "fail", desc := "(I)V" } : Jvm.MethodName) ({ cls := "StiltTown$Reader", name := "fail", desc := "(I)V" } : Jvm.MethodName) ∈ bigW := bw (sp_of (q := (⟨"StiltTown$Reader", "fail", "(I)V"⟩, 18)) (List.mem_append_left _ (List.mem_of_getElem? (i := 12) rfl))) rfl
theorem wp_13 : Jvm.Cond.selects "StiltTown$Reader" ({ cls := "StiltTown$Reader", name := "take", desc := "(I)Z" } : Jvm.MethodName) ({ cls := "StiltTown$Reader", name := "take", desc := "(I)Z" } : Jvm.MethodName) ∈ bigW := bw (sp_of (q := (⟨"StiltTown$Reader", "take", "(I)Z"⟩, 18)) (List.mem_append_left _ (List.mem_of_getElem? (i := 13) rfl))) rfl
theorem wp_14 : Jvm.Cond.selects "StiltTown$Reader" ({ cls := "StiltTown$Reader", name := "readNewName", desc := "(I)V" } : Jvm.MethodName) ({ cls := "StiltTown$Reader", name := "readNewName", desc := "(I)V" } : Jvm.MethodName) ∈ bigW := bw (sp_of (q := (⟨"StiltTown$Reader", "readNewName", "(I)V"⟩, 18)) (List.mem_append_left _ (List.mem_of_getElem? (i := 14) rfl))) rfl
theorem wp_15 : Jvm.Cond.selects "StiltTown$Reader" ({ cls := "StiltTown$Reader", name := "start", desc := "()I" } : Jvm.MethodName) ({ cls := "StiltTown$Reader", name := "start", desc := "()I" } : Jvm.MethodName) ∈ bigW := bw (sp_of (q := (⟨"StiltTown$Reader", "start", "()I"⟩, 18)) (List.mem_append_left _ (List.mem_of_getElem? (i := 15) rfl))) rfl
theorem wp_16 : Jvm.Cond.selects "StiltTown$Reader" ({ cls := "StiltTown$Reader", name := "value", desc := "()J" } : Jvm.MethodName) ({ cls := "StiltTown$Reader", name := "value", desc := "()J" } : Jvm.MethodName) ∈ bigW := bw (sp_of (q := (⟨"StiltTown$Reader", "value", "()J"⟩, 18)) (List.mem_append_right _ (List.mem_append_left _ (List.mem_of_getElem? (i := 0) rfl)))) rfl
theorem wp_17 : Jvm.Cond.selects "StiltTown$Reader" ({ cls := "StiltTown$Reader", name := "ownerOf", desc := "(J)I" } : Jvm.MethodName) ({ cls := "StiltTown$Reader", name := "ownerOf", desc := "(J)I" } : Jvm.MethodName) ∈ bigW := bw (sp_of (q := (⟨"StiltTown$Reader", "ownerOf", "(J)I"⟩, 18)) (List.mem_append_right _ (List.mem_append_left _ (List.mem_of_getElem? (i := 1) rfl)))) rfl
theorem wp_18 : Jvm.Cond.selects "StiltTown$Reader" ({ cls := "StiltTown$Reader", name := "failLate", desc := "(II)V" } : Jvm.MethodName) ({ cls := "StiltTown$Reader", name := "failLate", desc := "(II)V" } : Jvm.MethodName) ∈ bigW := bw (sp_of (q := (⟨"StiltTown$Reader", "failLate", "(II)V"⟩, 18)) (List.mem_append_right _ (List.mem_append_left _ (List.mem_of_getElem? (i := 2) rfl)))) rfl
theorem wp_19 : Jvm.Cond.selects "StiltTown$Reader" ({ cls := "StiltTown$Reader", name := "readInt", desc := "(II)I" } : Jvm.MethodName) ({ cls := "StiltTown$Reader", name := "readInt", desc := "(II)I" } : Jvm.MethodName) ∈ bigW := bw (sp_of (q := (⟨"StiltTown$Reader", "readInt", "(II)I"⟩, 18)) (List.mem_append_right _ (List.mem_append_left _ (List.mem_of_getElem? (i := 3) rfl)))) rfl
theorem wp_20 : Jvm.Cond.selects "StiltTown$Reader" ({ cls := "StiltTown$Reader", name := "intValue", desc := "()I" } : Jvm.MethodName) ({ cls := "StiltTown$Reader", name := "intValue", desc := "()I" } : Jvm.MethodName) ∈ bigW := bw (sp_of (q := (⟨"StiltTown$Reader", "intValue", "()I"⟩, 18)) (List.mem_append_right _ (List.mem_append_left _ (List.mem_of_getElem? (i := 4) rfl)))) rfl
theorem wp_21 : Jvm.Cond.selects "StiltTown$Reader" ({ cls := "StiltTown$Reader", name := "readOffice", desc := "()V" } : Jvm.MethodName) ({ cls := "StiltTown$Reader", name := "readOffice", desc := "()V" } : Jvm.MethodName) ∈ bigW := bw (sp_of (q := (⟨"StiltTown$Reader", "readOffice", "()V"⟩, 18)) (List.mem_append_right _ (List.mem_append_left _ (List.mem_of_getElem? (i := 5) rfl)))) rfl
theorem wp_22 : Jvm.Cond.selects "StiltTown$Reader" ({ cls := "StiltTown$Reader", name := "readIn", desc := "()V" } : Jvm.MethodName) ({ cls := "StiltTown$Reader", name := "readIn", desc := "()V" } : Jvm.MethodName) ∈ bigW := bw (sp_of (q := (⟨"StiltTown$Reader", "readIn", "()V"⟩, 18)) (List.mem_append_right _ (List.mem_append_left _ (List.mem_of_getElem? (i := 6) rfl)))) rfl
theorem wp_23 : Jvm.Cond.selects "StiltTown$Reader" ({ cls := "StiltTown$Reader", name := "readHouseName", desc := "()I" } : Jvm.MethodName) ({ cls := "StiltTown$Reader", name := "readHouseName", desc := "()I" } : Jvm.MethodName) ∈ bigW := bw (sp_of (q := (⟨"StiltTown$Reader", "readHouseName", "()I"⟩, 18)) (List.mem_append_right _ (List.mem_append_left _ (List.mem_of_getElem? (i := 7) rfl)))) rfl
theorem wp_24 : Jvm.Cond.selects "StiltTown$Reader" ({ cls := "StiltTown$Reader", name := "readOfficeName", desc := "()I" } : Jvm.MethodName) ({ cls := "StiltTown$Reader", name := "readOfficeName", desc := "()I" } : Jvm.MethodName) ∈ bigW := bw (sp_of (q := (⟨"StiltTown$Reader", "readOfficeName", "()I"⟩, 18)) (List.mem_append_right _ (List.mem_append_left _ (List.mem_of_getElem? (i := 8) rfl)))) rfl
theorem wp_25 : Jvm.Cond.selects "StiltTown$Reader" ({ cls := "StiltTown$Reader", name := "readStair", desc := "()V" } : Jvm.MethodName) ({ cls := "StiltTown$Reader", name := "readStair", desc := "()V" } : Jvm.MethodName) ∈ bigW := bw (sp_of (q := (⟨"StiltTown$Reader", "readStair", "()V"⟩, 18)) (List.mem_append_right _ (List.mem_append_left _ (List.mem_of_getElem? (i := 9) rfl)))) rfl
theorem wp_26 : Jvm.Cond.selects "StiltTown$Reader" ({ cls := "StiltTown$Reader", name := "readQuay", desc := "()V" } : Jvm.MethodName) ({ cls := "StiltTown$Reader", name := "readQuay", desc := "()V" } : Jvm.MethodName) ∈ bigW := bw (sp_of (q := (⟨"StiltTown$Reader", "readQuay", "()V"⟩, 18)) (List.mem_append_right _ (List.mem_append_left _ (List.mem_of_getElem? (i := 10) rfl)))) rfl
theorem wp_27 : Jvm.Cond.selects "StiltTown$Reader" ({ cls := "StiltTown$Reader", name := "readWood", desc := "()V" } : Jvm.MethodName) ({ cls := "StiltTown$Reader", name := "readWood", desc := "()V" } : Jvm.MethodName) ∈ bigW := bw (sp_of (q := (⟨"StiltTown$Reader", "readWood", "()V"⟩, 18)) (List.mem_append_right _ (List.mem_append_left _ (List.mem_of_getElem? (i := 11) rfl)))) rfl
theorem wp_28 : Jvm.Cond.selects "StiltTown$Reader" ({ cls := "StiltTown$Reader", name := "readLone", desc := "(II)I" } : Jvm.MethodName) ({ cls := "StiltTown$Reader", name := "readLone", desc := "(II)I" } : Jvm.MethodName) ∈ bigW := bw (sp_of (q := (⟨"StiltTown$Reader", "readLone", "(II)I"⟩, 18)) (List.mem_append_right _ (List.mem_append_left _ (List.mem_of_getElem? (i := 12) rfl)))) rfl
theorem wp_29 : Jvm.Cond.selects "StiltTown$Reader" ({ cls := "StiltTown$Reader", name := "readLaw", desc := "(I)V" } : Jvm.MethodName) ({ cls := "StiltTown$Reader", name := "readLaw", desc := "(I)V" } : Jvm.MethodName) ∈ bigW := bw (sp_of (q := (⟨"StiltTown$Reader", "readLaw", "(I)V"⟩, 18)) (List.mem_append_right _ (List.mem_append_left _ (List.mem_of_getElem? (i := 13) rfl)))) rfl
theorem wp_30 : Jvm.Cond.selects "StiltTown$Reader" ({ cls := "StiltTown$Reader", name := "readFormula", desc := "(I)V" } : Jvm.MethodName) ({ cls := "StiltTown$Reader", name := "readFormula", desc := "(I)V" } : Jvm.MethodName) ∈ bigW := bw (sp_of (q := (⟨"StiltTown$Reader", "readFormula", "(I)V"⟩, 18)) (List.mem_append_right _ (List.mem_append_left _ (List.mem_of_getElem? (i := 14) rfl)))) rfl
theorem wp_31 : Jvm.Cond.selects "StiltTown$Reader" ({ cls := "StiltTown$Reader", name := "readUnit", desc := "()V" } : Jvm.MethodName) ({ cls := "StiltTown$Reader", name := "readUnit", desc := "()V" } : Jvm.MethodName) ∈ bigW := bw (sp_of (q := (⟨"StiltTown$Reader", "readUnit", "()V"⟩, 18)) (List.mem_append_right _ (List.mem_append_left _ (List.mem_of_getElem? (i := 15) rfl)))) rfl
theorem wp_32 : Jvm.Cond.selects "StiltTown$Reader" ({ cls := "StiltTown$Reader", name := "keepWaiting", desc := "(I)V" } : Jvm.MethodName) ({ cls := "StiltTown$Reader", name := "keepWaiting", desc := "(I)V" } : Jvm.MethodName) ∈ bigW := bw (sp_of (q := (⟨"StiltTown$Reader", "keepWaiting", "(I)V"⟩, 18)) (List.mem_append_right _ (List.mem_append_right _ (List.mem_append_left _ (List.mem_of_getElem? (i := 0) rfl))))) rfl
theorem wp_33 : Jvm.Cond.selects "StiltTown$Reader" ({ cls := "StiltTown$Reader", name := "readOpen", desc := "()V" } : Jvm.MethodName) ({ cls := "StiltTown$Reader", name := "readOpen", desc := "()V" } : Jvm.MethodName) ∈ bigW := bw (sp_of (q := (⟨"StiltTown$Reader", "readOpen", "()V"⟩, 18)) (List.mem_append_right _ (List.mem_append_right _ (List.mem_append_left _ (List.mem_of_getElem? (i := 1) rfl))))) rfl
theorem wp_34 : Jvm.Cond.selects "StiltTown$Reader" ({ cls := "StiltTown$Reader", name := "readBetween", desc := "()V" } : Jvm.MethodName) ({ cls := "StiltTown$Reader", name := "readBetween", desc := "()V" } : Jvm.MethodName) ∈ bigW := bw (sp_of (q := (⟨"StiltTown$Reader", "readBetween", "()V"⟩, 18)) (List.mem_append_right _ (List.mem_append_right _ (List.mem_append_left _ (List.mem_of_getElem? (i := 2) rfl))))) rfl
theorem wp_35 : Jvm.Cond.selects "StiltTown$Reader" ({ cls := "StiltTown$Reader", name := "readJoint", desc := "(II)V" } : Jvm.MethodName) ({ cls := "StiltTown$Reader", name := "readJoint", desc := "(II)V" } : Jvm.MethodName) ∈ bigW := bw (sp_of (q := (⟨"StiltTown$Reader", "readJoint", "(II)V"⟩, 18)) (List.mem_append_right _ (List.mem_append_right _ (List.mem_append_left _ (List.mem_of_getElem? (i := 3) rfl))))) rfl
theorem wp_36 : Jvm.Cond.selects "StiltTown$Reader" ({ cls := "StiltTown$Reader", name := "release", desc := "(I)V" } : Jvm.MethodName) ({ cls := "StiltTown$Reader", name := "release", desc := "(I)V" } : Jvm.MethodName) ∈ bigW := bw (sp_of (q := (⟨"StiltTown$Reader", "release", "(I)V"⟩, 18)) (List.mem_append_right _ (List.mem_append_right _ (List.mem_append_left _ (List.mem_of_getElem? (i := 4) rfl))))) rfl
theorem wp_37 : Jvm.Cond.selects "StiltTown$Reader" ({ cls := "StiltTown$Reader", name := "readClose", desc := "()V" } : Jvm.MethodName) ({ cls := "StiltTown$Reader", name := "readClose", desc := "()V" } : Jvm.MethodName) ∈ bigW := bw (sp_of (q := (⟨"StiltTown$Reader", "readClose", "()V"⟩, 18)) (List.mem_append_right _ (List.mem_append_right _ (List.mem_append_left _ (List.mem_of_getElem? (i := 5) rfl))))) rfl
theorem wp_38 : Jvm.Cond.selects "StiltTown$Reader" ({ cls := "StiltTown$Reader", name := "readRule", desc := "(II)V" } : Jvm.MethodName) ({ cls := "StiltTown$Reader", name := "readRule", desc := "(II)V" } : Jvm.MethodName) ∈ bigW := bw (sp_of (q := (⟨"StiltTown$Reader", "readRule", "(II)V"⟩, 18)) (List.mem_append_right _ (List.mem_append_right _ (List.mem_append_left _ (List.mem_of_getElem? (i := 6) rfl))))) rfl
theorem wp_39 : Jvm.Cond.selects "StiltTown" ({ cls := "StiltTown", name := "moveIn", desc := "()V" } : Jvm.MethodName) ({ cls := "StiltTown", name := "moveIn", desc := "()V" } : Jvm.MethodName) ∈ bigW := bw (sp_of (q := (⟨"StiltTown", "moveIn", "()V"⟩, 11)) (List.mem_append_right _ (List.mem_append_right _ (List.mem_append_left _ (List.mem_of_getElem? (i := 7) rfl))))) rfl
theorem wp_40 : Jvm.Cond.selects "StiltTown" ({ cls := "StiltTown", name := "isHouse", desc := "(I)Z" } : Jvm.MethodName) ({ cls := "StiltTown", name := "isHouse", desc := "(I)Z" } : Jvm.MethodName) ∈ bigW := bw (sp_of (q := (⟨"StiltTown", "isHouse", "(I)Z"⟩, 11)) (List.mem_append_right _ (List.mem_append_right _ (List.mem_append_left _ (List.mem_of_getElem? (i := 8) rfl))))) rfl
theorem wp_41 : Jvm.Cond.selects "StiltTown$Town" ({ cls := "StiltTown$Town", name := "putVars", desc := "(LStiltTown$State;I)V" } : Jvm.MethodName) ({ cls := "StiltTown$Town", name := "putVars", desc := "(LStiltTown$State;I)V" } : Jvm.MethodName) ∈ bigW := bw (sp_of (q := (⟨"StiltTown$Town", "putVars", "(LStiltTown$State;I)V"⟩, 16)) (List.mem_append_right _ (List.mem_append_right _ (List.mem_append_left _ (List.mem_of_getElem? (i := 9) rfl))))) rfl
theorem wp_42 : Jvm.Cond.selects "StiltTown$Laws" ({ cls := "StiltTown$Laws", name := "push", desc := "(I)V" } : Jvm.MethodName) ({ cls := "StiltTown$Laws", name := "push", desc := "(I)V" } : Jvm.MethodName) ∈ bigW := bw (sp_of (q := (⟨"StiltTown$Laws", "push", "(I)V"⟩, 13)) (List.mem_append_right _ (List.mem_append_right _ (List.mem_append_left _ (List.mem_of_getElem? (i := 10) rfl))))) rfl
theorem wp_43 : Jvm.Cond.selects "StiltTown$Laws" ({ cls := "StiltTown$Laws", name := "turnRound", desc := "()V" } : Jvm.MethodName) ({ cls := "StiltTown$Laws", name := "turnRound", desc := "()V" } : Jvm.MethodName) ∈ bigW := bw (sp_of (q := (⟨"StiltTown$Laws", "turnRound", "()V"⟩, 13)) (List.mem_append_right _ (List.mem_append_right _ (List.mem_append_left _ (List.mem_of_getElem? (i := 11) rfl))))) rfl
theorem wp_44 : Jvm.Cond.selects "StiltTown$Laws" ({ cls := "StiltTown$Laws", name := "join", desc := "(I)V" } : Jvm.MethodName) ({ cls := "StiltTown$Laws", name := "join", desc := "(I)V" } : Jvm.MethodName) ∈ bigW := bw (sp_of (q := (⟨"StiltTown$Laws", "join", "(I)V"⟩, 13)) (List.mem_append_right _ (List.mem_append_right _ (List.mem_append_left _ (List.mem_of_getElem? (i := 12) rfl))))) rfl
theorem wp_45 : Jvm.Cond.selects "StiltTown$Laws" ({ cls := "StiltTown$Laws", name := "reckon", desc := "(III)I" } : Jvm.MethodName) ({ cls := "StiltTown$Laws", name := "reckon", desc := "(III)I" } : Jvm.MethodName) ∈ bigW := bw (sp_of (q := (⟨"StiltTown$Laws", "reckon", "(III)I"⟩, 13)) (List.mem_append_right _ (List.mem_append_right _ (List.mem_append_left _ (List.mem_of_getElem? (i := 13) rfl))))) rfl
theorem wp_46 : Jvm.Cond.selects "StiltTown" ({ cls := "StiltTown", name := "isOffice", desc := "(I)Z" } : Jvm.MethodName) ({ cls := "StiltTown", name := "isOffice", desc := "(I)Z" } : Jvm.MethodName) ∈ bigW := bw (sp_of (q := (⟨"StiltTown", "isOffice", "(I)Z"⟩, 11)) (List.mem_append_right _ (List.mem_append_right _ (List.mem_append_left _ (List.mem_of_getElem? (i := 14) rfl))))) rfl
theorem wp_47 : Jvm.Cond.selects "StiltTown$Town" ({ cls := "StiltTown$Town", name := "reachedWithout", desc := "([IIII)I" } : Jvm.MethodName) ({ cls := "StiltTown$Town", name := "reachedWithout", desc := "([IIII)I" } : Jvm.MethodName) ∈ bigW := bw (sp_of (q := (⟨"StiltTown$Town", "reachedWithout", "([IIII)I"⟩, 16)) (List.mem_append_right _ (List.mem_append_right _ (List.mem_append_left _ (List.mem_of_getElem? (i := 15) rfl))))) rfl
theorem wp_48 : Jvm.Cond.selects "StiltTown$Town" ({ cls := "StiltTown$Town", name := "behindStair", desc := "(III)I" } : Jvm.MethodName) ({ cls := "StiltTown$Town", name := "behindStair", desc := "(III)I" } : Jvm.MethodName) ∈ bigW := bw (sp_of (q := (⟨"StiltTown$Town", "behindStair", "(III)I"⟩, 16)) (List.mem_append_right _ (List.mem_append_right _ (List.mem_append_right _ (List.mem_append_left _ (List.mem_of_getElem? (i := 0) rfl)))))) rfl
theorem wp_49 : Jvm.Cond.selects "StiltTown" ({ cls := "StiltTown", name := "isStair", desc := "(I)Z" } : Jvm.MethodName) ({ cls := "StiltTown", name := "isStair", desc := "(I)Z" } : Jvm.MethodName) ∈ bigW := bw (sp_of (q := (⟨"StiltTown", "isStair", "(I)Z"⟩, 11)) (List.mem_append_right _ (List.mem_append_right _ (List.mem_append_right _ (List.mem_append_left _ (List.mem_of_getElem? (i := 1) rfl)))))) rfl
theorem wp_50 : Jvm.Cond.selects "StiltTown" ({ cls := "StiltTown", name := "isWood", desc := "(I)Z" } : Jvm.MethodName) ({ cls := "StiltTown", name := "isWood", desc := "(I)Z" } : Jvm.MethodName) ∈ bigW := bw (sp_of (q := (⟨"StiltTown", "isWood", "(I)Z"⟩, 11)) (List.mem_append_right _ (List.mem_append_right _ (List.mem_append_right _ (List.mem_append_left _ (List.mem_of_getElem? (i := 2) rfl)))))) rfl
theorem wp_51 : Jvm.Cond.selects "StiltTown$Yard" ({ cls := "StiltTown$Yard", name := "fewestFrom", desc := "(IIII)I" } : Jvm.MethodName) ({ cls := "StiltTown$Yard", name := "fewestFrom", desc := "(IIII)I" } : Jvm.MethodName) ∈ bigW := bw (sp_of (q := (⟨"StiltTown$Yard", "fewestFrom", "(IIII)I"⟩, 3)) (List.mem_append_right _ (List.mem_append_right _ (List.mem_append_right _ (List.mem_append_left _ (List.mem_of_getElem? (i := 3) rfl)))))) rfl
theorem wp_52 : Jvm.Cond.selects "StiltTown$Yard" ({ cls := "StiltTown$Yard", name := "mostOf", desc := "(IIII)I" } : Jvm.MethodName) ({ cls := "StiltTown$Yard", name := "mostOf", desc := "(IIII)I" } : Jvm.MethodName) ∈ bigW := bw (sp_of (q := (⟨"StiltTown$Yard", "mostOf", "(IIII)I"⟩, 3)) (List.mem_append_right _ (List.mem_append_right _ (List.mem_append_right _ (List.mem_append_left _ (List.mem_of_getElem? (i := 4) rfl)))))) rfl
theorem wp_53 : Jvm.Cond.selects "StiltTown$Works" ({ cls := "StiltTown$Works", name := "nightVerdict", desc := "(LStiltTown$Town;LStiltTown$State;LStiltTown$Yard;II)I" } : Jvm.MethodName) ({ cls := "StiltTown$Works", name := "nightVerdict", desc := "(LStiltTown$Town;LStiltTown$State;LStiltTown$Yard;II)I" } : Jvm.MethodName) ∈ bigW := bw (sp_of (q := (⟨"StiltTown$Works", "nightVerdict", "(LStiltTown$Town;LStiltTown$State;LStiltTown$Yard;II)I"⟩, 7)) (List.mem_append_right _ (List.mem_append_right _ (List.mem_append_right _ (List.mem_append_left _ (List.mem_of_getElem? (i := 5) rfl)))))) rfl
theorem wp_54 : Jvm.Cond.selects "StiltTown$Works" ({ cls := "StiltTown$Works", name := "workReason", desc := "(LStiltTown$Town;LStiltTown$Yard;II)I" } : Jvm.MethodName) ({ cls := "StiltTown$Works", name := "workReason", desc := "(LStiltTown$Town;LStiltTown$Yard;II)I" } : Jvm.MethodName) ∈ bigW := bw (sp_of (q := (⟨"StiltTown$Works", "workReason", "(LStiltTown$Town;LStiltTown$Yard;II)I"⟩, 7)) (List.mem_append_right _ (List.mem_append_right _ (List.mem_append_right _ (List.mem_append_left _ (List.mem_of_getElem? (i := 6) rfl)))))) rfl
theorem wp_55 : Jvm.Cond.selects "StiltTown$Works" ({ cls := "StiltTown$Works", name := "keepPiece", desc := "(LStiltTown$Town;I)V" } : Jvm.MethodName) ({ cls := "StiltTown$Works", name := "keepPiece", desc := "(LStiltTown$Town;I)V" } : Jvm.MethodName) ∈ bigW := bw (sp_of (q := (⟨"StiltTown$Works", "keepPiece", "(LStiltTown$Town;I)V"⟩, 7)) (List.mem_append_right _ (List.mem_append_right _ (List.mem_append_right _ (List.mem_append_left _ (List.mem_of_getElem? (i := 7) rfl)))))) rfl
theorem wp_56 : Jvm.Cond.selects "StiltTown$Works" ({ cls := "StiltTown$Works", name := "takePieces", desc := "(LStiltTown$Town;LStiltTown$Yard;)V" } : Jvm.MethodName) ({ cls := "StiltTown$Works", name := "takePieces", desc := "(LStiltTown$Town;LStiltTown$Yard;)V" } : Jvm.MethodName) ∈ bigW := bw (sp_of (q := (⟨"StiltTown$Works", "takePieces", "(LStiltTown$Town;LStiltTown$Yard;)V"⟩, 7)) (List.mem_append_right _ (List.mem_append_right _ (List.mem_append_right _ (List.mem_append_left _ (List.mem_of_getElem? (i := 8) rfl)))))) rfl
theorem wp_57 : Jvm.Cond.selects "StiltTown$Nights" ({ cls := "StiltTown$Nights", name := "bring", desc := "(LStiltTown$State;I)V" } : Jvm.MethodName) ({ cls := "StiltTown$Nights", name := "bring", desc := "(LStiltTown$State;I)V" } : Jvm.MethodName) ∈ bigW := bw (sp_of (q := (⟨"StiltTown$Nights", "bring", "(LStiltTown$State;I)V"⟩, 5)) (List.mem_append_right _ (List.mem_append_right _ (List.mem_append_right _ (List.mem_append_left _ (List.mem_of_getElem? (i := 9) rfl)))))) rfl
theorem wp_58 : Jvm.Cond.selects "StiltTown$Nights" ({ cls := "StiltTown$Nights", name := "fewestFrom", desc := "(III)I" } : Jvm.MethodName) ({ cls := "StiltTown$Nights", name := "fewestFrom", desc := "(III)I" } : Jvm.MethodName) ∈ bigW := bw (sp_of (q := (⟨"StiltTown$Nights", "fewestFrom", "(III)I"⟩, 5)) (List.mem_append_right _ (List.mem_append_right _ (List.mem_append_right _ (List.mem_append_left _ (List.mem_of_getElem? (i := 10) rfl)))))) rfl
theorem wp_59 : Jvm.Cond.selects "StiltTown$Nights" ({ cls := "StiltTown$Nights", name := "houseBits", desc := "(I)I" } : Jvm.MethodName) ({ cls := "StiltTown$Nights", name := "houseBits", desc := "(I)I" } : Jvm.MethodName) ∈ bigW := bw (sp_of (q := (⟨"StiltTown$Nights", "houseBits", "(I)I"⟩, 5)) (List.mem_append_right _ (List.mem_append_right _ (List.mem_append_right _ (List.mem_append_left _ (List.mem_of_getElem? (i := 11) rfl)))))) rfl
theorem wp_60 : Jvm.Cond.selects "StiltTown$Falls" ({ cls := "StiltTown$Falls", name := "fallingBits", desc := "(LStiltTown$Town;LStiltTown$State;II)I" } : Jvm.MethodName) ({ cls := "StiltTown$Falls", name := "fallingBits", desc := "(LStiltTown$Town;LStiltTown$State;II)I" } : Jvm.MethodName) ∈ bigW := bw (sp_of (q := (⟨"StiltTown$Falls", "fallingBits", "(LStiltTown$Town;LStiltTown$State;II)I"⟩, 4)) (List.mem_append_right _ (List.mem_append_right _ (List.mem_append_right _ (List.mem_append_left _ (List.mem_of_getElem? (i := 12) rfl)))))) rfl
theorem wp_61 : Jvm.Cond.selects "StiltTown$Falls" ({ cls := "StiltTown$Falls", name := "enter", desc := "(II)V" } : Jvm.MethodName) ({ cls := "StiltTown$Falls", name := "enter", desc := "(II)V" } : Jvm.MethodName) ∈ bigW := bw (sp_of (q := (⟨"StiltTown$Falls", "enter", "(II)V"⟩, 4)) (List.mem_append_right _ (List.mem_append_right _ (List.mem_append_right _ (List.mem_append_left _ (List.mem_of_getElem? (i := 13) rfl)))))) rfl
theorem wp_62 : Jvm.Cond.selects "StiltTown$Row" ({ cls := "StiltTown$Row", name := "fillLevel", desc := "(I)V" } : Jvm.MethodName) ({ cls := "StiltTown$Row", name := "fillLevel", desc := "(I)V" } : Jvm.MethodName) ∈ bigW := bw (sp_of (q := (⟨"StiltTown$Row", "fillLevel", "(I)V"⟩, 7)) (List.mem_append_right _ (List.mem_append_right _ (List.mem_append_right _ (List.mem_append_left _ (List.mem_of_getElem? (i := 14) rfl)))))) rfl
theorem wp_63 : Jvm.Cond.selects "StiltTown$Row" ({ cls := "StiltTown$Row", name := "behind", desc := "(II)I" } : Jvm.MethodName) ({ cls := "StiltTown$Row", name := "behind", desc := "(II)I" } : Jvm.MethodName) ∈ bigW := bw (sp_of (q := (⟨"StiltTown$Row", "behind", "(II)I"⟩, 7)) (List.mem_append_right _ (List.mem_append_right _ (List.mem_append_right _ (List.mem_append_left _ (List.mem_of_getElem? (i := 15) rfl)))))) rfl
theorem wp_64 : Jvm.Cond.selects "StiltTown$Row" ({ cls := "StiltTown$Row", name := "canBe", desc := "(II)Z" } : Jvm.MethodName) ({ cls := "StiltTown$Row", name := "canBe", desc := "(II)Z" } : Jvm.MethodName) ∈ bigW := bw (sp_of (q := (⟨"StiltTown$Row", "canBe", "(II)Z"⟩, 7)) (List.mem_append_right _ (List.mem_append_right _ (List.mem_append_right _ (List.mem_append_right _ (List.mem_append_left _ (List.mem_of_getElem? (i := 0) rfl))))))) rfl
theorem wp_65 : Jvm.Cond.selects "StiltTown$Row" ({ cls := "StiltTown$Row", name := "fillUp", desc := "(I)V" } : Jvm.MethodName) ({ cls := "StiltTown$Row", name := "fillUp", desc := "(I)V" } : Jvm.MethodName) ∈ bigW := bw (sp_of (q := (⟨"StiltTown$Row", "fillUp", "(I)V"⟩, 7)) (List.mem_append_right _ (List.mem_append_right _ (List.mem_append_right _ (List.mem_append_right _ (List.mem_append_left _ (List.mem_of_getElem? (i := 1) rfl))))))) rfl
theorem wp_66 : Jvm.Cond.selects "StiltTown$Row" ({ cls := "StiltTown$Row", name := "fillDown", desc := "(I)V" } : Jvm.MethodName) ({ cls := "StiltTown$Row", name := "fillDown", desc := "(I)V" } : Jvm.MethodName) ∈ bigW := bw (sp_of (q := (⟨"StiltTown$Row", "fillDown", "(I)V"⟩, 7)) (List.mem_append_right _ (List.mem_append_right _ (List.mem_append_right _ (List.mem_append_right _ (List.mem_append_left _ (List.mem_of_getElem? (i := 2) rfl))))))) rfl
theorem wp_67 : Jvm.Cond.selects "StiltTown$Row" ({ cls := "StiltTown$Row", name := "nextHeight", desc := "(II)I" } : Jvm.MethodName) ({ cls := "StiltTown$Row", name := "nextHeight", desc := "(II)I" } : Jvm.MethodName) ∈ bigW := bw (sp_of (q := (⟨"StiltTown$Row", "nextHeight", "(II)I"⟩, 7)) (List.mem_append_right _ (List.mem_append_right _ (List.mem_append_right _ (List.mem_append_right _ (List.mem_append_left _ (List.mem_of_getElem? (i := 3) rfl))))))) rfl
theorem wp_68 : Jvm.Cond.selects "StiltTown$Row" ({ cls := "StiltTown$Row", name := "stepCost", desc := "(II)I" } : Jvm.MethodName) ({ cls := "StiltTown$Row", name := "stepCost", desc := "(II)I" } : Jvm.MethodName) ∈ bigW := bw (sp_of (q := (⟨"StiltTown$Row", "stepCost", "(II)I"⟩, 7)) (List.mem_append_right _ (List.mem_append_right _ (List.mem_append_right _ (List.mem_append_right _ (List.mem_append_left _ (List.mem_of_getElem? (i := 4) rfl))))))) rfl
theorem wp_69 : Jvm.Cond.selects "StiltTown" ({ cls := "StiltTown", name := "isKnown", desc := "(I)Z" } : Jvm.MethodName) ({ cls := "StiltTown", name := "isKnown", desc := "(I)Z" } : Jvm.MethodName) ∈ bigW := bw (sp_of (q := (⟨"StiltTown", "isKnown", "(I)Z"⟩, 11)) (List.mem_append_right _ (List.mem_append_right _ (List.mem_append_right _ (List.mem_append_right _ (List.mem_append_left _ (List.mem_of_getElem? (i := 5) rfl))))))) rfl
theorem wp_70 : Jvm.Cond.selects "StiltTown$Logs" ({ cls := "StiltTown$Logs", name := "strike", desc := "(I)V" } : Jvm.MethodName) ({ cls := "StiltTown$Logs", name := "strike", desc := "(I)V" } : Jvm.MethodName) ∈ bigW := bw (sp_of (q := (⟨"StiltTown$Logs", "strike", "(I)V"⟩, 7)) (List.mem_append_right _ (List.mem_append_right _ (List.mem_append_right _ (List.mem_append_right _ (List.mem_append_left _ (List.mem_of_getElem? (i := 6) rfl))))))) rfl
theorem wp_71 : Jvm.Cond.selects "StiltTown$Logs" ({ cls := "StiltTown$Logs", name := "lastChoice", desc := "(III)I" } : Jvm.MethodName) ({ cls := "StiltTown$Logs", name := "lastChoice", desc := "(III)I" } : Jvm.MethodName) ∈ bigW := bw (sp_of (q := (⟨"StiltTown$Logs", "lastChoice", "(III)I"⟩, 7)) (List.mem_append_right _ (List.mem_append_right _ (List.mem_append_right _ (List.mem_append_right _ (List.mem_append_left _ (List.mem_of_getElem? (i := 7) rfl))))))) rfl
theorem wp_72 : Jvm.Cond.selects "StiltTown" ({ cls := "StiltTown", name := "beats", desc := "([III)Z" } : Jvm.MethodName) ({ cls := "StiltTown", name := "beats", desc := "([III)Z" } : Jvm.MethodName) ∈ bigW := bw (sp_of (q := (⟨"StiltTown", "beats", "([III)Z"⟩, 11)) (List.mem_append_right _ (List.mem_append_right _ (List.mem_append_right _ (List.mem_append_right _ (List.mem_append_left _ (List.mem_of_getElem? (i := 8) rfl))))))) rfl
theorem wp_73 : Jvm.Cond.selects "StiltTown$Logs" ({ cls := "StiltTown$Logs", name := "isMarkOf", desc := "(II)Z" } : Jvm.MethodName) ({ cls := "StiltTown$Logs", name := "isMarkOf", desc := "(II)Z" } : Jvm.MethodName) ∈ bigW := bw (sp_of (q := (⟨"StiltTown$Logs", "isMarkOf", "(II)Z"⟩, 7)) (List.mem_append_right _ (List.mem_append_right _ (List.mem_append_right _ (List.mem_append_right _ (List.mem_append_left _ (List.mem_of_getElem? (i := 9) rfl))))))) rfl
theorem wp_74 : Jvm.Cond.selects "StiltTown$Logs" ({ cls := "StiltTown$Logs", name := "contradicted", desc := "(II)Z" } : Jvm.MethodName) ({ cls := "StiltTown$Logs", name := "contradicted", desc := "(II)Z" } : Jvm.MethodName) ∈ bigW := bw (sp_of (q := (⟨"StiltTown$Logs", "contradicted", "(II)Z"⟩, 7)) (List.mem_append_right _ (List.mem_append_right _ (List.mem_append_right _ (List.mem_append_right _ (List.mem_append_left _ (List.mem_of_getElem? (i := 10) rfl))))))) rfl
theorem wp_75 : Jvm.Cond.selects "StiltTown" ({ cls := "StiltTown", name := "castLots", desc := "(II)V" } : Jvm.MethodName) ({ cls := "StiltTown", name := "castLots", desc := "(II)V" } : Jvm.MethodName) ∈ bigW := bw (sp_of (q := (⟨"StiltTown", "castLots", "(II)V"⟩, 11)) (List.mem_append_right _ (List.mem_append_right _ (List.mem_append_right _ (List.mem_append_right _ (List.mem_append_left _ (List.mem_of_getElem? (i := 11) rfl))))))) rfl
theorem wp_76 : Jvm.Cond.selects "StiltTown" ({ cls := "StiltTown", name := "straighten", desc := "()I" } : Jvm.MethodName) ({ cls := "StiltTown", name := "straighten", desc := "()I" } : Jvm.MethodName) ∈ bigW := bw (sp_of (q := (⟨"StiltTown", "straighten", "()I"⟩, 11)) (List.mem_append_right _ (List.mem_append_right _ (List.mem_append_right _ (List.mem_append_right _ (List.mem_append_left _ (List.mem_of_getElem? (i := 12) rfl))))))) rfl
theorem wp_77 : Jvm.Cond.selects "StiltTownModel" ({ cls := "StiltTownModel", name := "begin", desc := "(I)V" } : Jvm.MethodName) ({ cls := "StiltTownModel", name := "begin", desc := "(I)V" } : Jvm.MethodName) ∈ bigW := bw (sp_of (q := (⟨"StiltTownModel", "begin", "(I)V"⟩, 53)) (List.mem_append_right _ (List.mem_append_right _ (List.mem_append_right _ (List.mem_append_right _ (List.mem_append_left _ (List.mem_of_getElem? (i := 13) rfl))))))) rfl
theorem wp_78 : Jvm.Cond.selects "StiltTownModel" ({ cls := "StiltTownModel", name := "settle", desc := "()V" } : Jvm.MethodName) ({ cls := "StiltTownModel", name := "settle", desc := "()V" } : Jvm.MethodName) ∈ bigW := bw (sp_of (q := (⟨"StiltTownModel", "settle", "()V"⟩, 53)) (List.mem_append_right _ (List.mem_append_right _ (List.mem_append_right _ (List.mem_append_right _ (List.mem_append_left _ (List.mem_of_getElem? (i := 14) rfl))))))) rfl
theorem wp_79 : Jvm.Cond.selects "StiltTownModel" ({ cls := "StiltTownModel", name := "gives", desc := "(II)V" } : Jvm.MethodName) ({ cls := "StiltTownModel", name := "gives", desc := "(II)V" } : Jvm.MethodName) ∈ bigW := bw (sp_of (q := (⟨"StiltTownModel", "gives", "(II)V"⟩, 53)) (List.mem_append_right _ (List.mem_append_right _ (List.mem_append_right _ (List.mem_append_right _ (List.mem_append_left _ (List.mem_of_getElem? (i := 15) rfl))))))) rfl
theorem wp_80 : Jvm.Cond.selects "StiltTownModel" ({ cls := "StiltTownModel", name := "holderOf", desc := "(I)I" } : Jvm.MethodName) ({ cls := "StiltTownModel", name := "holderOf", desc := "(I)I" } : Jvm.MethodName) ∈ bigW := bw (sp_of (q := (⟨"StiltTownModel", "holderOf", "(I)I"⟩, 53)) (List.mem_append_right _ (List.mem_append_right _ (List.mem_append_right _ (List.mem_append_right _ (List.mem_append_right _ (List.mem_append_left _ (List.mem_of_getElem? (i := 0) rfl)))))))) rfl
theorem wp_81 : Jvm.Cond.selects "StiltTownModel" ({ cls := "StiltTownModel", name := "typed", desc := "(I)V" } : Jvm.MethodName) ({ cls := "StiltTownModel", name := "typed", desc := "(I)V" } : Jvm.MethodName) ∈ bigW := bw (sp_of (q := (⟨"StiltTownModel", "typed", "(I)V"⟩, 53)) (List.mem_append_right _ (List.mem_append_right _ (List.mem_append_right _ (List.mem_append_right _ (List.mem_append_right _ (List.mem_append_left _ (List.mem_of_getElem? (i := 1) rfl)))))))) rfl
theorem wp_82 : Jvm.Cond.selects "StiltTownModel" ({ cls := "StiltTownModel", name := "scanAll", desc := "()V" } : Jvm.MethodName) ({ cls := "StiltTownModel", name := "scanAll", desc := "()V" } : Jvm.MethodName) ∈ bigW := bw (sp_of (q := (⟨"StiltTownModel", "scanAll", "()V"⟩, 53)) (List.mem_append_right _ (List.mem_append_right _ (List.mem_append_right _ (List.mem_append_right _ (List.mem_append_right _ (List.mem_append_left _ (List.mem_of_getElem? (i := 2) rfl)))))))) rfl
theorem wp_83 : Jvm.Cond.selects "StiltTownModel" ({ cls := "StiltTownModel", name := "byteAt", desc := "(I)I" } : Jvm.MethodName) ({ cls := "StiltTownModel", name := "byteAt", desc := "(I)I" } : Jvm.MethodName) ∈ bigW := bw (sp_of (q := (⟨"StiltTownModel", "byteAt", "(I)I"⟩, 53)) (List.mem_append_right _ (List.mem_append_right _ (List.mem_append_right _ (List.mem_append_right _ (List.mem_append_right _ (List.mem_append_left _ (List.mem_of_getElem? (i := 3) rfl)))))))) rfl
theorem wp_84 : Jvm.Cond.selects "StiltTownModel" ({ cls := "StiltTownModel", name := "scan", desc := "(I)I" } : Jvm.MethodName) ({ cls := "StiltTownModel", name := "scan", desc := "(I)I" } : Jvm.MethodName) ∈ bigW := bw (sp_of (q := (⟨"StiltTownModel", "scan", "(I)I"⟩, 53)) (List.mem_append_right _ (List.mem_append_right _ (List.mem_append_right _ (List.mem_append_right _ (List.mem_append_right _ (List.mem_append_left _ (List.mem_of_getElem? (i := 4) rfl)))))))) rfl
theorem wp_85 : Jvm.Cond.selects "StiltTownModel" ({ cls := "StiltTownModel", name := "isLetter", desc := "(I)Z" } : Jvm.MethodName) ({ cls := "StiltTownModel", name := "isLetter", desc := "(I)Z" } : Jvm.MethodName) ∈ bigW := bw (sp_of (q := (⟨"StiltTownModel", "isLetter", "(I)Z"⟩, 53)) (List.mem_append_right _ (List.mem_append_right _ (List.mem_append_right _ (List.mem_append_right _ (List.mem_append_right _ (List.mem_append_left _ (List.mem_of_getElem? (i := 5) rfl)))))))) rfl
theorem wp_86 : Jvm.Cond.selects "StiltTownModel" ({ cls := "StiltTownModel", name := "token", desc := "(III)V" } : Jvm.MethodName) ({ cls := "StiltTownModel", name := "token", desc := "(III)V" } : Jvm.MethodName) ∈ bigW := bw (sp_of (q := (⟨"StiltTownModel", "token", "(III)V"⟩, 53)) (List.mem_append_right _ (List.mem_append_right _ (List.mem_append_right _ (List.mem_append_right _ (List.mem_append_right _ (List.mem_append_left _ (List.mem_of_getElem? (i := 6) rfl)))))))) rfl
theorem wp_87 : Jvm.Cond.selects "StiltTownModel" ({ cls := "StiltTownModel", name := "isDigit", desc := "(I)Z" } : Jvm.MethodName) ({ cls := "StiltTownModel", name := "isDigit", desc := "(I)Z" } : Jvm.MethodName) ∈ bigW := bw (sp_of (q := (⟨"StiltTownModel", "isDigit", "(I)Z"⟩, 53)) (List.mem_append_right _ (List.mem_append_right _ (List.mem_append_right _ (List.mem_append_right _ (List.mem_append_right _ (List.mem_append_left _ (List.mem_of_getElem? (i := 7) rfl)))))))) rfl
theorem wp_88 : Jvm.Cond.selects "StiltTownModel" ({ cls := "StiltTownModel", name := "signAt", desc := "(I)I" } : Jvm.MethodName) ({ cls := "StiltTownModel", name := "signAt", desc := "(I)I" } : Jvm.MethodName) ∈ bigW := bw (sp_of (q := (⟨"StiltTownModel", "signAt", "(I)I"⟩, 53)) (List.mem_append_right _ (List.mem_append_right _ (List.mem_append_right _ (List.mem_append_right _ (List.mem_append_right _ (List.mem_append_left _ (List.mem_of_getElem? (i := 8) rfl)))))))) rfl
theorem wp_89 : Jvm.Cond.selects "StiltTownModel" ({ cls := "StiltTownModel", name := "parses", desc := "()Z" } : Jvm.MethodName) ({ cls := "StiltTownModel", name := "parses", desc := "()Z" } : Jvm.MethodName) ∈ bigW := bw (sp_of (q := (⟨"StiltTownModel", "parses", "()Z"⟩, 53)) (List.mem_append_right _ (List.mem_append_right _ (List.mem_append_right _ (List.mem_append_right _ (List.mem_append_right _ (List.mem_append_left _ (List.mem_of_getElem? (i := 9) rfl)))))))) rfl
theorem wp_90 : Jvm.Cond.selects "StiltTownModel" ({ cls := "StiltTownModel", name := "tellOne", desc := "()Z" } : Jvm.MethodName) ({ cls := "StiltTownModel", name := "tellOne", desc := "()Z" } : Jvm.MethodName) ∈ bigW := bw (sp_of (q := (⟨"StiltTownModel", "tellOne", "()Z"⟩, 53)) (List.mem_append_right _ (List.mem_append_right _ (List.mem_append_right _ (List.mem_append_right _ (List.mem_append_right _ (List.mem_append_left _ (List.mem_of_getElem? (i := 10) rfl)))))))) rfl
theorem wp_91 : Jvm.Cond.selects "StiltTownModel" ({ cls := "StiltTownModel", name := "tellHouse", desc := "()Z" } : Jvm.MethodName) ({ cls := "StiltTownModel", name := "tellHouse", desc := "()Z" } : Jvm.MethodName) ∈ bigW := bw (sp_of (q := (⟨"StiltTownModel", "tellHouse", "()Z"⟩, 53)) (List.mem_append_right _ (List.mem_append_right _ (List.mem_append_right _ (List.mem_append_right _ (List.mem_append_right _ (List.mem_append_left _ (List.mem_of_getElem? (i := 11) rfl)))))))) rfl
theorem wp_92 : Jvm.Cond.selects "StiltTownModel" ({ cls := "StiltTownModel", name := "told", desc := "(I)I" } : Jvm.MethodName) ({ cls := "StiltTownModel", name := "told", desc := "(I)I" } : Jvm.MethodName) ∈ bigW := bw (sp_of (q := (⟨"StiltTownModel", "told", "(I)I"⟩, 53)) (List.mem_append_right _ (List.mem_append_right _ (List.mem_append_right _ (List.mem_append_right _ (List.mem_append_right _ (List.mem_append_left _ (List.mem_of_getElem? (i := 12) rfl)))))))) rfl
theorem wp_93 : Jvm.Cond.selects "StiltTownModel" ({ cls := "StiltTownModel", name := "next", desc := "(IIII)I" } : Jvm.MethodName) ({ cls := "StiltTownModel", name := "next", desc := "(IIII)I" } : Jvm.MethodName) ∈ bigW := bw (sp_of (q := (⟨"StiltTownModel", "next", "(IIII)I"⟩, 53)) (List.mem_append_right _ (List.mem_append_right _ (List.mem_append_right _ (List.mem_append_right _ (List.mem_append_right _ (List.mem_append_left _ (List.mem_of_getElem? (i := 13) rfl)))))))) rfl
theorem wp_94 : Jvm.Cond.selects "StiltTownModel" ({ cls := "StiltTownModel", name := "tell", desc := "(II)V" } : Jvm.MethodName) ({ cls := "StiltTownModel", name := "tell", desc := "(II)V" } : Jvm.MethodName) ∈ bigW := bw (sp_of (q := (⟨"StiltTownModel", "tell", "(II)V"⟩, 53)) (List.mem_append_right _ (List.mem_append_right _ (List.mem_append_right _ (List.mem_append_right _ (List.mem_append_right _ (List.mem_append_left _ (List.mem_of_getElem? (i := 14) rfl)))))))) rfl
theorem wp_95 : Jvm.Cond.selects "StiltTownModel" ({ cls := "StiltTownModel", name := "wrong", desc := "(I)Z" } : Jvm.MethodName) ({ cls := "StiltTownModel", name := "wrong", desc := "(I)Z" } : Jvm.MethodName) ∈ bigW := bw (sp_of (q := (⟨"StiltTownModel", "wrong", "(I)Z"⟩, 53)) (List.mem_append_right _ (List.mem_append_right _ (List.mem_append_right _ (List.mem_append_right _ (List.mem_append_right _ (List.mem_append_left _ (List.mem_of_getElem? (i := 15) rfl)))))))) rfl
theorem wp_96 : Jvm.Cond.selects "StiltTownModel" ({ cls := "StiltTownModel", name := "pass", desc := "()Z" } : Jvm.MethodName) ({ cls := "StiltTownModel", name := "pass", desc := "()Z" } : Jvm.MethodName) ∈ bigW := bw (sp_of (q := (⟨"StiltTownModel", "pass", "()Z"⟩, 53)) (List.mem_append_right _ (List.mem_append_right _ (List.mem_append_right _ (List.mem_append_right _ (List.mem_append_right _ (List.mem_append_right _ (List.mem_append_left _ (List.mem_of_getElem? (i := 0) rfl))))))))) rfl
theorem wp_97 : Jvm.Cond.selects "StiltTownModel" ({ cls := "StiltTownModel", name := "names", desc := "(II)Z" } : Jvm.MethodName) ({ cls := "StiltTownModel", name := "names", desc := "(II)Z" } : Jvm.MethodName) ∈ bigW := bw (sp_of (q := (⟨"StiltTownModel", "names", "(II)Z"⟩, 53)) (List.mem_append_right _ (List.mem_append_right _ (List.mem_append_right _ (List.mem_append_right _ (List.mem_append_right _ (List.mem_append_right _ (List.mem_append_left _ (List.mem_of_getElem? (i := 1) rfl))))))))) rfl
theorem wp_98 : Jvm.Cond.selects "StiltTownModel" ({ cls := "StiltTownModel", name := "takes", desc := "(I)Z" } : Jvm.MethodName) ({ cls := "StiltTownModel", name := "takes", desc := "(I)Z" } : Jvm.MethodName) ∈ bigW := bw (sp_of (q := (⟨"StiltTownModel", "takes", "(I)Z"⟩, 53)) (List.mem_append_right _ (List.mem_append_right _ (List.mem_append_right _ (List.mem_append_right _ (List.mem_append_right _ (List.mem_append_right _ (List.mem_append_left _ (List.mem_of_getElem? (i := 2) rfl))))))))) rfl
theorem wp_99 : Jvm.Cond.selects "StiltTownModel" ({ cls := "StiltTownModel", name := "tells", desc := "(II)V" } : Jvm.MethodName) ({ cls := "StiltTownModel", name := "tells", desc := "(II)V" } : Jvm.MethodName) ∈ bigW := bw (sp_of (q := (⟨"StiltTownModel", "tells", "(II)V"⟩, 53)) (List.mem_append_right _ (List.mem_append_right _ (List.mem_append_right _ (List.mem_append_right _ (List.mem_append_right _ (List.mem_append_right _ (List.mem_append_left _ (List.mem_of_getElem? (i := 3) rfl))))))))) rfl
theorem wp_100 : Jvm.Cond.selects "StiltTownModel" ({ cls := "StiltTownModel", name := "takesInt", desc := "(II)Z" } : Jvm.MethodName) ({ cls := "StiltTownModel", name := "takesInt", desc := "(II)Z" } : Jvm.MethodName) ∈ bigW := bw (sp_of (q := (⟨"StiltTownModel", "takesInt", "(II)Z"⟩, 53)) (List.mem_append_right _ (List.mem_append_right _ (List.mem_append_right _ (List.mem_append_right _ (List.mem_append_right _ (List.mem_append_right _ (List.mem_append_left _ (List.mem_of_getElem? (i := 4) rfl))))))))) rfl
theorem wp_101 : Jvm.Cond.selects "StiltTownModel" ({ cls := "StiltTownModel", name := "tellOffice", desc := "()Z" } : Jvm.MethodName) ({ cls := "StiltTownModel", name := "tellOffice", desc := "()Z" } : Jvm.MethodName) ∈ bigW := bw (sp_of (q := (⟨"StiltTownModel", "tellOffice", "()Z"⟩, 53)) (List.mem_append_right _ (List.mem_append_right _ (List.mem_append_right _ (List.mem_append_right _ (List.mem_append_right _ (List.mem_append_right _ (List.mem_append_left _ (List.mem_of_getElem? (i := 5) rfl))))))))) rfl
theorem wp_102 : Jvm.Cond.selects "StiltTownModel" ({ cls := "StiltTownModel", name := "tellIn", desc := "()Z" } : Jvm.MethodName) ({ cls := "StiltTownModel", name := "tellIn", desc := "()Z" } : Jvm.MethodName) ∈ bigW := bw (sp_of (q := (⟨"StiltTownModel", "tellIn", "()Z"⟩, 53)) (List.mem_append_right _ (List.mem_append_right _ (List.mem_append_right _ (List.mem_append_right _ (List.mem_append_right _ (List.mem_append_right _ (List.mem_append_left _ (List.mem_of_getElem? (i := 6) rfl))))))))) rfl
theorem wp_103 : Jvm.Cond.selects "StiltTownModel" ({ cls := "StiltTownModel", name := "takesName", desc := "(I)Z" } : Jvm.MethodName) ({ cls := "StiltTownModel", name := "takesName", desc := "(I)Z" } : Jvm.MethodName) ∈ bigW := bw (sp_of (q := (⟨"StiltTownModel", "takesName", "(I)Z"⟩, 53)) (List.mem_append_right _ (List.mem_append_right _ (List.mem_append_right _ (List.mem_append_right _ (List.mem_append_right _ (List.mem_append_right _ (List.mem_append_left _ (List.mem_of_getElem? (i := 7) rfl))))))))) rfl
theorem wp_104 : Jvm.Cond.selects "StiltTownModel" ({ cls := "StiltTownModel", name := "tellStair", desc := "()Z" } : Jvm.MethodName) ({ cls := "StiltTownModel", name := "tellStair", desc := "()Z" } : Jvm.MethodName) ∈ bigW := bw (sp_of (q := (⟨"StiltTownModel", "tellStair", "()Z"⟩, 53)) (List.mem_append_right _ (List.mem_append_right _ (List.mem_append_right _ (List.mem_append_right _ (List.mem_append_right _ (List.mem_append_right _ (List.mem_append_left _ (List.mem_of_getElem? (i := 8) rfl))))))))) rfl
theorem wp_105 : Jvm.Cond.selects "StiltTownModel" ({ cls := "StiltTownModel", name := "isWord", desc := "(I)Z" } : Jvm.MethodName) ({ cls := "StiltTownModel", name := "isWord", desc := "(I)Z" } : Jvm.MethodName) ∈ bigW := bw (sp_of (q := (⟨"StiltTownModel", "isWord", "(I)Z"⟩, 53)) (List.mem_append_right _ (List.mem_append_right _ (List.mem_append_right _ (List.mem_append_right _ (List.mem_append_right _ (List.mem_append_right _ (List.mem_append_left _ (List.mem_of_getElem? (i := 9) rfl))))))))) rfl
theorem wp_106 : Jvm.Cond.selects "StiltTownModel" ({ cls := "StiltTownModel", name := "tellQuay", desc := "()Z" } : Jvm.MethodName) ({ cls := "StiltTownModel", name := "tellQuay", desc := "()Z" } : Jvm.MethodName) ∈ bigW := bw (sp_of (q := (⟨"StiltTownModel", "tellQuay", "()Z"⟩, 53)) (List.mem_append_right _ (List.mem_append_right _ (List.mem_append_right _ (List.mem_append_right _ (List.mem_append_right _ (List.mem_append_right _ (List.mem_append_left _ (List.mem_of_getElem? (i := 10) rfl))))))))) rfl
theorem wp_107 : Jvm.Cond.selects "StiltTownModel" ({ cls := "StiltTownModel", name := "tellWood", desc := "()Z" } : Jvm.MethodName) ({ cls := "StiltTownModel", name := "tellWood", desc := "()Z" } : Jvm.MethodName) ∈ bigW := bw (sp_of (q := (⟨"StiltTownModel", "tellWood", "()Z"⟩, 53)) (List.mem_append_right _ (List.mem_append_right _ (List.mem_append_right _ (List.mem_append_right _ (List.mem_append_right _ (List.mem_append_right _ (List.mem_append_left _ (List.mem_of_getElem? (i := 11) rfl))))))))) rfl
theorem wp_108 : Jvm.Cond.selects "StiltTownModel" ({ cls := "StiltTownModel", name := "tellNumber", desc := "(II)Z" } : Jvm.MethodName) ({ cls := "StiltTownModel", name := "tellNumber", desc := "(II)Z" } : Jvm.MethodName) ∈ bigW := bw (sp_of (q := (⟨"StiltTownModel", "tellNumber", "(II)Z"⟩, 53)) (List.mem_append_right _ (List.mem_append_right _ (List.mem_append_right _ (List.mem_append_right _ (List.mem_append_right _ (List.mem_append_right _ (List.mem_append_left _ (List.mem_of_getElem? (i := 12) rfl))))))))) rfl
theorem wp_109 : Jvm.Cond.selects "StiltTownModel" ({ cls := "StiltTownModel", name := "tellLaw", desc := "(I)Z" } : Jvm.MethodName) ({ cls := "StiltTownModel", name := "tellLaw", desc := "(I)Z" } : Jvm.MethodName) ∈ bigW := bw (sp_of (q := (⟨"StiltTownModel", "tellLaw", "(I)Z"⟩, 53)) (List.mem_append_right _ (List.mem_append_right _ (List.mem_append_right _ (List.mem_append_right _ (List.mem_append_right _ (List.mem_append_right _ (List.mem_append_left _ (List.mem_of_getElem? (i := 13) rfl))))))))) rfl
theorem wp_110 : Jvm.Cond.selects "StiltTownModel" ({ cls := "StiltTownModel", name := "isSign", desc := "(I)Z" } : Jvm.MethodName) ({ cls := "StiltTownModel", name := "isSign", desc := "(I)Z" } : Jvm.MethodName) ∈ bigW := bw (sp_of (q := (⟨"StiltTownModel", "isSign", "(I)Z"⟩, 53)) (List.mem_append_right _ (List.mem_append_right _ (List.mem_append_right _ (List.mem_append_right _ (List.mem_append_right _ (List.mem_append_right _ (List.mem_append_left _ (List.mem_of_getElem? (i := 14) rfl))))))))) rfl
theorem wp_111 : Jvm.Cond.selects "StiltTownModel" ({ cls := "StiltTownModel", name := "expr", desc := "()Z" } : Jvm.MethodName) ({ cls := "StiltTownModel", name := "expr", desc := "()Z" } : Jvm.MethodName) ∈ bigW := bw (sp_of (q := (⟨"StiltTownModel", "expr", "()Z"⟩, 53)) (List.mem_append_right _ (List.mem_append_right _ (List.mem_append_right _ (List.mem_append_right _ (List.mem_append_right _ (List.mem_append_right _ (List.mem_append_left _ (List.mem_of_getElem? (i := 15) rfl))))))))) rfl
theorem wp_112 : Jvm.Cond.selects "StiltTownModel" ({ cls := "StiltTownModel", name := "await", desc := "(I)V" } : Jvm.MethodName) ({ cls := "StiltTownModel", name := "await", desc := "(I)V" } : Jvm.MethodName) ∈ bigW := bw (sp_of (q := (⟨"StiltTownModel", "await", "(I)V"⟩, 53)) (List.mem_append_right _ (List.mem_append_right _ (List.mem_append_right _ (List.mem_append_right _ (List.mem_append_right _ (List.mem_append_right _ (List.mem_append_right _ (List.mem_append_left _ (List.mem_of_getElem? (i := 0) rfl)))))))))) rfl
theorem wp_113 : Jvm.Cond.selects "StiltTownModel" ({ cls := "StiltTownModel", name := "emit", desc := "(II)V" } : Jvm.MethodName) ({ cls := "StiltTownModel", name := "emit", desc := "(II)V" } : Jvm.MethodName) ∈ bigW := bw (sp_of (q := (⟨"StiltTownModel", "emit", "(II)V"⟩, 53)) (List.mem_append_right _ (List.mem_append_right _ (List.mem_append_right _ (List.mem_append_right _ (List.mem_append_right _ (List.mem_append_right _ (List.mem_append_right _ (List.mem_append_left _ (List.mem_of_getElem? (i := 1) rfl)))))))))) rfl
theorem wp_114 : Jvm.Cond.selects "StiltTownModel" ({ cls := "StiltTownModel", name := "reduce", desc := "(II)V" } : Jvm.MethodName) ({ cls := "StiltTownModel", name := "reduce", desc := "(II)V" } : Jvm.MethodName) ∈ bigW := bw (sp_of (q := (⟨"StiltTownModel", "reduce", "(II)V"⟩, 53)) (List.mem_append_right _ (List.mem_append_right _ (List.mem_append_right _ (List.mem_append_right _ (List.mem_append_right _ (List.mem_append_right _ (List.mem_append_right _ (List.mem_append_left _ (List.mem_of_getElem? (i := 2) rfl)))))))))) rfl
theorem wp_115 : Jvm.Cond.selects "StiltTownModel" ({ cls := "StiltTownModel", name := "tellRule", desc := "(II)Z" } : Jvm.MethodName) ({ cls := "StiltTownModel", name := "tellRule", desc := "(II)Z" } : Jvm.MethodName) ∈ bigW := bw (sp_of (q := (⟨"StiltTownModel", "tellRule", "(II)Z"⟩, 53)) (List.mem_append_right _ (List.mem_append_right _ (List.mem_append_right _ (List.mem_append_right _ (List.mem_append_right _ (List.mem_append_right _ (List.mem_append_right _ (List.mem_append_left _ (List.mem_of_getElem? (i := 3) rfl)))))))))) rfl
theorem wp_116 : Jvm.Cond.selects "StiltTownModel" ({ cls := "StiltTownModel", name := "cond", desc := "()Z" } : Jvm.MethodName) ({ cls := "StiltTownModel", name := "cond", desc := "()Z" } : Jvm.MethodName) ∈ bigW := bw (sp_of (q := (⟨"StiltTownModel", "cond", "()Z"⟩, 53)) (List.mem_append_right _ (List.mem_append_right _ (List.mem_append_right _ (List.mem_append_right _ (List.mem_append_right _ (List.mem_append_right _ (List.mem_append_right _ (List.mem_append_left _ (List.mem_of_getElem? (i := 4) rfl)))))))))) rfl
theorem wp_117 : Jvm.Cond.selects "StiltTownModel" ({ cls := "StiltTownModel", name := "takesHold", desc := "()V" } : Jvm.MethodName) ({ cls := "StiltTownModel", name := "takesHold", desc := "()V" } : Jvm.MethodName) ∈ bigW := bw (sp_of (q := (⟨"StiltTownModel", "takesHold", "()V"⟩, 53)) (List.mem_append_right _ (List.mem_append_right _ (List.mem_append_right _ (List.mem_append_right _ (List.mem_append_right _ (List.mem_append_right _ (List.mem_append_right _ (List.mem_append_left _ (List.mem_of_getElem? (i := 5) rfl)))))))))) rfl
theorem wp_118 : Jvm.Cond.selects "StiltTownModel" ({ cls := "StiltTownModel", name := "isHouse", desc := "(I)Z" } : Jvm.MethodName) ({ cls := "StiltTownModel", name := "isHouse", desc := "(I)Z" } : Jvm.MethodName) ∈ bigW := bw (sp_of (q := (⟨"StiltTownModel", "isHouse", "(I)Z"⟩, 53)) (List.mem_append_right _ (List.mem_append_right _ (List.mem_append_right _ (List.mem_append_right _ (List.mem_append_right _ (List.mem_append_right _ (List.mem_append_right _ (List.mem_append_left _ (List.mem_of_getElem? (i := 6) rfl)))))))))) rfl
theorem wp_119 : Jvm.Cond.selects "StiltTownModel" ({ cls := "StiltTownModel", name := "xOf", desc := "(I)I" } : Jvm.MethodName) ({ cls := "StiltTownModel", name := "xOf", desc := "(I)I" } : Jvm.MethodName) ∈ bigW := bw (sp_of (q := (⟨"StiltTownModel", "xOf", "(I)I"⟩, 53)) (List.mem_append_right _ (List.mem_append_right _ (List.mem_append_right _ (List.mem_append_right _ (List.mem_append_right _ (List.mem_append_right _ (List.mem_append_right _ (List.mem_append_left _ (List.mem_of_getElem? (i := 7) rfl)))))))))) rfl
theorem wp_120 : Jvm.Cond.selects "StiltTownModel" ({ cls := "StiltTownModel", name := "heightOf", desc := "(I)I" } : Jvm.MethodName) ({ cls := "StiltTownModel", name := "heightOf", desc := "(I)I" } : Jvm.MethodName) ∈ bigW := bw (sp_of (q := (⟨"StiltTownModel", "heightOf", "(I)I"⟩, 53)) (List.mem_append_right _ (List.mem_append_right _ (List.mem_append_right _ (List.mem_append_right _ (List.mem_append_right _ (List.mem_append_right _ (List.mem_append_right _ (List.mem_append_left _ (List.mem_of_getElem? (i := 8) rfl)))))))))) rfl
theorem wp_121 : Jvm.Cond.selects "StiltTownModel" ({ cls := "StiltTownModel", name := "rankOf", desc := "(I)I" } : Jvm.MethodName) ({ cls := "StiltTownModel", name := "rankOf", desc := "(I)I" } : Jvm.MethodName) ∈ bigW := bw (sp_of (q := (⟨"StiltTownModel", "rankOf", "(I)I"⟩, 53)) (List.mem_append_right _ (List.mem_append_right _ (List.mem_append_right _ (List.mem_append_right _ (List.mem_append_right _ (List.mem_append_right _ (List.mem_append_right _ (List.mem_append_left _ (List.mem_of_getElem? (i := 9) rfl)))))))))) rfl
theorem wp_122 : Jvm.Cond.selects "StiltTownModel" ({ cls := "StiltTownModel", name := "dueOf", desc := "(I)I" } : Jvm.MethodName) ({ cls := "StiltTownModel", name := "dueOf", desc := "(I)I" } : Jvm.MethodName) ∈ bigW := bw (sp_of (q := (⟨"StiltTownModel", "dueOf", "(I)I"⟩, 53)) (List.mem_append_right _ (List.mem_append_right _ (List.mem_append_right _ (List.mem_append_right _ (List.mem_append_right _ (List.mem_append_right _ (List.mem_append_right _ (List.mem_append_left _ (List.mem_of_getElem? (i := 10) rfl)))))))))) rfl
theorem wp_123 : Jvm.Cond.selects "StiltTownModel" ({ cls := "StiltTownModel", name := "askNone", desc := "()V" } : Jvm.MethodName) ({ cls := "StiltTownModel", name := "askNone", desc := "()V" } : Jvm.MethodName) ∈ bigW := bw (sp_of (q := (⟨"StiltTownModel", "askNone", "()V"⟩, 53)) (List.mem_append_right _ (List.mem_append_right _ (List.mem_append_right _ (List.mem_append_right _ (List.mem_append_right _ (List.mem_append_right _ (List.mem_append_right _ (List.mem_append_left _ (List.mem_of_getElem? (i := 11) rfl)))))))))) rfl
theorem wp_124 : Jvm.Cond.selects "StiltTownModel" ({ cls := "StiltTownModel", name := "says", desc := "(II)I" } : Jvm.MethodName) ({ cls := "StiltTownModel", name := "says", desc := "(II)I" } : Jvm.MethodName) ∈ bigW := bw (sp_of (q := (⟨"StiltTownModel", "says", "(II)I"⟩, 53)) (List.mem_append_right _ (List.mem_append_right _ (List.mem_append_right _ (List.mem_append_right _ (List.mem_append_right _ (List.mem_append_right _ (List.mem_append_right _ (List.mem_append_left _ (List.mem_of_getElem? (i := 12) rfl)))))))))) rfl
theorem wp_125 : Jvm.Cond.selects "StiltTownModel" ({ cls := "StiltTownModel", name := "sum", desc := "(II)I" } : Jvm.MethodName) ({ cls := "StiltTownModel", name := "sum", desc := "(II)I" } : Jvm.MethodName) ∈ bigW := bw (sp_of (q := (⟨"StiltTownModel", "sum", "(II)I"⟩, 53)) (List.mem_append_right _ (List.mem_append_right _ (List.mem_append_right _ (List.mem_append_right _ (List.mem_append_right _ (List.mem_append_right _ (List.mem_append_right _ (List.mem_append_left _ (List.mem_of_getElem? (i := 13) rfl)))))))))) rfl
theorem wp_126 : Jvm.Cond.selects "StiltTownModel" ({ cls := "StiltTownModel", name := "isOffice", desc := "(I)Z" } : Jvm.MethodName) ({ cls := "StiltTownModel", name := "isOffice", desc := "(I)Z" } : Jvm.MethodName) ∈ bigW := bw (sp_of (q := (⟨"StiltTownModel", "isOffice", "(I)Z"⟩, 53)) (List.mem_append_right _ (List.mem_append_right _ (List.mem_append_right _ (List.mem_append_right _ (List.mem_append_right _ (List.mem_append_right _ (List.mem_append_right _ (List.mem_append_left _ (List.mem_of_getElem? (i := 14) rfl)))))))))) rfl
theorem wp_127 : Jvm.Cond.selects "StiltTownModel" ({ cls := "StiltTownModel", name := "tideOf", desc := "(I)I" } : Jvm.MethodName) ({ cls := "StiltTownModel", name := "tideOf", desc := "(I)I" } : Jvm.MethodName) ∈ bigW := bw (sp_of (q := (⟨"StiltTownModel", "tideOf", "(I)I"⟩, 53)) (List.mem_append_right _ (List.mem_append_right _ (List.mem_append_right _ (List.mem_append_right _ (List.mem_append_right _ (List.mem_append_right _ (List.mem_append_right _ (List.mem_append_left _ (List.mem_of_getElem? (i := 15) rfl)))))))))) rfl
theorem wp_128 : Jvm.Cond.selects "StiltTownModel" ({ cls := "StiltTownModel", name := "reachedAt", desc := "(III)I" } : Jvm.MethodName) ({ cls := "StiltTownModel", name := "reachedAt", desc := "(III)I" } : Jvm.MethodName) ∈ bigW := bw (sp_of (q := (⟨"StiltTownModel", "reachedAt", "(III)I"⟩, 53)) (List.mem_append_right _ (List.mem_append_right _ (List.mem_append_right _ (List.mem_append_right _ (List.mem_append_right _ (List.mem_append_right _ (List.mem_append_right _ (List.mem_append_right _ (List.mem_append_left _ (List.mem_of_getElem? (i := 0) rfl))))))))))) rfl
theorem wp_129 : Jvm.Cond.selects "StiltTownModel" ({ cls := "StiltTownModel", name := "isMeeting", desc := "(I)Z" } : Jvm.MethodName) ({ cls := "StiltTownModel", name := "isMeeting", desc := "(I)Z" } : Jvm.MethodName) ∈ bigW := bw (sp_of (q := (⟨"StiltTownModel", "isMeeting", "(I)Z"⟩, 53)) (List.mem_append_right _ (List.mem_append_right _ (List.mem_append_right _ (List.mem_append_right _ (List.mem_append_right _ (List.mem_append_right _ (List.mem_append_right _ (List.mem_append_right _ (List.mem_append_left _ (List.mem_of_getElem? (i := 1) rfl))))))))))) rfl
theorem wp_130 : Jvm.Cond.selects "StiltTownModel" ({ cls := "StiltTownModel", name := "manyOf", desc := "(Z)I" } : Jvm.MethodName) ({ cls := "StiltTownModel", name := "manyOf", desc := "(Z)I" } : Jvm.MethodName) ∈ bigW := bw (sp_of (q := (⟨"StiltTownModel", "manyOf", "(Z)I"⟩, 53)) (List.mem_append_right _ (List.mem_append_right _ (List.mem_append_right _ (List.mem_append_right _ (List.mem_append_right _ (List.mem_append_right _ (List.mem_append_right _ (List.mem_append_right _ (List.mem_append_left _ (List.mem_of_getElem? (i := 2) rfl))))))))))) rfl
theorem wp_131 : Jvm.Cond.selects "StiltTownModel" ({ cls := "StiltTownModel", name := "cutOf", desc := "(IZI)I" } : Jvm.MethodName) ({ cls := "StiltTownModel", name := "cutOf", desc := "(IZI)I" } : Jvm.MethodName) ∈ bigW := bw (sp_of (q := (⟨"StiltTownModel", "cutOf", "(IZI)I"⟩, 53)) (List.mem_append_right _ (List.mem_append_right _ (List.mem_append_right _ (List.mem_append_right _ (List.mem_append_right _ (List.mem_append_right _ (List.mem_append_right _ (List.mem_append_right _ (List.mem_append_left _ (List.mem_of_getElem? (i := 3) rfl))))))))))) rfl
theorem wp_132 : Jvm.Cond.selects "StiltTownModel" ({ cls := "StiltTownModel", name := "turned", desc := "()I" } : Jvm.MethodName) ({ cls := "StiltTownModel", name := "turned", desc := "()I" } : Jvm.MethodName) ∈ bigW := bw (sp_of (q := (⟨"StiltTownModel", "turned", "()I"⟩, 53)) (List.mem_append_right _ (List.mem_append_right _ (List.mem_append_right _ (List.mem_append_right _ (List.mem_append_right _ (List.mem_append_right _ (List.mem_append_right _ (List.mem_append_right _ (List.mem_append_left _ (List.mem_of_getElem? (i := 4) rfl))))))))))) rfl
theorem wp_133 : Jvm.Cond.selects "StiltTownModel" ({ cls := "StiltTownModel", name := "untrue", desc := "()I" } : Jvm.MethodName) ({ cls := "StiltTownModel", name := "untrue", desc := "()I" } : Jvm.MethodName) ∈ bigW := bw (sp_of (q := (⟨"StiltTownModel", "untrue", "()I"⟩, 53)) (List.mem_append_right _ (List.mem_append_right _ (List.mem_append_right _ (List.mem_append_right _ (List.mem_append_right _ (List.mem_append_right _ (List.mem_append_right _ (List.mem_append_right _ (List.mem_append_left _ (List.mem_of_getElem? (i := 5) rfl))))))))))) rfl
theorem wp_134 : Jvm.Cond.selects "StiltTownModel" ({ cls := "StiltTownModel", name := "isBad", desc := "(I)Z" } : Jvm.MethodName) ({ cls := "StiltTownModel", name := "isBad", desc := "(I)Z" } : Jvm.MethodName) ∈ bigW := bw (sp_of (q := (⟨"StiltTownModel", "isBad", "(I)Z"⟩, 53)) (List.mem_append_right _ (List.mem_append_right _ (List.mem_append_right _ (List.mem_append_right _ (List.mem_append_right _ (List.mem_append_right _ (List.mem_append_right _ (List.mem_append_right _ (List.mem_append_left _ (List.mem_of_getElem? (i := 6) rfl))))))))))) rfl
theorem wp_135 : Jvm.Cond.selects "StiltTownModel" ({ cls := "StiltTownModel", name := "swayOf", desc := "(II)I" } : Jvm.MethodName) ({ cls := "StiltTownModel", name := "swayOf", desc := "(II)I" } : Jvm.MethodName) ∈ bigW := bw (sp_of (q := (⟨"StiltTownModel", "swayOf", "(II)I"⟩, 53)) (List.mem_append_right _ (List.mem_append_right _ (List.mem_append_right _ (List.mem_append_right _ (List.mem_append_right _ (List.mem_append_right _ (List.mem_append_right _ (List.mem_append_right _ (List.mem_append_left _ (List.mem_of_getElem? (i := 7) rfl))))))))))) rfl
theorem wp_136 : Jvm.Cond.selects "StiltTownModel" ({ cls := "StiltTownModel", name := "look", desc := "(II)V" } : Jvm.MethodName) ({ cls := "StiltTownModel", name := "look", desc := "(II)V" } : Jvm.MethodName) ∈ bigW := bw (sp_of (q := (⟨"StiltTownModel", "look", "(II)V"⟩, 53)) (List.mem_append_right _ (List.mem_append_right _ (List.mem_append_right _ (List.mem_append_right _ (List.mem_append_right _ (List.mem_append_right _ (List.mem_append_right _ (List.mem_append_right _ (List.mem_append_left _ (List.mem_of_getElem? (i := 8) rfl))))))))))) rfl
theorem wp_137 : Jvm.Cond.selects "StiltTownModel" ({ cls := "StiltTownModel", name := "isRule", desc := "(II)Z" } : Jvm.MethodName) ({ cls := "StiltTownModel", name := "isRule", desc := "(II)Z" } : Jvm.MethodName) ∈ bigW := bw (sp_of (q := (⟨"StiltTownModel", "isRule", "(II)Z"⟩, 53)) (List.mem_append_right _ (List.mem_append_right _ (List.mem_append_right _ (List.mem_append_right _ (List.mem_append_right _ (List.mem_append_right _ (List.mem_append_right _ (List.mem_append_right _ (List.mem_append_left _ (List.mem_of_getElem? (i := 9) rfl))))))))))) rfl
theorem wp_138 : Jvm.Cond.selects "StiltTownModel" ({ cls := "StiltTownModel", name := "isHeld", desc := "(II)Z" } : Jvm.MethodName) ({ cls := "StiltTownModel", name := "isHeld", desc := "(II)Z" } : Jvm.MethodName) ∈ bigW := bw (sp_of (q := (⟨"StiltTownModel", "isHeld", "(II)Z"⟩, 53)) (List.mem_append_right _ (List.mem_append_right _ (List.mem_append_right _ (List.mem_append_right _ (List.mem_append_right _ (List.mem_append_right _ (List.mem_append_right _ (List.mem_append_right _ (List.mem_append_left _ (List.mem_of_getElem? (i := 10) rfl))))))))))) rfl
theorem wp_139 : Jvm.Cond.selects "StiltTownModel" ({ cls := "StiltTownModel", name := "isLit", desc := "(I)Z" } : Jvm.MethodName) ({ cls := "StiltTownModel", name := "isLit", desc := "(I)Z" } : Jvm.MethodName) ∈ bigW := bw (sp_of (q := (⟨"StiltTownModel", "isLit", "(I)Z"⟩, 53)) (List.mem_append_right _ (List.mem_append_right _ (List.mem_append_right _ (List.mem_append_right _ (List.mem_append_right _ (List.mem_append_right _ (List.mem_append_right _ (List.mem_append_right _ (List.mem_append_left _ (List.mem_of_getElem? (i := 11) rfl))))))))))) rfl
theorem wp_140 : Jvm.Cond.selects "StiltTownModel" ({ cls := "StiltTownModel", name := "jacks", desc := "(I)I" } : Jvm.MethodName) ({ cls := "StiltTownModel", name := "jacks", desc := "(I)I" } : Jvm.MethodName) ∈ bigW := bw (sp_of (q := (⟨"StiltTownModel", "jacks", "(I)I"⟩, 53)) (List.mem_append_right _ (List.mem_append_right _ (List.mem_append_right _ (List.mem_append_right _ (List.mem_append_right _ (List.mem_append_right _ (List.mem_append_right _ (List.mem_append_right _ (List.mem_append_left _ (List.mem_of_getElem? (i := 12) rfl))))))))))) rfl
theorem wp_141 : Jvm.Cond.selects "StiltTownModel" ({ cls := "StiltTownModel", name := "keep", desc := "(I)V" } : Jvm.MethodName) ({ cls := "StiltTownModel", name := "keep", desc := "(I)V" } : Jvm.MethodName) ∈ bigW := bw (sp_of (q := (⟨"StiltTownModel", "keep", "(I)V"⟩, 53)) (List.mem_append_right _ (List.mem_append_right _ (List.mem_append_right _ (List.mem_append_right _ (List.mem_append_right _ (List.mem_append_right _ (List.mem_append_right _ (List.mem_append_right _ (List.mem_append_left _ (List.mem_of_getElem? (i := 13) rfl))))))))))) rfl
theorem wp_142 : Jvm.Cond.selects "StiltTownModel" ({ cls := "StiltTownModel", name := "makesAll", desc := "()I" } : Jvm.MethodName) ({ cls := "StiltTownModel", name := "makesAll", desc := "()I" } : Jvm.MethodName) ∈ bigW := bw (sp_of (q := (⟨"StiltTownModel", "makesAll", "()I"⟩, 53)) (List.mem_append_right _ (List.mem_append_right _ (List.mem_append_right _ (List.mem_append_right _ (List.mem_append_right _ (List.mem_append_right _ (List.mem_append_right _ (List.mem_append_right _ (List.mem_append_left _ (List.mem_of_getElem? (i := 14) rfl))))))))))) rfl
theorem wp_143 : Jvm.Cond.selects "StiltTownModel" ({ cls := "StiltTownModel", name := "makes", desc := "(II)I" } : Jvm.MethodName) ({ cls := "StiltTownModel", name := "makes", desc := "(II)I" } : Jvm.MethodName) ∈ bigW := bw (sp_of (q := (⟨"StiltTownModel", "makes", "(II)I"⟩, 53)) (List.mem_append_right _ (List.mem_append_right _ (List.mem_append_right _ (List.mem_append_right _ (List.mem_append_right _ (List.mem_append_right _ (List.mem_append_right _ (List.mem_append_right _ (List.mem_append_left _ (List.mem_of_getElem? (i := 15) rfl))))))))))) rfl
theorem wp_144 : Jvm.Cond.selects "StiltTownModel" ({ cls := "StiltTownModel", name := "putBack", desc := "(I)V" } : Jvm.MethodName) ({ cls := "StiltTownModel", name := "putBack", desc := "(I)V" } : Jvm.MethodName) ∈ bigW := bw (sp_of (q := (⟨"StiltTownModel", "putBack", "(I)V"⟩, 53)) (List.mem_append_right _ (List.mem_append_right _ (List.mem_append_right _ (List.mem_append_right _ (List.mem_append_right _ (List.mem_append_right _ (List.mem_append_right _ (List.mem_append_right _ (List.mem_append_right _ (List.mem_append_left _ (List.mem_of_getElem? (i := 0) rfl)))))))))))) rfl
theorem wp_145 : Jvm.Cond.selects "StiltTownModel" ({ cls := "StiltTownModel", name := "layNights", desc := "()V" } : Jvm.MethodName) ({ cls := "StiltTownModel", name := "layNights", desc := "()V" } : Jvm.MethodName) ∈ bigW := bw (sp_of (q := (⟨"StiltTownModel", "layNights", "()V"⟩, 53)) (List.mem_append_right _ (List.mem_append_right _ (List.mem_append_right _ (List.mem_append_right _ (List.mem_append_right _ (List.mem_append_right _ (List.mem_append_right _ (List.mem_append_right _ (List.mem_append_right _ (List.mem_append_left _ (List.mem_of_getElem? (i := 1) rfl)))))))))))) rfl
theorem wp_146 : Jvm.Cond.selects "StiltTownModel" ({ cls := "StiltTownModel", name := "brings", desc := "(I)V" } : Jvm.MethodName) ({ cls := "StiltTownModel", name := "brings", desc := "(I)V" } : Jvm.MethodName) ∈ bigW := bw (sp_of (q := (⟨"StiltTownModel", "brings", "(I)V"⟩, 53)) (List.mem_append_right _ (List.mem_append_right _ (List.mem_append_right _ (List.mem_append_right _ (List.mem_append_right _ (List.mem_append_right _ (List.mem_append_right _ (List.mem_append_right _ (List.mem_append_right _ (List.mem_append_left _ (List.mem_of_getElem? (i := 2) rfl)))))))))))) rfl
theorem wp_147 : Jvm.Cond.selects "StiltTownModel" ({ cls := "StiltTownModel", name := "firstNight", desc := "()I" } : Jvm.MethodName) ({ cls := "StiltTownModel", name := "firstNight", desc := "()I" } : Jvm.MethodName) ∈ bigW := bw (sp_of (q := (⟨"StiltTownModel", "firstNight", "()I"⟩, 53)) (List.mem_append_right _ (List.mem_append_right _ (List.mem_append_right _ (List.mem_append_right _ (List.mem_append_right _ (List.mem_append_right _ (List.mem_append_right _ (List.mem_append_right _ (List.mem_append_right _ (List.mem_append_left _ (List.mem_of_getElem? (i := 3) rfl)))))))))))) rfl
theorem wp_148 : Jvm.Cond.selects "StiltTownModel" ({ cls := "StiltTownModel", name := "isBetween", desc := "(III)Z" } : Jvm.MethodName) ({ cls := "StiltTownModel", name := "isBetween", desc := "(III)Z" } : Jvm.MethodName) ∈ bigW := bw (sp_of (q := (⟨"StiltTownModel", "isBetween", "(III)Z"⟩, 53)) (List.mem_append_right _ (List.mem_append_right _ (List.mem_append_right _ (List.mem_append_right _ (List.mem_append_right _ (List.mem_append_right _ (List.mem_append_right _ (List.mem_append_right _ (List.mem_append_right _ (List.mem_append_left _ (List.mem_of_getElem? (i := 4) rfl)))))))))))) rfl
theorem wp_149 : Jvm.Cond.selects "StiltTownModel" ({ cls := "StiltTownModel", name := "isBelow", desc := "(III)Z" } : Jvm.MethodName) ({ cls := "StiltTownModel", name := "isBelow", desc := "(III)Z" } : Jvm.MethodName) ∈ bigW := bw (sp_of (q := (⟨"StiltTownModel", "isBelow", "(III)Z"⟩, 53)) (List.mem_append_right _ (List.mem_append_right _ (List.mem_append_right _ (List.mem_append_right _ (List.mem_append_right _ (List.mem_append_right _ (List.mem_append_right _ (List.mem_append_right _ (List.mem_append_right _ (List.mem_append_left _ (List.mem_of_getElem? (i := 5) rfl)))))))))))) rfl
theorem wp_150 : Jvm.Cond.selects "StiltTownModel" ({ cls := "StiltTownModel", name := "chains", desc := "(II)V" } : Jvm.MethodName) ({ cls := "StiltTownModel", name := "chains", desc := "(II)V" } : Jvm.MethodName) ∈ bigW := bw (sp_of (q := (⟨"StiltTownModel", "chains", "(II)V"⟩, 53)) (List.mem_append_right _ (List.mem_append_right _ (List.mem_append_right _ (List.mem_append_right _ (List.mem_append_right _ (List.mem_append_right _ (List.mem_append_right _ (List.mem_append_right _ (List.mem_append_right _ (List.mem_append_left _ (List.mem_of_getElem? (i := 6) rfl)))))))))))) rfl
theorem wp_151 : Jvm.Cond.selects "StiltTownModel" ({ cls := "StiltTownModel", name := "isFalling", desc := "(III)Z" } : Jvm.MethodName) ({ cls := "StiltTownModel", name := "isFalling", desc := "(III)Z" } : Jvm.MethodName) ∈ bigW := bw (sp_of (q := (⟨"StiltTownModel", "isFalling", "(III)Z"⟩, 53)) (List.mem_append_right _ (List.mem_append_right _ (List.mem_append_right _ (List.mem_append_right _ (List.mem_append_right _ (List.mem_append_right _ (List.mem_append_right _ (List.mem_append_right _ (List.mem_append_right _ (List.mem_append_left _ (List.mem_of_getElem? (i := 7) rfl)))))))))))) rfl
theorem wp_152 : Jvm.Cond.selects "StiltTownModel" ({ cls := "StiltTownModel", name := "goneBeside", desc := "(II)I" } : Jvm.MethodName) ({ cls := "StiltTownModel", name := "goneBeside", desc := "(II)I" } : Jvm.MethodName) ∈ bigW := bw (sp_of (q := (⟨"StiltTownModel", "goneBeside", "(II)I"⟩, 53)) (List.mem_append_right _ (List.mem_append_right _ (List.mem_append_right _ (List.mem_append_right _ (List.mem_append_right _ (List.mem_append_right _ (List.mem_append_right _ (List.mem_append_right _ (List.mem_append_right _ (List.mem_append_left _ (List.mem_of_getElem? (i := 8) rfl)))))))))))) rfl
theorem wp_153 : Jvm.Cond.selects "StiltTownModel" ({ cls := "StiltTownModel", name := "layPosts", desc := "(IIII)V" } : Jvm.MethodName) ({ cls := "StiltTownModel", name := "layPosts", desc := "(IIII)V" } : Jvm.MethodName) ∈ bigW := bw (sp_of (q := (⟨"StiltTownModel", "layPosts", "(IIII)V"⟩, 53)) (List.mem_append_right _ (List.mem_append_right _ (List.mem_append_right _ (List.mem_append_right _ (List.mem_append_right _ (List.mem_append_right _ (List.mem_append_right _ (List.mem_append_right _ (List.mem_append_right _ (List.mem_append_left _ (List.mem_of_getElem? (i := 9) rfl)))))))))))) rfl
theorem wp_154 : Jvm.Cond.selects "StiltTownModel" ({ cls := "StiltTownModel", name := "mostOf", desc := "(II)I" } : Jvm.MethodName) ({ cls := "StiltTownModel", name := "mostOf", desc := "(II)I" } : Jvm.MethodName) ∈ bigW := bw (sp_of (q := (⟨"StiltTownModel", "mostOf", "(II)I"⟩, 53)) (List.mem_append_right _ (List.mem_append_right _ (List.mem_append_right _ (List.mem_append_right _ (List.mem_append_right _ (List.mem_append_right _ (List.mem_append_right _ (List.mem_append_right _ (List.mem_append_right _ (List.mem_append_left _ (List.mem_of_getElem? (i := 10) rfl)))))))))))) rfl
theorem wp_155 : Jvm.Cond.selects "StiltTownModel" ({ cls := "StiltTownModel", name := "log", desc := "(IIII)I" } : Jvm.MethodName) ({ cls := "StiltTownModel", name := "log", desc := "(IIII)I" } : Jvm.MethodName) ∈ bigW := bw (sp_of (q := (⟨"StiltTownModel", "log", "(IIII)I"⟩, 53)) (List.mem_append_right _ (List.mem_append_right _ (List.mem_append_right _ (List.mem_append_right _ (List.mem_append_right _ (List.mem_append_right _ (List.mem_append_right _ (List.mem_append_right _ (List.mem_append_right _ (List.mem_append_left _ (List.mem_of_getElem? (i := 11) rfl)))))))))))) rfl
theorem wp_156 : Jvm.Cond.selects "StiltTownModel" ({ cls := "StiltTownModel", name := "isKnown", desc := "(I)Z" } : Jvm.MethodName) ({ cls := "StiltTownModel", name := "isKnown", desc := "(I)Z" } : Jvm.MethodName) ∈ bigW := bw (sp_of (q := (⟨"StiltTownModel", "isKnown", "(I)Z"⟩, 53)) (List.mem_append_right _ (List.mem_append_right _ (List.mem_append_right _ (List.mem_append_right _ (List.mem_append_right _ (List.mem_append_right _ (List.mem_append_right _ (List.mem_append_right _ (List.mem_append_right _ (List.mem_append_left _ (List.mem_of_getElem? (i := 12) rfl)))))))))))) rfl
theorem wp_157 : Jvm.Cond.selects "StiltTownModel" ({ cls := "StiltTownModel", name := "votesOf", desc := "(III)I" } : Jvm.MethodName) ({ cls := "StiltTownModel", name := "votesOf", desc := "(III)I" } : Jvm.MethodName) ∈ bigW := bw (sp_of (q := (⟨"StiltTownModel", "votesOf", "(III)I"⟩, 53)) (List.mem_append_right _ (List.mem_append_right _ (List.mem_append_right _ (List.mem_append_right _ (List.mem_append_right _ (List.mem_append_right _ (List.mem_append_right _ (List.mem_append_right _ (List.mem_append_right _ (List.mem_append_left _ (List.mem_of_getElem? (i := 13) rfl)))))))))))) rfl
theorem wp_158 : Jvm.Cond.selects "StiltTownModel" ({ cls := "StiltTownModel", name := "voteOf", desc := "(III)I" } : Jvm.MethodName) ({ cls := "StiltTownModel", name := "voteOf", desc := "(III)I" } : Jvm.MethodName) ∈ bigW := bw (sp_of (q := (⟨"StiltTownModel", "voteOf", "(III)I"⟩, 53)) (List.mem_append_right _ (List.mem_append_right _ (List.mem_append_right _ (List.mem_append_right _ (List.mem_append_right _ (List.mem_append_right _ (List.mem_append_right _ (List.mem_append_right _ (List.mem_append_right _ (List.mem_append_left _ (List.mem_of_getElem? (i := 14) rfl)))))))))))) rfl
theorem wp_159 : Jvm.Cond.selects "StiltTownModel" ({ cls := "StiltTownModel", name := "isLive", desc := "(II)Z" } : Jvm.MethodName) ({ cls := "StiltTownModel", name := "isLive", desc := "(II)Z" } : Jvm.MethodName) ∈ bigW := bw (sp_of (q := (⟨"StiltTownModel", "isLive", "(II)Z"⟩, 53)) (List.mem_append_right _ (List.mem_append_right _ (List.mem_append_right _ (List.mem_append_right _ (List.mem_append_right _ (List.mem_append_right _ (List.mem_append_right _ (List.mem_append_right _ (List.mem_append_right _ (List.mem_append_left _ (List.mem_of_getElem? (i := 15) rfl)))))))))))) rfl
theorem wp_160 : Jvm.Cond.selects "StiltTownModel" ({ cls := "StiltTownModel", name := "lives", desc := "(II)I" } : Jvm.MethodName) ({ cls := "StiltTownModel", name := "lives", desc := "(II)I" } : Jvm.MethodName) ∈ bigW := bw (sp_of (q := (⟨"StiltTownModel", "lives", "(II)I"⟩, 53)) (List.mem_append_right _ (List.mem_append_right _ (List.mem_append_right _ (List.mem_append_right _ (List.mem_append_right _ (List.mem_append_right _ (List.mem_append_right _ (List.mem_append_right _ (List.mem_append_right _ (List.mem_append_right _ (List.mem_of_getElem? (i := 0) rfl)))))))))))) rfl
theorem wp_161 : Jvm.Cond.selects "StiltTownModel" ({ cls := "StiltTownModel", name := "copy", desc := "(II)V" } : Jvm.MethodName) ({ cls := "StiltTownModel", name := "copy", desc := "(II)V" } : Jvm.MethodName) ∈ bigW := bw (sp_of (q := (⟨"StiltTownModel", "copy", "(II)V"⟩, 53)) (List.mem_append_right _ (List.mem_append_right _ (List.mem_append_right _ (List.mem_append_right _ (List.mem_append_right _ (List.mem_append_right _ (List.mem_append_right _ (List.mem_append_right _ (List.mem_append_right _ (List.mem_append_right _ (List.mem_of_getElem? (i := 1) rfl)))))))))))) rfl
theorem iX0 : ∀ w ∈ u_ws RX0 TX0 4, w ∈ bigW := by
  show ∀ w ∈ ([(Jvm.Cond.laysFinal "StiltTown$Falls" "StiltTown$Falls" "round" "[I"), (Jvm.Cond.laysFinal "StiltTown$Falls" "StiltTown$Falls" "beside" "[I"), (Jvm.Cond.laysFinal "StiltTown$Falls" "StiltTown$Falls" "verdict" "[I"), (Jvm.Cond.lays "StiltTown$Falls" "StiltTown$Falls" "lastRound" "I")] : List Cond), w ∈ bigW
  exact (List.forall_mem_cons.mpr ⟨w_445, (List.forall_mem_cons.mpr ⟨w_447, (List.forall_mem_cons.mpr ⟨w_449, (List.forall_mem_cons.mpr ⟨w_451, (fun _ h => absurd h List.not_mem_nil)⟩)⟩)⟩)⟩)
theorem iX1 : ∀ w ∈ u_ws RX1 TX1 13, w ∈ bigW := by
  show ∀ w ∈ ([(Jvm.Cond.laysFinal "StiltTown$Laws" "StiltTown$Laws" "code" "[I"), (Jvm.Cond.laysFinal "StiltTown$Laws" "StiltTown$Laws" "fall" "[I"), (Jvm.Cond.laysFinal "StiltTown$Laws" "StiltTown$Laws" "bad" "[I"), (Jvm.Cond.laysFinal "StiltTown$Laws" "StiltTown$Laws" "vars" "[I"), (Jvm.Cond.laysFinal "StiltTown$Laws" "StiltTown$Laws" "stack" "[I"), (Jvm.Cond.lays "StiltTown$Laws" "StiltTown$Laws" "size" "I"), (Jvm.Cond.lays "StiltTown$Laws" "StiltTown$Laws" "top" "I"), (Jvm.Cond.lays "StiltTown$Laws" "StiltTown$Laws" "broken" "Z"), (Jvm.Cond.lays "StiltTown$Laws" "StiltTown$Laws" "tide" "I"), (Jvm.Cond.lays "StiltTown$Laws" "StiltTown$Laws" "due" "I"), (Jvm.Cond.lays "StiltTown$Laws" "StiltTown$Laws" "sway" "I"), (Jvm.Cond.lays "StiltTown$Laws" "StiltTown$Laws" "falls" "I"), (Jvm.Cond.lays "StiltTown$Laws" "StiltTown$Laws" "bads" "I")] : List Cond), w ∈ bigW
  exact (List.forall_mem_cons.mpr ⟨w_105, (List.forall_mem_cons.mpr ⟨w_107, (List.forall_mem_cons.mpr ⟨w_109, (List.forall_mem_cons.mpr ⟨w_111, (List.forall_mem_cons.mpr ⟨w_113, (List.forall_mem_cons.mpr ⟨w_115, (List.forall_mem_cons.mpr ⟨w_117, (List.forall_mem_cons.mpr ⟨w_119, (List.forall_mem_cons.mpr ⟨w_121, (List.forall_mem_cons.mpr ⟨w_123, (List.forall_mem_cons.mpr ⟨w_125, (List.forall_mem_cons.mpr ⟨w_127, (List.forall_mem_cons.mpr ⟨w_129, (fun _ h => absurd h List.not_mem_nil)⟩)⟩)⟩)⟩)⟩)⟩)⟩)⟩)⟩)⟩)⟩)⟩)⟩)
theorem iX2 : ∀ w ∈ u_ws RX2 TX2 7, w ∈ bigW := by
  show ∀ w ∈ ([(Jvm.Cond.laysFinal "StiltTown$Logs" "StiltTown$Logs" "kind" "[I"), (Jvm.Cond.laysFinal "StiltTown$Logs" "StiltTown$Logs" "who" "[I"), (Jvm.Cond.laysFinal "StiltTown$Logs" "StiltTown$Logs" "which" "[I"), (Jvm.Cond.laysFinal "StiltTown$Logs" "StiltTown$Logs" "told" "[I"), (Jvm.Cond.laysFinal "StiltTown$Logs" "StiltTown$Logs" "struck" "[Z"), (Jvm.Cond.laysFinal "StiltTown$Logs" "StiltTown$Logs" "got" "[I"), (Jvm.Cond.lays "StiltTown$Logs" "StiltTown$Logs" "size" "I")] : List Cond), w ∈ bigW
  exact (List.forall_mem_cons.mpr ⟨w_238, (List.forall_mem_cons.mpr ⟨w_240, (List.forall_mem_cons.mpr ⟨w_242, (List.forall_mem_cons.mpr ⟨w_244, (List.forall_mem_cons.mpr ⟨w_246, (List.forall_mem_cons.mpr ⟨w_248, (List.forall_mem_cons.mpr ⟨w_250, (fun _ h => absurd h List.not_mem_nil)⟩)⟩)⟩)⟩)⟩)⟩)⟩)
theorem iX3 : ∀ w ∈ u_ws RX3 TX3 5, w ∈ bigW := by
  show ∀ w ∈ ([(Jvm.Cond.laysFinal "StiltTown$Nights" "StiltTown$Nights" "untrue" "[I"), (Jvm.Cond.laysFinal "StiltTown$Nights" "StiltTown$Nights" "height" "[I"), (Jvm.Cond.laysFinal "StiltTown$Nights" "StiltTown$Nights" "due" "[I"), (Jvm.Cond.laysFinal "StiltTown$Nights" "StiltTown$Nights" "left" "[I"), (Jvm.Cond.lays "StiltTown$Nights" "StiltTown$Nights" "many" "I")] : List Cond), w ∈ bigW
  exact (List.forall_mem_cons.mpr ⟨w_422, (List.forall_mem_cons.mpr ⟨w_424, (List.forall_mem_cons.mpr ⟨w_426, (List.forall_mem_cons.mpr ⟨w_428, (List.forall_mem_cons.mpr ⟨w_430, (fun _ h => absurd h List.not_mem_nil)⟩)⟩)⟩)⟩)⟩)
theorem iX4 : ∀ w ∈ u_ws RX4 TX4 18, w ∈ bigW := by
  show ∀ w ∈ ([(Jvm.Cond.laysFinal "StiltTown$Reader" "StiltTown$Reader" "names" "[J"), (Jvm.Cond.laysFinal "StiltTown$Reader" "StiltTown$Reader" "owners" "[I"), (Jvm.Cond.laysFinal "StiltTown$Reader" "StiltTown$Reader" "waiting" "[I"), (Jvm.Cond.laysFinal "StiltTown$Reader" "StiltTown$Reader" "tokens" "LStiltTown$Tokens;"), (Jvm.Cond.lays "StiltTown$Reader" "StiltTown$Reader" "town" "LStiltTown$Town;"), (Jvm.Cond.lays "StiltTown$Reader" "StiltTown$Reader" "state" "LStiltTown$State;"), (Jvm.Cond.lays "StiltTown$Reader" "StiltTown$Reader" "at" "I"), (Jvm.Cond.lays "StiltTown$Reader" "StiltTown$Reader" "fault" "I"), (Jvm.Cond.lays "StiltTown$Reader" "StiltTown$Reader" "place" "I"), (Jvm.Cond.lays "StiltTown$Reader" "StiltTown$Reader" "lateFault" "I"), (Jvm.Cond.lays "StiltTown$Reader" "StiltTown$Reader" "latePlace" "I"), (Jvm.Cond.lays "StiltTown$Reader" "StiltTown$Reader" "named" "I"), (Jvm.Cond.lays "StiltTown$Reader" "StiltTown$Reader" "ins" "I"), (Jvm.Cond.lays "StiltTown$Reader" "StiltTown$Reader" "waits" "I"), (Jvm.Cond.lays "StiltTown$Reader" "StiltTown$Reader" "side" "I"), (Jvm.Cond.lays "StiltTown$Reader" "StiltTown$Reader" "open" "I"), (Jvm.Cond.lays "StiltTown$Reader" "StiltTown$Reader" "wantsUnit" "Z"), (Jvm.Cond.lays "StiltTown$Reader" "StiltTown$Reader" "canTurn" "Z")] : List Cond), w ∈ bigW
  exact (List.forall_mem_cons.mpr ⟨w_322, (List.forall_mem_cons.mpr ⟨w_324, (List.forall_mem_cons.mpr ⟨w_326, (List.forall_mem_cons.mpr ⟨w_328, (List.forall_mem_cons.mpr ⟨w_330, (List.forall_mem_cons.mpr ⟨w_332, (List.forall_mem_cons.mpr ⟨w_334, (List.forall_mem_cons.mpr ⟨w_336, (List.forall_mem_cons.mpr ⟨w_338, (List.forall_mem_cons.mpr ⟨w_340, (List.forall_mem_cons.mpr ⟨w_342, (List.forall_mem_cons.mpr ⟨w_344, (List.forall_mem_cons.mpr ⟨w_346, (List.forall_mem_cons.mpr ⟨w_348, (List.forall_mem_cons.mpr ⟨w_350, (List.forall_mem_cons.mpr ⟨w_352, (List.forall_mem_cons.mpr ⟨w_354, (List.forall_mem_cons.mpr ⟨w_356, (fun _ h => absurd h List.not_mem_nil)⟩)⟩)⟩)⟩)⟩)⟩)⟩)⟩)⟩)⟩)⟩)⟩)⟩)⟩)⟩)⟩)⟩)⟩)
theorem iX5 : ∀ w ∈ u_ws RX5 TX5 7, w ∈ bigW := by
  show ∀ w ∈ ([(Jvm.Cond.laysFinal "StiltTown$Row" "StiltTown$Row" "dues" "[I"), (Jvm.Cond.laysFinal "StiltTown$Row" "StiltTown$Row" "least" "[I"), (Jvm.Cond.lays "StiltTown$Row" "StiltTown$Row" "size" "I"), (Jvm.Cond.lays "StiltTown$Row" "StiltTown$Row" "slack" "I"), (Jvm.Cond.lays "StiltTown$Row" "StiltTown$Row" "up" "I"), (Jvm.Cond.lays "StiltTown$Row" "StiltTown$Row" "down" "I"), (Jvm.Cond.lays "StiltTown$Row" "StiltTown$Row" "change" "I")] : List Cond), w ∈ bigW
  exact (List.forall_mem_cons.mpr ⟨w_468, (List.forall_mem_cons.mpr ⟨w_470, (List.forall_mem_cons.mpr ⟨w_472, (List.forall_mem_cons.mpr ⟨w_474, (List.forall_mem_cons.mpr ⟨w_476, (List.forall_mem_cons.mpr ⟨w_478, (List.forall_mem_cons.mpr ⟨w_480, (fun _ h => absurd h List.not_mem_nil)⟩)⟩)⟩)⟩)⟩)⟩)⟩)
theorem iX6 : ∀ w ∈ u_ws RX6 TX6 9, w ∈ bigW := by
  show ∀ w ∈ ([(Jvm.Cond.laysFinal "StiltTown$State" "StiltTown$State" "height" "[I"), (Jvm.Cond.laysFinal "StiltTown$State" "StiltTown$State" "office" "[I"), (Jvm.Cond.laysFinal "StiltTown$State" "StiltTown$State" "wood" "[I"), (Jvm.Cond.laysFinal "StiltTown$State" "StiltTown$State" "night" "[I"), (Jvm.Cond.laysFinal "StiltTown$State" "StiltTown$State" "workHouse" "[I"), (Jvm.Cond.laysFinal "StiltTown$State" "StiltTown$State" "inches" "[I"), (Jvm.Cond.laysFinal "StiltTown$State" "StiltTown$State" "logs" "LStiltTown$Logs;"), (Jvm.Cond.lays "StiltTown$State" "StiltTown$State" "works" "I"), (Jvm.Cond.lays "StiltTown$State" "StiltTown$State" "month" "I")] : List Cond), w ∈ bigW
  exact (List.forall_mem_cons.mpr ⟨w_281, (List.forall_mem_cons.mpr ⟨w_283, (List.forall_mem_cons.mpr ⟨w_285, (List.forall_mem_cons.mpr ⟨w_287, (List.forall_mem_cons.mpr ⟨w_289, (List.forall_mem_cons.mpr ⟨w_291, (List.forall_mem_cons.mpr ⟨w_293, (List.forall_mem_cons.mpr ⟨w_295, (List.forall_mem_cons.mpr ⟨w_297, (fun _ h => absurd h List.not_mem_nil)⟩)⟩)⟩)⟩)⟩)⟩)⟩)⟩)⟩)
theorem iX7 : ∀ w ∈ u_ws RX7 TX7 6, w ∈ bigW := by
  show ∀ w ∈ ([(Jvm.Cond.laysFinal "StiltTown$Tokens" "StiltTown$Tokens" "tape" "[B"), (Jvm.Cond.laysFinal "StiltTown$Tokens" "StiltTown$Tokens" "kinds" "[I"), (Jvm.Cond.laysFinal "StiltTown$Tokens" "StiltTown$Tokens" "starts" "[I"), (Jvm.Cond.laysFinal "StiltTown$Tokens" "StiltTown$Tokens" "values" "[J"), (Jvm.Cond.lays "StiltTown$Tokens" "StiltTown$Tokens" "size" "I"), (Jvm.Cond.lays "StiltTown$Tokens" "StiltTown$Tokens" "many" "I")] : List Cond), w ∈ bigW
  exact (List.forall_mem_cons.mpr ⟨w_52, (List.forall_mem_cons.mpr ⟨w_54, (List.forall_mem_cons.mpr ⟨w_56, (List.forall_mem_cons.mpr ⟨w_58, (List.forall_mem_cons.mpr ⟨w_60, (List.forall_mem_cons.mpr ⟨w_62, (fun _ h => absurd h List.not_mem_nil)⟩)⟩)⟩)⟩)⟩)⟩)
theorem iX8 : ∀ w ∈ u_ws RX8 TX8 16, w ∈ bigW := by
  show ∀ w ∈ ([(Jvm.Cond.laysFinal "StiltTown$Town" "StiltTown$Town" "x" "[I"), (Jvm.Cond.laysFinal "StiltTown$Town" "StiltTown$Town" "load" "[I"), (Jvm.Cond.laysFinal "StiltTown$Town" "StiltTown$Town" "rank" "[I"), (Jvm.Cond.laysFinal "StiltTown$Town" "StiltTown$Town" "stairFrom" "[I"), (Jvm.Cond.laysFinal "StiltTown$Town" "StiltTown$Town" "stairTo" "[I"), (Jvm.Cond.laysFinal "StiltTown$Town" "StiltTown$Town" "reach" "[I"), (Jvm.Cond.laysFinal "StiltTown$Town" "StiltTown$Town" "length" "[I"), (Jvm.Cond.laysFinal "StiltTown$Town" "StiltTown$Town" "laws" "LStiltTown$Laws;"), (Jvm.Cond.lays "StiltTown$Town" "StiltTown$Town" "houses" "I"), (Jvm.Cond.lays "StiltTown$Town" "StiltTown$Town" "offices" "I"), (Jvm.Cond.lays "StiltTown$Town" "StiltTown$Town" "stairs" "I"), (Jvm.Cond.lays "StiltTown$Town" "StiltTown$Town" "quays" "I"), (Jvm.Cond.lays "StiltTown$Town" "StiltTown$Town" "quayBits" "I"), (Jvm.Cond.lays "StiltTown$Town" "StiltTown$Town" "woods" "I"), (Jvm.Cond.lays "StiltTown$Town" "StiltTown$Town" "crews" "I"), (Jvm.Cond.lays "StiltTown$Town" "StiltTown$Town" "jack" "I")] : List Cond), w ∈ bigW
  exact (List.forall_mem_cons.mpr ⟨w_183, (List.forall_mem_cons.mpr ⟨w_185, (List.forall_mem_cons.mpr ⟨w_187, (List.forall_mem_cons.mpr ⟨w_189, (List.forall_mem_cons.mpr ⟨w_191, (List.forall_mem_cons.mpr ⟨w_193, (List.forall_mem_cons.mpr ⟨w_195, (List.forall_mem_cons.mpr ⟨w_197, (List.forall_mem_cons.mpr ⟨w_199, (List.forall_mem_cons.mpr ⟨w_201, (List.forall_mem_cons.mpr ⟨w_203, (List.forall_mem_cons.mpr ⟨w_205, (List.forall_mem_cons.mpr ⟨w_207, (List.forall_mem_cons.mpr ⟨w_209, (List.forall_mem_cons.mpr ⟨w_211, (List.forall_mem_cons.mpr ⟨w_213, (fun _ h => absurd h List.not_mem_nil)⟩)⟩)⟩)⟩)⟩)⟩)⟩)⟩)⟩)⟩)⟩)⟩)⟩)⟩)⟩)⟩)
theorem iX9 : ∀ w ∈ u_ws RX9 TX9 7, w ∈ bigW := by
  show ∀ w ∈ ([(Jvm.Cond.laysFinal "StiltTown$Works" "StiltTown$Works" "height" "[I"), (Jvm.Cond.laysFinal "StiltTown$Works" "StiltTown$Works" "wood" "[I"), (Jvm.Cond.laysFinal "StiltTown$Works" "StiltTown$Works" "oldHeight" "[[I"), (Jvm.Cond.laysFinal "StiltTown$Works" "StiltTown$Works" "oldWood" "[[I"), (Jvm.Cond.lays "StiltTown$Works" "StiltTown$Works" "lots" "I"), (Jvm.Cond.lays "StiltTown$Works" "StiltTown$Works" "next" "I"), (Jvm.Cond.lays "StiltTown$Works" "StiltTown$Works" "taken" "I")] : List Cond), w ∈ bigW
  exact (List.forall_mem_cons.mpr ⟨w_396, (List.forall_mem_cons.mpr ⟨w_398, (List.forall_mem_cons.mpr ⟨w_400, (List.forall_mem_cons.mpr ⟨w_402, (List.forall_mem_cons.mpr ⟨w_404, (List.forall_mem_cons.mpr ⟨w_406, (List.forall_mem_cons.mpr ⟨w_408, (fun _ h => absurd h List.not_mem_nil)⟩)⟩)⟩)⟩)⟩)⟩)⟩)
theorem iX10 : ∀ w ∈ u_ws RX10 TX10 3, w ∈ bigW := by
  show ∀ w ∈ ([(Jvm.Cond.laysFinal "StiltTown$Yard" "StiltTown$Yard" "fewest" "[I"), (Jvm.Cond.laysFinal "StiltTown$Yard" "StiltTown$Yard" "used" "[I"), (Jvm.Cond.lays "StiltTown$Yard" "StiltTown$Yard" "pieces" "I")] : List Cond), w ∈ bigW
  exact (List.forall_mem_cons.mpr ⟨w_372, (List.forall_mem_cons.mpr ⟨w_374, (List.forall_mem_cons.mpr ⟨w_376, (fun _ h => absurd h List.not_mem_nil)⟩)⟩)⟩)
theorem iX11 : ∀ w ∈ u_ws RX11 TX11 11, w ∈ bigW := by
  show ∀ w ∈ ([(Jvm.Cond.laysFinal "StiltTown" "StiltTown" "reader" "LStiltTown$Reader;"), (Jvm.Cond.laysFinal "StiltTown" "StiltTown" "tokens" "LStiltTown$Tokens;"), (Jvm.Cond.laysFinal "StiltTown" "StiltTown" "yard" "LStiltTown$Yard;"), (Jvm.Cond.laysFinal "StiltTown" "StiltTown" "works" "LStiltTown$Works;"), (Jvm.Cond.laysFinal "StiltTown" "StiltTown" "plan" "LStiltTown$Nights;"), (Jvm.Cond.laysFinal "StiltTown" "StiltTown" "falls" "LStiltTown$Falls;"), (Jvm.Cond.laysFinal "StiltTown" "StiltTown" "row" "LStiltTown$Row;"), (Jvm.Cond.laysFinal "StiltTown" "StiltTown" "slots" "[LStiltTown$State;"), (Jvm.Cond.laysFinal "StiltTown" "StiltTown" "held" "[Z"), (Jvm.Cond.lays "StiltTown" "StiltTown" "town" "LStiltTown$Town;"), (Jvm.Cond.lays "StiltTown" "StiltTown" "now" "LStiltTown$State;")] : List Cond), w ∈ bigW
  exact (List.forall_mem_cons.mpr ⟨w_499, (List.forall_mem_cons.mpr ⟨w_501, (List.forall_mem_cons.mpr ⟨w_503, (List.forall_mem_cons.mpr ⟨w_505, (List.forall_mem_cons.mpr ⟨w_507, (List.forall_mem_cons.mpr ⟨w_509, (List.forall_mem_cons.mpr ⟨w_511, (List.forall_mem_cons.mpr ⟨w_513, (List.forall_mem_cons.mpr ⟨w_515, (List.forall_mem_cons.mpr ⟨w_517, (List.forall_mem_cons.mpr ⟨w_519, (fun _ h => absurd h List.not_mem_nil)⟩)⟩)⟩)⟩)⟩)⟩)⟩)⟩)⟩)⟩)⟩)
theorem iX12 : ∀ w ∈ u_ws RX12 TX12 53, w ∈ bigW := by
  show ∀ w ∈ ([(Jvm.Cond.lays "StiltTownModel" "StiltTownModel" "taped" "I"), (Jvm.Cond.laysFinal "StiltTownModel" "StiltTownModel" "tape" "[I"), (Jvm.Cond.lays "StiltTownModel" "StiltTownModel" "tokens" "I"), (Jvm.Cond.laysFinal "StiltTownModel" "StiltTownModel" "tokenSort" "[I"), (Jvm.Cond.laysFinal "StiltTownModel" "StiltTownModel" "tokenFrom" "[I"), (Jvm.Cond.laysFinal "StiltTownModel" "StiltTownModel" "tokenWhat" "[I"), (Jvm.Cond.laysFinal "StiltTownModel" "StiltTownModel" "tokenName" "[J"), (Jvm.Cond.lays "StiltTownModel" "StiltTownModel" "head" "I"), (Jvm.Cond.lays "StiltTownModel" "StiltTownModel" "fault" "I"), (Jvm.Cond.lays "StiltTownModel" "StiltTownModel" "faultPlace" "I"), (Jvm.Cond.lays "StiltTownModel" "StiltTownModel" "worst" "I"), (Jvm.Cond.lays "StiltTownModel" "StiltTownModel" "worstPlace" "I"), (Jvm.Cond.laysFinal "StiltTownModel" "StiltTownModel" "state" "[I"), (Jvm.Cond.laysFinal "StiltTownModel" "StiltTownModel" "live" "[I"), (Jvm.Cond.laysFinal "StiltTownModel" "StiltTownModel" "codes" "[I"), (Jvm.Cond.laysFinal "StiltTownModel" "StiltTownModel" "codeOp" "[I"), (Jvm.Cond.laysFinal "StiltTownModel" "StiltTownModel" "codeValue" "[I"), (Jvm.Cond.laysFinal "StiltTownModel" "StiltTownModel" "lits" "[I"), (Jvm.Cond.laysFinal "StiltTownModel" "StiltTownModel" "litNot" "[Z"), (Jvm.Cond.laysFinal "StiltTownModel" "StiltTownModel" "litOp" "[I"), (Jvm.Cond.laysFinal "StiltTownModel" "StiltTownModel" "litA" "[I"), (Jvm.Cond.laysFinal "StiltTownModel" "StiltTownModel" "litB" "[I"), (Jvm.Cond.laysFinal "StiltTownModel" "StiltTownModel" "litC" "[I"), (Jvm.Cond.laysFinal "StiltTownModel" "StiltTownModel" "litRow" "[I"), (Jvm.Cond.laysFinal "StiltTownModel" "StiltTownModel" "isSlot" "[Z"), (Jvm.Cond.lays "StiltTownModel" "StiltTownModel" "names" "I"), (Jvm.Cond.laysFinal "StiltTownModel" "StiltTownModel" "named" "[J"), (Jvm.Cond.laysFinal "StiltTownModel" "StiltTownModel" "namedSort" "[I"), (Jvm.Cond.laysFinal "StiltTownModel" "StiltTownModel" "namedNumber" "[I"), (Jvm.Cond.lays "StiltTownModel" "StiltTownModel" "valued" "I"), (Jvm.Cond.lays "StiltTownModel" "StiltTownModel" "waiting" "I"), (Jvm.Cond.laysFinal "StiltTownModel" "StiltTownModel" "waits" "[I"), (Jvm.Cond.lays "StiltTownModel" "StiltTownModel" "exprFrom" "I"), (Jvm.Cond.lays "StiltTownModel" "StiltTownModel" "condFrom" "I"), (Jvm.Cond.laysFinal "StiltTownModel" "StiltTownModel" "asked" "[I"), (Jvm.Cond.lays "StiltTownModel" "StiltTownModel" "broken" "Z"), (Jvm.Cond.laysFinal "StiltTownModel" "StiltTownModel" "stack" "[I"), (Jvm.Cond.laysFinal "StiltTownModel" "StiltTownModel" "fewest" "[I"), (Jvm.Cond.laysFinal "StiltTownModel" "StiltTownModel" "taken" "[I"), (Jvm.Cond.laysFinal "StiltTownModel" "StiltTownModel" "was" "[I"), (Jvm.Cond.lays "StiltTownModel" "StiltTownModel" "kept" "I"), (Jvm.Cond.lays "StiltTownModel" "StiltTownModel" "pieces" "I"), (Jvm.Cond.lays "StiltTownModel" "StiltTownModel" "untrueMany" "I"), (Jvm.Cond.laysFinal "StiltTownModel" "StiltTownModel" "untrueHouse" "[I"), (Jvm.Cond.laysFinal "StiltTownModel" "StiltTownModel" "dueHeight" "[I"), (Jvm.Cond.laysFinal "StiltTownModel" "StiltTownModel" "isSafe" "[Z"), (Jvm.Cond.laysFinal "StiltTownModel" "StiltTownModel" "nightsFrom" "[I"), (Jvm.Cond.laysFinal "StiltTownModel" "StiltTownModel" "fellIn" "[I"), (Jvm.Cond.lays "StiltTownModel" "StiltTownModel" "fallen" "I"), (Jvm.Cond.lays "StiltTownModel" "StiltTownModel" "lastRound" "I"), (Jvm.Cond.lays "StiltTownModel" "StiltTownModel" "years" "I"), (Jvm.Cond.laysFinal "StiltTownModel" "StiltTownModel" "yearDue" "[I"), (Jvm.Cond.laysFinal "StiltTownModel" "StiltTownModel" "postCost" "[I")] : List Cond), w ∈ bigW
  exact (List.forall_mem_cons.mpr ⟨w_1473, (List.forall_mem_cons.mpr ⟨w_1475, (List.forall_mem_cons.mpr ⟨w_1477, (List.forall_mem_cons.mpr ⟨w_1479, (List.forall_mem_cons.mpr ⟨w_1481, (List.forall_mem_cons.mpr ⟨w_1483, (List.forall_mem_cons.mpr ⟨w_1485, (List.forall_mem_cons.mpr ⟨w_1487, (List.forall_mem_cons.mpr ⟨w_1489, (List.forall_mem_cons.mpr ⟨w_1491, (List.forall_mem_cons.mpr ⟨w_1493, (List.forall_mem_cons.mpr ⟨w_1495, (List.forall_mem_cons.mpr ⟨w_1497, (List.forall_mem_cons.mpr ⟨w_1499, (List.forall_mem_cons.mpr ⟨w_1501, (List.forall_mem_cons.mpr ⟨w_1503, (List.forall_mem_cons.mpr ⟨w_1505, (List.forall_mem_cons.mpr ⟨w_1507, (List.forall_mem_cons.mpr ⟨w_1509, (List.forall_mem_cons.mpr ⟨w_1511, (List.forall_mem_cons.mpr ⟨w_1513, (List.forall_mem_cons.mpr ⟨w_1515, (List.forall_mem_cons.mpr ⟨w_1517, (List.forall_mem_cons.mpr ⟨w_1519, (List.forall_mem_cons.mpr ⟨w_1521, (List.forall_mem_cons.mpr ⟨w_1523, (List.forall_mem_cons.mpr ⟨w_1525, (List.forall_mem_cons.mpr ⟨w_1527, (List.forall_mem_cons.mpr ⟨w_1529, (List.forall_mem_cons.mpr ⟨w_1531, (List.forall_mem_cons.mpr ⟨w_1533, (List.forall_mem_cons.mpr ⟨w_1535, (List.forall_mem_cons.mpr ⟨w_1537, (List.forall_mem_cons.mpr ⟨w_1539, (List.forall_mem_cons.mpr ⟨w_1541, (List.forall_mem_cons.mpr ⟨w_1543, (List.forall_mem_cons.mpr ⟨w_1545, (List.forall_mem_cons.mpr ⟨w_1547, (List.forall_mem_cons.mpr ⟨w_1549, (List.forall_mem_cons.mpr ⟨w_1551, (List.forall_mem_cons.mpr ⟨w_1553, (List.forall_mem_cons.mpr ⟨w_1555, (List.forall_mem_cons.mpr ⟨w_1557, (List.forall_mem_cons.mpr ⟨w_1559, (List.forall_mem_cons.mpr ⟨w_1561, (List.forall_mem_cons.mpr ⟨w_1563, (List.forall_mem_cons.mpr ⟨w_1565, (List.forall_mem_cons.mpr ⟨w_1567, (List.forall_mem_cons.mpr ⟨w_1569, (List.forall_mem_cons.mpr ⟨w_1571, (List.forall_mem_cons.mpr ⟨w_1573, (List.forall_mem_cons.mpr ⟨w_1575, (List.forall_mem_cons.mpr ⟨w_1577, (fun _ h => absurd h List.not_mem_nil)⟩)⟩)⟩)⟩)⟩)⟩)⟩)⟩)⟩)⟩)⟩)⟩)⟩)⟩)⟩)⟩)⟩)⟩)⟩)⟩)⟩)⟩)⟩)⟩)⟩)⟩)⟩)⟩)⟩)⟩)⟩)⟩)⟩)⟩)⟩)⟩)⟩)⟩)⟩)⟩)⟩)⟩)⟩)⟩)⟩)⟩)⟩)⟩)⟩)⟩)⟩)⟩)⟩)
theorem fo_X0_9 : FO RX0 9 0 0 (.array .int) true := ⟨RX0, TX0, 4, tyX0, rfl, by decide, iX0, tyX0_ok, nmX0, w_439, rfl, rfl⟩
theorem fo_X0_15 : FO RX0 15 0 1 (.array .int) true := ⟨RX0, TX0, 4, tyX0, rfl, by decide, iX0, tyX0_ok, nmX0, w_441, rfl, rfl⟩
theorem fo_X0_18 : FO RX0 18 0 2 (.array .int) true := ⟨RX0, TX0, 4, tyX0, rfl, by decide, iX0, tyX0_ok, nmX0, w_442, rfl, rfl⟩
theorem fo_X0_21 : FO RX0 21 0 3 (.int) false := ⟨RX0, TX0, 4, tyX0, rfl, by decide, iX0, tyX0_ok, nmX0, w_443, rfl, rfl⟩
theorem cw_X0_25 : CV RX0 25 e_X8_neighbours 1 8 := ⟨w_1197, w_1198, w_1199, w_4, w_1200, ⟨by decide +kernel, by decide +kernel, by decide +kernel⟩, ⟨_, _, rfl⟩, by decide, by decide⟩
theorem cw_X0_31 : CSN RX0 31 e_X8_bitOf 1 := ⟨⟨"StiltTown", List.mem_of_getElem? (i := 25) rfl⟩, w_759, w_4, w_760, ⟨by decide +kernel, by decide +kernel, by decide +kernel⟩, by decide, by decide⟩
theorem cw_X0_34 : CV RX0 34 e_X0_fallingBits 4 0 := ⟨w_1206, w_1208, wp_60, w_11, w_1209, ⟨by decide +kernel, by decide +kernel, by decide +kernel⟩, ⟨_, _, rfl⟩, by decide, by decide⟩
theorem cw_X0_38 : CV RX0 38 e_X0_enter 2 0 := ⟨w_1215, w_1217, wp_61, w_11, w_1218, ⟨by decide +kernel, by decide +kernel, by decide +kernel⟩, ⟨_, _, rfl⟩, by decide, by decide⟩
theorem cw_X0_42 : CS RX0 42 e_J6_bitCount_0f7a4 1 := ⟨w_1210, w_1001, w_19, w_1002, ⟨by decide +kernel, by decide +kernel, by decide +kernel⟩, by decide, by decide⟩
theorem fo_X0_47 : FO RX0 47 8 8 (.int) false := ⟨RX8, TX8, 16, tyX8, rfl, by decide, iX8, tyX8_ok, nmX8, w_155, rfl, rfl⟩
theorem cw_X0_50 : CV RX0 50 e_X8_hasToFall 4 8 := ⟨w_1211, w_1212, w_1213, w_4, w_1214, ⟨by decide +kernel, by decide +kernel, by decide +kernel⟩, ⟨_, _, rfl⟩, by decide, by decide⟩
theorem fo_X1_9 : FO RX1 9 1 0 (.array .int) true := ⟨RX1, TX1, 13, tyX1, rfl, by decide, iX1, tyX1_ok, nmX1, w_80, rfl, rfl⟩
theorem fo_X1_15 : FO RX1 15 1 1 (.array .int) true := ⟨RX1, TX1, 13, tyX1, rfl, by decide, iX1, tyX1_ok, nmX1, w_81, rfl, rfl⟩
theorem fo_X1_18 : FO RX1 18 1 2 (.array .int) true := ⟨RX1, TX1, 13, tyX1, rfl, by decide, iX1, tyX1_ok, nmX1, w_83, rfl, rfl⟩
theorem fo_X1_21 : FO RX1 21 1 3 (.array .int) true := ⟨RX1, TX1, 13, tyX1, rfl, by decide, iX1, tyX1_ok, nmX1, w_85, rfl, rfl⟩
theorem fo_X1_24 : FO RX1 24 1 4 (.array .int) true := ⟨RX1, TX1, 13, tyX1, rfl, by decide, iX1, tyX1_ok, nmX1, w_86, rfl, rfl⟩
theorem fo_X1_27 : FO RX1 27 1 5 (.int) false := ⟨RX1, TX1, 13, tyX1, rfl, by decide, iX1, tyX1_ok, nmX1, w_87, rfl, rfl⟩
theorem fo_X1_31 : FO RX1 31 1 6 (.int) false := ⟨RX1, TX1, 13, tyX1, rfl, by decide, iX1, tyX1_ok, nmX1, w_89, rfl, rfl⟩
theorem fo_X1_34 : FO RX1 34 1 7 (.boolean) false := ⟨RX1, TX1, 13, tyX1, rfl, by decide, iX1, tyX1_ok, nmX1, w_90, rfl, rfl⟩
theorem fo_X1_38 : FO RX1 38 1 8 (.int) false := ⟨RX1, TX1, 13, tyX1, rfl, by decide, iX1, tyX1_ok, nmX1, w_91, rfl, rfl⟩
theorem fo_X1_41 : FO RX1 41 1 9 (.int) false := ⟨RX1, TX1, 13, tyX1, rfl, by decide, iX1, tyX1_ok, nmX1, w_93, rfl, rfl⟩
theorem fo_X1_44 : FO RX1 44 1 10 (.int) false := ⟨RX1, TX1, 13, tyX1, rfl, by decide, iX1, tyX1_ok, nmX1, w_95, rfl, rfl⟩
theorem fo_X1_47 : FO RX1 47 1 11 (.int) false := ⟨RX1, TX1, 13, tyX1, rfl, by decide, iX1, tyX1_ok, nmX1, w_97, rfl, rfl⟩
theorem fo_X1_50 : FO RX1 50 1 12 (.int) false := ⟨RX1, TX1, 13, tyX1, rfl, by decide, iX1, tyX1_ok, nmX1, w_101, rfl, rfl⟩
theorem cw_X1_53 : CSN RX1 53 e_X11_isVar 1 := ⟨⟨"StiltTown", List.mem_of_getElem? (i := 19) rfl⟩, w_794, w_1, w_795, ⟨by decide +kernel, by decide +kernel, by decide +kernel⟩, by decide, by decide⟩
theorem cw_X1_57 : CV RX1 57 e_X1_value 1 1 := ⟨w_1040, w_876, w_877, w_5, w_878, ⟨by decide +kernel, by decide +kernel, by decide +kernel⟩, ⟨_, _, rfl⟩, by decide, by decide⟩
theorem cw_X1_61 : CV RX1 61 e_X1_push 1 1 := ⟨w_879, w_881, wp_42, w_5, w_882, ⟨by decide +kernel, by decide +kernel, by decide +kernel⟩, ⟨_, _, rfl⟩, by decide, by decide⟩
theorem cw_X1_65 : CV RX1 65 e_X1_turnRound 0 1 := ⟨w_883, w_885, wp_43, w_5, w_886, ⟨by decide +kernel, by decide +kernel, by decide +kernel⟩, ⟨_, _, rfl⟩, by decide, by decide⟩
theorem cw_X1_68 : CV RX1 68 e_X1_join 1 1 := ⟨w_887, w_889, wp_44, w_5, w_890, ⟨by decide +kernel, by decide +kernel, by decide +kernel⟩, ⟨_, _, rfl⟩, by decide, by decide⟩
theorem cw_X1_71 : CSN RX1 71 e_X11_compares 1 := ⟨⟨"StiltTown", List.mem_of_getElem? (i := 20) rfl⟩, w_823, w_1, w_824, ⟨by decide +kernel, by decide +kernel, by decide +kernel⟩, by decide, by decide⟩
theorem cw_X1_74 : CS RX1 74 e_X1_holds 3 := ⟨w_892, w_893, w_5, w_894, ⟨by decide +kernel, by decide +kernel, by decide +kernel⟩, by decide, by decide⟩
theorem cw_X1_78 : CSN RX1 78 e_X11_reckons 1 := ⟨⟨"StiltTown", List.mem_of_getElem? (i := 21) rfl⟩, w_805, w_1, w_806, ⟨by decide +kernel, by decide +kernel, by decide +kernel⟩, by decide, by decide⟩
theorem cw_X1_81 : CV RX1 81 e_X1_reckon 3 1 := ⟨w_896, w_898, wp_45, w_5, w_899, ⟨by decide +kernel, by decide +kernel, by decide +kernel⟩, ⟨_, _, rfl⟩, by decide, by decide⟩
theorem fo_X2_9 : FO RX2 9 2 0 (.array .int) true := ⟨RX2, TX2, 7, tyX2, rfl, by decide, iX2, tyX2_ok, nmX2, w_228, rfl, rfl⟩
theorem fo_X2_15 : FO RX2 15 2 1 (.array .int) true := ⟨RX2, TX2, 7, tyX2, rfl, by decide, iX2, tyX2_ok, nmX2, w_229, rfl, rfl⟩
theorem fo_X2_18 : FO RX2 18 2 2 (.array .int) true := ⟨RX2, TX2, 7, tyX2, rfl, by decide, iX2, tyX2_ok, nmX2, w_230, rfl, rfl⟩
theorem fo_X2_21 : FO RX2 21 2 3 (.array .int) true := ⟨RX2, TX2, 7, tyX2, rfl, by decide, iX2, tyX2_ok, nmX2, w_231, rfl, rfl⟩
theorem fo_X2_24 : FO RX2 24 2 4 (.array .boolean) true := ⟨RX2, TX2, 7, tyX2, rfl, by decide, iX2, tyX2_ok, nmX2, w_232, rfl, rfl⟩
theorem fo_X2_28 : FO RX2 28 2 5 (.array .int) true := ⟨RX2, TX2, 7, tyX2, rfl, by decide, iX2, tyX2_ok, nmX2, w_233, rfl, rfl⟩
theorem fo_X2_31 : FO RX2 31 2 6 (.int) false := ⟨RX2, TX2, 7, tyX2, rfl, by decide, iX2, tyX2_ok, nmX2, w_235, rfl, rfl⟩
theorem cw_X2_35 : AC RX2 35 := ⟨w_1389, w_1089, w_1088, w_20⟩
theorem cw_X2_41 : CV RX2 41 e_X2_strike 1 2 := ⟨w_1321, w_1323, wp_70, w_7, w_1324, ⟨by decide +kernel, by decide +kernel, by decide +kernel⟩, ⟨_, _, rfl⟩, by decide, by decide⟩
theorem cw_X2_45 : CV RX2 45 e_X2_lastChoice 3 2 := ⟨w_1325, w_1327, wp_71, w_7, w_1328, ⟨by decide +kernel, by decide +kernel, by decide +kernel⟩, ⟨_, _, rfl⟩, by decide, by decide⟩
theorem cw_X2_49 : CV RX2 49 e_X2_isMarkOf 2 2 := ⟨w_1345, w_1347, wp_73, w_7, w_1348, ⟨by decide +kernel, by decide +kernel, by decide +kernel⟩, ⟨_, _, rfl⟩, by decide, by decide⟩
theorem cw_X2_53 : CV RX2 53 e_X2_contradicted 2 2 := ⟨w_1349, w_1351, wp_74, w_7, w_1352, ⟨by decide +kernel, by decide +kernel, by decide +kernel⟩, ⟨_, _, rfl⟩, by decide, by decide⟩
theorem cw_X2_56 : MW RX2 56 Lib.Math.abs.name Lib.Math.abs.code 1 := ⟨w_1353, w_972, w_18, w_973⟩
theorem cw_X2_62 : MW RX2 62 Lib.Math.max.name Lib.Math.max.code 2 := ⟨w_1354, w_907, w_18, w_908⟩
theorem cw_X2_66 : MW RX2 66 Lib.Math.min.name Lib.Math.min.code 2 := ⟨w_1355, w_904, w_18, w_905⟩
theorem fo_X3_11 : FO RX3 11 3 0 (.array .int) true := ⟨RX3, TX3, 5, tyX3, rfl, by decide, iX3, tyX3_ok, nmX3, w_417, rfl, rfl⟩
theorem fo_X3_15 : FO RX3 15 3 1 (.array .int) true := ⟨RX3, TX3, 5, tyX3, rfl, by decide, iX3, tyX3_ok, nmX3, w_418, rfl, rfl⟩
theorem fo_X3_18 : FO RX3 18 3 2 (.array .int) true := ⟨RX3, TX3, 5, tyX3, rfl, by decide, iX3, tyX3_ok, nmX3, w_419, rfl, rfl⟩
theorem fo_X3_21 : FO RX3 21 3 3 (.array .int) true := ⟨RX3, TX3, 5, tyX3, rfl, by decide, iX3, tyX3_ok, nmX3, w_420, rfl, rfl⟩
theorem fo_X3_24 : FO RX3 24 3 4 (.int) false := ⟨RX3, TX3, 5, tyX3, rfl, by decide, iX3, tyX3_ok, nmX3, w_421, rfl, rfl⟩
theorem fo_X3_28 : FO RX3 28 8 8 (.int) false := ⟨RX8, TX8, 16, tyX8, rfl, by decide, iX8, tyX8_ok, nmX8, w_154, rfl, rfl⟩
theorem cw_X3_33 : CV RX3 33 e_X8_dueOf 2 8 := ⟨w_1139, w_858, w_859, w_4, w_860, ⟨by decide +kernel, by decide +kernel, by decide +kernel⟩, ⟨_, _, rfl⟩, by decide, by decide⟩
theorem cw_X3_37 : CV RX3 37 e_X8_tideAt 2 8 := ⟨w_1140, w_939, w_940, w_4, w_941, ⟨by decide +kernel, by decide +kernel, by decide +kernel⟩, ⟨_, _, rfl⟩, by decide, by decide⟩
theorem fo_X3_40 : FO RX3 40 6 0 (.array .int) true := ⟨RX6, TX6, 9, tyX6, rfl, by decide, iX6, tyX6_ok, nmX6, w_255, rfl, rfl⟩
theorem cw_X3_43 : CV RX3 43 e_X8_reachedBits 2 8 := ⟨w_1141, w_955, w_956, w_4, w_957, ⟨by decide +kernel, by decide +kernel, by decide +kernel⟩, ⟨_, _, rfl⟩, by decide, by decide⟩
theorem cw_X3_47 : CV RX3 47 e_X3_bring 2 3 := ⟨w_1142, w_1144, wp_57, w_10, w_1145, ⟨by decide +kernel, by decide +kernel, by decide +kernel⟩, ⟨_, _, rfl⟩, by decide, by decide⟩
theorem fo_X3_51 : FO RX3 51 8 14 (.int) false := ⟨RX8, TX8, 16, tyX8, rfl, by decide, iX8, tyX8_ok, nmX8, w_175, rfl, rfl⟩
theorem cw_X3_54 : CV RX3 54 e_X3_fewestFrom 3 3 := ⟨w_1147, w_1149, wp_58, w_10, w_1150, ⟨by decide +kernel, by decide +kernel, by decide +kernel⟩, ⟨_, _, rfl⟩, by decide, by decide⟩
theorem cw_X3_58 : AC RX3 58 := ⟨w_1146, w_1089, w_1088, w_20⟩
theorem cw_X3_64 : CS RX3 64 e_J6_bitCount_0f7a4 1 := ⟨w_1151, w_1001, w_19, w_1002, ⟨by decide +kernel, by decide +kernel, by decide +kernel⟩, by decide, by decide⟩
theorem cw_X3_70 : MW RX3 70 Lib.Math.min.name Lib.Math.min.code 2 := ⟨w_1152, w_904, w_18, w_905⟩
theorem cw_X3_76 : CV RX3 76 e_X3_houseBits 1 3 := ⟨w_1161, w_1163, wp_59, w_10, w_1164, ⟨by decide +kernel, by decide +kernel, by decide +kernel⟩, ⟨_, _, rfl⟩, by decide, by decide⟩
theorem fo_X4_9 : FO RX4 9 4 0 (.array .long) true := ⟨RX4, TX4, 18, tyX4, rfl, by decide, iX4, tyX4_ok, nmX4, w_300, rfl, rfl⟩
theorem fo_X4_15 : FO RX4 15 4 1 (.array .int) true := ⟨RX4, TX4, 18, tyX4, rfl, by decide, iX4, tyX4_ok, nmX4, w_301, rfl, rfl⟩
theorem fo_X4_19 : FO RX4 19 4 2 (.array .int) true := ⟨RX4, TX4, 18, tyX4, rfl, by decide, iX4, tyX4_ok, nmX4, w_302, rfl, rfl⟩
theorem fo_X4_25 : FO RX4 25 4 3 (.object "StiltTown$Tokens") true := ⟨RX4, TX4, 18, tyX4, rfl, by decide, iX4, tyX4_ok, nmX4, w_304, rfl, rfl⟩
theorem fo_X4_32 : FO RX4 32 4 4 (.object "StiltTown$Town") false := ⟨RX4, TX4, 18, tyX4, rfl, by decide, iX4, tyX4_ok, nmX4, w_305, rfl, rfl⟩
theorem fo_X4_39 : FO RX4 39 4 5 (.object "StiltTown$State") false := ⟨RX4, TX4, 18, tyX4, rfl, by decide, iX4, tyX4_ok, nmX4, w_307, rfl, rfl⟩
theorem fo_X4_43 : FO RX4 43 4 6 (.int) false := ⟨RX4, TX4, 18, tyX4, rfl, by decide, iX4, tyX4_ok, nmX4, w_309, rfl, rfl⟩
theorem fo_X4_47 : FO RX4 47 4 7 (.int) false := ⟨RX4, TX4, 18, tyX4, rfl, by decide, iX4, tyX4_ok, nmX4, w_310, rfl, rfl⟩
theorem fo_X4_50 : FO RX4 50 4 8 (.int) false := ⟨RX4, TX4, 18, tyX4, rfl, by decide, iX4, tyX4_ok, nmX4, w_311, rfl, rfl⟩
theorem fo_X4_53 : FO RX4 53 4 9 (.int) false := ⟨RX4, TX4, 18, tyX4, rfl, by decide, iX4, tyX4_ok, nmX4, w_313, rfl, rfl⟩
theorem fo_X4_56 : FO RX4 56 4 10 (.int) false := ⟨RX4, TX4, 18, tyX4, rfl, by decide, iX4, tyX4_ok, nmX4, w_314, rfl, rfl⟩
theorem fo_X4_59 : FO RX4 59 4 11 (.int) false := ⟨RX4, TX4, 18, tyX4, rfl, by decide, iX4, tyX4_ok, nmX4, w_315, rfl, rfl⟩
theorem fo_X4_62 : FO RX4 62 4 12 (.int) false := ⟨RX4, TX4, 18, tyX4, rfl, by decide, iX4, tyX4_ok, nmX4, w_316, rfl, rfl⟩
theorem fo_X4_65 : FO RX4 65 4 13 (.int) false := ⟨RX4, TX4, 18, tyX4, rfl, by decide, iX4, tyX4_ok, nmX4, w_317, rfl, rfl⟩
theorem fo_X4_68 : FO RX4 68 4 14 (.int) false := ⟨RX4, TX4, 18, tyX4, rfl, by decide, iX4, tyX4_ok, nmX4, w_318, rfl, rfl⟩
theorem fo_X4_71 : FO RX4 71 4 15 (.int) false := ⟨RX4, TX4, 18, tyX4, rfl, by decide, iX4, tyX4_ok, nmX4, w_319, rfl, rfl⟩
theorem fo_X4_74 : FO RX4 74 4 16 (.boolean) false := ⟨RX4, TX4, 18, tyX4, rfl, by decide, iX4, tyX4_ok, nmX4, w_320, rfl, rfl⟩
theorem fo_X4_78 : FO RX4 78 4 17 (.boolean) false := ⟨RX4, TX4, 18, tyX4, rfl, by decide, iX4, tyX4_ok, nmX4, w_321, rfl, rfl⟩
theorem cw_X4_81 : CV RX4 81 e_X8_empty 0 8 := ⟨w_669, w_670, w_671, w_4, w_672, ⟨by decide +kernel, by decide +kernel, by decide +kernel⟩, ⟨_, _, rfl⟩, by decide, by decide⟩
theorem cw_X4_84 : CV RX4 84 e_X6_empty 0 6 := ⟨w_677, w_678, w_679, w_6, w_680, ⟨by decide +kernel, by decide +kernel, by decide +kernel⟩, ⟨_, _, rfl⟩, by decide, by decide⟩
theorem cw_X4_85 : CV RX4 85 e_X4_begin 0 4 := ⟨w_665, w_667, wp_8, w_2, w_668, ⟨by decide +kernel, by decide +kernel, by decide +kernel⟩, ⟨_, _, rfl⟩, by decide, by decide⟩
theorem cw_X4_88 : CV RX4 88 e_X4_kind 0 4 := ⟨w_681, w_683, wp_9, w_2, w_684, ⟨by decide +kernel, by decide +kernel, by decide +kernel⟩, ⟨_, _, rfl⟩, by decide, by decide⟩
theorem cw_X4_92 : CV RX4 92 e_X4_readHouse 0 4 := ⟨w_685, w_687, wp_10, w_2, w_688, ⟨by decide +kernel, by decide +kernel, by decide +kernel⟩, ⟨_, _, rfl⟩, by decide, by decide⟩
theorem cw_X4_95 : CV RX4 95 e_X4_readOffice 0 4 := ⟨w_730, w_732, wp_21, w_2, w_733, ⟨by decide +kernel, by decide +kernel, by decide +kernel⟩, ⟨_, _, rfl⟩, by decide, by decide⟩
theorem cw_X4_98 : CV RX4 98 e_X4_readIn 0 4 := ⟨w_734, w_736, wp_22, w_2, w_737, ⟨by decide +kernel, by decide +kernel, by decide +kernel⟩, ⟨_, _, rfl⟩, by decide, by decide⟩
theorem cw_X4_101 : CV RX4 101 e_X4_readStair 0 4 := ⟨w_750, w_752, wp_25, w_2, w_753, ⟨by decide +kernel, by decide +kernel, by decide +kernel⟩, ⟨_, _, rfl⟩, by decide, by decide⟩
theorem cw_X4_104 : CV RX4 104 e_X4_readQuay 0 4 := ⟨w_754, w_756, wp_26, w_2, w_757, ⟨by decide +kernel, by decide +kernel, by decide +kernel⟩, ⟨_, _, rfl⟩, by decide, by decide⟩
theorem cw_X4_107 : CV RX4 107 e_X4_readWood 0 4 := ⟨w_761, w_763, wp_27, w_2, w_764, ⟨by decide +kernel, by decide +kernel, by decide +kernel⟩, ⟨_, _, rfl⟩, by decide, by decide⟩
theorem cw_X4_110 : CV RX4 110 e_X4_readLone 2 4 := ⟨w_765, w_767, wp_28, w_2, w_768, ⟨by decide +kernel, by decide +kernel, by decide +kernel⟩, ⟨_, _, rfl⟩, by decide, by decide⟩
theorem fo_X4_114 : FO RX4 114 8 14 (.int) false := ⟨RX8, TX8, 16, tyX8, rfl, by decide, iX8, tyX8_ok, nmX8, w_176, rfl, rfl⟩
theorem fo_X4_117 : FO RX4 117 8 15 (.int) false := ⟨RX8, TX8, 16, tyX8, rfl, by decide, iX8, tyX8_ok, nmX8, w_180, rfl, rfl⟩
theorem cw_X4_120 : CV RX4 120 e_X4_readLaw 1 4 := ⟨w_769, w_771, wp_29, w_2, w_772, ⟨by decide +kernel, by decide +kernel, by decide +kernel⟩, ⟨_, _, rfl⟩, by decide, by decide⟩
theorem fo_X4_124 : FO RX4 124 8 7 (.object "StiltTown$Laws") true := ⟨RX8, TX8, 16, tyX8, rfl, by decide, iX8, tyX8_ok, nmX8, w_151, rfl, rfl⟩
theorem fo_X4_128 : FO RX4 128 1 11 (.int) false := ⟨RX1, TX1, 13, tyX1, rfl, by decide, iX1, tyX1_ok, nmX1, w_98, rfl, rfl⟩
theorem cw_X4_133 : CV RX4 133 e_X4_readRule 2 4 := ⟨w_829, w_831, wp_38, w_2, w_832, ⟨by decide +kernel, by decide +kernel, by decide +kernel⟩, ⟨_, _, rfl⟩, by decide, by decide⟩
theorem fo_X4_137 : FO RX4 137 1 12 (.int) false := ⟨RX1, TX1, 13, tyX1, rfl, by decide, iX1, tyX1_ok, nmX1, w_102, rfl, rfl⟩
theorem cw_X4_140 : CV RX4 140 e_X4_fail 1 4 := ⟨w_693, w_695, wp_12, w_2, w_696, ⟨by decide +kernel, by decide +kernel, by decide +kernel⟩, ⟨_, _, rfl⟩, by decide, by decide⟩
theorem cw_X4_143 : CV RX4 143 e_X4_take 1 4 := ⟨w_697, w_699, wp_13, w_2, w_700, ⟨by decide +kernel, by decide +kernel, by decide +kernel⟩, ⟨_, _, rfl⟩, by decide, by decide⟩
theorem cw_X4_147 : CV RX4 147 e_X4_readInt 2 4 := ⟨w_721, w_723, wp_19, w_2, w_724, ⟨by decide +kernel, by decide +kernel, by decide +kernel⟩, ⟨_, _, rfl⟩, by decide, by decide⟩
theorem fo_X4_150 : FO RX4 150 8 8 (.int) false := ⟨RX8, TX8, 16, tyX8, rfl, by decide, iX8, tyX8_ok, nmX8, w_156, rfl, rfl⟩
theorem cw_X4_153 : CV RX4 153 e_X4_takeFirst 3 4 := ⟨w_689, w_691, wp_11, w_2, w_692, ⟨by decide +kernel, by decide +kernel, by decide +kernel⟩, ⟨_, _, rfl⟩, by decide, by decide⟩
theorem cw_X4_157 : CV RX4 157 e_X4_readNewName 1 4 := ⟨w_701, w_703, wp_14, w_2, w_704, ⟨by decide +kernel, by decide +kernel, by decide +kernel⟩, ⟨_, _, rfl⟩, by decide, by decide⟩
theorem fo_X4_160 : FO RX4 160 8 0 (.array .int) true := ⟨RX8, TX8, 16, tyX8, rfl, by decide, iX8, tyX8_ok, nmX8, w_133, rfl, rfl⟩
theorem fo_X4_163 : FO RX4 163 6 0 (.array .int) true := ⟨RX6, TX6, 9, tyX6, rfl, by decide, iX6, tyX6_ok, nmX6, w_257, rfl, rfl⟩
theorem fo_X4_166 : FO RX4 166 8 1 (.array .int) true := ⟨RX8, TX8, 16, tyX8, rfl, by decide, iX8, tyX8_ok, nmX8, w_136, rfl, rfl⟩
theorem fo_X4_169 : FO RX4 169 8 9 (.int) false := ⟨RX8, TX8, 16, tyX8, rfl, by decide, iX8, tyX8_ok, nmX8, w_159, rfl, rfl⟩
theorem fo_X4_172 : FO RX4 172 8 2 (.array .int) true := ⟨RX8, TX8, 16, tyX8, rfl, by decide, iX8, tyX8_ok, nmX8, w_139, rfl, rfl⟩
theorem cw_X4_175 : CV RX4 175 e_X4_readHouseName 0 4 := ⟨w_738, w_740, wp_23, w_2, w_741, ⟨by decide +kernel, by decide +kernel, by decide +kernel⟩, ⟨_, _, rfl⟩, by decide, by decide⟩
theorem cw_X4_178 : CV RX4 178 e_X4_readOfficeName 0 4 := ⟨w_742, w_744, wp_24, w_2, w_745, ⟨by decide +kernel, by decide +kernel, by decide +kernel⟩, ⟨_, _, rfl⟩, by decide, by decide⟩
theorem cw_X4_181 : CV RX4 181 e_X6_settle 2 6 := ⟨w_746, w_747, w_748, w_6, w_749, ⟨by decide +kernel, by decide +kernel, by decide +kernel⟩, ⟨_, _, rfl⟩, by decide, by decide⟩
theorem fo_X4_184 : FO RX4 184 8 10 (.int) false := ⟨RX8, TX8, 16, tyX8, rfl, by decide, iX8, tyX8_ok, nmX8, w_162, rfl, rfl⟩
theorem cw_X4_187 : CV RX4 187 e_X4_start 0 4 := ⟨w_705, w_707, wp_15, w_2, w_708, ⟨by decide +kernel, by decide +kernel, by decide +kernel⟩, ⟨_, _, rfl⟩, by decide, by decide⟩
theorem cw_X4_190 : CV RX4 190 e_X4_failLate 2 4 := ⟨w_717, w_719, wp_18, w_2, w_720, ⟨by decide +kernel, by decide +kernel, by decide +kernel⟩, ⟨_, _, rfl⟩, by decide, by decide⟩
theorem fo_X4_193 : FO RX4 193 8 3 (.array .int) true := ⟨RX8, TX8, 16, tyX8, rfl, by decide, iX8, tyX8_ok, nmX8, w_141, rfl, rfl⟩
theorem fo_X4_196 : FO RX4 196 8 4 (.array .int) true := ⟨RX8, TX8, 16, tyX8, rfl, by decide, iX8, tyX8_ok, nmX8, w_143, rfl, rfl⟩
theorem fo_X4_199 : FO RX4 199 8 5 (.array .int) true := ⟨RX8, TX8, 16, tyX8, rfl, by decide, iX8, tyX8_ok, nmX8, w_145, rfl, rfl⟩
theorem fo_X4_202 : FO RX4 202 8 11 (.int) false := ⟨RX8, TX8, 16, tyX8, rfl, by decide, iX8, tyX8_ok, nmX8, w_165, rfl, rfl⟩
theorem fo_X4_205 : FO RX4 205 8 12 (.int) false := ⟨RX8, TX8, 16, tyX8, rfl, by decide, iX8, tyX8_ok, nmX8, w_168, rfl, rfl⟩
theorem cw_X4_208 : CSN RX4 208 e_X8_bitOf 1 := ⟨⟨"StiltTown", List.mem_of_getElem? (i := 15) rfl⟩, w_759, w_4, w_760, ⟨by decide +kernel, by decide +kernel, by decide +kernel⟩, by decide, by decide⟩
theorem fo_X4_212 : FO RX4 212 8 13 (.int) false := ⟨RX8, TX8, 16, tyX8, rfl, by decide, iX8, tyX8_ok, nmX8, w_172, rfl, rfl⟩
theorem fo_X4_215 : FO RX4 215 8 6 (.array .int) true := ⟨RX8, TX8, 16, tyX8, rfl, by decide, iX8, tyX8_ok, nmX8, w_149, rfl, rfl⟩
theorem fo_X4_218 : FO RX4 218 6 2 (.array .int) true := ⟨RX6, TX6, 9, tyX6, rfl, by decide, iX6, tyX6_ok, nmX6, w_265, rfl, rfl⟩
theorem fo_X4_221 : FO RX4 221 1 5 (.int) false := ⟨RX1, TX1, 13, tyX1, rfl, by decide, iX1, tyX1_ok, nmX1, w_88, rfl, rfl⟩
theorem cw_X4_224 : CV RX4 224 e_X4_readFormula 1 4 := ⟨w_773, w_775, wp_30, w_2, w_776, ⟨by decide +kernel, by decide +kernel, by decide +kernel⟩, ⟨_, _, rfl⟩, by decide, by decide⟩
theorem cw_X4_227 : CV RX4 227 e_X1_tell 2 1 := ⟨w_825, w_826, w_827, w_5, w_828, ⟨by decide +kernel, by decide +kernel, by decide +kernel⟩, ⟨_, _, rfl⟩, by decide, by decide⟩
theorem cw_X4_230 : CV RX4 230 e_X4_readUnit 0 4 := ⟨w_777, w_779, wp_31, w_2, w_780, ⟨by decide +kernel, by decide +kernel, by decide +kernel⟩, ⟨_, _, rfl⟩, by decide, by decide⟩
theorem cw_X4_233 : CV RX4 233 e_X4_readBetween 0 4 := ⟨w_800, w_802, wp_34, w_2, w_803, ⟨by decide +kernel, by decide +kernel, by decide +kernel⟩, ⟨_, _, rfl⟩, by decide, by decide⟩
theorem cw_X4_236 : CV RX4 236 e_X4_intValue 0 4 := ⟨w_725, w_727, wp_20, w_2, w_728, ⟨by decide +kernel, by decide +kernel, by decide +kernel⟩, ⟨_, _, rfl⟩, by decide, by decide⟩
theorem cw_X4_239 : CV RX4 239 e_X4_keepWaiting 1 4 := ⟨w_781, w_783, wp_32, w_2, w_784, ⟨by decide +kernel, by decide +kernel, by decide +kernel⟩, ⟨_, _, rfl⟩, by decide, by decide⟩
theorem cw_X4_242 : CV RX4 242 e_X4_readOpen 0 4 := ⟨w_785, w_787, wp_33, w_2, w_788, ⟨by decide +kernel, by decide +kernel, by decide +kernel⟩, ⟨_, _, rfl⟩, by decide, by decide⟩
theorem cw_X4_245 : CV RX4 245 e_X1_addNumber 1 1 := ⟨w_789, w_790, w_791, w_5, w_792, ⟨by decide +kernel, by decide +kernel, by decide +kernel⟩, ⟨_, _, rfl⟩, by decide, by decide⟩
theorem cw_X4_248 : CSN RX4 248 e_X11_isVar 1 := ⟨⟨"StiltTown", List.mem_of_getElem? (i := 16) rfl⟩, w_794, w_1, w_795, ⟨by decide +kernel, by decide +kernel, by decide +kernel⟩, by decide, by decide⟩
theorem cw_X4_251 : CV RX4 251 e_X1_addKind 1 1 := ⟨w_796, w_797, w_798, w_5, w_799, ⟨by decide +kernel, by decide +kernel, by decide +kernel⟩, ⟨_, _, rfl⟩, by decide, by decide⟩
theorem cw_X4_254 : CSN RX4 254 e_X11_reckons 1 := ⟨⟨"StiltTown", List.mem_of_getElem? (i := 17) rfl⟩, w_805, w_1, w_806, ⟨by decide +kernel, by decide +kernel, by decide +kernel⟩, by decide, by decide⟩
theorem cw_X4_257 : CV RX4 257 e_X4_readJoint 2 4 := ⟨w_807, w_809, wp_35, w_2, w_810, ⟨by decide +kernel, by decide +kernel, by decide +kernel⟩, ⟨_, _, rfl⟩, by decide, by decide⟩
theorem cw_X4_260 : CV RX4 260 e_X4_readClose 0 4 := ⟨w_818, w_820, wp_37, w_2, w_821, ⟨by decide +kernel, by decide +kernel, by decide +kernel⟩, ⟨_, _, rfl⟩, by decide, by decide⟩
theorem cw_X4_263 : CSN RX4 263 e_X11_compares 1 := ⟨⟨"StiltTown", List.mem_of_getElem? (i := 18) rfl⟩, w_823, w_1, w_824, ⟨by decide +kernel, by decide +kernel, by decide +kernel⟩, by decide, by decide⟩
theorem cw_X4_266 : CV RX4 266 e_X4_release 1 4 := ⟨w_814, w_816, wp_36, w_2, w_817, ⟨by decide +kernel, by decide +kernel, by decide +kernel⟩, ⟨_, _, rfl⟩, by decide, by decide⟩
theorem cw_X4_269 : CS RX4 269 e_X4_bond 1 := ⟨w_811, w_812, w_2, w_813, ⟨by decide +kernel, by decide +kernel, by decide +kernel⟩, by decide, by decide⟩
theorem cw_X4_272 : CV RX4 272 e_X4_value 0 4 := ⟨w_709, w_711, wp_16, w_2, w_712, ⟨by decide +kernel, by decide +kernel, by decide +kernel⟩, ⟨_, _, rfl⟩, by decide, by decide⟩
theorem cw_X4_276 : CV RX4 276 e_X4_ownerOf 1 4 := ⟨w_713, w_715, wp_17, w_2, w_716, ⟨by decide +kernel, by decide +kernel, by decide +kernel⟩, ⟨_, _, rfl⟩, by decide, by decide⟩
theorem cw_X4_280 : CSN RX4 280 e_X11_within 3 := ⟨⟨"StiltTown", List.mem_of_getElem? (i := 14) rfl⟩, w_558, w_1, w_559, ⟨by decide +kernel, by decide +kernel, by decide +kernel⟩, by decide, by decide⟩
theorem fo_X4_283 : FO RX4 283 7 5 (.int) false := ⟨RX7, TX7, 6, tyX7, rfl, by decide, iX7, tyX7_ok, nmX7, w_51, rfl, rfl⟩
theorem fo_X4_286 : FO RX4 286 7 2 (.array .int) true := ⟨RX7, TX7, 6, tyX7, rfl, by decide, iX7, tyX7_ok, nmX7, w_45, rfl, rfl⟩
theorem fo_X4_289 : FO RX4 289 7 1 (.array .int) true := ⟨RX7, TX7, 6, tyX7, rfl, by decide, iX7, tyX7_ok, nmX7, w_43, rfl, rfl⟩
theorem fo_X4_292 : FO RX4 292 7 3 (.array .long) true := ⟨RX7, TX7, 6, tyX7, rfl, by decide, iX7, tyX7_ok, nmX7, w_47, rfl, rfl⟩
theorem fo_X5_9 : FO RX5 9 5 0 (.array .int) true := ⟨RX5, TX5, 7, tyX5, rfl, by decide, iX5, tyX5_ok, nmX5, w_460, rfl, rfl⟩
theorem fo_X5_15 : FO RX5 15 5 1 (.array .int) true := ⟨RX5, TX5, 7, tyX5, rfl, by decide, iX5, tyX5_ok, nmX5, w_461, rfl, rfl⟩
theorem fo_X5_18 : FO RX5 18 5 2 (.int) false := ⟨RX5, TX5, 7, tyX5, rfl, by decide, iX5, tyX5_ok, nmX5, w_462, rfl, rfl⟩
theorem fo_X5_22 : FO RX5 22 5 3 (.int) false := ⟨RX5, TX5, 7, tyX5, rfl, by decide, iX5, tyX5_ok, nmX5, w_464, rfl, rfl⟩
theorem fo_X5_25 : FO RX5 25 5 4 (.int) false := ⟨RX5, TX5, 7, tyX5, rfl, by decide, iX5, tyX5_ok, nmX5, w_465, rfl, rfl⟩
theorem fo_X5_28 : FO RX5 28 5 5 (.int) false := ⟨RX5, TX5, 7, tyX5, rfl, by decide, iX5, tyX5_ok, nmX5, w_466, rfl, rfl⟩
theorem fo_X5_31 : FO RX5 31 5 6 (.int) false := ⟨RX5, TX5, 7, tyX5, rfl, by decide, iX5, tyX5_ok, nmX5, w_467, rfl, rfl⟩
theorem cw_X5_34 : CV RX5 34 e_X5_fillLevel 1 5 := ⟨w_1250, w_1252, wp_62, w_12, w_1253, ⟨by decide +kernel, by decide +kernel, by decide +kernel⟩, ⟨_, _, rfl⟩, by decide, by decide⟩
theorem cw_X5_38 : CV RX5 38 e_X5_fillUp 1 5 := ⟨w_1265, w_1267, wp_65, w_12, w_1268, ⟨by decide +kernel, by decide +kernel, by decide +kernel⟩, ⟨_, _, rfl⟩, by decide, by decide⟩
theorem cw_X5_41 : CV RX5 41 e_X5_fillDown 1 5 := ⟨w_1269, w_1271, wp_66, w_12, w_1272, ⟨by decide +kernel, by decide +kernel, by decide +kernel⟩, ⟨_, _, rfl⟩, by decide, by decide⟩
theorem cw_X5_44 : CSN RX5 44 e_X11_within 3 := ⟨⟨"StiltTown", List.mem_of_getElem? (i := 26) rfl⟩, w_558, w_1, w_559, ⟨by decide +kernel, by decide +kernel, by decide +kernel⟩, by decide, by decide⟩
theorem cw_X5_48 : MW RX5 48 Lib.Math.min.name Lib.Math.min.code 2 := ⟨w_1262, w_904, w_18, w_905⟩
theorem cw_X5_54 : CV RX5 54 e_X5_canBe 2 5 := ⟨w_1258, w_1260, wp_64, w_12, w_1261, ⟨by decide +kernel, by decide +kernel, by decide +kernel⟩, ⟨_, _, rfl⟩, by decide, by decide⟩
theorem ct_X5_58 : Cond.constant RX5 58 10000000 ∈ bigW := w_1264
theorem cw_X5_59 : CV RX5 59 e_X5_behind 2 5 := ⟨w_1254, w_1256, wp_63, w_12, w_1257, ⟨by decide +kernel, by decide +kernel, by decide +kernel⟩, ⟨_, _, rfl⟩, by decide, by decide⟩
theorem cw_X5_62 : CV RX5 62 e_X5_nextHeight 2 5 := ⟨w_1281, w_1283, wp_67, w_12, w_1284, ⟨by decide +kernel, by decide +kernel, by decide +kernel⟩, ⟨_, _, rfl⟩, by decide, by decide⟩
theorem cw_X5_65 : CV RX5 65 e_X5_stepCost 2 5 := ⟨w_1285, w_1287, wp_68, w_12, w_1288, ⟨by decide +kernel, by decide +kernel, by decide +kernel⟩, ⟨_, _, rfl⟩, by decide, by decide⟩
theorem fo_X6_9 : FO RX6 9 6 0 (.array .int) true := ⟨RX6, TX6, 9, tyX6, rfl, by decide, iX6, tyX6_ok, nmX6, w_254, rfl, rfl⟩
theorem fo_X6_15 : FO RX6 15 6 1 (.array .int) true := ⟨RX6, TX6, 9, tyX6, rfl, by decide, iX6, tyX6_ok, nmX6, w_260, rfl, rfl⟩
theorem fo_X6_18 : FO RX6 18 6 2 (.array .int) true := ⟨RX6, TX6, 9, tyX6, rfl, by decide, iX6, tyX6_ok, nmX6, w_263, rfl, rfl⟩
theorem fo_X6_21 : FO RX6 21 6 3 (.array .int) true := ⟨RX6, TX6, 9, tyX6, rfl, by decide, iX6, tyX6_ok, nmX6, w_267, rfl, rfl⟩
theorem fo_X6_24 : FO RX6 24 6 4 (.array .int) true := ⟨RX6, TX6, 9, tyX6, rfl, by decide, iX6, tyX6_ok, nmX6, w_269, rfl, rfl⟩
theorem fo_X6_27 : FO RX6 27 6 5 (.array .int) true := ⟨RX6, TX6, 9, tyX6, rfl, by decide, iX6, tyX6_ok, nmX6, w_271, rfl, rfl⟩
theorem fo_X6_33 : FO RX6 33 6 6 (.object "StiltTown$Logs") true := ⟨RX6, TX6, 9, tyX6, rfl, by decide, iX6, tyX6_ok, nmX6, w_273, rfl, rfl⟩
theorem fo_X6_37 : FO RX6 37 6 7 (.int) false := ⟨RX6, TX6, 9, tyX6, rfl, by decide, iX6, tyX6_ok, nmX6, w_275, rfl, rfl⟩
theorem fo_X6_41 : FO RX6 41 6 8 (.int) false := ⟨RX6, TX6, 9, tyX6, rfl, by decide, iX6, tyX6_ok, nmX6, w_278, rfl, rfl⟩
theorem fo_X6_44 : FO RX6 44 2 6 (.int) false := ⟨RX2, TX2, 7, tyX2, rfl, by decide, iX2, tyX2_ok, nmX2, w_236, rfl, rfl⟩
theorem cw_X6_47 : AC RX6 47 := ⟨w_1384, w_1089, w_1088, w_20⟩
theorem cw_X6_53 : CV RX6 53 e_X2_copyFrom 1 2 := ⟨w_1385, w_1386, w_1387, w_7, w_1388, ⟨by decide +kernel, by decide +kernel, by decide +kernel⟩, ⟨_, _, rfl⟩, by decide, by decide⟩
theorem fo_X7_9 : FO RX7 9 7 0 (.array .byte) true := ⟨RX7, TX7, 6, tyX7, rfl, by decide, iX7, tyX7_ok, nmX7, w_41, rfl, rfl⟩
theorem fo_X7_15 : FO RX7 15 7 1 (.array .int) true := ⟨RX7, TX7, 6, tyX7, rfl, by decide, iX7, tyX7_ok, nmX7, w_42, rfl, rfl⟩
theorem fo_X7_19 : FO RX7 19 7 2 (.array .int) true := ⟨RX7, TX7, 6, tyX7, rfl, by decide, iX7, tyX7_ok, nmX7, w_44, rfl, rfl⟩
theorem fo_X7_22 : FO RX7 22 7 3 (.array .long) true := ⟨RX7, TX7, 6, tyX7, rfl, by decide, iX7, tyX7_ok, nmX7, w_46, rfl, rfl⟩
theorem fo_X7_26 : FO RX7 26 7 4 (.int) false := ⟨RX7, TX7, 6, tyX7, rfl, by decide, iX7, tyX7_ok, nmX7, w_48, rfl, rfl⟩
theorem fo_X7_30 : FO RX7 30 7 5 (.int) false := ⟨RX7, TX7, 6, tyX7, rfl, by decide, iX7, tyX7_ok, nmX7, w_50, rfl, rfl⟩
theorem cw_X7_33 : CV RX7 33 e_X7_pastBlanks 1 7 := ⟨w_542, w_544, wp_0, w_3, w_545, ⟨by decide +kernel, by decide +kernel, by decide +kernel⟩, ⟨_, _, rfl⟩, by decide, by decide⟩
theorem cw_X7_37 : CV RX7 37 e_X7_scanToken 2 7 := ⟨w_553, w_555, wp_2, w_3, w_556, ⟨by decide +kernel, by decide +kernel, by decide +kernel⟩, ⟨_, _, rfl⟩, by decide, by decide⟩
theorem cw_X7_41 : CV RX7 41 e_X7_byteAt 1 7 := ⟨w_546, w_548, wp_1, w_3, w_549, ⟨by decide +kernel, by decide +kernel, by decide +kernel⟩, ⟨_, _, rfl⟩, by decide, by decide⟩
theorem cw_X7_44 : CS RX7 44 e_X7_isBlank 1 := ⟨w_550, w_551, w_3, w_552, ⟨by decide +kernel, by decide +kernel, by decide +kernel⟩, by decide, by decide⟩
theorem cw_X7_48 : CSN RX7 48 e_X11_within 3 := ⟨⟨"StiltTown", List.mem_of_getElem? (i := 13) rfl⟩, w_558, w_1, w_559, ⟨by decide +kernel, by decide +kernel, by decide +kernel⟩, by decide, by decide⟩
theorem cw_X7_52 : CV RX7 52 e_X7_pastRun 3 7 := ⟨w_560, w_562, wp_3, w_3, w_563, ⟨by decide +kernel, by decide +kernel, by decide +kernel⟩, ⟨_, _, rfl⟩, by decide, by decide⟩
theorem cw_X7_56 : CV RX7 56 e_X7_packed 2 7 := ⟨w_564, w_566, wp_4, w_3, w_567, ⟨by decide +kernel, by decide +kernel, by decide +kernel⟩, ⟨_, _, rfl⟩, by decide, by decide⟩
theorem cw_X7_60 : CV RX7 60 e_X7_wordKind 2 7 := ⟨w_568, w_570, wp_5, w_3, w_571, ⟨by decide +kernel, by decide +kernel, by decide +kernel⟩, ⟨_, _, rfl⟩, by decide, by decide⟩
theorem cw_X7_63 : CV RX7 63 e_X7_number 2 7 := ⟨w_654, w_656, wp_7, w_3, w_657, ⟨by decide +kernel, by decide +kernel, by decide +kernel⟩, ⟨_, _, rfl⟩, by decide, by decide⟩
theorem cw_X7_66 : CS RX7 66 e_X7_signKind 2 := ⟨w_658, w_659, w_3, w_660, ⟨by decide +kernel, by decide +kernel, by decide +kernel⟩, by decide, by decide⟩
theorem cw_X7_69 : CS RX7 69 e_X7_spelling 1 := ⟨w_572, w_573, w_3, w_574, ⟨by decide +kernel, by decide +kernel, by decide +kernel⟩, by decide, by decide⟩
theorem cw_X7_73 : CV RX7 73 e_X7_spells 3 7 := ⟨w_602, w_604, wp_6, w_3, w_605, ⟨by decide +kernel, by decide +kernel, by decide +kernel⟩, ⟨_, _, rfl⟩, by decide, by decide⟩
theorem fo_X8_9 : FO RX8 9 8 0 (.array .int) true := ⟨RX8, TX8, 16, tyX8, rfl, by decide, iX8, tyX8_ok, nmX8, w_132, rfl, rfl⟩
theorem fo_X8_15 : FO RX8 15 8 1 (.array .int) true := ⟨RX8, TX8, 16, tyX8, rfl, by decide, iX8, tyX8_ok, nmX8, w_135, rfl, rfl⟩
theorem fo_X8_18 : FO RX8 18 8 2 (.array .int) true := ⟨RX8, TX8, 16, tyX8, rfl, by decide, iX8, tyX8_ok, nmX8, w_138, rfl, rfl⟩
theorem fo_X8_21 : FO RX8 21 8 3 (.array .int) true := ⟨RX8, TX8, 16, tyX8, rfl, by decide, iX8, tyX8_ok, nmX8, w_140, rfl, rfl⟩
theorem fo_X8_24 : FO RX8 24 8 4 (.array .int) true := ⟨RX8, TX8, 16, tyX8, rfl, by decide, iX8, tyX8_ok, nmX8, w_142, rfl, rfl⟩
theorem fo_X8_27 : FO RX8 27 8 5 (.array .int) true := ⟨RX8, TX8, 16, tyX8, rfl, by decide, iX8, tyX8_ok, nmX8, w_144, rfl, rfl⟩
theorem fo_X8_30 : FO RX8 30 8 6 (.array .int) true := ⟨RX8, TX8, 16, tyX8, rfl, by decide, iX8, tyX8_ok, nmX8, w_146, rfl, rfl⟩
theorem fo_X8_36 : FO RX8 36 8 7 (.object "StiltTown$Laws") true := ⟨RX8, TX8, 16, tyX8, rfl, by decide, iX8, tyX8_ok, nmX8, w_150, rfl, rfl⟩
theorem fo_X8_40 : FO RX8 40 8 8 (.int) false := ⟨RX8, TX8, 16, tyX8, rfl, by decide, iX8, tyX8_ok, nmX8, w_153, rfl, rfl⟩
theorem fo_X8_44 : FO RX8 44 8 9 (.int) false := ⟨RX8, TX8, 16, tyX8, rfl, by decide, iX8, tyX8_ok, nmX8, w_158, rfl, rfl⟩
theorem fo_X8_47 : FO RX8 47 8 10 (.int) false := ⟨RX8, TX8, 16, tyX8, rfl, by decide, iX8, tyX8_ok, nmX8, w_161, rfl, rfl⟩
theorem fo_X8_50 : FO RX8 50 8 11 (.int) false := ⟨RX8, TX8, 16, tyX8, rfl, by decide, iX8, tyX8_ok, nmX8, w_164, rfl, rfl⟩
theorem fo_X8_53 : FO RX8 53 8 12 (.int) false := ⟨RX8, TX8, 16, tyX8, rfl, by decide, iX8, tyX8_ok, nmX8, w_167, rfl, rfl⟩
theorem fo_X8_56 : FO RX8 56 8 13 (.int) false := ⟨RX8, TX8, 16, tyX8, rfl, by decide, iX8, tyX8_ok, nmX8, w_169, rfl, rfl⟩
theorem fo_X8_59 : FO RX8 59 8 14 (.int) false := ⟨RX8, TX8, 16, tyX8, rfl, by decide, iX8, tyX8_ok, nmX8, w_174, rfl, rfl⟩
theorem fo_X8_62 : FO RX8 62 8 15 (.int) false := ⟨RX8, TX8, 16, tyX8, rfl, by decide, iX8, tyX8_ok, nmX8, w_179, rfl, rfl⟩
theorem cw_X8_65 : CV RX8 65 e_X1_empty 0 1 := ⟨w_673, w_674, w_675, w_5, w_676, ⟨by decide +kernel, by decide +kernel, by decide +kernel⟩, ⟨_, _, rfl⟩, by decide, by decide⟩
theorem fo_X8_68 : FO RX8 68 6 1 (.array .int) true := ⟨RX6, TX6, 9, tyX6, rfl, by decide, iX6, tyX6_ok, nmX6, w_261, rfl, rfl⟩
theorem cw_X8_73 : CV RX8 73 e_X1_wipeVars 0 1 := ⟨w_866, w_867, w_868, w_5, w_869, ⟨by decide +kernel, by decide +kernel, by decide +kernel⟩, ⟨_, _, rfl⟩, by decide, by decide⟩
theorem cw_X8_76 : CV RX8 76 e_X1_put 2 1 := ⟨w_870, w_871, w_872, w_5, w_873, ⟨by decide +kernel, by decide +kernel, by decide +kernel⟩, ⟨_, _, rfl⟩, by decide, by decide⟩
theorem fo_X8_80 : FO RX8 80 6 8 (.int) false := ⟨RX6, TX6, 9, tyX6, rfl, by decide, iX6, tyX6_ok, nmX6, w_279, rfl, rfl⟩
theorem fo_X8_83 : FO RX8 83 1 8 (.int) false := ⟨RX1, TX1, 13, tyX1, rfl, by decide, iX1, tyX1_ok, nmX1, w_92, rfl, rfl⟩
theorem cw_X8_86 : CV RX8 86 e_X1_value 1 1 := ⟨w_875, w_876, w_877, w_5, w_878, ⟨by decide +kernel, by decide +kernel, by decide +kernel⟩, ⟨_, _, rfl⟩, by decide, by decide⟩
theorem cw_X8_90 : CSN RX8 90 e_X11_heldTo99 1 := ⟨⟨"StiltTown", List.mem_of_getElem? (i := 22) rfl⟩, w_901, w_1, w_902, ⟨by decide +kernel, by decide +kernel, by decide +kernel⟩, by decide, by decide⟩
theorem fo_X8_93 : FO RX8 93 1 9 (.int) false := ⟨RX1, TX1, 13, tyX1, rfl, by decide, iX1, tyX1_ok, nmX1, w_94, rfl, rfl⟩
theorem cw_X8_96 : CV RX8 96 e_X8_rankOf 2 8 := ⟨w_861, w_854, w_855, w_4, w_856, ⟨by decide +kernel, by decide +kernel, by decide +kernel⟩, ⟨_, _, rfl⟩, by decide, by decide⟩
theorem cw_X8_100 : CV RX8 100 e_X8_putVars 2 8 := ⟨w_862, w_864, wp_41, w_4, w_865, ⟨by decide +kernel, by decide +kernel, by decide +kernel⟩, ⟨_, _, rfl⟩, by decide, by decide⟩
theorem fo_X8_104 : FO RX8 104 1 10 (.int) false := ⟨RX1, TX1, 13, tyX1, rfl, by decide, iX1, tyX1_ok, nmX1, w_96, rfl, rfl⟩
theorem cw_X8_107 : CV RX8 107 e_X8_swayOf 3 8 := ⟨w_1032, w_1033, w_1034, w_4, w_1035, ⟨by decide +kernel, by decide +kernel, by decide +kernel⟩, ⟨_, _, rfl⟩, by decide, by decide⟩
theorem fo_X8_111 : FO RX8 111 1 2 (.array .int) true := ⟨RX1, TX1, 13, tyX1, rfl, by decide, iX1, tyX1_ok, nmX1, w_84, rfl, rfl⟩
theorem fo_X8_114 : FO RX8 114 1 12 (.int) false := ⟨RX1, TX1, 13, tyX1, rfl, by decide, iX1, tyX1_ok, nmX1, w_103, rfl, rfl⟩
theorem cw_X8_117 : CV RX8 117 e_X1_someHolds 2 1 := ⟨w_1036, w_1037, w_1038, w_5, w_1039, ⟨by decide +kernel, by decide +kernel, by decide +kernel⟩, ⟨_, _, rfl⟩, by decide, by decide⟩
theorem fo_X8_121 : FO RX8 121 1 1 (.array .int) true := ⟨RX1, TX1, 13, tyX1, rfl, by decide, iX1, tyX1_ok, nmX1, w_82, rfl, rfl⟩
theorem fo_X8_124 : FO RX8 124 1 11 (.int) false := ⟨RX1, TX1, 13, tyX1, rfl, by decide, iX1, tyX1_ok, nmX1, w_99, rfl, rfl⟩
theorem fo_X8_127 : FO RX8 127 6 0 (.array .int) true := ⟨RX6, TX6, 9, tyX6, rfl, by decide, iX6, tyX6_ok, nmX6, w_259, rfl, rfl⟩
theorem cw_X8_130 : CV RX8 130 e_X8_dueOf 2 8 := ⟨w_1018, w_858, w_859, w_4, w_860, ⟨by decide +kernel, by decide +kernel, by decide +kernel⟩, ⟨_, _, rfl⟩, by decide, by decide⟩
theorem cw_X8_133 : CV RX8 133 e_X8_isBad 2 8 := ⟨w_1028, w_1029, w_1030, w_4, w_1031, ⟨by decide +kernel, by decide +kernel, by decide +kernel⟩, ⟨_, _, rfl⟩, by decide, by decide⟩
theorem cw_X8_137 : CS RX8 137 e_X8_endHeight 2 := ⟨w_968, w_969, w_4, w_970, ⟨by decide +kernel, by decide +kernel, by decide +kernel⟩, by decide, by decide⟩
theorem cw_X8_141 : MW RX8 141 Lib.Math.abs.name Lib.Math.abs.code 1 := ⟨w_971, w_972, w_18, w_973⟩
theorem cw_X8_146 : CV RX8 146 e_X8_reachedWithout 4 8 := ⟨w_958, w_960, wp_47, w_4, w_961, ⟨by decide +kernel, by decide +kernel, by decide +kernel⟩, ⟨_, _, rfl⟩, by decide, by decide⟩
theorem cw_X8_150 : CV RX8 150 e_X8_wetBits 2 8 := ⟨w_962, w_947, w_948, w_4, w_949, ⟨by decide +kernel, by decide +kernel, by decide +kernel⟩, ⟨_, _, rfl⟩, by decide, by decide⟩
theorem cw_X8_153 : CS RX8 153 e_X8_bitOf 1 := ⟨w_963, w_759, w_4, w_760, ⟨by decide +kernel, by decide +kernel, by decide +kernel⟩, by decide, by decide⟩
theorem cw_X8_156 : CV RX8 156 e_X8_stairMeets 2 8 := ⟨w_964, w_965, w_966, w_4, w_967, ⟨by decide +kernel, by decide +kernel, by decide +kernel⟩, ⟨_, _, rfl⟩, by decide, by decide⟩
theorem cw_X8_159 : CV RX8 159 e_X8_behindStair 3 8 := ⟨w_974, w_976, wp_48, w_4, w_977, ⟨by decide +kernel, by decide +kernel, by decide +kernel⟩, ⟨_, _, rfl⟩, by decide, by decide⟩
theorem cw_X8_163 : CV RX8 163 e_X8_reachedBits 2 8 := ⟨w_999, w_955, w_956, w_4, w_957, ⟨by decide +kernel, by decide +kernel, by decide +kernel⟩, ⟨_, _, rfl⟩, by decide, by decide⟩
theorem cw_X8_166 : CS RX8 166 e_J6_bitCount_0f7a4 1 := ⟨w_1000, w_1001, w_19, w_1002, ⟨by decide +kernel, by decide +kernel, by decide +kernel⟩, by decide, by decide⟩
theorem fo_X9_9 : FO RX9 9 9 0 (.array .int) true := ⟨RX9, TX9, 7, tyX9, rfl, by decide, iX9, tyX9_ok, nmX9, w_387, rfl, rfl⟩
theorem fo_X9_15 : FO RX9 15 9 1 (.array .int) true := ⟨RX9, TX9, 7, tyX9, rfl, by decide, iX9, tyX9_ok, nmX9, w_388, rfl, rfl⟩
theorem fo_X9_20 : FO RX9 20 9 2 (.array (.array .int)) true := ⟨RX9, TX9, 7, tyX9, rfl, by decide, iX9, tyX9_ok, nmX9, w_389, rfl, rfl⟩
theorem fo_X9_23 : FO RX9 23 9 3 (.array (.array .int)) true := ⟨RX9, TX9, 7, tyX9, rfl, by decide, iX9, tyX9_ok, nmX9, w_390, rfl, rfl⟩
theorem fo_X9_26 : FO RX9 26 9 4 (.int) false := ⟨RX9, TX9, 7, tyX9, rfl, by decide, iX9, tyX9_ok, nmX9, w_391, rfl, rfl⟩
theorem fo_X9_30 : FO RX9 30 9 5 (.int) false := ⟨RX9, TX9, 7, tyX9, rfl, by decide, iX9, tyX9_ok, nmX9, w_393, rfl, rfl⟩
theorem fo_X9_33 : FO RX9 33 9 6 (.int) false := ⟨RX9, TX9, 7, tyX9, rfl, by decide, iX9, tyX9_ok, nmX9, w_394, rfl, rfl⟩
theorem fo_X9_36 : FO RX9 36 6 0 (.array .int) true := ⟨RX6, TX6, 9, tyX6, rfl, by decide, iX6, tyX6_ok, nmX6, w_256, rfl, rfl⟩
theorem cw_X9_39 : AC RX9 39 := ⟨w_1087, w_1089, w_1088, w_20⟩
theorem fo_X9_45 : FO RX9 45 6 2 (.array .int) true := ⟨RX6, TX6, 9, tyX6, rfl, by decide, iX6, tyX6_ok, nmX6, w_264, rfl, rfl⟩
theorem cw_X9_46 : CV RX9 46 e_X8_tideAt 2 8 := ⟨w_1090, w_939, w_940, w_4, w_941, ⟨by decide +kernel, by decide +kernel, by decide +kernel⟩, ⟨_, _, rfl⟩, by decide, by decide⟩
theorem cw_X9_52 : CS RX9 52 e_X9_nightAfter 2 := ⟨w_1091, w_1092, w_9, w_1093, ⟨by decide +kernel, by decide +kernel, by decide +kernel⟩, by decide, by decide⟩
theorem cw_X9_55 : CV RX9 55 e_X9_nightVerdict 5 9 := ⟨w_1094, w_1096, wp_53, w_9, w_1097, ⟨by decide +kernel, by decide +kernel, by decide +kernel⟩, ⟨_, _, rfl⟩, by decide, by decide⟩
theorem fo_X9_59 : FO RX9 59 6 7 (.int) false := ⟨RX6, TX6, 9, tyX6, rfl, by decide, iX6, tyX6_ok, nmX6, w_276, rfl, rfl⟩
theorem fo_X9_62 : FO RX9 62 6 3 (.array .int) true := ⟨RX6, TX6, 9, tyX6, rfl, by decide, iX6, tyX6_ok, nmX6, w_268, rfl, rfl⟩
theorem cw_X9_65 : CV RX9 65 e_X8_reachedBits 2 8 := ⟨w_1098, w_955, w_956, w_4, w_957, ⟨by decide +kernel, by decide +kernel, by decide +kernel⟩, ⟨_, _, rfl⟩, by decide, by decide⟩
theorem fo_X9_69 : FO RX9 69 8 14 (.int) false := ⟨RX8, TX8, 16, tyX8, rfl, by decide, iX8, tyX8_ok, nmX8, w_177, rfl, rfl⟩
theorem fo_X9_72 : FO RX9 72 6 4 (.array .int) true := ⟨RX6, TX6, 9, tyX6, rfl, by decide, iX6, tyX6_ok, nmX6, w_270, rfl, rfl⟩
theorem fo_X9_75 : FO RX9 75 6 5 (.array .int) true := ⟨RX6, TX6, 9, tyX6, rfl, by decide, iX6, tyX6_ok, nmX6, w_272, rfl, rfl⟩
theorem cw_X9_78 : CV RX9 78 e_X9_workReason 4 9 := ⟨w_1099, w_1101, wp_54, w_9, w_1102, ⟨by decide +kernel, by decide +kernel, by decide +kernel⟩, ⟨_, _, rfl⟩, by decide, by decide⟩
theorem cw_X9_82 : MW RX9 82 Lib.Math.abs.name Lib.Math.abs.code 1 := ⟨w_1103, w_972, w_18, w_973⟩
theorem fo_X9_88 : FO RX9 88 8 15 (.int) false := ⟨RX8, TX8, 16, tyX8, rfl, by decide, iX8, tyX8_ok, nmX8, w_181, rfl, rfl⟩
theorem cw_X9_91 : CSN RX9 91 e_X11_within 3 := ⟨⟨"StiltTown", List.mem_of_getElem? (i := 24) rfl⟩, w_558, w_1, w_559, ⟨by decide +kernel, by decide +kernel, by decide +kernel⟩, by decide, by decide⟩
theorem cw_X9_95 : CV RX9 95 e_X9_keepPiece 2 9 := ⟨w_1105, w_1107, wp_55, w_9, w_1108, ⟨by decide +kernel, by decide +kernel, by decide +kernel⟩, ⟨_, _, rfl⟩, by decide, by decide⟩
theorem cw_X9_99 : CV RX9 99 e_X10_choose 3 10 := ⟨w_1110, w_1054, w_1055, w_8, w_1056, ⟨by decide +kernel, by decide +kernel, by decide +kernel⟩, ⟨_, _, rfl⟩, by decide, by decide⟩
theorem cw_X9_105 : CV RX9 105 e_X9_takePieces 2 9 := ⟨w_1111, w_1113, wp_56, w_9, w_1114, ⟨by decide +kernel, by decide +kernel, by decide +kernel⟩, ⟨_, _, rfl⟩, by decide, by decide⟩
theorem fo_X9_109 : FO RX9 109 8 13 (.int) false := ⟨RX8, TX8, 16, tyX8, rfl, by decide, iX8, tyX8_ok, nmX8, w_171, rfl, rfl⟩
theorem fo_X9_112 : FO RX9 112 8 6 (.array .int) true := ⟨RX8, TX8, 16, tyX8, rfl, by decide, iX8, tyX8_ok, nmX8, w_148, rfl, rfl⟩
theorem cw_X9_115 : MW RX9 115 Lib.Math.min.name Lib.Math.min.code 2 := ⟨w_1109, w_904, w_18, w_905⟩
theorem fo_X9_119 : FO RX9 119 10 1 (.array .int) true := ⟨RX10, TX10, 3, tyX10, rfl, by decide, iX10, tyX10_ok, nmX10, w_367, rfl, rfl⟩
theorem fo_X9_122 : FO RX9 122 10 2 (.int) false := ⟨RX10, TX10, 3, tyX10, rfl, by decide, iX10, tyX10_ok, nmX10, w_370, rfl, rfl⟩
theorem fo_X10_11 : FO RX10 11 10 0 (.array .int) true := ⟨RX10, TX10, 3, tyX10, rfl, by decide, iX10, tyX10_ok, nmX10, w_365, rfl, rfl⟩
theorem fo_X10_15 : FO RX10 15 10 1 (.array .int) true := ⟨RX10, TX10, 3, tyX10, rfl, by decide, iX10, tyX10_ok, nmX10, w_366, rfl, rfl⟩
theorem fo_X10_18 : FO RX10 18 10 2 (.int) false := ⟨RX10, TX10, 3, tyX10, rfl, by decide, iX10, tyX10_ok, nmX10, w_369, rfl, rfl⟩
theorem cw_X10_22 : CSN RX10 22 e_X11_within 3 := ⟨⟨"StiltTown", List.mem_of_getElem? (i := 23) rfl⟩, w_558, w_1, w_559, ⟨by decide +kernel, by decide +kernel, by decide +kernel⟩, by decide, by decide⟩
theorem fo_X10_26 : FO RX10 26 8 13 (.int) false := ⟨RX8, TX8, 16, tyX8, rfl, by decide, iX8, tyX8_ok, nmX8, w_170, rfl, rfl⟩
theorem fo_X10_31 : FO RX10 31 8 6 (.array .int) true := ⟨RX8, TX8, 16, tyX8, rfl, by decide, iX8, tyX8_ok, nmX8, w_147, rfl, rfl⟩
theorem cw_X10_34 : CV RX10 34 e_X10_fewestFrom 4 10 := ⟨w_1058, w_1060, wp_51, w_8, w_1061, ⟨by decide +kernel, by decide +kernel, by decide +kernel⟩, ⟨_, _, rfl⟩, by decide, by decide⟩
theorem cw_X10_38 : CV RX10 38 e_X10_mostOf 4 10 := ⟨w_1063, w_1065, wp_52, w_8, w_1066, ⟨by decide +kernel, by decide +kernel, by decide +kernel⟩, ⟨_, _, rfl⟩, by decide, by decide⟩
theorem cw_X10_41 : MW RX10 41 Lib.Math.min.name Lib.Math.min.code 2 := ⟨w_1062, w_904, w_18, w_905⟩
theorem fo_X11_10 : FO RX11 10 11 0 (.object "StiltTown$Reader") true := ⟨RX11, TX11, 11, tyX11, rfl, by decide, iX11, tyX11_ok, nmX11, w_488, rfl, rfl⟩
theorem fo_X11_16 : FO RX11 16 4 3 (.object "StiltTown$Tokens") true := ⟨RX4, TX4, 18, tyX4, rfl, by decide, iX4, tyX4_ok, nmX4, w_303, rfl, rfl⟩
theorem fo_X11_20 : FO RX11 20 11 1 (.object "StiltTown$Tokens") true := ⟨RX11, TX11, 11, tyX11, rfl, by decide, iX11, tyX11_ok, nmX11, w_489, rfl, rfl⟩
theorem fo_X11_24 : FO RX11 24 11 2 (.object "StiltTown$Yard") true := ⟨RX11, TX11, 11, tyX11, rfl, by decide, iX11, tyX11_ok, nmX11, w_490, rfl, rfl⟩
theorem fo_X11_31 : FO RX11 31 11 3 (.object "StiltTown$Works") true := ⟨RX11, TX11, 11, tyX11, rfl, by decide, iX11, tyX11_ok, nmX11, w_491, rfl, rfl⟩
theorem fo_X11_38 : FO RX11 38 11 4 (.object "StiltTown$Nights") true := ⟨RX11, TX11, 11, tyX11, rfl, by decide, iX11, tyX11_ok, nmX11, w_492, rfl, rfl⟩
theorem fo_X11_45 : FO RX11 45 11 5 (.object "StiltTown$Falls") true := ⟨RX11, TX11, 11, tyX11, rfl, by decide, iX11, tyX11_ok, nmX11, w_493, rfl, rfl⟩
theorem fo_X11_52 : FO RX11 52 11 6 (.object "StiltTown$Row") true := ⟨RX11, TX11, 11, tyX11, rfl, by decide, iX11, tyX11_ok, nmX11, w_494, rfl, rfl⟩
theorem fo_X11_58 : FO RX11 58 11 7 (.array (.object "StiltTown$State")) true := ⟨RX11, TX11, 11, tyX11, rfl, by decide, iX11, tyX11_ok, nmX11, w_495, rfl, rfl⟩
theorem fo_X11_62 : FO RX11 62 11 8 (.array .boolean) true := ⟨RX11, TX11, 11, tyX11, rfl, by decide, iX11, tyX11_ok, nmX11, w_496, rfl, rfl⟩
theorem fo_X11_69 : FO RX11 69 11 9 (.object "StiltTown$Town") false := ⟨RX11, TX11, 11, tyX11, rfl, by decide, iX11, tyX11_ok, nmX11, w_497, rfl, rfl⟩
theorem fo_X11_74 : FO RX11 74 11 10 (.object "StiltTown$State") false := ⟨RX11, TX11, 11, tyX11, rfl, by decide, iX11, tyX11_ok, nmX11, w_498, rfl, rfl⟩
theorem fo_X11_78 : FO RX11 78 7 4 (.int) false := ⟨RX7, TX7, 6, tyX7, rfl, by decide, iX7, tyX7_ok, nmX7, w_49, rfl, rfl⟩
theorem cw_X11_84 : CV RX11 84 e_X7_append 1 7 := ⟨w_526, w_527, w_528, w_3, w_529, ⟨by decide +kernel, by decide +kernel, by decide +kernel⟩, ⟨_, _, rfl⟩, by decide, by decide⟩
theorem cw_X11_88 : CV RX11 88 e_X7_scan 0 7 := ⟨w_538, w_539, w_540, w_3, w_541, ⟨by decide +kernel, by decide +kernel, by decide +kernel⟩, ⟨_, _, rfl⟩, by decide, by decide⟩
theorem cw_X11_91 : CV RX11 91 e_X4_readText 0 4 := ⟨w_661, w_662, w_663, w_2, w_664, ⟨by decide +kernel, by decide +kernel, by decide +kernel⟩, ⟨_, _, rfl⟩, by decide, by decide⟩
theorem cw_X11_95 : CV RX11 95 e_X11_moveIn 0 11 := ⟨w_833, w_835, wp_39, w_1, w_836, ⟨by decide +kernel, by decide +kernel, by decide +kernel⟩, ⟨_, _, rfl⟩, by decide, by decide⟩
theorem fo_X11_98 : FO RX11 98 4 4 (.object "StiltTown$Town") false := ⟨RX4, TX4, 18, tyX4, rfl, by decide, iX4, tyX4_ok, nmX4, w_306, rfl, rfl⟩
theorem fo_X11_99 : FO RX11 99 4 5 (.object "StiltTown$State") false := ⟨RX4, TX4, 18, tyX4, rfl, by decide, iX4, tyX4_ok, nmX4, w_308, rfl, rfl⟩
theorem cw_X11_102 : CV RX11 102 e_X9_dropLots 0 9 := ⟨w_837, w_838, w_839, w_9, w_840, ⟨by decide +kernel, by decide +kernel, by decide +kernel⟩, ⟨_, _, rfl⟩, by decide, by decide⟩
theorem fo_X11_105 : FO RX11 105 5 2 (.int) false := ⟨RX5, TX5, 7, tyX5, rfl, by decide, iX5, tyX5_ok, nmX5, w_463, rfl, rfl⟩
theorem fo_X11_106 : FO RX11 106 4 8 (.int) false := ⟨RX4, TX4, 18, tyX4, rfl, by decide, iX4, tyX4_ok, nmX4, w_312, rfl, rfl⟩
theorem cw_X11_109 : CV RX11 109 e_X11_isHouse 1 11 := ⟨w_849, w_851, wp_40, w_1, w_852, ⟨by decide +kernel, by decide +kernel, by decide +kernel⟩, ⟨_, _, rfl⟩, by decide, by decide⟩
theorem fo_X11_113 : FO RX11 113 8 0 (.array .int) true := ⟨RX8, TX8, 16, tyX8, rfl, by decide, iX8, tyX8_ok, nmX8, w_134, rfl, rfl⟩
theorem fo_X11_117 : FO RX11 117 6 0 (.array .int) true := ⟨RX6, TX6, 9, tyX6, rfl, by decide, iX6, tyX6_ok, nmX6, w_258, rfl, rfl⟩
theorem fo_X11_120 : FO RX11 120 8 1 (.array .int) true := ⟨RX8, TX8, 16, tyX8, rfl, by decide, iX8, tyX8_ok, nmX8, w_137, rfl, rfl⟩
theorem fo_X11_123 : FO RX11 123 6 1 (.array .int) true := ⟨RX6, TX6, 9, tyX6, rfl, by decide, iX6, tyX6_ok, nmX6, w_262, rfl, rfl⟩
theorem cw_X11_126 : CV RX11 126 e_X8_rankOf 2 8 := ⟨w_853, w_854, w_855, w_4, w_856, ⟨by decide +kernel, by decide +kernel, by decide +kernel⟩, ⟨_, _, rfl⟩, by decide, by decide⟩
theorem cw_X11_130 : CV RX11 130 e_X8_dueOf 2 8 := ⟨w_857, w_858, w_859, w_4, w_860, ⟨by decide +kernel, by decide +kernel, by decide +kernel⟩, ⟨_, _, rfl⟩, by decide, by decide⟩
theorem cw_X11_133 : CV RX11 133 e_X11_isOffice 1 11 := ⟨w_913, w_915, wp_46, w_1, w_916, ⟨by decide +kernel, by decide +kernel, by decide +kernel⟩, ⟨_, _, rfl⟩, by decide, by decide⟩
theorem cw_X11_136 : CV RX11 136 e_X6_settle 2 6 := ⟨w_917, w_747, w_748, w_6, w_749, ⟨by decide +kernel, by decide +kernel, by decide +kernel⟩, ⟨_, _, rfl⟩, by decide, by decide⟩
theorem cw_X11_140 : CV RX11 140 e_X6_whoIsIn 1 6 := ⟨w_922, w_923, w_924, w_6, w_925, ⟨by decide +kernel, by decide +kernel, by decide +kernel⟩, ⟨_, _, rfl⟩, by decide, by decide⟩
theorem cw_X11_144 : CS RX11 144 e_X11_within 3 := ⟨w_930, w_558, w_1, w_559, ⟨by decide +kernel, by decide +kernel, by decide +kernel⟩, by decide, by decide⟩
theorem fo_X11_148 : FO RX11 148 6 8 (.int) false := ⟨RX6, TX6, 9, tyX6, rfl, by decide, iX6, tyX6_ok, nmX6, w_280, rfl, rfl⟩
theorem cw_X11_151 : CS RX11 151 e_X11_isHour 1 := ⟨w_935, w_936, w_1, w_937, ⟨by decide +kernel, by decide +kernel, by decide +kernel⟩, by decide, by decide⟩
theorem cw_X11_154 : CV RX11 154 e_X8_tideAt 2 8 := ⟨w_938, w_939, w_940, w_4, w_941, ⟨by decide +kernel, by decide +kernel, by decide +kernel⟩, ⟨_, _, rfl⟩, by decide, by decide⟩
theorem cw_X11_157 : CV RX11 157 e_X8_wetBits 2 8 := ⟨w_946, w_947, w_948, w_4, w_949, ⟨by decide +kernel, by decide +kernel, by decide +kernel⟩, ⟨_, _, rfl⟩, by decide, by decide⟩
theorem cw_X11_161 : CV RX11 161 e_X8_reachedBits 2 8 := ⟨w_954, w_955, w_956, w_4, w_957, ⟨by decide +kernel, by decide +kernel, by decide +kernel⟩, ⟨_, _, rfl⟩, by decide, by decide⟩
theorem cw_X11_164 : CV RX11 164 e_X11_isStair 1 11 := ⟨w_986, w_988, wp_49, w_1, w_989, ⟨by decide +kernel, by decide +kernel, by decide +kernel⟩, ⟨_, _, rfl⟩, by decide, by decide⟩
theorem cw_X11_167 : CV RX11 167 e_X8_stairMeets 2 8 := ⟨w_990, w_965, w_966, w_4, w_967, ⟨by decide +kernel, by decide +kernel, by decide +kernel⟩, ⟨_, _, rfl⟩, by decide, by decide⟩
theorem cw_X11_171 : CV RX11 171 e_X8_cutBy 4 8 := ⟨w_995, w_996, w_997, w_4, w_998, ⟨by decide +kernel, by decide +kernel, by decide +kernel⟩, ⟨_, _, rfl⟩, by decide, by decide⟩
theorem fo_X11_175 : FO RX11 175 8 10 (.int) false := ⟨RX8, TX8, 16, tyX8, rfl, by decide, iX8, tyX8_ok, nmX8, w_163, rfl, rfl⟩
theorem fo_X11_178 : FO RX11 178 8 8 (.int) false := ⟨RX8, TX8, 16, tyX8, rfl, by decide, iX8, tyX8_ok, nmX8, w_157, rfl, rfl⟩
theorem cw_X11_181 : CV RX11 181 e_X8_untrueBits 1 8 := ⟨w_1014, w_1015, w_1016, w_4, w_1017, ⟨by decide +kernel, by decide +kernel, by decide +kernel⟩, ⟨_, _, rfl⟩, by decide, by decide⟩
theorem cw_X11_185 : CS RX11 185 e_J6_bitCount_0f7a4 1 := ⟨w_1019, w_1001, w_19, w_1002, ⟨by decide +kernel, by decide +kernel, by decide +kernel⟩, by decide, by decide⟩
theorem cw_X11_190 : CV RX11 190 e_X8_turnedPairs 1 8 := ⟨w_1020, w_1021, w_1022, w_4, w_1023, ⟨by decide +kernel, by decide +kernel, by decide +kernel⟩, ⟨_, _, rfl⟩, by decide, by decide⟩
theorem cw_X11_193 : CV RX11 193 e_X8_badBits 1 8 := ⟨w_1024, w_1025, w_1026, w_4, w_1027, ⟨by decide +kernel, by decide +kernel, by decide +kernel⟩, ⟨_, _, rfl⟩, by decide, by decide⟩
theorem cw_X11_196 : CV RX11 196 e_X11_isWood 1 11 := ⟨w_1045, w_1047, wp_50, w_1, w_1048, ⟨by decide +kernel, by decide +kernel, by decide +kernel⟩, ⟨_, _, rfl⟩, by decide, by decide⟩
theorem fo_X11_199 : FO RX11 199 6 2 (.array .int) true := ⟨RX6, TX6, 9, tyX6, rfl, by decide, iX6, tyX6_ok, nmX6, w_266, rfl, rfl⟩
theorem cw_X11_202 : CV RX11 202 e_X10_choose 3 10 := ⟨w_1053, w_1054, w_1055, w_8, w_1056, ⟨by decide +kernel, by decide +kernel, by decide +kernel⟩, ⟨_, _, rfl⟩, by decide, by decide⟩
theorem fo_X11_206 : FO RX11 206 10 2 (.int) false := ⟨RX10, TX10, 3, tyX10, rfl, by decide, iX10, tyX10_ok, nmX10, w_371, rfl, rfl⟩
theorem fo_X11_209 : FO RX11 209 10 1 (.array .int) true := ⟨RX10, TX10, 3, tyX10, rfl, by decide, iX10, tyX10_ok, nmX10, w_368, rfl, rfl⟩
theorem cw_X11_212 : CV RX11 212 e_X6_tellWork 3 6 := ⟨w_1071, w_1072, w_1073, w_6, w_1074, ⟨by decide +kernel, by decide +kernel, by decide +kernel⟩, ⟨_, _, rfl⟩, by decide, by decide⟩
theorem fo_X11_216 : FO RX11 216 6 7 (.int) false := ⟨RX6, TX6, 9, tyX6, rfl, by decide, iX6, tyX6_ok, nmX6, w_277, rfl, rfl⟩
theorem cw_X11_218 : CV RX11 218 e_X9_verdict 3 9 := ⟨w_1083, w_1084, w_1085, w_9, w_1086, ⟨by decide +kernel, by decide +kernel, by decide +kernel⟩, ⟨_, _, rfl⟩, by decide, by decide⟩
theorem cw_X11_222 : CV RX11 222 e_X9_carryOut 1 9 := ⟨w_1119, w_1120, w_1121, w_9, w_1122, ⟨by decide +kernel, by decide +kernel, by decide +kernel⟩, ⟨_, _, rfl⟩, by decide, by decide⟩
theorem fo_X11_226 : FO RX11 226 9 6 (.int) false := ⟨RX9, TX9, 7, tyX9, rfl, by decide, iX9, tyX9_ok, nmX9, w_395, rfl, rfl⟩
theorem cw_X11_229 : CV RX11 229 e_X9_takeBack 1 9 := ⟨w_1127, w_1128, w_1129, w_9, w_1130, ⟨by decide +kernel, by decide +kernel, by decide +kernel⟩, ⟨_, _, rfl⟩, by decide, by decide⟩
theorem fo_X11_233 : FO RX11 233 8 14 (.int) false := ⟨RX8, TX8, 16, tyX8, rfl, by decide, iX8, tyX8_ok, nmX8, w_178, rfl, rfl⟩
theorem cw_X11_236 : MW RX11 236 Lib.Math.max.name Lib.Math.max.code 2 := ⟨w_906, w_907, w_18, w_908⟩
theorem cw_X11_242 : CV RX11 242 e_X3_search 3 3 := ⟨w_1135, w_1136, w_1137, w_10, w_1138, ⟨by decide +kernel, by decide +kernel, by decide +kernel⟩, ⟨_, _, rfl⟩, by decide, by decide⟩
theorem cw_X11_246 : CV RX11 246 e_X3_fewest 0 3 := ⟨w_1153, w_1154, w_1155, w_10, w_1156, ⟨by decide +kernel, by decide +kernel, by decide +kernel⟩, ⟨_, _, rfl⟩, by decide, by decide⟩
theorem cw_X11_249 : CV RX11 249 e_X3_firstNight 1 3 := ⟨w_1157, w_1158, w_1159, w_10, w_1160, ⟨by decide +kernel, by decide +kernel, by decide +kernel⟩, ⟨_, _, rfl⟩, by decide, by decide⟩
theorem cw_X11_252 : CV RX11 252 e_X8_seesInto 3 8 := ⟨w_1169, w_1170, w_1171, w_4, w_1172, ⟨by decide +kernel, by decide +kernel, by decide +kernel⟩, ⟨_, _, rfl⟩, by decide, by decide⟩
theorem cw_X11_256 : CV RX11 256 e_X8_lightOf 2 8 := ⟨w_1177, w_1178, w_1179, w_4, w_1180, ⟨by decide +kernel, by decide +kernel, by decide +kernel⟩, ⟨_, _, rfl⟩, by decide, by decide⟩
theorem cw_X11_259 : CS RX11 259 e_X11_isWind 1 := ⟨w_1185, w_1186, w_1, w_1187, ⟨by decide +kernel, by decide +kernel, by decide +kernel⟩, by decide, by decide⟩
theorem cw_X11_262 : CV RX11 262 e_X8_swayOf 3 8 := ⟨w_1188, w_1033, w_1034, w_4, w_1035, ⟨by decide +kernel, by decide +kernel, by decide +kernel⟩, ⟨_, _, rfl⟩, by decide, by decide⟩
theorem cw_X11_266 : CV RX11 266 e_X0_prepare 1 0 := ⟨w_1193, w_1194, w_1195, w_11, w_1196, ⟨by decide +kernel, by decide +kernel, by decide +kernel⟩, ⟨_, _, rfl⟩, by decide, by decide⟩
theorem cw_X11_270 : CV RX11 270 e_X0_startAt 4 0 := ⟨w_1201, w_1202, w_1203, w_11, w_1204, ⟨by decide +kernel, by decide +kernel, by decide +kernel⟩, ⟨_, _, rfl⟩, by decide, by decide⟩
theorem fo_X11_274 : FO RX11 274 0 0 (.array .int) true := ⟨RX0, TX0, 4, tyX0, rfl, by decide, iX0, tyX0_ok, nmX0, w_440, rfl, rfl⟩
theorem fo_X11_277 : FO RX11 277 0 3 (.int) false := ⟨RX0, TX0, 4, tyX0, rfl, by decide, iX0, tyX0_ok, nmX0, w_444, rfl, rfl⟩
theorem cw_X11_280 : CV RX11 280 e_X5_add 1 5 := ⟨w_1227, w_1228, w_1229, w_12, w_1230, ⟨by decide +kernel, by decide +kernel, by decide +kernel⟩, ⟨_, _, rfl⟩, by decide, by decide⟩
theorem cw_X11_283 : CS RX11 283 e_X11_arePosts 5 := ⟨w_1239, w_1240, w_1, w_1241, ⟨by decide +kernel, by decide +kernel, by decide +kernel⟩, by decide, by decide⟩
theorem cw_X11_287 : CV RX11 287 e_X5_prices 4 5 := ⟨w_1242, w_1243, w_1244, w_12, w_1245, ⟨by decide +kernel, by decide +kernel, by decide +kernel⟩, ⟨_, _, rfl⟩, by decide, by decide⟩
theorem cw_X11_291 : CV RX11 291 e_X5_fill 1 5 := ⟨w_1246, w_1247, w_1248, w_12, w_1249, ⟨by decide +kernel, by decide +kernel, by decide +kernel⟩, ⟨_, _, rfl⟩, by decide, by decide⟩
theorem cw_X11_294 : CV RX11 294 e_X5_heightIn 2 5 := ⟨w_1277, w_1278, w_1279, w_12, w_1280, ⟨by decide +kernel, by decide +kernel, by decide +kernel⟩, ⟨_, _, rfl⟩, by decide, by decide⟩
theorem fo_X11_297 : FO RX11 297 6 6 (.object "StiltTown$Logs") true := ⟨RX6, TX6, 9, tyX6, rfl, by decide, iX6, tyX6_ok, nmX6, w_274, rfl, rfl⟩
theorem cw_X11_303 : CV RX11 303 e_X2_add 4 2 := ⟨w_1293, w_1294, w_1295, w_7, w_1296, ⟨by decide +kernel, by decide +kernel, by decide +kernel⟩, ⟨_, _, rfl⟩, by decide, by decide⟩
theorem cw_X11_306 : CV RX11 306 e_X2_canBeVoid 1 2 := ⟨w_1305, w_1306, w_1307, w_7, w_1308, ⟨by decide +kernel, by decide +kernel, by decide +kernel⟩, ⟨_, _, rfl⟩, by decide, by decide⟩
theorem cw_X11_309 : CV RX11 309 e_X11_isKnown 1 11 := ⟨w_1313, w_1315, wp_69, w_1, w_1316, ⟨by decide +kernel, by decide +kernel, by decide +kernel⟩, ⟨_, _, rfl⟩, by decide, by decide⟩
theorem cw_X11_312 : CV RX11 312 e_X2_tally 2 2 := ⟨w_1317, w_1318, w_1319, w_7, w_1320, ⟨by decide +kernel, by decide +kernel, by decide +kernel⟩, ⟨_, _, rfl⟩, by decide, by decide⟩
theorem fo_X11_315 : FO RX11 315 2 5 (.array .int) true := ⟨RX2, TX2, 7, tyX2, rfl, by decide, iX2, tyX2_ok, nmX2, w_234, rfl, rfl⟩
theorem cw_X11_318 : CV RX11 318 e_X11_beats 3 11 := ⟨w_1333, w_1335, wp_72, w_1, w_1336, ⟨by decide +kernel, by decide +kernel, by decide +kernel⟩, ⟨_, _, rfl⟩, by decide, by decide⟩
theorem cw_X11_321 : CV RX11 321 e_X2_endsOf 4 2 := ⟨w_1341, w_1342, w_1343, w_7, w_1344, ⟨by decide +kernel, by decide +kernel, by decide +kernel⟩, ⟨_, _, rfl⟩, by decide, by decide⟩
theorem fo_X11_324 : FO RX11 324 8 9 (.int) false := ⟨RX8, TX8, 16, tyX8, rfl, by decide, iX8, tyX8_ok, nmX8, w_160, rfl, rfl⟩
theorem cw_X11_327 : CV RX11 327 e_X11_castLots 2 11 := ⟨w_1360, w_1362, wp_75, w_1, w_1363, ⟨by decide +kernel, by decide +kernel, by decide +kernel⟩, ⟨_, _, rfl⟩, by decide, by decide⟩
theorem cw_X11_330 : CV RX11 330 e_X11_straighten 0 11 := ⟨w_1371, w_1373, wp_76, w_1, w_1374, ⟨by decide +kernel, by decide +kernel, by decide +kernel⟩, ⟨_, _, rfl⟩, by decide, by decide⟩
theorem cw_X11_333 : CS RX11 333 e_X11_lot 3 := ⟨w_1364, w_1365, w_1, w_1366, ⟨by decide +kernel, by decide +kernel, by decide +kernel⟩, by decide, by decide⟩
theorem fo_X11_336 : FO RX11 336 8 15 (.int) false := ⟨RX8, TX8, 16, tyX8, rfl, by decide, iX8, tyX8_ok, nmX8, w_182, rfl, rfl⟩
theorem cw_X11_339 : MW RX11 339 Lib.Math.min.name Lib.Math.min.code 2 := ⟨w_903, w_904, w_18, w_905⟩
theorem cw_X11_342 : MW RX11 342 Lib.Math.abs.name Lib.Math.abs.code 1 := ⟨w_1375, w_972, w_18, w_973⟩
theorem cw_X11_345 : CS RX11 345 e_X11_stir 2 := ⟨w_1367, w_1368, w_1, w_1369, ⟨by decide +kernel, by decide +kernel, by decide +kernel⟩, by decide, by decide⟩
theorem ct_X11_348 : Cond.constant RX11 348 1103515245 ∈ bigW := w_1370
theorem cw_X11_349 : CV RX11 349 e_X6_copyFrom 1 6 := ⟨w_1380, w_1381, w_1382, w_6, w_1383, ⟨by decide +kernel, by decide +kernel, by decide +kernel⟩, ⟨_, _, rfl⟩, by decide, by decide⟩
theorem fo_X11_352 : FO RX11 352 8 11 (.int) false := ⟨RX8, TX8, 16, tyX8, rfl, by decide, iX8, tyX8_ok, nmX8, w_166, rfl, rfl⟩
theorem fo_X11_355 : FO RX11 355 8 13 (.int) false := ⟨RX8, TX8, 16, tyX8, rfl, by decide, iX8, tyX8_ok, nmX8, w_173, rfl, rfl⟩
theorem fo_X11_358 : FO RX11 358 2 6 (.int) false := ⟨RX2, TX2, 7, tyX2, rfl, by decide, iX2, tyX2_ok, nmX2, w_237, rfl, rfl⟩
theorem fo_X11_359 : FO RX11 359 9 4 (.int) false := ⟨RX9, TX9, 7, tyX9, rfl, by decide, iX9, tyX9_ok, nmX9, w_392, rfl, rfl⟩
theorem fo_X11_362 : FO RX11 362 8 7 (.object "StiltTown$Laws") true := ⟨RX8, TX8, 16, tyX8, rfl, by decide, iX8, tyX8_ok, nmX8, w_152, rfl, rfl⟩
theorem fo_X11_366 : FO RX11 366 1 11 (.int) false := ⟨RX1, TX1, 13, tyX1, rfl, by decide, iX1, tyX1_ok, nmX1, w_100, rfl, rfl⟩
theorem fo_X11_370 : FO RX11 370 1 12 (.int) false := ⟨RX1, TX1, 13, tyX1, rfl, by decide, iX1, tyX1_ok, nmX1, w_104, rfl, rfl⟩
theorem fo_X12_7 : FO RX12 7 12 1 (.array .int) true := ⟨RX12, TX12, 53, tyX12, rfl, by decide, iX12, tyX12_ok, nmX12, w_1421, rfl, rfl⟩
theorem fo_X12_13 : FO RX12 13 12 3 (.array .int) true := ⟨RX12, TX12, 53, tyX12, rfl, by decide, iX12, tyX12_ok, nmX12, w_1423, rfl, rfl⟩
theorem fo_X12_16 : FO RX12 16 12 4 (.array .int) true := ⟨RX12, TX12, 53, tyX12, rfl, by decide, iX12, tyX12_ok, nmX12, w_1424, rfl, rfl⟩
theorem fo_X12_19 : FO RX12 19 12 5 (.array .int) true := ⟨RX12, TX12, 53, tyX12, rfl, by decide, iX12, tyX12_ok, nmX12, w_1425, rfl, rfl⟩
theorem fo_X12_22 : FO RX12 22 12 6 (.array .long) true := ⟨RX12, TX12, 53, tyX12, rfl, by decide, iX12, tyX12_ok, nmX12, w_1426, rfl, rfl⟩
theorem fo_X12_26 : FO RX12 26 12 9 (.int) false := ⟨RX12, TX12, 53, tyX12, rfl, by decide, iX12, tyX12_ok, nmX12, w_1429, rfl, rfl⟩
theorem fo_X12_30 : FO RX12 30 12 12 (.array .int) true := ⟨RX12, TX12, 53, tyX12, rfl, by decide, iX12, tyX12_ok, nmX12, w_1432, rfl, rfl⟩
theorem fo_X12_33 : FO RX12 33 12 13 (.array .int) true := ⟨RX12, TX12, 53, tyX12, rfl, by decide, iX12, tyX12_ok, nmX12, w_1433, rfl, rfl⟩
theorem fo_X12_36 : FO RX12 36 12 14 (.array .int) true := ⟨RX12, TX12, 53, tyX12, rfl, by decide, iX12, tyX12_ok, nmX12, w_1434, rfl, rfl⟩
theorem fo_X12_39 : FO RX12 39 12 15 (.array .int) true := ⟨RX12, TX12, 53, tyX12, rfl, by decide, iX12, tyX12_ok, nmX12, w_1435, rfl, rfl⟩
theorem fo_X12_42 : FO RX12 42 12 16 (.array .int) true := ⟨RX12, TX12, 53, tyX12, rfl, by decide, iX12, tyX12_ok, nmX12, w_1436, rfl, rfl⟩
theorem fo_X12_45 : FO RX12 45 12 17 (.array .int) true := ⟨RX12, TX12, 53, tyX12, rfl, by decide, iX12, tyX12_ok, nmX12, w_1437, rfl, rfl⟩
theorem fo_X12_48 : FO RX12 48 12 18 (.array .boolean) true := ⟨RX12, TX12, 53, tyX12, rfl, by decide, iX12, tyX12_ok, nmX12, w_1438, rfl, rfl⟩
theorem fo_X12_52 : FO RX12 52 12 19 (.array .int) true := ⟨RX12, TX12, 53, tyX12, rfl, by decide, iX12, tyX12_ok, nmX12, w_1439, rfl, rfl⟩
theorem fo_X12_55 : FO RX12 55 12 20 (.array .int) true := ⟨RX12, TX12, 53, tyX12, rfl, by decide, iX12, tyX12_ok, nmX12, w_1440, rfl, rfl⟩
theorem fo_X12_58 : FO RX12 58 12 21 (.array .int) true := ⟨RX12, TX12, 53, tyX12, rfl, by decide, iX12, tyX12_ok, nmX12, w_1441, rfl, rfl⟩
theorem fo_X12_61 : FO RX12 61 12 22 (.array .int) true := ⟨RX12, TX12, 53, tyX12, rfl, by decide, iX12, tyX12_ok, nmX12, w_1442, rfl, rfl⟩
theorem fo_X12_64 : FO RX12 64 12 23 (.array .int) true := ⟨RX12, TX12, 53, tyX12, rfl, by decide, iX12, tyX12_ok, nmX12, w_1443, rfl, rfl⟩
theorem fo_X12_67 : FO RX12 67 12 24 (.array .boolean) true := ⟨RX12, TX12, 53, tyX12, rfl, by decide, iX12, tyX12_ok, nmX12, w_1444, rfl, rfl⟩
theorem fo_X12_70 : FO RX12 70 12 26 (.array .long) true := ⟨RX12, TX12, 53, tyX12, rfl, by decide, iX12, tyX12_ok, nmX12, w_1446, rfl, rfl⟩
theorem fo_X12_73 : FO RX12 73 12 27 (.array .int) true := ⟨RX12, TX12, 53, tyX12, rfl, by decide, iX12, tyX12_ok, nmX12, w_1447, rfl, rfl⟩
theorem fo_X12_76 : FO RX12 76 12 28 (.array .int) true := ⟨RX12, TX12, 53, tyX12, rfl, by decide, iX12, tyX12_ok, nmX12, w_1448, rfl, rfl⟩
theorem fo_X12_79 : FO RX12 79 12 31 (.array .int) true := ⟨RX12, TX12, 53, tyX12, rfl, by decide, iX12, tyX12_ok, nmX12, w_1451, rfl, rfl⟩
theorem fo_X12_82 : FO RX12 82 12 34 (.array .int) true := ⟨RX12, TX12, 53, tyX12, rfl, by decide, iX12, tyX12_ok, nmX12, w_1454, rfl, rfl⟩
theorem fo_X12_85 : FO RX12 85 12 36 (.array .int) true := ⟨RX12, TX12, 53, tyX12, rfl, by decide, iX12, tyX12_ok, nmX12, w_1456, rfl, rfl⟩
theorem fo_X12_88 : FO RX12 88 12 37 (.array .int) true := ⟨RX12, TX12, 53, tyX12, rfl, by decide, iX12, tyX12_ok, nmX12, w_1457, rfl, rfl⟩
theorem fo_X12_91 : FO RX12 91 12 38 (.array .int) true := ⟨RX12, TX12, 53, tyX12, rfl, by decide, iX12, tyX12_ok, nmX12, w_1458, rfl, rfl⟩
theorem fo_X12_94 : FO RX12 94 12 39 (.array .int) true := ⟨RX12, TX12, 53, tyX12, rfl, by decide, iX12, tyX12_ok, nmX12, w_1459, rfl, rfl⟩
theorem fo_X12_97 : FO RX12 97 12 43 (.array .int) true := ⟨RX12, TX12, 53, tyX12, rfl, by decide, iX12, tyX12_ok, nmX12, w_1463, rfl, rfl⟩
theorem fo_X12_100 : FO RX12 100 12 44 (.array .int) true := ⟨RX12, TX12, 53, tyX12, rfl, by decide, iX12, tyX12_ok, nmX12, w_1464, rfl, rfl⟩
theorem fo_X12_103 : FO RX12 103 12 45 (.array .boolean) true := ⟨RX12, TX12, 53, tyX12, rfl, by decide, iX12, tyX12_ok, nmX12, w_1465, rfl, rfl⟩
theorem fo_X12_106 : FO RX12 106 12 46 (.array .int) true := ⟨RX12, TX12, 53, tyX12, rfl, by decide, iX12, tyX12_ok, nmX12, w_1466, rfl, rfl⟩
theorem fo_X12_109 : FO RX12 109 12 47 (.array .int) true := ⟨RX12, TX12, 53, tyX12, rfl, by decide, iX12, tyX12_ok, nmX12, w_1467, rfl, rfl⟩
theorem fo_X12_112 : FO RX12 112 12 51 (.array .int) true := ⟨RX12, TX12, 53, tyX12, rfl, by decide, iX12, tyX12_ok, nmX12, w_1471, rfl, rfl⟩
theorem fo_X12_115 : FO RX12 115 12 52 (.array .int) true := ⟨RX12, TX12, 53, tyX12, rfl, by decide, iX12, tyX12_ok, nmX12, w_1472, rfl, rfl⟩
theorem cw_X12_118 : CV RX12 118 e_X12_begin 1 12 := ⟨w_1404, w_1406, wp_77, w_13, w_1407, ⟨by decide +kernel, by decide +kernel, by decide +kernel⟩, ⟨_, _, rfl⟩, by decide, by decide⟩
theorem cw_X12_122 : CV RX12 122 e_X12_settle 0 12 := ⟨w_1408, w_1410, wp_78, w_13, w_1411, ⟨by decide +kernel, by decide +kernel, by decide +kernel⟩, ⟨_, _, rfl⟩, by decide, by decide⟩
theorem fo_X12_125 : FO RX12 125 12 0 (.int) false := ⟨RX12, TX12, 53, tyX12, rfl, by decide, iX12, tyX12_ok, nmX12, w_1420, rfl, rfl⟩
theorem cw_X12_128 : CV RX12 128 e_X12_typed 1 12 := ⟨w_1584, w_1586, wp_81, w_13, w_1587, ⟨by decide +kernel, by decide +kernel, by decide +kernel⟩, ⟨_, _, rfl⟩, by decide, by decide⟩
theorem cw_X12_131 : CV RX12 131 e_X12_byteAt 1 12 := ⟨w_1600, w_1602, wp_83, w_13, w_1603, ⟨by decide +kernel, by decide +kernel, by decide +kernel⟩, ⟨_, _, rfl⟩, by decide, by decide⟩
theorem fo_X12_135 : FO RX12 135 12 2 (.int) false := ⟨RX12, TX12, 53, tyX12, rfl, by decide, iX12, tyX12_ok, nmX12, w_1422, rfl, rfl⟩
theorem ct_X12_138 : Cond.constantLong RX12 138 4562600 ∈ bigW := w_1617
theorem ct_X12_140 : Cond.constantLong RX12 140 218546996 ∈ bigW := w_1618
theorem ct_X12_142 : Cond.constantLong RX12 142 257 ∈ bigW := w_1619
theorem ct_X12_144 : Cond.constantLong RX12 144 10492029 ∈ bigW := w_1620
theorem ct_X12_146 : Cond.constantLong RX12 146 110319223 ∈ bigW := w_1621
theorem ct_X12_148 : Cond.constantLong RX12 148 349972 ∈ bigW := w_1622
theorem ct_X12_150 : Cond.constantLong RX12 150 464053 ∈ bigW := w_1623
theorem ct_X12_152 : Cond.constantLong RX12 152 1952902 ∈ bigW := w_1624
theorem ct_X12_154 : Cond.constantLong RX12 154 249 ∈ bigW := w_1625
theorem ct_X12_156 : Cond.constantLong RX12 156 197651 ∈ bigW := w_1626
theorem ct_X12_158 : Cond.constantLong RX12 158 10631 ∈ bigW := w_1627
theorem ct_X12_160 : Cond.constantLong RX12 160 1111 ∈ bigW := w_1628
theorem ct_X12_162 : Cond.constantLong RX12 162 423 ∈ bigW := w_1629
theorem ct_X12_164 : Cond.constantLong RX12 164 117630947 ∈ bigW := w_1630
theorem ct_X12_166 : Cond.constantLong RX12 166 355412 ∈ bigW := w_1631
theorem ct_X12_168 : Cond.constantLong RX12 168 247162 ∈ bigW := w_1632
theorem ct_X12_170 : Cond.constantLong RX12 170 24 ∈ bigW := w_1633
theorem ct_X12_172 : Cond.constantLong RX12 172 168984 ∈ bigW := w_1634
theorem ct_X12_174 : Cond.constantLong RX12 174 7214732 ∈ bigW := w_1635
theorem ct_X12_176 : Cond.constantLong RX12 176 459652 ∈ bigW := w_1636
theorem ct_X12_178 : Cond.constantLong RX12 178 149099 ∈ bigW := w_1637
theorem ct_X12_180 : Cond.constantLong RX12 180 390796 ∈ bigW := w_1638
theorem ct_X12_182 : Cond.constantLong RX12 182 400334 ∈ bigW := w_1639
theorem ct_X12_184 : Cond.constantLong RX12 184 3488 ∈ bigW := w_1640
theorem ct_X12_186 : Cond.constantLong RX12 186 3217420 ∈ bigW := w_1641
theorem ct_X12_188 : Cond.constantLong RX12 188 1489 ∈ bigW := w_1642
theorem cw_X12_190 : CV RX12 190 e_X12_isLetter 1 12 := ⟨w_1608, w_1610, wp_85, w_13, w_1611, ⟨by decide +kernel, by decide +kernel, by decide +kernel⟩, ⟨_, _, rfl⟩, by decide, by decide⟩
theorem ct_X12_194 : Cond.constantLong RX12 194 27 ∈ bigW := w_1612
theorem ct_X12_196 : Cond.constantLong RX12 196 96 ∈ bigW := w_1613
theorem cw_X12_198 : CS RX12 198 e_X12_wordOf 1 := ⟨w_1614, w_1615, w_13, w_1616, ⟨by decide +kernel, by decide +kernel, by decide +kernel⟩, by decide, by decide⟩
theorem cw_X12_202 : CV RX12 202 e_X12_token 3 12 := ⟨w_1643, w_1645, wp_86, w_13, w_1646, ⟨by decide +kernel, by decide +kernel, by decide +kernel⟩, ⟨_, _, rfl⟩, by decide, by decide⟩
theorem cw_X12_206 : CV RX12 206 e_X12_isDigit 1 12 := ⟨w_1647, w_1649, wp_87, w_13, w_1650, ⟨by decide +kernel, by decide +kernel, by decide +kernel⟩, ⟨_, _, rfl⟩, by decide, by decide⟩
theorem cw_X12_209 : CV RX12 209 e_X12_signAt 1 12 := ⟨w_1651, w_1653, wp_88, w_13, w_1654, ⟨by decide +kernel, by decide +kernel, by decide +kernel⟩, ⟨_, _, rfl⟩, by decide, by decide⟩
theorem cw_X12_212 : CV RX12 212 e_X12_scan 1 12 := ⟨w_1604, w_1606, wp_84, w_13, w_1607, ⟨by decide +kernel, by decide +kernel, by decide +kernel⟩, ⟨_, _, rfl⟩, by decide, by decide⟩
theorem fo_X12_215 : FO RX12 215 12 8 (.int) false := ⟨RX12, TX12, 53, tyX12, rfl, by decide, iX12, tyX12_ok, nmX12, w_1428, rfl, rfl⟩
theorem fo_X12_218 : FO RX12 218 12 7 (.int) false := ⟨RX12, TX12, 53, tyX12, rfl, by decide, iX12, tyX12_ok, nmX12, w_1427, rfl, rfl⟩
theorem fo_X12_221 : FO RX12 221 12 10 (.int) false := ⟨RX12, TX12, 53, tyX12, rfl, by decide, iX12, tyX12_ok, nmX12, w_1430, rfl, rfl⟩
theorem fo_X12_224 : FO RX12 224 12 11 (.int) false := ⟨RX12, TX12, 53, tyX12, rfl, by decide, iX12, tyX12_ok, nmX12, w_1431, rfl, rfl⟩
theorem cw_X12_227 : CV RX12 227 e_X12_wrong 1 12 := ⟨w_1679, w_1681, wp_95, w_13, w_1682, ⟨by decide +kernel, by decide +kernel, by decide +kernel⟩, ⟨_, _, rfl⟩, by decide, by decide⟩
theorem cw_X12_230 : CV RX12 230 e_X12_pass 0 12 := ⟨w_1683, w_1685, wp_96, w_13, w_1686, ⟨by decide +kernel, by decide +kernel, by decide +kernel⟩, ⟨_, _, rfl⟩, by decide, by decide⟩
theorem cw_X12_234 : CV RX12 234 e_X12_takes 1 12 := ⟨w_1691, w_1693, wp_98, w_13, w_1694, ⟨by decide +kernel, by decide +kernel, by decide +kernel⟩, ⟨_, _, rfl⟩, by decide, by decide⟩
theorem fo_X12_237 : FO RX12 237 12 29 (.int) false := ⟨RX12, TX12, 53, tyX12, rfl, by decide, iX12, tyX12_ok, nmX12, w_1449, rfl, rfl⟩
theorem cw_X12_240 : CV RX12 240 e_X12_tells 2 12 := ⟨w_1695, w_1697, wp_99, w_13, w_1698, ⟨by decide +kernel, by decide +kernel, by decide +kernel⟩, ⟨_, _, rfl⟩, by decide, by decide⟩
theorem fo_X12_244 : FO RX12 244 12 30 (.int) false := ⟨RX12, TX12, 53, tyX12, rfl, by decide, iX12, tyX12_ok, nmX12, w_1450, rfl, rfl⟩
theorem cw_X12_247 : CS RX12 247 e_X12_rank 1 := ⟨w_1762, w_1763, w_13, w_1764, ⟨by decide +kernel, by decide +kernel, by decide +kernel⟩, by decide, by decide⟩
theorem cw_X12_250 : CV RX12 250 e_X12_emit 2 12 := ⟨w_1754, w_1756, wp_113, w_13, w_1757, ⟨by decide +kernel, by decide +kernel, by decide +kernel⟩, ⟨_, _, rfl⟩, by decide, by decide⟩
theorem fo_X12_253 : FO RX12 253 12 32 (.int) false := ⟨RX12, TX12, 53, tyX12, rfl, by decide, iX12, tyX12_ok, nmX12, w_1452, rfl, rfl⟩
theorem cw_X12_256 : CV RX12 256 e_X12_isSign 1 12 := ⟨w_1739, w_1741, wp_110, w_13, w_1742, ⟨by decide +kernel, by decide +kernel, by decide +kernel⟩, ⟨_, _, rfl⟩, by decide, by decide⟩
theorem cw_X12_259 : CV RX12 259 e_X12_await 1 12 := ⟨w_1747, w_1749, wp_112, w_13, w_1750, ⟨by decide +kernel, by decide +kernel, by decide +kernel⟩, ⟨_, _, rfl⟩, by decide, by decide⟩
theorem cw_X12_262 : CS RX12 262 e_X12_variableOf 1 := ⟨w_1751, w_1752, w_13, w_1753, ⟨by decide +kernel, by decide +kernel, by decide +kernel⟩, by decide, by decide⟩
theorem cw_X12_265 : CV RX12 265 e_X12_reduce 2 12 := ⟨w_1758, w_1760, wp_114, w_13, w_1761, ⟨by decide +kernel, by decide +kernel, by decide +kernel⟩, ⟨_, _, rfl⟩, by decide, by decide⟩
theorem fo_X12_268 : FO RX12 268 12 33 (.int) false := ⟨RX12, TX12, 53, tyX12, rfl, by decide, iX12, tyX12_ok, nmX12, w_1453, rfl, rfl⟩
theorem cw_X12_271 : CV RX12 271 e_X12_isWord 1 12 := ⟨w_1719, w_1721, wp_105, w_13, w_1722, ⟨by decide +kernel, by decide +kernel, by decide +kernel⟩, ⟨_, _, rfl⟩, by decide, by decide⟩
theorem cw_X12_274 : CV RX12 274 e_X12_expr 0 12 := ⟨w_1743, w_1745, wp_111, w_13, w_1746, ⟨by decide +kernel, by decide +kernel, by decide +kernel⟩, ⟨_, _, rfl⟩, by decide, by decide⟩
theorem cw_X12_277 : CV RX12 277 e_X12_gives 2 12 := ⟨w_1412, w_1414, wp_79, w_13, w_1415, ⟨by decide +kernel, by decide +kernel, by decide +kernel⟩, ⟨_, _, rfl⟩, by decide, by decide⟩
theorem fo_X12_280 : FO RX12 280 12 50 (.int) false := ⟨RX12, TX12, 53, tyX12, rfl, by decide, iX12, tyX12_ok, nmX12, w_1470, rfl, rfl⟩
theorem fo_X12_283 : FO RX12 283 12 40 (.int) false := ⟨RX12, TX12, 53, tyX12, rfl, by decide, iX12, tyX12_ok, nmX12, w_1460, rfl, rfl⟩
theorem fo_X12_286 : FO RX12 286 12 25 (.int) false := ⟨RX12, TX12, 53, tyX12, rfl, by decide, iX12, tyX12_ok, nmX12, w_1445, rfl, rfl⟩
theorem cw_X12_289 : CV RX12 289 e_X12_told 1 12 := ⟨w_1667, w_1669, wp_92, w_13, w_1670, ⟨by decide +kernel, by decide +kernel, by decide +kernel⟩, ⟨_, _, rfl⟩, by decide, by decide⟩
theorem cw_X12_292 : CV RX12 292 e_X12_tell 2 12 := ⟨w_1675, w_1677, wp_94, w_13, w_1678, ⟨by decide +kernel, by decide +kernel, by decide +kernel⟩, ⟨_, _, rfl⟩, by decide, by decide⟩
theorem cw_X12_295 : CV RX12 295 e_X12_next 4 12 := ⟨w_1671, w_1673, wp_93, w_13, w_1674, ⟨by decide +kernel, by decide +kernel, by decide +kernel⟩, ⟨_, _, rfl⟩, by decide, by decide⟩
theorem cw_X12_299 : CV RX12 299 e_X12_names 2 12 := ⟨w_1687, w_1689, wp_97, w_13, w_1690, ⟨by decide +kernel, by decide +kernel, by decide +kernel⟩, ⟨_, _, rfl⟩, by decide, by decide⟩
theorem cw_X12_302 : CV RX12 302 e_X12_takesInt 2 12 := ⟨w_1699, w_1701, wp_100, w_13, w_1702, ⟨by decide +kernel, by decide +kernel, by decide +kernel⟩, ⟨_, _, rfl⟩, by decide, by decide⟩
theorem cw_X12_305 : CV RX12 305 e_X12_takesName 1 12 := ⟨w_1711, w_1713, wp_103, w_13, w_1714, ⟨by decide +kernel, by decide +kernel, by decide +kernel⟩, ⟨_, _, rfl⟩, by decide, by decide⟩
theorem cw_X12_308 : CV RX12 308 e_X12_cond 0 12 := ⟨w_1769, w_1771, wp_116, w_13, w_1772, ⟨by decide +kernel, by decide +kernel, by decide +kernel⟩, ⟨_, _, rfl⟩, by decide, by decide⟩
theorem cw_X12_311 : CV RX12 311 e_X12_tellHouse 0 12 := ⟨w_1663, w_1665, wp_91, w_13, w_1666, ⟨by decide +kernel, by decide +kernel, by decide +kernel⟩, ⟨_, _, rfl⟩, by decide, by decide⟩
theorem cw_X12_314 : CV RX12 314 e_X12_tellOffice 0 12 := ⟨w_1703, w_1705, wp_101, w_13, w_1706, ⟨by decide +kernel, by decide +kernel, by decide +kernel⟩, ⟨_, _, rfl⟩, by decide, by decide⟩
theorem cw_X12_317 : CV RX12 317 e_X12_tellIn 0 12 := ⟨w_1707, w_1709, wp_102, w_13, w_1710, ⟨by decide +kernel, by decide +kernel, by decide +kernel⟩, ⟨_, _, rfl⟩, by decide, by decide⟩
theorem cw_X12_320 : CV RX12 320 e_X12_tellStair 0 12 := ⟨w_1715, w_1717, wp_104, w_13, w_1718, ⟨by decide +kernel, by decide +kernel, by decide +kernel⟩, ⟨_, _, rfl⟩, by decide, by decide⟩
theorem cw_X12_323 : CV RX12 323 e_X12_tellQuay 0 12 := ⟨w_1723, w_1725, wp_106, w_13, w_1726, ⟨by decide +kernel, by decide +kernel, by decide +kernel⟩, ⟨_, _, rfl⟩, by decide, by decide⟩
theorem cw_X12_326 : CV RX12 326 e_X12_tellWood 0 12 := ⟨w_1727, w_1729, wp_107, w_13, w_1730, ⟨by decide +kernel, by decide +kernel, by decide +kernel⟩, ⟨_, _, rfl⟩, by decide, by decide⟩
theorem cw_X12_329 : CV RX12 329 e_X12_tellNumber 2 12 := ⟨w_1731, w_1733, wp_108, w_13, w_1734, ⟨by decide +kernel, by decide +kernel, by decide +kernel⟩, ⟨_, _, rfl⟩, by decide, by decide⟩
theorem cw_X12_332 : CV RX12 332 e_X12_tellLaw 1 12 := ⟨w_1735, w_1737, wp_109, w_13, w_1738, ⟨by decide +kernel, by decide +kernel, by decide +kernel⟩, ⟨_, _, rfl⟩, by decide, by decide⟩
theorem cw_X12_335 : CV RX12 335 e_X12_tellRule 2 12 := ⟨w_1765, w_1767, wp_115, w_13, w_1768, ⟨by decide +kernel, by decide +kernel, by decide +kernel⟩, ⟨_, _, rfl⟩, by decide, by decide⟩
theorem cw_X12_338 : CV RX12 338 e_X12_tellOne 0 12 := ⟨w_1659, w_1661, wp_90, w_13, w_1662, ⟨by decide +kernel, by decide +kernel, by decide +kernel⟩, ⟨_, _, rfl⟩, by decide, by decide⟩
theorem cw_X12_341 : CV RX12 341 e_X12_scanAll 0 12 := ⟨w_1596, w_1598, wp_82, w_13, w_1599, ⟨by decide +kernel, by decide +kernel, by decide +kernel⟩, ⟨_, _, rfl⟩, by decide, by decide⟩
theorem cw_X12_344 : CV RX12 344 e_X12_parses 0 12 := ⟨w_1655, w_1657, wp_89, w_13, w_1658, ⟨by decide +kernel, by decide +kernel, by decide +kernel⟩, ⟨_, _, rfl⟩, by decide, by decide⟩
theorem cw_X12_347 : CV RX12 347 e_X12_takesHold 0 12 := ⟨w_1773, w_1775, wp_117, w_13, w_1776, ⟨by decide +kernel, by decide +kernel, by decide +kernel⟩, ⟨_, _, rfl⟩, by decide, by decide⟩
theorem fo_X12_350 : FO RX12 350 12 35 (.boolean) false := ⟨RX12, TX12, 53, tyX12, rfl, by decide, iX12, tyX12_ok, nmX12, w_1455, rfl, rfl⟩
theorem cw_X12_354 : CV RX12 354 e_X12_sum 2 12 := ⟨w_1813, w_1815, wp_125, w_13, w_1816, ⟨by decide +kernel, by decide +kernel, by decide +kernel⟩, ⟨_, _, rfl⟩, by decide, by decide⟩
theorem cw_X12_358 : CV RX12 358 e_X12_isLit 1 12 := ⟨w_1925, w_1927, wp_139, w_13, w_1928, ⟨by decide +kernel, by decide +kernel, by decide +kernel⟩, ⟨_, _, rfl⟩, by decide, by decide⟩
theorem cw_X12_361 : CS RX12 361 e_X12_within 3 := ⟨w_1817, w_1818, w_13, w_1819, ⟨by decide +kernel, by decide +kernel, by decide +kernel⟩, by decide, by decide⟩
theorem cw_X12_365 : CV RX12 365 e_X12_askNone 0 12 := ⟨w_1805, w_1807, wp_123, w_13, w_1808, ⟨by decide +kernel, by decide +kernel, by decide +kernel⟩, ⟨_, _, rfl⟩, by decide, by decide⟩
theorem cw_X12_368 : CV RX12 368 e_X12_rankOf 1 12 := ⟨w_1797, w_1799, wp_121, w_13, w_1800, ⟨by decide +kernel, by decide +kernel, by decide +kernel⟩, ⟨_, _, rfl⟩, by decide, by decide⟩
theorem cw_X12_371 : CV RX12 371 e_X12_xOf 1 12 := ⟨w_1789, w_1791, wp_119, w_13, w_1792, ⟨by decide +kernel, by decide +kernel, by decide +kernel⟩, ⟨_, _, rfl⟩, by decide, by decide⟩
theorem cw_X12_374 : CV RX12 374 e_X12_says 2 12 := ⟨w_1809, w_1811, wp_124, w_13, w_1812, ⟨by decide +kernel, by decide +kernel, by decide +kernel⟩, ⟨_, _, rfl⟩, by decide, by decide⟩
theorem cw_X12_377 : CV RX12 377 e_X12_isHouse 1 12 := ⟨w_1785, w_1787, wp_118, w_13, w_1788, ⟨by decide +kernel, by decide +kernel, by decide +kernel⟩, ⟨_, _, rfl⟩, by decide, by decide⟩
theorem cw_X12_380 : CV RX12 380 e_X12_heightOf 1 12 := ⟨w_1793, w_1795, wp_120, w_13, w_1796, ⟨by decide +kernel, by decide +kernel, by decide +kernel⟩, ⟨_, _, rfl⟩, by decide, by decide⟩
theorem cw_X12_383 : CV RX12 383 e_X12_dueOf 1 12 := ⟨w_1801, w_1803, wp_122, w_13, w_1804, ⟨by decide +kernel, by decide +kernel, by decide +kernel⟩, ⟨_, _, rfl⟩, by decide, by decide⟩
theorem cw_X12_386 : CV RX12 386 e_X12_holderOf 1 12 := ⟨w_1416, w_1418, wp_80, w_13, w_1419, ⟨by decide +kernel, by decide +kernel, by decide +kernel⟩, ⟨_, _, rfl⟩, by decide, by decide⟩
theorem cw_X12_389 : CV RX12 389 e_X12_isOffice 1 12 := ⟨w_1824, w_1826, wp_126, w_13, w_1827, ⟨by decide +kernel, by decide +kernel, by decide +kernel⟩, ⟨_, _, rfl⟩, by decide, by decide⟩
theorem cw_X12_392 : CS RX12 392 e_X12_isIn 3 := ⟨w_1836, w_1837, w_13, w_1838, ⟨by decide +kernel, by decide +kernel, by decide +kernel⟩, by decide, by decide⟩
theorem cw_X12_396 : CS RX12 396 e_X12_isHour 1 := ⟨w_1843, w_1844, w_13, w_1845, ⟨by decide +kernel, by decide +kernel, by decide +kernel⟩, by decide, by decide⟩
theorem cw_X12_399 : CV RX12 399 e_X12_tideOf 1 12 := ⟨w_1846, w_1848, wp_127, w_13, w_1849, ⟨by decide +kernel, by decide +kernel, by decide +kernel⟩, ⟨_, _, rfl⟩, by decide, by decide⟩
theorem cw_X12_402 : CV RX12 402 e_X12_isMeeting 1 12 := ⟨w_1862, w_1864, wp_129, w_13, w_1865, ⟨by decide +kernel, by decide +kernel, by decide +kernel⟩, ⟨_, _, rfl⟩, by decide, by decide⟩
theorem cw_X12_405 : CV RX12 405 e_X12_reachedAt 3 12 := ⟨w_1858, w_1860, wp_128, w_13, w_1861, ⟨by decide +kernel, by decide +kernel, by decide +kernel⟩, ⟨_, _, rfl⟩, by decide, by decide⟩
theorem cw_X12_408 : CS RX12 408 e_X12_bitsOf 1 := ⟨w_1886, w_1887, w_13, w_1888, ⟨by decide +kernel, by decide +kernel, by decide +kernel⟩, by decide, by decide⟩
theorem cw_X12_411 : CV RX12 411 e_X12_manyOf 1 12 := ⟨w_1878, w_1880, wp_130, w_13, w_1881, ⟨by decide +kernel, by decide +kernel, by decide +kernel⟩, ⟨_, _, rfl⟩, by decide, by decide⟩
theorem cw_X12_415 : CV RX12 415 e_X12_cutOf 3 12 := ⟨w_1882, w_1884, wp_131, w_13, w_1885, ⟨by decide +kernel, by decide +kernel, by decide +kernel⟩, ⟨_, _, rfl⟩, by decide, by decide⟩
theorem cw_X12_419 : CV RX12 419 e_X12_look 2 12 := ⟨w_1913, w_1915, wp_136, w_13, w_1916, ⟨by decide +kernel, by decide +kernel, by decide +kernel⟩, ⟨_, _, rfl⟩, by decide, by decide⟩
theorem cw_X12_422 : CV RX12 422 e_X12_isHeld 2 12 := ⟨w_1921, w_1923, wp_138, w_13, w_1924, ⟨by decide +kernel, by decide +kernel, by decide +kernel⟩, ⟨_, _, rfl⟩, by decide, by decide⟩
theorem cw_X12_425 : CV RX12 425 e_X12_swayOf 2 12 := ⟨w_1909, w_1911, wp_135, w_13, w_1912, ⟨by decide +kernel, by decide +kernel, by decide +kernel⟩, ⟨_, _, rfl⟩, by decide, by decide⟩
theorem cw_X12_428 : CV RX12 428 e_X12_isRule 2 12 := ⟨w_1917, w_1919, wp_137, w_13, w_1920, ⟨by decide +kernel, by decide +kernel, by decide +kernel⟩, ⟨_, _, rfl⟩, by decide, by decide⟩
theorem cw_X12_431 : CV RX12 431 e_X12_turned 0 12 := ⟨w_1897, w_1899, wp_132, w_13, w_1900, ⟨by decide +kernel, by decide +kernel, by decide +kernel⟩, ⟨_, _, rfl⟩, by decide, by decide⟩
theorem cw_X12_435 : CV RX12 435 e_X12_untrue 0 12 := ⟨w_1901, w_1903, wp_133, w_13, w_1904, ⟨by decide +kernel, by decide +kernel, by decide +kernel⟩, ⟨_, _, rfl⟩, by decide, by decide⟩
theorem cw_X12_438 : CV RX12 438 e_X12_isBad 1 12 := ⟨w_1905, w_1907, wp_134, w_13, w_1908, ⟨by decide +kernel, by decide +kernel, by decide +kernel⟩, ⟨_, _, rfl⟩, by decide, by decide⟩
theorem ct_X12_441 : Cond.constant RX12 441 1000000 ∈ bigW := w_1941
theorem cw_X12_442 : CS RX12 442 e_X12_least 2 := ⟨w_1942, w_1943, w_13, w_1944, ⟨by decide +kernel, by decide +kernel, by decide +kernel⟩, by decide, by decide⟩
theorem cw_X12_445 : CV RX12 445 e_X12_jacks 1 12 := ⟨w_1937, w_1939, wp_140, w_13, w_1940, ⟨by decide +kernel, by decide +kernel, by decide +kernel⟩, ⟨_, _, rfl⟩, by decide, by decide⟩
theorem fo_X12_448 : FO RX12 448 12 41 (.int) false := ⟨RX12, TX12, 53, tyX12, rfl, by decide, iX12, tyX12_ok, nmX12, w_1461, rfl, rfl⟩
theorem cw_X12_451 : CV RX12 451 e_X12_makes 2 12 := ⟨w_1965, w_1967, wp_143, w_13, w_1968, ⟨by decide +kernel, by decide +kernel, by decide +kernel⟩, ⟨_, _, rfl⟩, by decide, by decide⟩
theorem cw_X12_454 : CV RX12 454 e_X12_keep 1 12 := ⟨w_1957, w_1959, wp_141, w_13, w_1960, ⟨by decide +kernel, by decide +kernel, by decide +kernel⟩, ⟨_, _, rfl⟩, by decide, by decide⟩
theorem cw_X12_457 : CV RX12 457 e_X12_makesAll 0 12 := ⟨w_1961, w_1963, wp_142, w_13, w_1964, ⟨by decide +kernel, by decide +kernel, by decide +kernel⟩, ⟨_, _, rfl⟩, by decide, by decide⟩
theorem cw_X12_460 : CV RX12 460 e_X12_putBack 1 12 := ⟨w_1969, w_1971, wp_144, w_13, w_1972, ⟨by decide +kernel, by decide +kernel, by decide +kernel⟩, ⟨_, _, rfl⟩, by decide, by decide⟩
theorem fo_X12_463 : FO RX12 463 12 42 (.int) false := ⟨RX12, TX12, 53, tyX12, rfl, by decide, iX12, tyX12_ok, nmX12, w_1462, rfl, rfl⟩
theorem cw_X12_466 : CV RX12 466 e_X12_brings 1 12 := ⟨w_1989, w_1991, wp_146, w_13, w_1992, ⟨by decide +kernel, by decide +kernel, by decide +kernel⟩, ⟨_, _, rfl⟩, by decide, by decide⟩
theorem cw_X12_469 : CV RX12 469 e_X12_layNights 0 12 := ⟨w_1985, w_1987, wp_145, w_13, w_1988, ⟨by decide +kernel, by decide +kernel, by decide +kernel⟩, ⟨_, _, rfl⟩, by decide, by decide⟩
theorem cw_X12_472 : CV RX12 472 e_X12_firstNight 0 12 := ⟨w_1993, w_1995, wp_147, w_13, w_1996, ⟨by decide +kernel, by decide +kernel, by decide +kernel⟩, ⟨_, _, rfl⟩, by decide, by decide⟩
theorem cw_X12_475 : CV RX12 475 e_X12_isBetween 3 12 := ⟨w_2001, w_2003, wp_148, w_13, w_2004, ⟨by decide +kernel, by decide +kernel, by decide +kernel⟩, ⟨_, _, rfl⟩, by decide, by decide⟩
theorem cw_X12_478 : CV RX12 478 e_X12_isBelow 3 12 := ⟨w_2005, w_2007, wp_149, w_13, w_2008, ⟨by decide +kernel, by decide +kernel, by decide +kernel⟩, ⟨_, _, rfl⟩, by decide, by decide⟩
theorem cw_X12_481 : CS RX12 481 e_X12_isWind 1 := ⟨w_2017, w_2018, w_13, w_2019, ⟨by decide +kernel, by decide +kernel, by decide +kernel⟩, by decide, by decide⟩
theorem cw_X12_484 : CV RX12 484 e_X12_goneBeside 2 12 := ⟨w_2032, w_2034, wp_152, w_13, w_2035, ⟨by decide +kernel, by decide +kernel, by decide +kernel⟩, ⟨_, _, rfl⟩, by decide, by decide⟩
theorem fo_X12_487 : FO RX12 487 12 48 (.int) false := ⟨RX12, TX12, 53, tyX12, rfl, by decide, iX12, tyX12_ok, nmX12, w_1468, rfl, rfl⟩
theorem fo_X12_490 : FO RX12 490 12 49 (.int) false := ⟨RX12, TX12, 53, tyX12, rfl, by decide, iX12, tyX12_ok, nmX12, w_1469, rfl, rfl⟩
theorem cw_X12_493 : CV RX12 493 e_X12_isFalling 3 12 := ⟨w_2028, w_2030, wp_151, w_13, w_2031, ⟨by decide +kernel, by decide +kernel, by decide +kernel⟩, ⟨_, _, rfl⟩, by decide, by decide⟩
theorem cw_X12_496 : CV RX12 496 e_X12_chains 2 12 := ⟨w_2024, w_2026, wp_150, w_13, w_2027, ⟨by decide +kernel, by decide +kernel, by decide +kernel⟩, ⟨_, _, rfl⟩, by decide, by decide⟩
theorem cw_X12_499 : CV RX12 499 e_X12_mostOf 2 12 := ⟨w_2059, w_2061, wp_154, w_13, w_2062, ⟨by decide +kernel, by decide +kernel, by decide +kernel⟩, ⟨_, _, rfl⟩, by decide, by decide⟩
theorem cw_X12_502 : CS RX12 502 e_X12_stepCost 5 := ⟨w_2063, w_2064, w_13, w_2065, ⟨by decide +kernel, by decide +kernel, by decide +kernel⟩, by decide, by decide⟩
theorem cw_X12_506 : CS RX12 506 e_X12_isPosts 5 := ⟨w_2052, w_2053, w_13, w_2054, ⟨by decide +kernel, by decide +kernel, by decide +kernel⟩, by decide, by decide⟩
theorem cw_X12_510 : CV RX12 510 e_X12_layPosts 4 12 := ⟨w_2055, w_2057, wp_153, w_13, w_2058, ⟨by decide +kernel, by decide +kernel, by decide +kernel⟩, ⟨_, _, rfl⟩, by decide, by decide⟩
theorem cw_X12_514 : CV RX12 514 e_X12_log 4 12 := ⟨w_2074, w_2076, wp_155, w_13, w_2077, ⟨by decide +kernel, by decide +kernel, by decide +kernel⟩, ⟨_, _, rfl⟩, by decide, by decide⟩
theorem cw_X12_517 : CV RX12 517 e_X12_isLive 2 12 := ⟨w_2102, w_2104, wp_159, w_13, w_2105, ⟨by decide +kernel, by decide +kernel, by decide +kernel⟩, ⟨_, _, rfl⟩, by decide, by decide⟩
theorem cw_X12_520 : CV RX12 520 e_X12_voteOf 3 12 := ⟨w_2098, w_2100, wp_158, w_13, w_2101, ⟨by decide +kernel, by decide +kernel, by decide +kernel⟩, ⟨_, _, rfl⟩, by decide, by decide⟩
theorem cw_X12_523 : CV RX12 523 e_X12_isKnown 1 12 := ⟨w_2090, w_2092, wp_156, w_13, w_2093, ⟨by decide +kernel, by decide +kernel, by decide +kernel⟩, ⟨_, _, rfl⟩, by decide, by decide⟩
theorem cw_X12_526 : CV RX12 526 e_X12_votesOf 3 12 := ⟨w_2094, w_2096, wp_157, w_13, w_2097, ⟨by decide +kernel, by decide +kernel, by decide +kernel⟩, ⟨_, _, rfl⟩, by decide, by decide⟩
theorem cw_X12_529 : CS RX12 529 e_X12_apart 2 := ⟨w_2114, w_2115, w_13, w_2116, ⟨by decide +kernel, by decide +kernel, by decide +kernel⟩, by decide, by decide⟩
theorem ct_X12_532 : Cond.constant RX12 532 1103515245 ∈ bigW := w_2131
theorem cw_X12_533 : CS RX12 533 e_X12_mixed 2 := ⟨w_2128, w_2129, w_13, w_2130, ⟨by decide +kernel, by decide +kernel, by decide +kernel⟩, by decide, by decide⟩
theorem cw_X12_536 : CS RX12 536 e_X12_lot 3 := ⟨w_2125, w_2126, w_13, w_2127, ⟨by decide +kernel, by decide +kernel, by decide +kernel⟩, by decide, by decide⟩
theorem cw_X12_539 : CV RX12 539 e_X12_lives 2 12 := ⟨w_2121, w_2123, wp_160, w_13, w_2124, ⟨by decide +kernel, by decide +kernel, by decide +kernel⟩, ⟨_, _, rfl⟩, by decide, by decide⟩
theorem cw_X12_542 : CV RX12 542 e_X12_copy 2 12 := ⟨w_2136, w_2138, wp_161, w_13, w_2139, ⟨by decide +kernel, by decide +kernel, by decide +kernel⟩, ⟨_, _, rfl⟩, by decide, by decide⟩
theorem cw_L_13 : CV RL 13 e_X11_feed 5 11 := ⟨w_522, w_523, w_524, w_1, w_525, ⟨by decide +kernel, by decide +kernel, by decide +kernel⟩, ⟨_, _, rfl⟩, by decide, by decide⟩
theorem cw_L_17 : CV RL 17 e_X12_feed 5 12 := ⟨w_1580, w_1581, w_1582, w_13, w_1583, ⟨by decide +kernel, by decide +kernel, by decide +kernel⟩, ⟨_, _, rfl⟩, by decide, by decide⟩
theorem cw_L_18 : CV RL 18 e_X11_back 1 11 := ⟨w_530, w_531, w_532, w_1, w_533, ⟨by decide +kernel, by decide +kernel, by decide +kernel⟩, ⟨_, _, rfl⟩, by decide, by decide⟩
theorem cw_L_22 : CV RL 22 e_X12_back 1 12 := ⟨w_1588, w_1589, w_1590, w_13, w_1591, ⟨by decide +kernel, by decide +kernel, by decide +kernel⟩, ⟨_, _, rfl⟩, by decide, by decide⟩
theorem cw_L_23 : CV RL 23 e_X11_read 0 11 := ⟨w_534, w_535, w_536, w_1, w_537, ⟨by decide +kernel, by decide +kernel, by decide +kernel⟩, ⟨_, _, rfl⟩, by decide, by decide⟩
theorem cw_L_27 : CV RL 27 e_X12_read 0 12 := ⟨w_1592, w_1593, w_1594, w_13, w_1595, ⟨by decide +kernel, by decide +kernel, by decide +kernel⟩, ⟨_, _, rfl⟩, by decide, by decide⟩
theorem cw_L_28 : CV RL 28 e_X11_place 0 11 := ⟨w_841, w_842, w_843, w_1, w_844, ⟨by decide +kernel, by decide +kernel, by decide +kernel⟩, ⟨_, _, rfl⟩, by decide, by decide⟩
theorem cw_L_31 : CV RL 31 e_X12_place 0 12 := ⟨w_1777, w_1778, w_1779, w_13, w_1780, ⟨by decide +kernel, by decide +kernel, by decide +kernel⟩, ⟨_, _, rfl⟩, by decide, by decide⟩
theorem cw_L_32 : CV RL 32 e_X11_house 2 11 := ⟨w_845, w_846, w_847, w_1, w_848, ⟨by decide +kernel, by decide +kernel, by decide +kernel⟩, ⟨_, _, rfl⟩, by decide, by decide⟩
theorem cw_L_36 : CV RL 36 e_X12_house 2 12 := ⟨w_1781, w_1782, w_1783, w_13, w_1784, ⟨by decide +kernel, by decide +kernel, by decide +kernel⟩, ⟨_, _, rfl⟩, by decide, by decide⟩
theorem cw_L_37 : CV RL 37 e_X11_give 2 11 := ⟨w_909, w_910, w_911, w_1, w_912, ⟨by decide +kernel, by decide +kernel, by decide +kernel⟩, ⟨_, _, rfl⟩, by decide, by decide⟩
theorem cw_L_41 : CV RL 41 e_X12_give 2 12 := ⟨w_1820, w_1821, w_1822, w_13, w_1823, ⟨by decide +kernel, by decide +kernel, by decide +kernel⟩, ⟨_, _, rfl⟩, by decide, by decide⟩
theorem cw_L_42 : CV RL 42 e_X11_holder 1 11 := ⟨w_918, w_919, w_920, w_1, w_921, ⟨by decide +kernel, by decide +kernel, by decide +kernel⟩, ⟨_, _, rfl⟩, by decide, by decide⟩
theorem cw_L_45 : CV RL 45 e_X12_holder 1 12 := ⟨w_1828, w_1829, w_1830, w_13, w_1831, ⟨by decide +kernel, by decide +kernel, by decide +kernel⟩, ⟨_, _, rfl⟩, by decide, by decide⟩
theorem cw_L_46 : CV RL 46 e_X11_months 1 11 := ⟨w_926, w_927, w_928, w_1, w_929, ⟨by decide +kernel, by decide +kernel, by decide +kernel⟩, ⟨_, _, rfl⟩, by decide, by decide⟩
theorem cw_L_49 : CV RL 49 e_X12_months 1 12 := ⟨w_1832, w_1833, w_1834, w_13, w_1835, ⟨by decide +kernel, by decide +kernel, by decide +kernel⟩, ⟨_, _, rfl⟩, by decide, by decide⟩
theorem cw_L_50 : CV RL 50 e_X11_tide 1 11 := ⟨w_931, w_932, w_933, w_1, w_934, ⟨by decide +kernel, by decide +kernel, by decide +kernel⟩, ⟨_, _, rfl⟩, by decide, by decide⟩
theorem cw_L_53 : CV RL 53 e_X12_tide 1 12 := ⟨w_1839, w_1840, w_1841, w_13, w_1842, ⟨by decide +kernel, by decide +kernel, by decide +kernel⟩, ⟨_, _, rfl⟩, by decide, by decide⟩
theorem cw_L_54 : CV RL 54 e_X11_wet 1 11 := ⟨w_942, w_943, w_944, w_1, w_945, ⟨by decide +kernel, by decide +kernel, by decide +kernel⟩, ⟨_, _, rfl⟩, by decide, by decide⟩
theorem cw_L_57 : CV RL 57 e_X12_wet 1 12 := ⟨w_1850, w_1851, w_1852, w_13, w_1853, ⟨by decide +kernel, by decide +kernel, by decide +kernel⟩, ⟨_, _, rfl⟩, by decide, by decide⟩
theorem cw_L_58 : CV RL 58 e_X11_reached 1 11 := ⟨w_950, w_951, w_952, w_1, w_953, ⟨by decide +kernel, by decide +kernel, by decide +kernel⟩, ⟨_, _, rfl⟩, by decide, by decide⟩
theorem cw_L_61 : CV RL 61 e_X12_reached 1 12 := ⟨w_1854, w_1855, w_1856, w_13, w_1857, ⟨by decide +kernel, by decide +kernel, by decide +kernel⟩, ⟨_, _, rfl⟩, by decide, by decide⟩
theorem cw_L_62 : CV RL 62 e_X11_hours 1 11 := ⟨w_978, w_979, w_980, w_1, w_981, ⟨by decide +kernel, by decide +kernel, by decide +kernel⟩, ⟨_, _, rfl⟩, by decide, by decide⟩
theorem cw_L_65 : CV RL 65 e_X12_hours 1 12 := ⟨w_1866, w_1867, w_1868, w_13, w_1869, ⟨by decide +kernel, by decide +kernel, by decide +kernel⟩, ⟨_, _, rfl⟩, by decide, by decide⟩
theorem cw_L_66 : CV RL 66 e_X11_meets 1 11 := ⟨w_982, w_983, w_984, w_1, w_985, ⟨by decide +kernel, by decide +kernel, by decide +kernel⟩, ⟨_, _, rfl⟩, by decide, by decide⟩
theorem cw_L_69 : CV RL 69 e_X12_meets 1 12 := ⟨w_1870, w_1871, w_1872, w_13, w_1873, ⟨by decide +kernel, by decide +kernel, by decide +kernel⟩, ⟨_, _, rfl⟩, by decide, by decide⟩
theorem cw_L_70 : CV RL 70 e_X11_cut 3 11 := ⟨w_991, w_992, w_993, w_1, w_994, ⟨by decide +kernel, by decide +kernel, by decide +kernel⟩, ⟨_, _, rfl⟩, by decide, by decide⟩
theorem cw_L_74 : CV RL 74 e_X12_cut 3 12 := ⟨w_1874, w_1875, w_1876, w_13, w_1877, ⟨by decide +kernel, by decide +kernel, by decide +kernel⟩, ⟨_, _, rfl⟩, by decide, by decide⟩
theorem cw_L_75 : CV RL 75 e_X11_worst 2 11 := ⟨w_1006, w_1007, w_1008, w_1, w_1009, ⟨by decide +kernel, by decide +kernel, by decide +kernel⟩, ⟨_, _, rfl⟩, by decide, by decide⟩
theorem cw_L_79 : CV RL 79 e_X12_worst 2 12 := ⟨w_1889, w_1890, w_1891, w_13, w_1892, ⟨by decide +kernel, by decide +kernel, by decide +kernel⟩, ⟨_, _, rfl⟩, by decide, by decide⟩
theorem cw_L_80 : CV RL 80 e_X11_law 1 11 := ⟨w_1010, w_1011, w_1012, w_1, w_1013, ⟨by decide +kernel, by decide +kernel, by decide +kernel⟩, ⟨_, _, rfl⟩, by decide, by decide⟩
theorem cw_L_83 : CV RL 83 e_X12_law 1 12 := ⟨w_1893, w_1894, w_1895, w_13, w_1896, ⟨by decide +kernel, by decide +kernel, by decide +kernel⟩, ⟨_, _, rfl⟩, by decide, by decide⟩
theorem cw_L_84 : CV RL 84 e_X11_wood 1 11 := ⟨w_1041, w_1042, w_1043, w_1, w_1044, ⟨by decide +kernel, by decide +kernel, by decide +kernel⟩, ⟨_, _, rfl⟩, by decide, by decide⟩
theorem cw_L_87 : CV RL 87 e_X12_wood 1 12 := ⟨w_1929, w_1930, w_1931, w_13, w_1932, ⟨by decide +kernel, by decide +kernel, by decide +kernel⟩, ⟨_, _, rfl⟩, by decide, by decide⟩
theorem cw_L_88 : CV RL 88 e_X11_jack 2 11 := ⟨w_1049, w_1050, w_1051, w_1, w_1052, ⟨by decide +kernel, by decide +kernel, by decide +kernel⟩, ⟨_, _, rfl⟩, by decide, by decide⟩
theorem cw_L_91 : CV RL 91 e_X12_jack 2 12 := ⟨w_1933, w_1934, w_1935, w_13, w_1936, ⟨by decide +kernel, by decide +kernel, by decide +kernel⟩, ⟨_, _, rfl⟩, by decide, by decide⟩
theorem cw_L_92 : CV RL 92 e_X11_work 3 11 := ⟨w_1067, w_1068, w_1069, w_1, w_1070, ⟨by decide +kernel, by decide +kernel, by decide +kernel⟩, ⟨_, _, rfl⟩, by decide, by decide⟩
theorem cw_L_96 : CV RL 96 e_X12_work 3 12 := ⟨w_1945, w_1946, w_1947, w_13, w_1948, ⟨by decide +kernel, by decide +kernel, by decide +kernel⟩, ⟨_, _, rfl⟩, by decide, by decide⟩
theorem cw_L_97 : CV RL 97 e_X11_forget 0 11 := ⟨w_1075, w_1076, w_1077, w_1, w_1078, ⟨by decide +kernel, by decide +kernel, by decide +kernel⟩, ⟨_, _, rfl⟩, by decide, by decide⟩
theorem cw_L_100 : CV RL 100 e_X12_forget 0 12 := ⟨w_1949, w_1950, w_1951, w_13, w_1952, ⟨by decide +kernel, by decide +kernel, by decide +kernel⟩, ⟨_, _, rfl⟩, by decide, by decide⟩
theorem cw_L_101 : CV RL 101 e_X11_judge 0 11 := ⟨w_1079, w_1080, w_1081, w_1, w_1082, ⟨by decide +kernel, by decide +kernel, by decide +kernel⟩, ⟨_, _, rfl⟩, by decide, by decide⟩
theorem cw_L_104 : CV RL 104 e_X12_judge 0 12 := ⟨w_1953, w_1954, w_1955, w_13, w_1956, ⟨by decide +kernel, by decide +kernel, by decide +kernel⟩, ⟨_, _, rfl⟩, by decide, by decide⟩
theorem cw_L_105 : CV RL 105 e_X11_done 0 11 := ⟨w_1115, w_1116, w_1117, w_1, w_1118, ⟨by decide +kernel, by decide +kernel, by decide +kernel⟩, ⟨_, _, rfl⟩, by decide, by decide⟩
theorem cw_L_108 : CV RL 108 e_X12_done 0 12 := ⟨w_1973, w_1974, w_1975, w_13, w_1976, ⟨by decide +kernel, by decide +kernel, by decide +kernel⟩, ⟨_, _, rfl⟩, by decide, by decide⟩
theorem cw_L_109 : CV RL 109 e_X11_undo 0 11 := ⟨w_1123, w_1124, w_1125, w_1, w_1126, ⟨by decide +kernel, by decide +kernel, by decide +kernel⟩, ⟨_, _, rfl⟩, by decide, by decide⟩
theorem cw_L_113 : CV RL 113 e_X12_undo 0 12 := ⟨w_1977, w_1978, w_1979, w_13, w_1980, ⟨by decide +kernel, by decide +kernel, by decide +kernel⟩, ⟨_, _, rfl⟩, by decide, by decide⟩
theorem cw_L_114 : CV RL 114 e_X11_nights 1 11 := ⟨w_1131, w_1132, w_1133, w_1, w_1134, ⟨by decide +kernel, by decide +kernel, by decide +kernel⟩, ⟨_, _, rfl⟩, by decide, by decide⟩
theorem cw_L_117 : CV RL 117 e_X12_nights 1 12 := ⟨w_1981, w_1982, w_1983, w_13, w_1984, ⟨by decide +kernel, by decide +kernel, by decide +kernel⟩, ⟨_, _, rfl⟩, by decide, by decide⟩
theorem cw_L_118 : CV RL 118 e_X11_looks 2 11 := ⟨w_1165, w_1166, w_1167, w_1, w_1168, ⟨by decide +kernel, by decide +kernel, by decide +kernel⟩, ⟨_, _, rfl⟩, by decide, by decide⟩
theorem cw_L_121 : CV RL 121 e_X12_looks 2 12 := ⟨w_1997, w_1998, w_1999, w_13, w_2000, ⟨by decide +kernel, by decide +kernel, by decide +kernel⟩, ⟨_, _, rfl⟩, by decide, by decide⟩
theorem cw_L_122 : CV RL 122 e_X11_light 1 11 := ⟨w_1173, w_1174, w_1175, w_1, w_1176, ⟨by decide +kernel, by decide +kernel, by decide +kernel⟩, ⟨_, _, rfl⟩, by decide, by decide⟩
theorem cw_L_125 : CV RL 125 e_X12_light 1 12 := ⟨w_2009, w_2010, w_2011, w_13, w_2012, ⟨by decide +kernel, by decide +kernel, by decide +kernel⟩, ⟨_, _, rfl⟩, by decide, by decide⟩
theorem cw_L_126 : CV RL 126 e_X11_sway 2 11 := ⟨w_1181, w_1182, w_1183, w_1, w_1184, ⟨by decide +kernel, by decide +kernel, by decide +kernel⟩, ⟨_, _, rfl⟩, by decide, by decide⟩
theorem cw_L_129 : CV RL 129 e_X12_sway 2 12 := ⟨w_2013, w_2014, w_2015, w_13, w_2016, ⟨by decide +kernel, by decide +kernel, by decide +kernel⟩, ⟨_, _, rfl⟩, by decide, by decide⟩
theorem cw_L_130 : CV RL 130 e_X11_chain 3 11 := ⟨w_1189, w_1190, w_1191, w_1, w_1192, ⟨by decide +kernel, by decide +kernel, by decide +kernel⟩, ⟨_, _, rfl⟩, by decide, by decide⟩
theorem cw_L_133 : CV RL 133 e_X12_chain 3 12 := ⟨w_2020, w_2021, w_2022, w_13, w_2023, ⟨by decide +kernel, by decide +kernel, by decide +kernel⟩, ⟨_, _, rfl⟩, by decide, by decide⟩
theorem cw_L_134 : CV RL 134 e_X11_dread 1 11 := ⟨w_1219, w_1220, w_1221, w_1, w_1222, ⟨by decide +kernel, by decide +kernel, by decide +kernel⟩, ⟨_, _, rfl⟩, by decide, by decide⟩
theorem cw_L_137 : CV RL 137 e_X12_dread 1 12 := ⟨w_2036, w_2037, w_2038, w_13, w_2039, ⟨by decide +kernel, by decide +kernel, by decide +kernel⟩, ⟨_, _, rfl⟩, by decide, by decide⟩
theorem cw_L_138 : CV RL 138 e_X11_year 1 11 := ⟨w_1223, w_1224, w_1225, w_1, w_1226, ⟨by decide +kernel, by decide +kernel, by decide +kernel⟩, ⟨_, _, rfl⟩, by decide, by decide⟩
theorem cw_L_141 : CV RL 141 e_X12_year 1 12 := ⟨w_2040, w_2041, w_2042, w_13, w_2043, ⟨by decide +kernel, by decide +kernel, by decide +kernel⟩, ⟨_, _, rfl⟩, by decide, by decide⟩
theorem cw_L_142 : CV RL 142 e_X11_clear 0 11 := ⟨w_1231, w_1232, w_1233, w_1, w_1234, ⟨by decide +kernel, by decide +kernel, by decide +kernel⟩, ⟨_, _, rfl⟩, by decide, by decide⟩
theorem cw_L_145 : CV RL 145 e_X12_clear 0 12 := ⟨w_2044, w_2045, w_2046, w_13, w_2047, ⟨by decide +kernel, by decide +kernel, by decide +kernel⟩, ⟨_, _, rfl⟩, by decide, by decide⟩
theorem cw_L_146 : CV RL 146 e_X11_posts 5 11 := ⟨w_1235, w_1236, w_1237, w_1, w_1238, ⟨by decide +kernel, by decide +kernel, by decide +kernel⟩, ⟨_, _, rfl⟩, by decide, by decide⟩
theorem cw_L_149 : CV RL 149 e_X12_posts 5 12 := ⟨w_2048, w_2049, w_2050, w_13, w_2051, ⟨by decide +kernel, by decide +kernel, by decide +kernel⟩, ⟨_, _, rfl⟩, by decide, by decide⟩
theorem cw_L_150 : CV RL 150 e_X11_postAt 6 11 := ⟨w_1273, w_1274, w_1275, w_1, w_1276, ⟨by decide +kernel, by decide +kernel, by decide +kernel⟩, ⟨_, _, rfl⟩, by decide, by decide⟩
theorem cw_L_154 : CV RL 154 e_X12_postAt 6 12 := ⟨w_2066, w_2067, w_2068, w_13, w_2069, ⟨by decide +kernel, by decide +kernel, by decide +kernel⟩, ⟨_, _, rfl⟩, by decide, by decide⟩
theorem cw_L_155 : CV RL 155 e_X11_vote 3 11 := ⟨w_1289, w_1290, w_1291, w_1, w_1292, ⟨by decide +kernel, by decide +kernel, by decide +kernel⟩, ⟨_, _, rfl⟩, by decide, by decide⟩
theorem cw_L_158 : CV RL 158 e_X12_vote 3 12 := ⟨w_2070, w_2071, w_2072, w_13, w_2073, ⟨by decide +kernel, by decide +kernel, by decide +kernel⟩, ⟨_, _, rfl⟩, by decide, by decide⟩
theorem cw_L_159 : CV RL 159 e_X11_mark 3 11 := ⟨w_1297, w_1298, w_1299, w_1, w_1300, ⟨by decide +kernel, by decide +kernel, by decide +kernel⟩, ⟨_, _, rfl⟩, by decide, by decide⟩
theorem cw_L_162 : CV RL 162 e_X12_mark 3 12 := ⟨w_2078, w_2079, w_2080, w_13, w_2081, ⟨by decide +kernel, by decide +kernel, by decide +kernel⟩, ⟨_, _, rfl⟩, by decide, by decide⟩
theorem cw_L_163 : CV RL 163 e_X11_annul 1 11 := ⟨w_1301, w_1302, w_1303, w_1, w_1304, ⟨by decide +kernel, by decide +kernel, by decide +kernel⟩, ⟨_, _, rfl⟩, by decide, by decide⟩
theorem cw_L_166 : CV RL 166 e_X12_annul 1 12 := ⟨w_2082, w_2083, w_2084, w_13, w_2085, ⟨by decide +kernel, by decide +kernel, by decide +kernel⟩, ⟨_, _, rfl⟩, by decide, by decide⟩
theorem cw_L_167 : CV RL 167 e_X11_votes 3 11 := ⟨w_1309, w_1310, w_1311, w_1, w_1312, ⟨by decide +kernel, by decide +kernel, by decide +kernel⟩, ⟨_, _, rfl⟩, by decide, by decide⟩
theorem cw_L_170 : CV RL 170 e_X12_votes 3 12 := ⟨w_2086, w_2087, w_2088, w_13, w_2089, ⟨by decide +kernel, by decide +kernel, by decide +kernel⟩, ⟨_, _, rfl⟩, by decide, by decide⟩
theorem cw_L_171 : CV RL 171 e_X11_winner 2 11 := ⟨w_1329, w_1330, w_1331, w_1, w_1332, ⟨by decide +kernel, by decide +kernel, by decide +kernel⟩, ⟨_, _, rfl⟩, by decide, by decide⟩
theorem cw_L_174 : CV RL 174 e_X12_winner 2 12 := ⟨w_2106, w_2107, w_2108, w_13, w_2109, ⟨by decide +kernel, by decide +kernel, by decide +kernel⟩, ⟨_, _, rfl⟩, by decide, by decide⟩
theorem cw_L_175 : CV RL 175 e_X11_ends 4 11 := ⟨w_1337, w_1338, w_1339, w_1, w_1340, ⟨by decide +kernel, by decide +kernel, by decide +kernel⟩, ⟨_, _, rfl⟩, by decide, by decide⟩
theorem cw_L_179 : CV RL 179 e_X12_ends 4 12 := ⟨w_2110, w_2111, w_2112, w_13, w_2113, ⟨by decide +kernel, by decide +kernel, by decide +kernel⟩, ⟨_, _, rfl⟩, by decide, by decide⟩
theorem cw_L_180 : CV RL 180 e_X11_years 2 11 := ⟨w_1356, w_1357, w_1358, w_1, w_1359, ⟨by decide +kernel, by decide +kernel, by decide +kernel⟩, ⟨_, _, rfl⟩, by decide, by decide⟩
theorem cw_L_183 : CV RL 183 e_X12_years 2 12 := ⟨w_2117, w_2118, w_2119, w_13, w_2120, ⟨by decide +kernel, by decide +kernel, by decide +kernel⟩, ⟨_, _, rfl⟩, by decide, by decide⟩
theorem cw_L_184 : CV RL 184 e_X11_hold 1 11 := ⟨w_1376, w_1377, w_1378, w_1, w_1379, ⟨by decide +kernel, by decide +kernel, by decide +kernel⟩, ⟨_, _, rfl⟩, by decide, by decide⟩
theorem cw_L_188 : CV RL 188 e_X12_hold 1 12 := ⟨w_2132, w_2133, w_2134, w_13, w_2135, ⟨by decide +kernel, by decide +kernel, by decide +kernel⟩, ⟨_, _, rfl⟩, by decide, by decide⟩
theorem cw_L_189 : CV RL 189 e_X11_restore 1 11 := ⟨w_1390, w_1391, w_1392, w_1, w_1393, ⟨by decide +kernel, by decide +kernel, by decide +kernel⟩, ⟨_, _, rfl⟩, by decide, by decide⟩
theorem cw_L_192 : CV RL 192 e_X12_restore 1 12 := ⟨w_2140, w_2141, w_2142, w_13, w_2143, ⟨by decide +kernel, by decide +kernel, by decide +kernel⟩, ⟨_, _, rfl⟩, by decide, by decide⟩
theorem cw_L_193 : CV RL 193 e_X11_count 1 11 := ⟨w_1394, w_1395, w_1396, w_1, w_1397, ⟨by decide +kernel, by decide +kernel, by decide +kernel⟩, ⟨_, _, rfl⟩, by decide, by decide⟩
theorem cw_L_196 : CV RL 196 e_X12_count 1 12 := ⟨w_2144, w_2145, w_2146, w_13, w_2147, ⟨by decide +kernel, by decide +kernel, by decide +kernel⟩, ⟨_, _, rfl⟩, by decide, by decide⟩
theorem ct_J6_265 : Cond.constant RJ6 265 1431655765 ∈ bigW := w_1003
theorem ct_J6_266 : Cond.constant RJ6 266 858993459 ∈ bigW := w_1004
theorem ct_J6_267 : Cond.constant RJ6 267 252645135 ∈ bigW := w_1005
